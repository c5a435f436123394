/-- all that holds of a state of heights -/
def okS (T : NT) (s : HS) : Prop := okH T s.1 s.2.1 s.2.2.1 ∧ s.2.2.1 (ts T) = -exG (tn T) (tf T) (tt T) s.1 (ts T) ∧ (∀ u, u < 12 → u ≠ ts T → 0 ≤ s.2.2.2.1 u ∧ s.2.2.2.1 u ≤ s.2.1 u) ∧ okW T s.2.2.2.2.2 ∧ 0 ≤ s.2.2.2.2.1 ∧ s.2.2.2.2.1 + PP T s.1 s.2.1 s.2.2.1 ≤ 300000
section HServe
variable {T : NT} {s : HS} {v : Nat} {σ : PS} {sv : Nat → Int} {Φ : Int → PS → Prop}
theorem okS.hop (hT : okT T) (h : okS T s) (hv : v < 12) (hvs : v ≠ ts T) (hvz : v ≠ tz T) (he : 0 < s.2.2.1 v) : okS T (hop T v s) ∧ PP T (hop T v s).1 (hop T v s).2.1 (hop T v s).2.2.1 < PP T s.1 s.2.1 s.2.2.1 := by
  obtain ⟨h1, h2, h3, h4, h5, h6⟩ := h
  have hk := hop_ok hT h1 hv hvs hvz he
  refine ⟨?_, hk.2⟩
  by_cases q : canDn T s.1 s.2.1 v
  · obtain ⟨hc, p1, p2, p3⟩ := canDn_nx hT q
    have h12 := stOK_end hT.2.1 (cOK_st hc)
    have g2 := (gof_c hc hT.1).2
    have hne : vfr T (nxT T s.1 s.2.1 v) ≠ enT T (nxT T s.1 s.2.1 v) := by
      have := hT.2.1 _ g2
      rcases gof_ends (cOK_st hc) with ⟨p, q⟩ | ⟨p, q⟩ <;> omega
    rw [hop_y q] at hk ⊢
    refine ⟨hk.1, ?_, h3, h4.put h12.2, by show 0 ≤ s.2.2.2.2.1 + 1; omega, ?_⟩
    · show psE T s.2.2.1 _ _ (ts T) = _
      rw [psX_ex hT hc]
      unfold psE
      rw [p1] at hne ⊢
      by_cases z : ts T = enT T (nxT T s.1 s.2.1 v)
      · rw [if_pos z, if_pos z, if_neg (fun y => hvs y.symm)]; omega
      · rw [if_neg z, if_neg z, if_neg (fun y => hvs y.symm), if_neg (fun y => hvs y.symm)]; omega
    · have := hk.2
      show s.2.2.2.2.1 + 1 + PP T _ _ _ ≤ 300000
      have h7 : PP T (psX s.1 (nxT T s.1 s.2.1 v) (min (s.2.2.1 v) (rmc (tl T) s.1 (nxT T s.1 s.2.1 v)))) s.2.1 (psE T s.2.2.1 (nxT T s.1 s.2.1 v) (min (s.2.2.1 v) (rmc (tl T) s.1 (nxT T s.1 s.2.1 v)))) < PP T s.1 s.2.1 s.2.2.1 := hk.2
      show s.2.2.2.2.1 + 1 + PP T (psX s.1 (nxT T s.1 s.2.1 v) (min (s.2.2.1 v) (rmc (tl T) s.1 (nxT T s.1 s.2.1 v)))) s.2.1 (psE T s.2.2.1 (nxT T s.1 s.2.1 v) (min (s.2.2.1 v) (rmc (tl T) s.1 (nxT T s.1 s.2.1 v)))) ≤ 300000
      omega
  · have hex : ∃ w, stT T s.1 v w := out_step hT.2.1 h1.1 (by have := h1.2.1 v hv hvs; omega)
    obtain ⟨lv, hl⟩ := low_ex (hh := s.2.1) hT hex
    have hlow := canDn_low hT h1 hv q hl
    rw [hop_n q, lowT_is hl] at hk ⊢
    refine ⟨hk.1, h2, fun u hu hus => ?_, h4, h5, ?_⟩
    · show 0 ≤ (if u = v then s.2.2.2.1 u + 1 else s.2.2.2.1 u) ∧ (if u = v then s.2.2.2.1 u + 1 else s.2.2.2.1 u) ≤ (if u = v then lv + 1 else s.2.1 u)
      have := h3 u hu hus
      by_cases z : u = v
      · rw [if_pos z, if_pos z]
        rw [z] at this ⊢
        omega
      · rw [if_neg z, if_neg z]; exact this
    · have h7 : PP T s.1 (fun u => if u = v then lv + 1 else s.2.1 u) s.2.2.1 < PP T s.1 s.2.1 s.2.2.1 := hk.2
      show s.2.2.2.2.1 + PP T s.1 (fun u => if u = v then lv + 1 else s.2.1 u) s.2.2.1 ≤ 300000
      omega
/-- the reference's state is s, and sv times were they served -/
abbrev HMs (T : NT) (s : HS) (sv : Nat → Int) (σ : PS) : Prop := HM T s.1 s.2.1 s.2.2.1 s.2.2.2.1 sv s.2.2.2.2.2 s.2.2.2.2.1 σ
abbrev HCs (T : NT) (s : HS) (sv : Nat → Int) (σ : PS) : Prop := HC T s.1 s.2.1 s.2.2.1 s.2.2.2.1 sv s.2.2.2.2.2 s.2.2.2.2.1 σ
theorem HO.rf {σ : PS} : HO σ σ := ⟨Off.rf, fun _ _ _ => rfl⟩
theorem m_hop (hT : okT T) (h : okS T s) (hv : v < 12) (hvs : v ≠ ts T) (he : 0 < s.2.2.1 v) (hH : HMs T s sv σ) {K : PS → Prop} (hK : ∀ σ' : PS, HO σ σ' → HMs T (hop T v s) sv σ' → K σ') :
    FX12_downStep v σ (fun z3 σ4 => ((0 ≤ z3 → (0 ≤ (v : Int) ∧ (v : Int) < 12) ∧ FX12_room z3 σ4 (fun z7 σ8 => FX12_pushes z3 (min (σ4 11 ((v : Nat) : Int).toNat) z7) σ8 (fun z9 σ10 => K σ10))) ∧ (¬ 0 ≤ z3 → FX12_lifts v σ4 (fun z11 σ12 => K σ12)))) := by
  obtain ⟨h1, h2, h3, h4, h5, h6⟩ := h
  obtain ⟨hM, hX, hV, hQ, hP⟩ := id hH
  have h6' := h1.2.2.2.2.2
  have ev : ((v : Nat) : Int).toNat = v := by omega
  have hr := PP_rng hT h1
  have e10 : ∀ w, w < 12 → σ 10 w = s.2.1 w := fun w hw => (hV w hw).1
  have cd : canDn T s.1 (fun v => σ 10 v) v ↔ canDn T s.1 s.2.1 v := by
    have g : ∀ (hh hh' : Nat → Int), (∀ w, w < 12 → hh w = hh' w) → canDn T s.1 hh v → canDn T s.1 hh' v := fun hh hh' e ⟨i, i1, i2, i3, i4⟩ => ⟨i, i1, i2, i3, by
      have := (stOK_end hT.2.1 (cOK_st (cAt_ok hT.1 i1))).2
      rw [← e _ this, ← e v hv]; exact i4⟩
    exact ⟨g _ _ e10, g _ _ (fun w hw => (e10 w hw).symm)⟩
  refine m_downStep hT h1.1 hM hX hv (fun w hw => by rw [e10 w hw]; have := h6' w hw; omega) (fun q => ?_) (fun q => ?_)
  · have q2 := cd.mp q
    have en : nxT T s.1 (fun v => σ 10 v) v = nxT T s.1 s.2.1 v := nxT_congr hT.2.1 hv (fun _ _ => rfl) (fun w hw => e10 w hw)
    obtain ⟨hc, p1, p2, p3⟩ := canDn_nx hT q2
    rw [en]
    refine ⟨fun _ => ⟨⟨by omega, by omega⟩, s_room rfl hM hX hT h1.1 hc ?_⟩, fun c => by omega⟩
    rw [ev, (hV v hv).2.1]
    have hrm := rmc_le hT h1.1 (cOK_st hc)
    refine m_pushes hT hH hc (by omega) (fun e he2 => by have := h1.1 e he2; have := hT.2.2.1 e he2; omega) (fun u hu => ?_) (by omega) (h4.len hT) (fun σ' o hH' => hK σ' o ?_)
    · have := ex_bd hT h1.1 u
      by_cases z : u = ts T
      · rw [z] at this ⊢; omega
      · have := (h1.2.1 u hu z).1
        omega
    · rw [hop_y q2]; exact hH'
  · have q2 : ¬ canDn T s.1 s.2.1 v := fun z => q (cd.mpr z)
    have hex : ∃ w, stT T s.1 v w := out_step hT.2.1 h1.1 (by have := h1.2.1 v hv hvs; omega)
    refine ⟨fun c => by omega, fun _ => m_lifts hT h1.1 hM hX hv (fun w hw => by rw [e10 w hw]; have := h6' w hw; omega) (by rw [(hV v hv).2.2.1]; have := h3 v hv hvs; have := h6' v hv; omega) hex (fun lv hl => ?_)⟩
    have hl2 : isLow T s.1 s.2.1 v lv := by
      obtain ⟨⟨w, w1, w2, w3⟩, l2⟩ := hl
      exact ⟨⟨w, w1, w2, by rw [← e10 w w1]; exact w3⟩, fun u hu hs => by rw [← e10 u hu]; exact l2 u hu hs⟩
    have oo : Off [10, 12] σ (up2 (up2 σ 10 v (lv + 1)) 12 v (σ 12 v + 1)) := (Off.rf.up (by simp)).up (by simp)
    refine hK _ ⟨oo.mono (by simp), fun i _ _ => by rw [oo 0 (by simp)]⟩ ?_
    rw [hop_n q2, lowT_is hl2]
    refine ⟨hM.off oo (by simp) (by simp), hX.off oo (by simp), fun u hu => ⟨?_, ?_, ?_, ?_⟩, ?_, ?_⟩
    · show _ = if u = v then lv + 1 else s.2.1 u
      rw [up2_nk (by omega), up2_if, e10 u hu]
    · rw [oo 11 (by simp)]; exact (hV u hu).2.1
    · show _ = if u = v then s.2.2.2.1 u + 1 else s.2.2.2.1 u
      rw [up2_if]
      by_cases z : u = v
      · rw [if_pos z, if_pos z, z, (hV v hv).2.2.1]
      · rw [if_neg z, if_neg z, up2_nk (by omega)]; exact (hV u hu).2.2.1
    · rw [oo 13 (by simp)]; exact (hV u hu).2.2.2
    · rw [oo 0 (by simp), oo 14 (by simp)]; exact hQ
    · rw [oo 0 (by simp)]; exact hP
end HServe
