/-! heights: a serve, class and reference against srv -/
def tlW (s : HS) : HS := (s.1, s.2.1, s.2.2.1, s.2.2.2.1, s.2.2.2.2.1, s.2.2.2.2.2.tail)
section HServe2
variable {T : NT} {s : HS} {v : Nat} {σ : PS} {sv : Nat → Int} {Φ : Int → PS → Prop}
theorem psW_len {W : List Nat} {w : Nat} : (psW T W w = W ∨ psW T W w = W ++ [w]) := by
  unfold psW
  by_cases q : w = ts T ∨ w = tz T ∨ w ∈ W
  · exact Or.inl (if_pos q)
  · exact Or.inr (if_neg q)
theorem hop_W : ∃ L, (hop T v s).2.2.2.2.2 = s.2.2.2.2.2 ++ L ∧ L.length ≤ 1 := by
  by_cases q : canDn T s.1 s.2.1 v
  · rw [hop_y q]
    rcases @psW_len T s.2.2.2.2.2 (enT T (nxT T s.1 s.2.1 v)) with h | h
    · exact ⟨[], by show psW T _ _ = _; rw [h, List.append_nil], Nat.zero_le _⟩
    · exact ⟨[enT T (nxT T s.1 s.2.1 v)], h, Nat.le_refl _⟩
  · rw [hop_n q]
    exact ⟨[], by show s.2.2.2.2.2 = _; rw [List.append_nil], Nat.zero_le _⟩
theorem srv_ok (hT : okT T) (hv : v < 12) (hvs : v ≠ ts T) (hvz : v ≠ tz T) : ∀ (n : Nat) (s : HS), okS T s → okS T (srv T v n s) ∧ PP T (srv T v n s).1 (srv T v n s).2.1 (srv T v n s).2.2.1 + ((srv T v n s).2.2.2.2.2.length : Int) ≤ PP T s.1 s.2.1 s.2.2.1 + (s.2.2.2.2.2.length : Int) ∧ ∃ L, (srv T v n s).2.2.2.2.2 = s.2.2.2.2.2 ++ L := by
  intro n
  induction n with
  | zero => intro s h; exact ⟨h, Int.le_refl _, [], by show s.2.2.2.2.2 = _; rw [List.append_nil]⟩
  | succ n ih =>
    intro s h
    unfold srv
    by_cases q : s.2.2.1 v ≤ 0
    · rw [if_pos q]; exact ⟨h, Int.le_refl _, [], by rw [List.append_nil]⟩
    · rw [if_neg q]
      obtain ⟨h1, h2⟩ := h.hop hT hv hvs hvz (by omega)
      obtain ⟨L, l1, l2⟩ := @hop_W T s v
      obtain ⟨i1, i2, L2, i3⟩ := ih _ h1
      refine ⟨i1, ?_, L ++ L2, by rw [i3, l1, List.append_assoc]⟩
      have : ((hop T v s).2.2.2.2.2.length : Int) ≤ s.2.2.2.2.2.length + 1 := by rw [l1, List.length_append]; omega
      omega
theorem m_serve (hT : okT T) (hv : v < 12) (hvs : v ≠ ts T) (hvz : v ≠ tz T) {σ0 : PS} : ∀ (n : Nat) (s : HS) (σ : PS), okS T s → PP T s.1 s.2.1 s.2.2.1 ≤ n → HO σ0 σ → HMs T s sv σ → (∀ σ' : PS, HO σ0 σ' → HMs T (srv T v n s) sv σ' → Φ 0 σ') → LX12_serves_10 (n + 1) v σ Φ := by
  intro n
  induction n with
  | zero =>
    intro s σ h hp ho hH hΦ
    unfold LX12_serves_10 BX12_serves_10
    have ev : ((v : Nat) : Int).toNat = v := by omega
    rw [ev, (hH.2.2.1 v hv).2.1]
    refine ⟨⟨by omega, by omega⟩, fun _ => hΦ σ ho hH, fun c => ?_⟩
    have h1 := h.hop hT hv hvs hvz (by omega)
    have := PP_rng hT h1.1.1
    omega
  | succ n ih =>
    intro s σ h hp ho hH hΦ
    unfold LX12_serves_10 BX12_serves_10
    have ev : ((v : Nat) : Int).toNat = v := by omega
    have e11 : σ 11 ((v : Nat) : Int).toNat = s.2.2.1 v := by rw [ev, (hH.2.2.1 v hv).2.1]
    rw [e11]
    refine ⟨⟨by omega, by omega⟩, fun c => ?_, fun c => ?_⟩
    · have e : srv T v (n + 1) s = s := by
        conv => lhs; unfold srv
        rw [if_pos c]
      rw [e] at hΦ
      exact hΦ σ ho hH
    · have e : srv T v (n + 1) s = srv T v n (hop T v s) := by
        conv => lhs; unfold srv
        rw [if_neg c]
      rw [e] at hΦ
      have h1 := h.hop hT hv hvs hvz (by omega)
      refine m_hop hT h hv hvs (by omega) hH (fun σ' o' hH' => ?_)
      unfold LX12_serves_56
      exact ih _ σ' h1.1 (by omega) (ho.trans o') hH' hΦ
theorem m_serves {n : Nat} (hT : okT T) (h : okS T s) (hv : v < 12) (hvs : v ≠ ts T) (hvz : v ≠ tz T) (hp : PP T s.1 s.2.1 s.2.2.1 ≤ n) (hH : HMs T s sv σ) (hs : 0 ≤ sv v ∧ sv v ≤ 1000000) (hΦ : ∀ σ' : PS, HO σ σ' → HMs T (srv T v n s) (fun u => if u = v then sv u + 1 else sv u) σ' → Φ 0 σ') : FX12_serves v σ Φ := by
  unfold FX12_serves
  have ev : ((v : Nat) : Int).toNat = v := by omega
  rw [ev, (hH.2.2.1 v hv).2.2.2]
  refine ⟨⟨by omega, by omega⟩, ⟨by omega, by omega⟩, ⟨by omega, by omega⟩, fun σ4 g4 => ⟨n + 1, ?_⟩⟩
  have o4 : Off [13] σ σ4 := by rw [g4]; exact Off.rf.up (by simp)
  obtain ⟨hM, hX, hV, hQ, hP⟩ := hH
  refine m_serve hT hv hvs hvz n s σ4 h hp ⟨o4.mono (by simp), fun i _ _ => by rw [o4 0 (by simp)]⟩ ⟨hM.off o4 (by simp) (by simp), hX.off o4 (by simp), fun u hu => ?_, by rw [o4 0 (by simp), o4 14 (by simp)]; exact hQ, by rw [o4 0 (by simp)]; exact hP⟩ hΦ
  obtain ⟨a, b, c, d⟩ := hV u hu
  refine ⟨by rw [o4 10 (by simp)]; exact a, by rw [o4 11 (by simp)]; exact b, by rw [o4 12 (by simp)]; exact c, ?_⟩
  rw [g4, up2_if]
  by_cases q : u = v
  · rw [if_pos q, if_pos q, q]
  · rw [if_neg q, if_neg q]; exact d
theorem ch_roomOf {x : Nat → Int} {c : Nat} (hT : okT T) (hX : HX T x σ) (hL : CL 36 T σ) (hx : okX (tn T) (tl T) x) (hc : cOK T c) (h : Φ (rmc (tl T) x c) σ) : FX0_roomOf c σ Φ := by
  have hn := hT.1
  unfold FX0_roomOf
  unfold rmc at h
  rcases hc with ⟨a, b⟩ | ⟨a, b⟩
  · have h1 := hx _ b
    have h2 := hT.2.2.1 _ b
    rw [show ((c : Nat) : Int).toNat = c by omega, hX _ b, hL _ b]
    rw [if_pos a] at h
    exact ⟨fun c => by omega, fun c => ⟨⟨by omega, by omega⟩, ⟨by omega, by omega⟩, ⟨by omega, by omega⟩, h⟩⟩
  · rw [if_neg (by omega)] at h
    rw [show ((c : Int) - 100).toNat = c - 100 by omega, hX _ b]
    exact ⟨fun c => ⟨⟨by omega, by omega⟩, ⟨by omega, by omega⟩, h⟩, fun c => by omega⟩
def HCo (σ σ' : PS) : Prop := Off [4, 32, 33, 34, 35, 37, 38, 39] σ σ'
theorem HX.off {x : Nat → Int} {σ' : PS} {ks : List Nat} (h : HX T x σ) (ho : Off ks σ σ') (h1 : 32 ∉ ks) : HX T x σ' := by
  unfold HX
  rw [ho 32 h1]
  exact h
theorem c_hop (hT : okT T) (h : okS T s) (hv : v < 12) (hvs : v ≠ ts T) (he : 0 < s.2.2.1 v) (hH : HCs T s sv σ) (hL : CL 36 T σ) {K K0 : PS → Prop} (hK : ∀ σ' : PS, HCo σ σ' → HCs T (hop T v s) sv σ' → K σ') :
    FX0_downStep v σ (fun z4 σ5 => ((z4 < 0 → FX0_lift v σ5 (fun z7 σ8 => ((¬ z7 = 0 → K σ8) ∧ (z7 = 0 → K0 σ8)))) ∧ (¬ z4 < 0 → (0 ≤ (v : Int) ∧ (v : Int) < 12) ∧ FX0_roomOf z4 σ5 (fun z11 σ12 => FX0_push z4 (min (σ5 37 ((v : Nat) : Int).toNat) z11) σ12 (fun z13 σ14 => K σ14))))) := by
  obtain ⟨h1, h2, h3, h4, h5, h6⟩ := h
  obtain ⟨hM, hX, hV, hQ, hD, hP⟩ := id hH
  have h6' := h1.2.2.2.2.2
  have ev : ((v : Nat) : Int).toNat = v := by omega
  have hr := PP_rng hT h1
  have e10 : ∀ w, w < 12 → σ 33 w = s.2.1 w := fun w hw => (hV w hw).1
  have cd : canDn T s.1 (fun v => σ 33 v) v ↔ canDn T s.1 s.2.1 v := by
    have g : ∀ (hh hh' : Nat → Int), (∀ w, w < 12 → hh w = hh' w) → canDn T s.1 hh v → canDn T s.1 hh' v := fun hh hh' e ⟨i, i1, i2, i3, i4⟩ => ⟨i, i1, i2, i3, by
      have := (stOK_end hT.2.1 (cOK_st (cAt_ok hT.1 i1))).2
      rw [← e _ this, ← e v hv]; exact i4⟩
    exact ⟨g _ _ e10, g _ _ (fun w hw => (e10 w hw).symm)⟩
  refine c_downStep hT hM hX hL hv (fun w hw => by rw [e10 w hw]; have := h6' w hw; omega) (fun q => ?_) (fun q => ?_)
  · have q2 := cd.mp q
    have en : nxT T s.1 (fun v => σ 33 v) v = nxT T s.1 s.2.1 v := nxT_congr hT.2.1 hv (fun _ _ => rfl) (fun w hw => e10 w hw)
    obtain ⟨hc, p1, p2, p3⟩ := canDn_nx hT q2
    rw [en]
    refine ⟨fun c => by omega, fun _ => ⟨⟨by omega, by omega⟩, ch_roomOf hT hX hL h1.1 hc ?_⟩⟩
    rw [ev, (hV v hv).2.1]
    have hrm := rmc_le hT h1.1 (cOK_st hc)
    refine c_push hT hH hc (by omega) (fun e he2 => by have := h1.1 e he2; have := hT.2.2.1 e he2; omega) (fun u hu => ?_) (by omega) (h4.len hT) (fun σ' o hH' => hK σ' (o.mono (by simp)) ?_)
    · have := ex_bd hT h1.1 u
      by_cases z : u = ts T
      · rw [z] at this ⊢; omega
      · have := (h1.2.1 u hu z).1
        omega
    · rw [hop_y q2]; exact hH'
  · have q2 : ¬ canDn T s.1 s.2.1 v := fun z => q (cd.mpr z)
    have hex : ∃ w, stT T s.1 v w := out_step hT.2.1 h1.1 (by have := h1.2.1 v hv hvs; omega)
    refine ⟨fun _ => c_lift hT hM hX hL hv (fun w hw => by rw [e10 w hw]; have := h6' w hw; omega) (by rw [(hV v hv).2.2.1]; have := h3 v hv hvs; have := h6' v hv; omega) hex (fun lv hl => ⟨fun _ => ?_, fun c => by omega⟩), fun c => by omega⟩
    have hl2 : isLow T s.1 s.2.1 v lv := by
      obtain ⟨⟨w, w1, w2, w3⟩, l2⟩ := hl
      exact ⟨⟨w, w1, w2, by rw [← e10 w w1]; exact w3⟩, fun u hu hs => by rw [← e10 u hu]; exact l2 u hu hs⟩
    have oo : Off [33, 34] σ (up2 (up2 σ 33 v (lv + 1)) 34 v (σ 34 v + 1)) := (Off.rf.up (by simp)).up (by simp)
    refine hK _ (oo.mono (by simp)) ?_
    rw [hop_n q2, lowT_is hl2]
    refine ⟨hM.off oo (by simp) (by simp) (by simp), hX.off oo (by simp), fun u hu => ⟨?_, ?_, ?_, ?_⟩, ?_, ?_, ?_⟩
    · show _ = if u = v then lv + 1 else s.2.1 u
      rw [up2_nk (by omega), up2_if, e10 u hu]
    · rw [oo 37 (by simp)]; exact (hV u hu).2.1
    · show _ = if u = v then s.2.2.2.1 u + 1 else s.2.2.2.1 u
      rw [up2_if]
      by_cases z : u = v
      · rw [if_pos z, if_pos z, z, (hV v hv).2.2.1]
      · rw [if_neg z, if_neg z, up2_nk (by omega)]; exact (hV u hu).2.2.1
    · rw [oo 35 (by simp)]; exact (hV u hu).2.2.2
    · rw [oo 4 (by simp), oo 38 (by simp)]; exact hQ
    · rw [oo 39 (by simp)]; exact hD
    · rw [oo 4 (by simp)]; exact hP
theorem c_serve_l (hT : okT T) (hv : v < 12) (hvs : v ≠ ts T) (hvz : v ≠ tz T) {σ0 : PS} : ∀ (n : Nat) (s : HS) (σ : PS) (j : Nat), okS T s → PP T s.1 s.2.1 s.2.2.1 ≤ n → j + n ≤ 900000 → HCo σ0 σ → HCs T s sv σ → CL 36 T σ → (∀ σ' : PS, HCo σ0 σ' → HCs T (srv T v n s) sv σ' → Φ 0 σ') → LX0_serve_12 (n + 1) v j σ Φ := by
  intro n
  induction n with
  | zero =>
    intro s σ j h hp hj ho hH hL hΦ
    unfold LX0_serve_12 BX0_serve_12
    have ev : ((v : Nat) : Int).toNat = v := by omega
    rw [ev, (hH.2.2.1 v hv).2.1]
    refine ⟨fun c => by omega, fun _ => ⟨⟨by omega, by omega⟩, fun _ => hΦ σ ho hH, fun c => ?_⟩⟩
    have h1 := h.hop hT hv hvs hvz (by omega)
    have := PP_rng hT h1.1.1
    omega
  | succ n ih =>
    intro s σ j h hp hj ho hH hL hΦ
    unfold LX0_serve_12 BX0_serve_12
    have ev : ((v : Nat) : Int).toNat = v := by omega
    have e11 : σ 37 ((v : Nat) : Int).toNat = s.2.2.1 v := by rw [ev, (hH.2.2.1 v hv).2.1]
    rw [e11]
    refine ⟨fun c => by omega, fun _ => ⟨⟨by omega, by omega⟩, fun c => ?_, fun c => ?_⟩⟩
    · have e : srv T v (n + 1) s = s := by
        conv => lhs; unfold srv
        rw [if_pos c]
      rw [e] at hΦ
      exact hΦ σ ho hH
    · have e : srv T v (n + 1) s = srv T v n (hop T v s) := by
        conv => lhs; unfold srv
        rw [if_neg c]
      rw [e] at hΦ
      have h1 := h.hop hT hv hvs hvz (by omega)
      refine c_hop hT h hv hvs (by omega) hH hL (fun σ' o' hH' => ?_)
      unfold LX0_serve_77
      refine ⟨⟨by omega, by omega⟩, ?_⟩
      exact ih _ σ' (j + 1) h1.1 (by omega) (by omega) (ho.trans o') hH' (hL.off o' (by simp)) hΦ
theorem c_serve {n : Nat} (hT : okT T) (h : okS T s) (hv : v < 12) (hvs : v ≠ ts T) (hvz : v ≠ tz T) (hp : PP T s.1 s.2.1 s.2.2.1 ≤ n) (hn9 : n ≤ 900000) (hH : HCs T s sv σ) (hL : CL 36 T σ) (hs : 0 ≤ sv v ∧ sv v ≤ 1000000) (hΦ : ∀ σ' : PS, HCo σ σ' → HCs T (srv T v n s) (fun u => if u = v then sv u + 1 else sv u) σ' → Φ 0 σ') : FX0_serve v σ Φ := by
  unfold FX0_serve
  have ev : ((v : Nat) : Int).toNat = v := by omega
  rw [ev, (hH.2.2.1 v hv).2.2.2]
  refine ⟨⟨by omega, by omega⟩, ⟨by omega, by omega⟩, ⟨by omega, by omega⟩, fun σ4 g4 => ⟨n + 1, ?_⟩⟩
  have o4 : Off [35] σ σ4 := by rw [g4]; exact Off.rf.up (by simp)
  obtain ⟨hM, hX, hV, hQ, hD, hP⟩ := hH
  refine c_serve_l hT hv hvs hvz n s σ4 0 h hp (by omega) (o4.mono (by simp)) ⟨hM.off o4 (by simp) (by simp) (by simp), hX.off o4 (by simp), fun u hu => ?_, by rw [o4 4 (by simp), o4 38 (by simp)]; exact hQ, by rw [o4 39 (by simp)]; exact hD, by rw [o4 4 (by simp)]; exact hP⟩ (hL.off o4 (by simp)) hΦ
  obtain ⟨a, b, c, d⟩ := hV u hu
  refine ⟨by rw [o4 33 (by simp)]; exact a, by rw [o4 37 (by simp)]; exact b, by rw [o4 34 (by simp)]; exact c, ?_⟩
  rw [g4, up2_if]
  by_cases q : u = v
  · rw [if_pos q, if_pos q, q]
  · rw [if_neg q, if_neg q]; exact d
end HServe2
