/-! heights: a step down, a lift -/
def isLow (T : NT) (x : Nat → Int) (hh : Nat → Int) (v : Nat) (lv : Int) : Prop := (∃ w, w < 12 ∧ stT T x v w ∧ hh w = lv) ∧ ∀ w, w < 12 → stT T x v w → lv ≤ hh w
theorem isLow.one {T : NT} {x hh : Nat → Int} {v : Nat} {a c : Int} (h : isLow T x hh v a) (g : isLow T x hh v c) : a = c := by
  obtain ⟨⟨w, w1, w2, w3⟩, h2⟩ := h
  obtain ⟨⟨u, u1, u2, u3⟩, g2⟩ := g
  have := h2 u u1 u2
  have := g2 w w1 w2
  omega
def canDn (T : NT) (x hh : Nat → Int) (v : Nat) : Prop := ∃ i, i < 2 * tn T ∧ pS T x hh v (cAt (tn T) i)
theorem canDn_F {T : NT} {x hh : Nat → Int} {v e : Nat} (hn : tn T ≤ 30) (he : e < tn T) (h : pF T x hh v e) : canDn T x hh v := ⟨e, by omega, (pS_F hn he).mpr h⟩
theorem canDn_B {T : NT} {x hh : Nat → Int} {v e : Nat} (he : e < tn T) (h : pB T x hh v e) : canDn T x hh v := ⟨tn T + e, by omega, pS_B.mpr h⟩
section HSteps
variable {T : NT} {σ : PS} {x : Nat → Int} {Φ : Int → PS → Prop}
theorem m_downStep {v : Nat} (hT : okT T) (hx : okX (tn T) (tl T) x) (hM : MN T σ) (hX : MX T x σ) (hv : v < 12) (hh : ∀ w, w < 12 → 0 ≤ σ 10 w ∧ σ 10 w ≤ 1000) (h1 : canDn T x (fun v => σ 10 v) v → Φ (nxT T x (fun v => σ 10 v) v : Nat) σ) (h0 : ¬ canDn T x (fun v => σ 10 v) v → Φ (-1) σ) : FX12_downStep v σ Φ := by
  have hn := hT.1
  unfold FX12_downStep
  have hhv := hh v hv
  have loop : ∀ (f i : Nat), i ≤ 2 * tn T → 2 * tn T - i < f → (∀ j, j < i → ¬ pS T x (fun v => σ 10 v) v (cAt (tn T) j)) → LX12_downStep_2 f v i σ Φ := by
    intro f
    induction f with
    | zero => intro i h1 h2; omega
    | succ f ih =>
      intro i hi hf hno
      unfold LX12_downStep_2 BX12_downStep_2
      rw [hM.1]
      refine ⟨⟨by omega, by omega⟩, fun c => h0 (fun ⟨j, a, b⟩ => hno j (by omega) b), fun c => ?_⟩
      have hi2 : i < 2 * tn T := by omega
      have hc := cAt_ok hn hi2
      have h12 := stOK_end hT.2.1 (cOK_st hc)
      have go : (¬ pS T x (fun v => σ 10 v) v (cAt (tn T) i)) → LX12_downStep_60 (fun x1 x2 σ => LX12_downStep_2 f x1 x2 σ Φ) v i σ Φ := fun hnp => by
        unfold LX12_downStep_60
        refine ⟨⟨by omega, by omega⟩, ?_⟩
        exact ih (i + 1) (by omega) (by omega) (fun j hj => by
          by_cases e : j = i
          · rw [e]; exact hnp
          · exact hno j (by omega))
      refine s_stepAt rfl hM hn hi2 ?_
      refine s_stepFrom rfl hM hn hc ?_
      refine ⟨fun c1 => go (fun z => c1 (by rw [z.1])), fun c1 => ?_⟩
      have hvf : vfr T (cAt (tn T) i) = v := by omega
      refine s_room rfl hM hX hT hx hc ?_
      refine ⟨fun c2 => go (fun z => by have := z.2.1; omega), fun c2 => ?_⟩
      refine s_stepTo rfl hM hn hc ?_
      rw [show ((enT T (cAt (tn T) i) : Nat) : Int).toNat = enT T (cAt (tn T) i) by omega, show ((v : Nat) : Int).toNat = v by omega]
      refine ⟨⟨by omega, by omega⟩, ⟨by omega, by omega⟩, ⟨by omega, by omega⟩, fun c3 => go (fun z => c3 z.2.2), fun c3 => ?_⟩
      have hp : pS T x (fun v => σ 10 v) v (cAt (tn T) i) := ⟨hvf, by omega, c3⟩
      have h1 := h1 ⟨i, hi2, hp⟩
      rw [nxT_cAt hn hi2 hp hno] at h1
      exact h1
  exact ⟨2 * tn T + 1, loop (2 * tn T + 1) 0 (by omega) (by omega) (fun j hj => by omega)⟩
theorem m_lifts {v : Nat} (hT : okT T) (hx : okX (tn T) (tl T) x) (hM : MN T σ) (hX : MX T x σ) (hv : v < 12) (hh : ∀ w, w < 12 → 0 ≤ σ 10 w ∧ σ 10 w ≤ 1000) (hl : 0 ≤ σ 12 v ∧ σ 12 v ≤ 1000000) (hex : ∃ w, stT T x v w) (h : ∀ lv, isLow T x (fun v => σ 10 v) v lv → Φ 0 (up2 (up2 σ 10 v (lv + 1)) 12 v (σ 12 v + 1))) : FX12_lifts v σ Φ := by
  have hn := hT.1
  unfold FX12_lifts
  have ev : ((v : Nat) : Int).toNat = v := by omega
  have loop : ∀ (f i : Nat) (m : Int), i ≤ 2 * tn T → 2 * tn T - i < f → (m = 100000000 ∨ ∃ j, j < i ∧ vfr T (cAt (tn T) j) = v ∧ 0 < rmc (tl T) x (cAt (tn T) j) ∧ σ 10 (enT T (cAt (tn T) j)) = m) → (∀ j, j < i → vfr T (cAt (tn T) j) = v → 0 < rmc (tl T) x (cAt (tn T) j) → m ≤ σ 10 (enT T (cAt (tn T) j))) → LX12_lifts_5 f v m i σ Φ := by
    intro f
    induction f with
    | zero => intro i m h1 h2; omega
    | succ f ih =>
      intro i m hi hf hm1 hm2
      unfold LX12_lifts_5 BX12_lifts_5
      rw [hM.1]
      refine ⟨⟨by omega, by omega⟩, fun c => ?_, fun c => ?_⟩
      · -- the end
        have low : isLow T x (fun v => σ 10 v) v m ∧ 0 ≤ m ∧ m ≤ 1000 := by
          obtain ⟨w, hw⟩ := hex
          obtain ⟨j, j1, j2, j3, j4⟩ := stT_c hn hw
          have hw12 : w < 12 := by
            have := (stOK_end hT.2.1 (cOK_st (cAt_ok hn j1))).2
            rw [j3] at this; exact this
          have a1 := hm2 j (by omega) j2 j4
          rw [j3] at a1
          have a2 := hh w hw12
          rcases hm1 with hm1 | ⟨k, k1, k2, k3, k4⟩
          · omega
          · have hk12 := (stOK_end hT.2.1 (cOK_st (cAt_ok hn (show k < 2 * tn T by omega)))).2
            have a3 := hh _ hk12
            refine ⟨⟨⟨enT T (cAt (tn T) k), hk12, ?_, k4⟩, fun u hu hs => ?_⟩, by omega, by omega⟩
            · have := cOK_stT (cAt_ok hn (show k < 2 * tn T by omega)) k3
              rw [k2] at this; exact this
            · obtain ⟨p, p1, p2, p3, p4⟩ := stT_c hn hs
              have := hm2 p (by omega) p2 p4
              rw [p3] at this; exact this
        obtain ⟨low, l1, l2⟩ := low
        rw [ev]
        refine ⟨⟨by omega, by omega⟩, ⟨by omega, by omega⟩, fun σ5 g5 => ⟨⟨by omega, by omega⟩, ?_⟩⟩
        have e5 : σ5 12 v = σ 12 v := by rw [g5, up2_nk (by omega)]
        rw [e5]
        refine ⟨⟨by omega, by omega⟩, ⟨by omega, by omega⟩, fun σ9 g9 => ?_⟩
        rw [g9, g5]
        exact h m low
      · have hi2 : i < 2 * tn T := by clear hm1 hm2 hex; omega
        have hb1 : i + 1 ≤ 2 * tn T ∧ 2 * tn T - (i + 1) < f := by clear hm1 hm2 hex; omega
        have hc := cAt_ok hn hi2
        have h12 := stOK_end hT.2.1 (cOK_st hc)
        have he := hh _ h12.2
        have skip : ¬ (vfr T (cAt (tn T) i) = v ∧ 0 < rmc (tl T) x (cAt (tn T) i)) → LX12_lifts_59 (fun x1 x2 x3 σ => LX12_lifts_5 f x1 x2 x3 σ Φ) v m i σ Φ := fun hno => by
          refine ⟨⟨by omega, by omega⟩, ih (i + 1) m hb1.1 hb1.2 ?_ (fun j hj a b => ?_)⟩
          · rcases hm1 with z | ⟨j, z1, z2⟩
            · exact Or.inl z
            · exact Or.inr ⟨j, by omega, z2⟩
          · by_cases q : j = i
            · rw [q] at a b; exact absurd ⟨a, b⟩ hno
            · exact hm2 j (by omega) a b
        refine s_stepAt rfl hM hn hi2 ?_
        refine s_stepFrom rfl hM hn hc ?_
        refine ⟨fun c1 => skip (fun z => c1 (by rw [z.1])), fun c1 => ?_⟩
        have hvf : vfr T (cAt (tn T) i) = v := by omega
        refine s_room rfl hM hX hT hx hc ?_
        refine ⟨fun c2 => skip (fun z => by omega), fun c2 => ?_⟩
        refine s_stepTo rfl hM hn hc ?_
        rw [show ((enT T (cAt (tn T) i) : Nat) : Int).toNat = enT T (cAt (tn T) i) by omega]
        refine ⟨⟨by omega, by omega⟩, fun v21 g21 => ⟨⟨by omega, by omega⟩, ?_⟩⟩
        refine ih (i + 1) v21 hb1.1 hb1.2 ?_ (fun j hj a b => ?_)
        · by_cases q : m ≤ σ 10 (enT T (cAt (tn T) i))
          · rw [show v21 = m by omega]
            rcases hm1 with z | ⟨j, z1, z2⟩
            · exact Or.inl z
            · exact Or.inr ⟨j, by omega, z2⟩
          · exact Or.inr ⟨i, by omega, hvf, by omega, by omega⟩
        · by_cases q : j = i
          · rw [q]; omega
          · have := hm2 j (by omega) a b
            omega
  exact ⟨2 * tn T + 1, loop (2 * tn T + 1) 0 100000000 (by omega) (by omega) (Or.inl rfl) (fun j hj => by omega)⟩
end HSteps
