/-! heights are bounded: who has water too much, can give it back to the source -/
section HBound
variable {N n : Nat} {fr to : Nat → Nat} {lim x : Nat → Int} {s : Nat}
theorem clo_ex (hN : okN N n fr to) (hx : okX n lim x) {S : Nat → Bool} (hl : ∀ e, e < n → 0 ≤ lim e) (hc : ∀ u w, u < N → w < N → S u = true → StG n fr to lim x u w → S w = true) : 0 ≤ sm (fun u => if S u = true then exG n fr to x u else 0) N := by
  have hf : anti N (fun u w => cG n fr to lim u w - rG n fr to lim x u w) := fun u w _ _ => by
    have := rG_sym (n := n) (fr := fr) (to := to) (lim := lim) (x := x) u w
    show cG n fr to lim u w - rG n fr to lim x u w = -(cG n fr to lim w u - rG n fr to lim x w u)
    omega
  have h1 := cut_any (S := S) hf
  have h2 : sm (fun u => if S u = true then exG n fr to x u else 0) N = sm (fun u => if S u = true then outf N (fun u w => cG n fr to lim u w - rG n fr to lim x u w) u else 0) N := sm_congr (fun u _ => by
    rw [out_cr hN])
  rw [h2, h1]
  refine sm_nn (fun u hu => sm_nn (fun w hw => ?_))
  by_cases e : S u = true ∧ S w = false
  · rw [if_pos e]
    have a := rG_nn (fr := fr) (to := to) hx u w
    have b : ¬ 0 < rG n fr to lim x u w := fun z => by
      have := hc u w hu hw e.1 ((rG_pos hx u w).mp z)
      rw [e.2] at this
      cases this
    have c : 0 ≤ cG n fr to lim u w := sm_nn (fun g hg => by
      have := hl g hg
      split <;> omega)
    show 0 ≤ cG n fr to lim u w - rG n fr to lim x u w
    omega
  · rw [if_neg e]; omega
theorem back_s (hN : okN N n fr to) (hx : okX n lim x) (hl : ∀ e, e < n → 0 ≤ lim e) (hs : s < N) {v : Nat} (hv : v < N) (hex : ∀ u, u < N → u ≠ s → exG n fr to x u ≤ 0) (hev : exG n fr to x v < 0) {D : Nat → Int} (hD : IsDist N (StG n fr to lim x) s D) : 0 ≤ D v := by
  by_cases q : 0 ≤ D v
  · exact q
  · exfalso
    have h1 := clo_ex (S := fun u => decide (D u < 0)) hN hx hl (fun u w hu hw e hst => by
      simp only [decide_eq_true_eq] at e ⊢
      by_cases y : D w < 0
      · exact y
      · have := (hD.2.2.2 u w hu hw hst (by omega)).1
        omega)
    have h2 : sm (fun u => if (fun u => decide (D u < 0)) u = true then exG n fr to x u else 0) N < sm (fun _ => 0) N := by
      refine sm_lt (i := v) (fun u hu => ?_) hv ?_
      · by_cases y : D u < 0
        · have hne : u ≠ s := fun z => by rw [z, hD.1] at y; omega
          have := hex u hu hne
          simp only [decide_eq_true_eq, if_pos y]; exact this
        · simp only [decide_eq_true_eq, if_neg y]; omega
      · have y : D v < 0 := by omega
        simp only [decide_eq_true_eq, if_pos y]; exact hev
    rw [sm_0 (fun _ _ => rfl)] at h2
    exact absurd h1 (by
      intro z
      have : sm (fun u => if (fun u => decide (D u < 0)) u = true then exG n fr to x u else 0) N < 0 := h2
      exact absurd z (Int.not_le.mpr this))
theorem high {hh D : Nat → Int} (hD : IsDist N (StG n fr to lim x) s D) (hv : ∀ u w, u < N → w < N → StG n fr to lim x u w → hh u ≤ hh w + 1) : ∀ (m u : Nat), u < N → D u = m → hh u ≤ hh s + m := by
  intro m
  induction m with
  | zero =>
    intro u hu e
    rw [hD.zero hu e]; omega
  | succ m ih =>
    intro u hu e
    by_cases q : u = s
    · rw [q]; omega
    · obtain ⟨w, hw, hst, g1, g2⟩ := hD.2.2.1 u hu q (by omega)
      have := ih w hw (by omega)
      have := hv u w hu hw hst
      omega
/-- all that has water too much is at most N - 1 above the source -/
theorem high_ex (hN : okN N n fr to) (hx : okX n lim x) (hl : ∀ e, e < n → 0 ≤ lim e) (hs : s < N) {v : Nat} (hv : v < N) (hex : ∀ u, u < N → u ≠ s → exG n fr to x u ≤ 0) (hev : exG n fr to x v < 0) {hh : Nat → Int} (hval : ∀ u w, u < N → w < N → StG n fr to lim x u w → hh u ≤ hh w + 1) : hh v ≤ hh s + N - 1 := by
  obtain ⟨D, hD⟩ := IsDist.ex N (StG n fr to lim x) s
  have h0 := back_s hN hx hl hs hv hex hev hD
  have h1 := hD.lt hs hv
  have := high hD hval (D v).toNat v hv (by omega)
  omega
theorem out_step (hN : okN N n fr to) (hx : okX n lim x) {v : Nat} (hev : exG n fr to x v < 0) : ∃ w, StG n fr to lim x v w := by
  by_cases q : ∃ e, e < n ∧ to e = v ∧ 0 < x e
  · obtain ⟨e, h1, h2, h3⟩ := q
    exact ⟨fr e, e, h1, Or.inr ⟨h2, rfl, h3⟩⟩
  · exfalso
    have : 0 ≤ exG n fr to x v := sm_nn (fun e he => by
      have h1 := hx e he
      by_cases y : to e = v
      · have : ¬ 0 < x e := fun z => q ⟨e, he, y, z⟩
        have z0 : x e = 0 := by omega
        rw [z0]
        by_cases y1 : fr e = v <;> by_cases y2 : to e = v <;> simp only [y1, y2, if_true, if_false] <;> omega
      · rw [if_neg y]
        split <;> omega)
    omega
end HBound
