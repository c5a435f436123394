/-! distances, and what room gates leave -/
def IsDist (N : Nat) (st : Nat → Nat → Prop) (t : Nat) (d : Nat → Int) : Prop :=
  d t = 0 ∧ (∀ v, v < N → -1 ≤ d v) ∧ (∀ v, v < N → v ≠ t → 0 ≤ d v → ∃ w, w < N ∧ st v w ∧ d w = d v - 1 ∧ 0 ≤ d w) ∧ (∀ v w, v < N → w < N → st v w → 0 ≤ d w → 0 ≤ d v ∧ d v ≤ d w + 1)
/-- a height that falls by 1 at most along each step, of what can come to t -/
def Pot (N : Nat) (st : Nat → Nat → Prop) (t : Nat) (D : Nat → Int) : Prop := D t = 0 ∧ ∀ v w, v < N → w < N → st v w → 0 ≤ D w → 0 ≤ D v ∧ D v ≤ D w + 1
theorem IsDist.pot {N : Nat} {st : Nat → Nat → Prop} {t : Nat} {d : Nat → Int} (h : IsDist N st t d) : Pot N st t d := ⟨h.1, h.2.2.2⟩
theorem IsDist.le {N : Nat} {st : Nat → Nat → Prop} {t : Nat} {d D : Nat → Int} (h : IsDist N st t d) (hD : Pot N st t D) : ∀ (k v : Nat), v < N → d v = k → 0 ≤ D v ∧ D v ≤ d v := by
  intro k
  induction k with
  | zero =>
    intro v hv e
    by_cases ht : v = t
    · subst ht
      have := hD.1
      have := h.1
      omega
    · obtain ⟨w, -, -, h1, h2⟩ := h.2.2.1 v hv ht (by omega)
      omega
  | succ k ih =>
    intro v hv e
    by_cases ht : v = t
    · subst ht
      have := hD.1
      have := h.1
      omega
    · obtain ⟨w, hw, hs, h1, h2⟩ := h.2.2.1 v hv ht (by omega)
      obtain ⟨i1, i2⟩ := ih w hw (by omega)
      obtain ⟨i3, i4⟩ := hD.2 v w hv hw hs i1
      exact ⟨i3, by omega⟩
theorem IsDist.le' {N : Nat} {st : Nat → Nat → Prop} {t : Nat} {d D : Nat → Int} (h : IsDist N st t d) (hD : Pot N st t D) {v : Nat} (hv : v < N) (h0 : 0 ≤ d v) : 0 ≤ D v ∧ D v ≤ d v := h.le hD (d v).toNat v hv (by omega)
theorem IsDist.one {N : Nat} {st : Nat → Nat → Prop} {t : Nat} {d e : Nat → Int} (h : IsDist N st t d) (h2 : IsDist N st t e) {v : Nat} (hv : v < N) : d v = e v := by
  have a := h.2.1 v hv
  have b := h2.2.1 v hv
  by_cases h0 : 0 ≤ d v
  · have c := h.le' h2.pot hv h0
    have c2 := h2.le' h.pot hv c.1
    omega
  · by_cases h1 : 0 ≤ e v
    · have c := h2.le' h.pot hv h1
      omega
    · omega
theorem IsDist.iff {N : Nat} {st st' : Nat → Nat → Prop} {t : Nat} {d : Nat → Int} (h : IsDist N st t d) (e : ∀ v w, v < N → w < N → (st v w ↔ st' v w)) : IsDist N st' t d :=
  ⟨h.1, h.2.1, fun v hv ht h0 => by
    obtain ⟨w, h1, h2, h3⟩ := h.2.2.1 v hv ht h0
    exact ⟨w, h1, (e v w hv h1).mp h2, h3⟩, fun v w hv hw hs h0 => h.2.2.2 v w hv hw ((e v w hv hw).mpr hs) h0⟩
theorem IsDist.chain {N : Nat} {st : Nat → Nat → Prop} {t : Nat} {d : Nat → Int} (h : IsDist N st t d) (ht : t < N) : ∀ (k v : Nat), v < N → d v = k → ∀ j : Nat, j ≤ k → ∃ w, w < N ∧ d w = j := by
  intro k
  induction k with
  | zero =>
    intro v hv e j hj
    exact ⟨v, hv, by omega⟩
  | succ k ih =>
    intro v hv e j hj
    by_cases hj2 : j = k + 1
    · exact ⟨v, hv, by omega⟩
    · by_cases htv : v = t
      · subst htv
        have := h.1
        omega
      · obtain ⟨w, hw, -, h1, h2⟩ := h.2.2.1 v hv htv (by omega)
        exact ih w hw (by omega) j (by omega)
/-- no row of n + 1 unlike numbers below n -/
theorem holes : ∀ (m n : Nat) (f : Nat → Nat), (∀ i, i < n → f i < m) → (∀ i j, i < j → j < n → f i ≠ f j) → n ≤ m := by
  intro m
  induction m with
  | zero =>
    intro n f h _
    cases n with
    | zero => exact Nat.le_refl _
    | succ n => exact absurd (h 0 (by omega)) (Nat.not_lt_zero _)
  | succ m ih =>
    intro n f h h2
    cases n with
    | zero => omega
    | succ n =>
      by_cases hx : ∃ i, i < n + 1 ∧ f i = m
      · obtain ⟨i, hi, e⟩ := hx
        have := ih n (fun j => if j < i then f j else f (j + 1)) (fun j hj => by
          by_cases q : j < i
          · simp only [if_pos q]
            have a := h j (by omega)
            have b := h2 j i q hi
            omega
          · simp only [if_neg q]
            have a := h (j + 1) (by omega)
            have b := h2 i (j + 1) (by omega) (by omega)
            omega) (fun j k hjk hk => by
          by_cases q : j < i <;> by_cases q2 : k < i
          · simp only [if_pos q, if_pos q2]; exact h2 j k hjk (by omega)
          · simp only [if_pos q, if_neg q2]; exact h2 j (k + 1) (by omega) (by omega)
          · omega
          · simp only [if_neg q, if_neg q2]; exact h2 (j + 1) (k + 1) (by omega) (by omega))
        omega
      · have := ih (n + 1) f (fun j hj => by
          have a := h j hj
          have b : f j ≠ m := fun z => hx ⟨j, hj, z⟩
          omega) h2
        omega
theorem IsDist.lt {N : Nat} {st : Nat → Nat → Prop} {t : Nat} {d : Nat → Int} (h : IsDist N st t d) (ht : t < N) {v : Nat} (hv : v < N) : d v < N := by
  by_cases h0 : 0 ≤ d v
  · obtain ⟨k, hk⟩ : ∃ k : Nat, d v = k := ⟨(d v).toNat, by omega⟩
    have hc := h.chain ht k v hv hk
    have hf : ∀ j : Nat, ∃ w : Nat, j ≤ k → w < N ∧ d w = j := fun j => by
      by_cases hj : j ≤ k
      · obtain ⟨w, h1, h2⟩ := hc j hj
        exact ⟨w, fun _ => ⟨h1, h2⟩⟩
      · exact ⟨0, fun z => absurd z hj⟩
    obtain ⟨f, hf⟩ := Classical.axiomOfChoice hf
    have := holes N (k + 1) f (fun i hi => (hf i (by omega)).1) (fun i j hij hj e => by
      have a := (hf i (by omega)).2
      have b := (hf j (by omega)).2
      rw [e] at a
      omega)
    omega
  · omega
section Gates
variable {N n : Nat} {fr to : Nat → Nat} {lim x : Nat → Int}
def cG (n : Nat) (fr to : Nat → Nat) (lim : Nat → Int) (u w : Nat) : Int := sm (fun e => if fr e = u ∧ to e = w then lim e else 0) n
def rG (n : Nat) (fr to : Nat → Nat) (lim x : Nat → Int) (u w : Nat) : Int := sm (fun e => (if fr e = u ∧ to e = w then lim e - x e else 0) + (if fr e = w ∧ to e = u then x e else 0)) n
def exG (n : Nat) (fr to : Nat → Nat) (x : Nat → Int) (v : Nat) : Int := sm (fun e => (if fr e = v then x e else 0) - (if to e = v then x e else 0)) n
def okX (n : Nat) (lim x : Nat → Int) : Prop := ∀ e, e < n → 0 ≤ x e ∧ x e ≤ lim e
def StG (n : Nat) (fr to : Nat → Nat) (lim x : Nat → Int) (v w : Nat) : Prop := ∃ e, e < n ∧ ((fr e = v ∧ to e = w ∧ x e < lim e) ∨ (to e = v ∧ fr e = w ∧ 0 < x e))
def okN (N n : Nat) (fr to : Nat → Nat) : Prop := ∀ e, e < n → fr e < N ∧ to e < N ∧ fr e ≠ to e
theorem rG_nn (hx : okX n lim x) (u w : Nat) : 0 ≤ rG n fr to lim x u w := by
  refine sm_nn (fun e he => ?_)
  have := hx e he
  by_cases a : fr e = u ∧ to e = w
  · by_cases b : fr e = w ∧ to e = u
    · simp only [if_pos a, if_pos b]; omega
    · simp only [if_pos a, if_neg b]; omega
  · by_cases b : fr e = w ∧ to e = u
    · simp only [if_neg a, if_pos b]; omega
    · simp only [if_neg a, if_neg b]; omega
theorem rG_pos (hx : okX n lim x) (u w : Nat) : 0 < rG n fr to lim x u w ↔ StG n fr to lim x u w := by
  refine ⟨fun h => ?_, fun ⟨e, he, h⟩ => ?_⟩
  · by_cases q : StG n fr to lim x u w
    · exact q
    · have h2 : rG n fr to lim x u w ≤ sm (fun _ => 0) n := sm_le (fun e he => by
        have := hx e he
        have n1 : ¬ (fr e = u ∧ to e = w ∧ x e < lim e) := fun z => q ⟨e, he, Or.inl z⟩
        have n2 : ¬ (to e = u ∧ fr e = w ∧ 0 < x e) := fun z => q ⟨e, he, Or.inr z⟩
        by_cases a : fr e = u ∧ to e = w <;> by_cases b : fr e = w ∧ to e = u <;> simp only [a, b, if_true, if_false]
        · have := fun z => n1 ⟨a.1, a.2, z⟩
          have := fun z => n2 ⟨b.2, b.1, z⟩
          omega
        · have := fun z => n1 ⟨a.1, a.2, z⟩
          omega
        · have := fun z => n2 ⟨b.2, b.1, z⟩
          omega
        · omega)
      rw [sm_0 (fun _ _ => rfl)] at h2
      omega
  · have h3 := sm_pick (f := fun e => (if fr e = u ∧ to e = w then lim e - x e else 0) + (if fr e = w ∧ to e = u then x e else 0)) (n := n) (fun k hk => by
      have := hx k hk
      by_cases a : fr k = u ∧ to k = w <;> by_cases b : fr k = w ∧ to k = u <;> simp only [a, b, if_true, if_false] <;> omega) he
    have h4 : 0 < (if fr e = u ∧ to e = w then lim e - x e else 0) + (if fr e = w ∧ to e = u then x e else 0) := by
      have := hx e he
      rcases h with ⟨a, b, c⟩ | ⟨a, b, c⟩
      · rw [if_pos ⟨a, b⟩]
        split <;> omega
      · rw [if_pos (And.intro b a)]
        split <;> omega
    exact Int.lt_of_lt_of_le h4 h3
theorem rG_sym (u w : Nat) : rG n fr to lim x u w + rG n fr to lim x w u = cG n fr to lim u w + cG n fr to lim w u := by
  unfold rG cG
  rw [← sm_add, ← sm_add]
  refine sm_congr (fun e _ => ?_)
  by_cases a : fr e = u ∧ to e = w
  · by_cases b : fr e = w ∧ to e = u
    · simp only [if_pos a, if_pos b]; omega
    · simp only [if_pos a, if_neg b]; omega
  · by_cases b : fr e = w ∧ to e = u
    · simp only [if_neg a, if_pos b]; omega
    · simp only [if_neg a, if_neg b]; omega
theorem out_cr (hN : okN N n fr to) (v : Nat) : outf N (fun u w => cG n fr to lim u w - rG n fr to lim x u w) v = exG n fr to x v := by
  have h1 : ∀ w, cG n fr to lim v w - rG n fr to lim x v w = sm (fun e => (if fr e = v ∧ to e = w then x e else 0) - (if fr e = w ∧ to e = v then x e else 0)) n := fun w => by
    unfold cG rG
    rw [← sm_sub]
    refine sm_congr (fun e _ => ?_)
    by_cases a : fr e = v ∧ to e = w
    · by_cases b : fr e = w ∧ to e = v
      · simp only [if_pos a, if_pos b]; omega
      · simp only [if_pos a, if_neg b]; omega
    · by_cases b : fr e = w ∧ to e = v
      · simp only [if_neg a, if_pos b]; omega
      · simp only [if_neg a, if_neg b]; omega
  unfold outf
  rw [sm_congr (fun w _ => h1 w), sm_swap]
  unfold exG
  refine sm_congr (fun e he => ?_)
  obtain ⟨h2, h3, -⟩ := hN e he
  rw [sm_sub]
  congr 1
  · by_cases a : fr e = v
    · rw [if_pos a, sm_one h3 (fun k _ hne => if_neg (fun z => hne z.2.symm)), if_pos ⟨a, rfl⟩]
    · rw [if_neg a]
      exact sm_0 (fun k _ => if_neg (fun z => a z.1))
  · by_cases a : to e = v
    · rw [if_pos a, sm_one h2 (fun k _ hne => if_neg (fun z => hne z.1.symm)), if_pos ⟨rfl, a⟩]
    · rw [if_neg a]
      exact sm_0 (fun k _ => if_neg (fun z => a z.2))
/-- x is a flow of value v -/
def GO (N n : Nat) (fr to : Nat → Nat) (lim : Nat → Int) (s t : Nat) (x : Nat → Int) (v : Int) : Prop :=
  okX n lim x ∧ (∀ y, y < N → y ≠ s → y ≠ t → exG n fr to x y = 0) ∧ exG n fr to x s = v
theorem GO.ro {s t : Nat} {v : Int} (hN : okN N n fr to) (h : GO N n fr to lim s t x v) : RO N (cG n fr to lim) s t (rG n fr to lim x) v :=
  ⟨fun u w _ _ => rG_sym u w, fun u w _ _ => rG_nn h.1 u w, fun y hy h1 h2 => by rw [out_cr hN]; exact h.2.1 y hy h1 h2, by rw [out_cr hN]; exact h.2.2⟩
theorem GO.init {s t : Nat} (hl : ∀ e, e < n → 0 ≤ lim e) : GO N n fr to lim s t (fun _ => 0) 0 := by
  have h : ∀ y, exG n fr to (fun _ => 0) y = 0 := fun y => sm_0 (fun e _ => by simp)
  exact ⟨fun e he => ⟨Int.le_refl _, hl e he⟩, fun y _ _ _ => h y, h s⟩
/-- when there is no way left, it is the most -/
theorem GO.mf {s t : Nat} {v : Int} {d : Nat → Int} (hN : okN N n fr to) (hs : s < N) (h : GO N n fr to lim s t x v) (hd : IsDist N (StG n fr to lim x) t d) (h0 : d s < 0) : IsMF N (cG n fr to lim) s t v := by
  refine (h.ro hN).mf (S := fun v => decide (d v < 0)) hs (by simpa using h0) (by simp [hd.1]) (fun u w hu hw e1 e2 => ?_)
  by_cases q : StG n fr to lim x u w
  · have := hd.2.2.2 u w hu hw q (by simpa using e2)
    have : d u < 0 := by simpa using e1
    omega
  · have := mt (rG_pos h.1 u w).mp q
    omega
theorem exG_upd {g : Nat} {v : Int} (hg : g < n) (y : Nat) : exG n fr to (fun e => if e = g then v else x e) y = exG n fr to x y + (if fr g = y then v - x g else 0) - (if to g = y then v - x g else 0) := by
  unfold exG
  have h1 := sm_upd (f := fun e => (if fr e = y then x e else 0) - (if to e = y then x e else 0)) (v := (if fr g = y then v else 0) - (if to g = y then v else 0)) hg
  rw [← sm_congr (f := fun e => (if fr e = y then (if e = g then v else x e) else 0) - (if to e = y then (if e = g then v else x e) else 0)) (fun e _ => ?_)] at h1
  · rw [h1]
    split <;> split <;> omega
  · by_cases a : e = g
    · subst a; simp
    · simp [a]
end Gates
