theorem sm_lt {f g : Nat → Int} {i : Nat} : ∀ {n : Nat}, (∀ k, k < n → f k ≤ g k) → i < n → f i < g i → sm f n < sm g n
  | 0, _, h, _ => absurd h (Nat.not_lt_zero _)
  | n + 1, h, hi, hl => by
    have h2 := h n (by omega)
    rw [sm, sm]
    by_cases e : i < n
    · have := sm_lt (fun k hk => h k (by omega)) e hl
      omega
    · have e2 : i = n := by omega
      subst e2
      have := sm_le (f := f) (g := g) (n := i) (fun k hk => h k (by omega))
      omega
/-- a step by its code: a gate, or 100 and it -/
def gof (c : Nat) : Nat := if c < 100 then c else c - 100
def rmc (lim x : Nat → Int) (c : Nat) : Int := if c < 100 then lim c - x c else x (c - 100)
def stOK (n : Nat) (fr to : Nat → Nat) (c v w : Nat) : Prop := (c < 100 ∧ c < n ∧ fr c = v ∧ to c = w) ∨ (100 ≤ c ∧ c - 100 < n ∧ to (c - 100) = v ∧ fr (c - 100) = w)
def aX (x : Nat → Int) (ps : Nat → Nat) (a : Int) : Nat → Nat → Int
  | 0, e => x e
  | k + 1, e => if e = gof (ps k) then (if ps k < 100 then aX x ps a k e + a else aX x ps a k e - a) else aX x ps a k e
theorem aX_cong {x : Nat → Int} {ps qs : Nat → Nat} {a : Int} : ∀ {k : Nat}, (∀ j, j < k → ps j = qs j) → aX x ps a k = aX x qs a k
  | 0, _ => rfl
  | k + 1, h => by
    funext e
    rw [aX, aX, aX_cong (k := k) (fun j hj => h j (by omega)), h k (by omega)]
/-- a way: steps with room from s on, each one nearer to t; a is what goes by it -/
def WayG (N n : Nat) (fr to : Nat → Nat) (lim x : Nat → Int) (d : Nat → Int) (s : Nat) (pn ps : Nat → Nat) (L : Nat) (a : Int) : Prop :=
  pn 0 = s ∧ (∀ k, k ≤ L → pn k < N ∧ d (pn k) = (L : Int) - k) ∧ (∀ k, k < L → stOK n fr to (ps k) (pn k) (pn (k + 1)) ∧ a ≤ rmc lim x (ps k)) ∧ 0 < a ∧ ∃ k, k < L ∧ rmc lim x (ps k) = a
section Aug
variable {N n s t L : Nat} {fr to pn ps : Nat → Nat} {lim x : Nat → Int} {d : Nat → Int} {a v : Int}
theorem IsDist.zero {st : Nat → Nat → Prop} (h : IsDist N st t d) {y : Nat} (hy : y < N) (h0 : d y = 0) : y = t := by
  by_cases e : y = t
  · exact e
  · obtain ⟨w, -, -, h1, h2⟩ := h.2.2.1 y hy e (by omega)
    omega
theorem gof_lt {c v w : Nat} (h : stOK n fr to c v w) : gof c < n := by
  unfold gof
  rcases h with ⟨h1, h2, -⟩ | ⟨h1, h2, -⟩
  · rw [if_pos h1]; exact h2
  · rw [if_neg (by omega)]; exact h2
theorem gof_ends {c v w : Nat} (h : stOK n fr to c v w) : (fr (gof c) = v ∧ to (gof c) = w) ∨ (to (gof c) = v ∧ fr (gof c) = w) := by
  unfold gof
  rcases h with ⟨h1, -, h2⟩ | ⟨h1, -, h2⟩
  · rw [if_pos h1]; exact Or.inl h2
  · rw [if_neg (by omega)]; exact Or.inr h2
theorem WayG.apart (h : WayG N n fr to lim x d s pn ps L a) {i j : Nat} (hij : i < j) (hj : j < L) : gof (ps i) ≠ gof (ps j) := by
  intro e
  obtain ⟨-, hd, hs, -⟩ := h
  have a1 := gof_ends (hs i (by omega)).1
  have a2 := gof_ends (hs j hj).1
  rw [e] at a1
  have d0 := (hd i (by omega)).2
  have d1 := (hd (i + 1) (by omega)).2
  have d2 := (hd j (by omega)).2
  have d3 := (hd (j + 1) (by omega)).2
  rcases a1 with ⟨p, q⟩ | ⟨p, q⟩ <;> rcases a2 with ⟨p2, q2⟩ | ⟨p2, q2⟩
  · have : pn i = pn j := by rw [← p, ← p2]
    rw [this] at d0; omega
  · have : pn i = pn (j + 1) := by rw [← p, ← q2]
    rw [this] at d0; omega
  · have : pn i = pn (j + 1) := by rw [← p, ← q2]
    rw [this] at d0; omega
  · have : pn i = pn j := by rw [← p, ← p2]
    rw [this] at d0; omega
theorem aX_out {e : Nat} : ∀ {k : Nat}, (∀ j, j < k → e ≠ gof (ps j)) → aX x ps a k e = x e
  | 0, _ => rfl
  | k + 1, h => by rw [aX, if_neg (h k (by omega)), aX_out (fun j hj => h j (by omega))]
theorem aX_in (h : WayG N n fr to lim x d s pn ps L a) {j : Nat} : ∀ {k : Nat}, j < k → k ≤ L → aX x ps a k (gof (ps j)) = if ps j < 100 then x (gof (ps j)) + a else x (gof (ps j)) - a
  | 0, hj, _ => absurd hj (Nat.not_lt_zero _)
  | k + 1, hj, hk => by
    rw [aX]
    by_cases e : j = k
    · subst e
      rw [if_pos rfl, aX_out (fun i hi => (h.apart hi (by omega)).symm)]
    · rw [if_neg (h.apart (by omega) (by omega)), aX_in h (by omega) (by omega)]
theorem aX_ex (h : WayG N n fr to lim x d s pn ps L a) (y : Nat) : ∀ {k : Nat}, k ≤ L → exG n fr to (aX x ps a k) y = exG n fr to x y + (if y = s then a else 0) - (if y = pn k then a else 0)
  | 0, _ => by
    rw [h.1]
    show exG n fr to (aX x ps a 0) y = _
    have : aX x ps a 0 = x := rfl
    rw [this]
    omega
  | k + 1, hk => by
    have ih := aX_ex h y (k := k) (by omega)
    have hs := (h.2.2.1 k (by omega)).1
    have hg := gof_lt hs
    have e1 : aX x ps a (k + 1) = fun e => if e = gof (ps k) then (if ps k < 100 then aX x ps a k (gof (ps k)) + a else aX x ps a k (gof (ps k)) - a) else aX x ps a k e := by
      funext e
      rw [aX]
      by_cases q : e = gof (ps k)
      · rw [if_pos q, if_pos q, q]
      · rw [if_neg q, if_neg q]
    rw [e1, exG_upd hg, ih]
    unfold gof
    rcases hs with ⟨c, -, p, q⟩ | ⟨c, -, p, q⟩
    · simp only [if_pos c, p, q]
      by_cases u : pn k = y
      · by_cases w : pn (k + 1) = y
        · rw [if_pos u, if_pos w, if_pos u.symm, if_pos w.symm]; omega
        · rw [if_pos u, if_neg w, if_pos u.symm, if_neg (show ¬ y = pn (k + 1) from fun z => w z.symm)]; omega
      · by_cases w : pn (k + 1) = y
        · rw [if_neg u, if_pos w, if_neg (show ¬ y = pn k from fun z => u z.symm), if_pos w.symm]; omega
        · rw [if_neg u, if_neg w, if_neg (show ¬ y = pn k from fun z => u z.symm), if_neg (show ¬ y = pn (k + 1) from fun z => w z.symm)]; omega
    · simp only [if_neg (show ¬ ps k < 100 by omega), p, q]
      by_cases u : pn k = y
      · by_cases w : pn (k + 1) = y
        · rw [if_pos u, if_pos w, if_pos u.symm, if_pos w.symm]; omega
        · rw [if_pos u, if_neg w, if_pos u.symm, if_neg (show ¬ y = pn (k + 1) from fun z => w z.symm)]; omega
      · by_cases w : pn (k + 1) = y
        · rw [if_neg u, if_pos w, if_neg (show ¬ y = pn k from fun z => u z.symm), if_pos w.symm]; omega
        · rw [if_neg u, if_neg w, if_neg (show ¬ y = pn k from fun z => u z.symm), if_neg (show ¬ y = pn (k + 1) from fun z => w z.symm)]; omega
theorem WayG.at (h : WayG N n fr to lim x d s pn ps L a) (e : Nat) : (∃ j, j < L ∧ e = gof (ps j)) ∨ (aX x ps a L e = x e ∧ ∀ j, j < L → e ≠ gof (ps j)) := by
  by_cases q : ∃ j, j < L ∧ e = gof (ps j)
  · exact Or.inl q
  · exact Or.inr ⟨aX_out (fun j hj z => q ⟨j, hj, z⟩), fun j hj z => q ⟨j, hj, z⟩⟩
theorem WayG.ok (h : WayG N n fr to lim x d s pn ps L a) (hx : okX n lim x) : okX n lim (aX x ps a L) := by
  intro e he
  have h1 := hx e he
  rcases h.at e with ⟨j, hj, rfl⟩ | ⟨h2, -⟩
  · rw [aX_in h hj (Nat.le_refl _)]
    obtain ⟨h3, h4⟩ := h.2.2.1 j hj
    have h5 := h.2.2.2.1
    unfold rmc at h4
    unfold gof at h1 ⊢
    by_cases c : ps j < 100
    · simp only [if_pos c] at h1 h4 ⊢
      omega
    · simp only [if_neg c] at h1 h4 ⊢
      omega
  · rw [h2]; exact h1
/-- a way makes the flow that much more -/
theorem GO.way (h : WayG N n fr to lim x d s pn ps L a) (hd : IsDist N (StG n fr to lim x) t d) (hst : s ≠ t) (hs : s < N) (hx : GO N n fr to lim s t x v) : GO N n fr to lim s t (aX x ps a L) (v + a) := by
  have hL := h.2.1 L (Nat.le_refl _)
  have ht : pn L = t := hd.zero hL.1 (by omega)
  refine ⟨h.ok hx.1, fun y hy h1 h2 => ?_, ?_⟩
  · rw [aX_ex h y (Nat.le_refl _), hx.2.1 y hy h1 h2, if_neg h1, if_neg (by rw [ht]; exact h2)]
    omega
  · rw [aX_ex h s (Nat.le_refl _), hx.2.2, if_pos rfl, if_neg (by rw [ht]; exact hst)]
    omega
/-! how many ways there are -/
def tightG (fr to : Nat → Nat) (lim x D : Nat → Int) (e : Nat) : Int := if (x e < lim e ∧ D (fr e) = D (to e) + 1 ∧ 0 ≤ D (to e)) ∨ (0 < x e ∧ D (to e) = D (fr e) + 1 ∧ 0 ≤ D (fr e)) then 1 else 0
def TT (n : Nat) (fr to : Nat → Nat) (lim x D : Nat → Int) : Int := sm (tightG fr to lim x D) n
theorem tightG_01 (D : Nat → Int) (e : Nat) : 0 ≤ tightG fr to lim x D e ∧ tightG fr to lim x D e ≤ 1 := by
  unfold tightG
  split <;> omega
theorem TT_le (D : Nat → Int) : TT n fr to lim x D ≤ n := by
  have h1 : TT n fr to lim x D ≤ sm (fun _ => 1) n := sm_le (fun e _ => (tightG_01 D e).2)
  have h2 : ∀ n : Nat, sm (fun _ => 1) n = n := fun n => by
    induction n with
    | zero => rfl
    | succ n ih => rw [sm, ih]; omega
  rw [h2] at h1
  exact h1
theorem TT_nn (D : Nat → Int) : 0 ≤ TT n fr to lim x D := sm_nn (fun e _ => (tightG_01 D e).1)
theorem WayG.heights {D : Nat → Int} (h : WayG N n fr to lim x d s pn ps L a) (hd : IsDist N (StG n fr to lim x) t d) (hD : Pot N (StG n fr to lim x) t D) (hs : D s = L) : ∀ k, k ≤ L → D (pn k) = (L : Int) - k := by
  have hup : ∀ k, k ≤ L → 0 ≤ D (pn k) ∧ D (pn k) ≤ (L : Int) - k := fun k hk => by
    have h1 := h.2.1 k hk
    have h2 := hd.le' hD h1.1 (by omega)
    omega
  intro k
  induction k with
  | zero => intro _; rw [h.1, hs]; omega
  | succ k ih =>
    intro hk
    have h1 := ih (by omega)
    have h2 := hup (k + 1) hk
    obtain ⟨h3, h4⟩ := h.2.2.1 k (by omega)
    have h5 := h.2.2.2.1
    have h6 : StG n fr to lim x (pn k) (pn (k + 1)) := by
      unfold rmc at h4
      rcases h3 with ⟨c, p, q, r⟩ | ⟨c, p, q, r⟩
      · rw [if_pos c] at h4
        exact ⟨ps k, p, Or.inl ⟨q, r, by omega⟩⟩
      · rw [if_neg (by omega)] at h4
        exact ⟨ps k - 100, p, Or.inr ⟨q, r, by omega⟩⟩
    have h7 := hD.2 _ _ (h.2.1 k (by omega)).1 (h.2.1 (k + 1) hk).1 h6 h2.1
    omega
theorem WayG.pot {D : Nat → Int} (h : WayG N n fr to lim x d s pn ps L a) (hx : okX n lim x) (hd : IsDist N (StG n fr to lim x) t d) (hD : Pot N (StG n fr to lim x) t D) (hs : D s = L) : Pot N (StG n fr to lim (aX x ps a L)) t D := by
  refine ⟨hD.1, fun v w hv hw ⟨e, he, hst⟩ h0 => ?_⟩
  have hh := h.heights hd hD hs
  rcases h.at e with ⟨j, hj, rfl⟩ | ⟨h2, -⟩
  · rw [aX_in h hj (Nat.le_refl _)] at hst
    obtain ⟨h3, h4⟩ := h.2.2.1 j hj
    have hx1 := hx _ he
    have d1 := hh j (by omega)
    have d2 := hh (j + 1) (by omega)
    have h5 := h.2.2.2.1
    unfold rmc at h4
    unfold gof at hst he hx1
    rcases h3 with ⟨c, p, q, r⟩ | ⟨c, p, q, r⟩
    · simp only [if_pos c] at h4 hst he hx1
      rcases hst with ⟨u, u2, u3⟩ | ⟨u, u2, u3⟩
      · exact hD.2 v w hv hw ⟨_, he, Or.inl ⟨u, u2, by omega⟩⟩ h0
      · rw [← u, ← u2, q, r] at *
        omega
    · have c' : ¬ ps j < 100 := by omega
      simp only [if_neg c'] at h4 hst he hx1
      rcases hst with ⟨u, u2, u3⟩ | ⟨u, u2, u3⟩
      · rw [← u, ← u2, q, r] at *
        omega
      · exact hD.2 v w hv hw ⟨_, he, Or.inr ⟨u, u2, by omega⟩⟩ h0
  · rw [h2] at hst
    exact hD.2 v w hv hw ⟨e, he, hst⟩ h0
theorem WayG.less {D : Nat → Int} (h : WayG N n fr to lim x d s pn ps L a) (hx : okX n lim x) (hd : IsDist N (StG n fr to lim x) t d) (hD : Pot N (StG n fr to lim x) t D) (hs : D s = L) : TT n fr to lim (aX x ps a L) D < TT n fr to lim x D := by
  have hh := h.heights hd hD hs
  have h5 := h.2.2.2.1
  have one : ∀ j, j < L → tightG fr to lim x D (gof (ps j)) = 1 := fun j hj => by
    obtain ⟨h3, h4⟩ := h.2.2.1 j hj
    have d1 := hh j (by omega)
    have d2 := hh (j + 1) (by omega)
    unfold rmc at h4
    unfold tightG gof
    refine if_pos ?_
    rcases h3 with ⟨c, p, q, r⟩ | ⟨c, p, q, r⟩
    · simp only [if_pos c] at h4 ⊢
      rw [q, r]
      exact Or.inl ⟨by omega, by omega, by omega⟩
    · have c' : ¬ ps j < 100 := by omega
      simp only [if_neg c'] at h4 ⊢
      rw [q, r]
      exact Or.inr ⟨by omega, by omega, by omega⟩
  obtain ⟨i, hi, he⟩ := h.2.2.2.2
  obtain ⟨h3, h4⟩ := h.2.2.1 i hi
  refine sm_lt (i := gof (ps i)) (fun e _ => ?_) (gof_lt h3) ?_
  · rcases h.at e with ⟨j, hj, rfl⟩ | ⟨h2, -⟩
    · rw [one j hj]; exact (tightG_01 D _).2
    · unfold tightG
      rw [h2]
      exact Int.le_refl _
  · rw [one i hi]
    have z : tightG fr to lim (aX x ps a L) D (gof (ps i)) = 0 := by
      have d1 := hh i (by omega)
      have d2 := hh (i + 1) (by omega)
      unfold tightG
      rw [aX_in h hi (Nat.le_refl _)]
      refine if_neg ?_
      unfold rmc at he
      unfold gof
      rcases h3 with ⟨c, p, q, r⟩ | ⟨c, p, q, r⟩
      · simp only [if_pos c] at he ⊢
        rw [q, r]
        omega
      · have c' : ¬ ps i < 100 := by omega
        simp only [if_neg c'] at he ⊢
        rw [q, r]
        omega
    rw [z]
    omega
/-- the count of ways that were taken, held against the heights of this stage -/
def PH (N n : Nat) (fr to : Nat → Nat) (lim x : Nat → Int) (s t : Nat) (d : Nat → Int) (wc : Int) : Prop :=
  0 < d s → ∃ D : Nat → Int, Pot N (StG n fr to lim x) t D ∧ D s = d s ∧ wc + TT n fr to lim x D ≤ 30 * d s
theorem PH.init (hn : n ≤ 30) (hd : IsDist N (StG n fr to lim x) t d) : PH N n fr to lim x s t d 0 := by
  intro h0
  refine ⟨d, hd.pot, rfl, ?_⟩
  have := TT_le (n := n) (fr := fr) (to := to) (lim := lim) (x := x) d
  omega
theorem PH.step {d' : Nat → Int} {wc : Int} (hn : n ≤ 30) (hs : s < N) (h : WayG N n fr to lim x d s pn ps L a) (hx : okX n lim x) (hd : IsDist N (StG n fr to lim x) t d) (hL : d s = L) (hL0 : 0 < L) (hP : PH N n fr to lim x s t d wc) (hd' : IsDist N (StG n fr to lim (aX x ps a L)) t d') : PH N n fr to lim (aX x ps a L) s t d' (wc + 1) ∧ wc + 1 ≤ 30 * L := by
  obtain ⟨D, h1, h2, h3⟩ := hP (by omega)
  have h4 := h.pot hx hd h1 (by omega)
  have h5 := h.less hx hd h1 (by omega)
  have h6 := TT_nn (n := n) (fr := fr) (to := to) (lim := lim) (x := aX x ps a L) D
  refine ⟨fun h0 => ?_, by omega⟩
  have h7 := hd'.le' h4 hs (by omega)
  by_cases e : d' s = L
  · exact ⟨D, h4, by omega, by omega⟩
  · refine ⟨d', hd'.pot, rfl, ?_⟩
    have := TT_le (n := n) (fr := fr) (to := to) (lim := lim) (x := aX x ps a L) d'
    omega
end Aug
