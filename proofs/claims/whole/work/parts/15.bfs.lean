/-! a search by layers: d the distances so far (-1: none), q the queue of many, k of them done, C what has been looked at from the k-th -/
def BI (N : Nat) (st : Nat → Nat → Prop) (t : Nat) (d : Nat → Int) (q : Nat → Nat) (many k : Nat) (C : Nat → Prop) : Prop :=
  (k ≤ many ∧ 0 < many ∧ ∀ j, j < many → q j < N) ∧ (∀ i j, i < j → j < many → q i ≠ q j) ∧ (∀ v, v < N → -1 ≤ d v ∧ (0 ≤ d v → ∃ j, j < many ∧ q j = v)) ∧ (∀ j, j < many → 0 ≤ d (q j)) ∧ (d t = 0 ∧ ∀ v, v < N → v ≠ t → 0 ≤ d v → ∃ w, w < N ∧ st v w ∧ d w = d v - 1 ∧ 0 ≤ d w) ∧
  (∀ i j, i ≤ j → j < many → d (q i) ≤ d (q j)) ∧ (k < many → ∀ j, j < many → d (q j) ≤ d (q k) + 1) ∧ (∀ j, j < k → ∀ v, v < N → st v (q j) → 0 ≤ d v ∧ d v ≤ d (q j) + 1) ∧ (k < many → ∀ v, v < N → C v → 0 ≤ d v ∧ d v ≤ d (q k) + 1)
section Bfs
variable {N t many k u : Nat} {st : Nat → Nat → Prop} {d : Nat → Int} {q : Nat → Nat} {C : Nat → Prop}
theorem BI.init (ht : t < N) (hd : d t = 0) (hn : ∀ v, v < N → v ≠ t → d v = -1) (hq : q 0 = t) : BI N st t d q 1 0 (fun _ => False) := by
  refine ⟨⟨by omega, by omega, fun j hj => ?_⟩, fun i j hi hj => by omega, fun v hv => ?_, fun j hj => ?_, ⟨hd, fun v hv hne h0 => ?_⟩, fun i j hi hj => ?_, fun _ j hj => ?_, fun j hj => by omega, fun _ v _ h => h.elim⟩
  · rw [show j = 0 by omega, hq]; exact ht
  · by_cases e : v = t
    · rw [e, hd]; exact ⟨by omega, fun _ => ⟨0, by omega, hq⟩⟩
    · have := hn v hv e
      exact ⟨by omega, fun z => by omega⟩
  · rw [show j = 0 by omega, hq, hd]; omega
  · have := hn v hv hne; omega
  · rw [show i = 0 by omega, show j = 0 by omega]; exact Int.le_refl _
  · rw [show j = 0 by omega]; omega
theorem BI.room (h : BI N st t d q many k C) (hu : u < N) (hd : d u < 0) : many < N := by
  obtain ⟨⟨-, -, h1⟩, h2, h3, h4, -⟩ := h
  have := holes N (many + 1) (fun j => if j < many then q j else u) (fun i hi => by
    by_cases e : i < many
    · simp only [if_pos e]; exact h1 i e
    · simp only [if_neg e]; exact hu) (fun i j hij hj => by
    by_cases e : j < many
    · simp only [if_pos e, if_pos (show i < many by omega)]; exact h2 i j hij e
    · simp only [if_neg e, if_pos (show i < many by omega)]
      intro z
      have := h4 i (by omega)
      rw [z] at this
      omega)
  omega
theorem BI.lab {d' : Nat → Int} {q' : Nat → Nat} (h : BI N st t d q many k C) (hk : k < many) (hu : u < N) (hd : d u < 0) (hs : st u (q k)) (hd1 : d' u = d (q k) + 1) (hd2 : ∀ v, v < N → v ≠ u → d' v = d v) (hq1 : q' many = u) (hq2 : ∀ j, j < many → q' j = q j) : BI N st t d' q' (many + 1) k (fun v => C v ∨ v = u) := by
  obtain ⟨⟨h1, h2, h3⟩, h4, h5, h6, ⟨h7, h8⟩, h9, h10, h11, h12⟩ := h
  have hqu : ∀ j, j < many → q j ≠ u := fun j hj z => by
    have := h6 j hj
    rw [z] at this
    omega
  have hdq : ∀ j, j < many → d' (q' j) = d (q j) := fun j hj => by rw [hq2 j hj]; exact hd2 _ (h3 j hj) (hqu j hj)
  have h0 := h6 k hk
  have old : ∀ v, v < N → 0 ≤ d v → d' v = d v := fun v hv z => hd2 v hv (fun e => by rw [e] at z; omega)
  refine ⟨⟨by omega, by omega, fun j hj => ?_⟩, fun i j hi hj => ?_, fun v hv => ?_, fun j hj => ?_, ⟨?_, fun v hv hne z => ?_⟩, fun i j hi hj => ?_, fun _ j hj => ?_, fun j hj v hv z => ?_, fun _ v hv z => ?_⟩
  · by_cases e : j = many
    · rw [e, hq1]; exact hu
    · rw [hq2 j (by omega)]; exact h3 j (by omega)
  · by_cases e : j = many
    · rw [e, hq1, hq2 i (by omega)]; exact hqu i (by omega)
    · rw [hq2 i (by omega), hq2 j (by omega)]; exact h4 i j hi (by omega)
  · by_cases e : v = u
    · rw [e, hd1]; exact ⟨by omega, fun _ => ⟨many, by omega, hq1⟩⟩
    · rw [hd2 v hv e]
      refine ⟨(h5 v hv).1, fun z => ?_⟩
      obtain ⟨j, a, b⟩ := (h5 v hv).2 z
      exact ⟨j, by omega, by rw [hq2 j a]; exact b⟩
  · by_cases e : j = many
    · rw [e, hq1, hd1]; omega
    · rw [hdq j (by omega)]; exact h6 j (by omega)
  · by_cases e : t = u
    · rw [← e, h7] at hd; omega
    · by_cases ht : t < N
      · rw [hd2 t ht e]; exact h7
      · obtain ⟨j, a, b⟩ : ∃ j, j < many ∧ q j = t := by
          by_cases z : t < N
          · exact absurd z ht
          · exact ⟨k, hk, by
              exfalso
              have w := h8 u hu (fun zz => e zz.symm)
              exact ht (by
                have : ∀ m : Nat, ∀ v, v < N → d v = m → t < N := fun m => by
                  induction m with
                  | zero =>
                    intro v hv hz
                    by_cases hvt : v = t
                    · rw [← hvt]; exact hv
                    · obtain ⟨w, _, _, w1, w2⟩ := h8 v hv hvt (by omega)
                      omega
                  | succ m ih =>
                    intro v hv hz
                    by_cases hvt : v = t
                    · rw [← hvt]; exact hv
                    · obtain ⟨w, w0, _, w1, w2⟩ := h8 v hv hvt (by omega)
                      exact ih w w0 (by omega)
                exact this (d (q k)).toNat (q k) (h3 k hk) (by omega))⟩
        rw [← b] at ht
        exact absurd (h3 j a) ht
  · by_cases e : v = u
    · subst e
      exact ⟨q k, h3 k hk, hs, by rw [old _ (h3 k hk) h0, hd1]; omega, by rw [old _ (h3 k hk) h0]; omega⟩
    · rw [hd2 v hv e] at z ⊢
      obtain ⟨w, a, b, c1, c2⟩ := h8 v hv hne z
      exact ⟨w, a, b, by rw [old w a c2]; exact c1, by rw [old w a c2]; exact c2⟩
  · by_cases e : j = many
    · by_cases e2 : i = many
      · rw [e, e2]; exact Int.le_refl _
      · have := h10 hk i (by omega)
        rw [e, hq1, hd1, hdq i (by omega)]; exact this
    · rw [hdq i (by omega), hdq j (by omega)]; exact h9 i j hi (by omega)
  · rw [hdq k hk]
    by_cases e : j = many
    · rw [e, hq1, hd1]; exact Int.le_refl _
    · rw [hdq j (by omega)]; exact h10 hk j (by omega)
  · rw [hdq j (by omega)]
    rw [hq2 j (by omega)] at z
    have := h11 j hj v hv z
    rw [old v hv this.1]
    exact this
  · rw [hdq k hk]
    rcases z with z | z
    · have := h12 hk v hv z
      rw [old v hv this.1]
      exact this
    · rw [z, hd1]; omega
theorem BI.skip (h : BI N st t d q many k C) (hd : 0 ≤ d u) : BI N st t d q many k (fun v => C v ∨ v = u) := by
  obtain ⟨h1, h4, h5, h6, h7, h9, h10, h11, h12⟩ := h
  refine ⟨h1, h4, h5, h6, h7, h9, h10, h11, fun hk v hv z => ?_⟩
  rcases z with z | z
  · exact h12 hk v hv z
  · subst z
    obtain ⟨j, a, b⟩ := (h5 v hv).2 hd
    have := h10 hk j a
    rw [b] at this
    exact ⟨hd, this⟩
theorem BI.weak {C' : Nat → Prop} (h : BI N st t d q many k C) (hC : ∀ v, C' v → C v) : BI N st t d q many k C' := by
  obtain ⟨h1, h4, h5, h6, h7, h9, h10, h11, h12⟩ := h
  exact ⟨h1, h4, h5, h6, h7, h9, h10, h11, fun hk v hv z => h12 hk v hv (hC v z)⟩
theorem BI.next (h : BI N st t d q many k C) (hk : k < many) (hC : ∀ v, v < N → st v (q k) → C v) : BI N st t d q many (k + 1) (fun _ => False) := by
  obtain ⟨⟨h1, h2, h3⟩, h4, h5, h6, h7, h9, h10, h11, h12⟩ := h
  refine ⟨⟨by omega, h2, h3⟩, h4, h5, h6, h7, h9, fun hk1 j hj => ?_, fun j hj v hv z => ?_, fun _ v _ z => z.elim⟩
  · have a := h10 hk j hj
    have b := h9 k (k + 1) (by omega) hk1
    omega
  · by_cases e : j = k
    · subst e; exact h12 hk v hv (hC v hv z)
    · exact h11 j (by omega) v hv z
theorem BI.done (h : BI N st t d q many many C) : IsDist N st t d := by
  obtain ⟨⟨h1, h2, h3⟩, h4, h5, h6, h7, h9, h10, h11, h12⟩ := h
  refine ⟨h7.1, fun v hv => (h5 v hv).1, h7.2, fun v w hv hw hs h0 => ?_⟩
  obtain ⟨j, a, b⟩ := (h5 w hw).2 h0
  rw [← b] at hs ⊢
  exact h11 j a v hv hs
theorem BI.eqs {d' : Nat → Int} {q' : Nat → Nat} (h : BI N st t d q many k C) (ht : t < N) (hd : ∀ v, v < N → d' v = d v) (hq : ∀ j, j < many → q' j = q j) : BI N st t d' q' many k C := by
  obtain ⟨⟨h1, h2, h3⟩, h4, h5, h6, ⟨h7, h8⟩, h9, h10, h11, h12⟩ := h
  have e : ∀ j, j < many → d' (q' j) = d (q j) := fun j hj => by rw [hq j hj, hd _ (h3 j hj)]
  refine ⟨⟨h1, h2, fun j hj => by rw [hq j hj]; exact h3 j hj⟩, fun i j hi hj => by rw [hq i (by omega), hq j hj]; exact h4 i j hi hj, fun v hv => ?_, fun j hj => by rw [e j hj]; exact h6 j hj, ⟨by rw [hd t ht]; exact h7, fun v hv hne z => ?_⟩, fun i j hi hj => by rw [e i (by omega), e j hj]; exact h9 i j hi hj, fun hk j hj => by rw [e j hj, e k hk]; exact h10 hk j hj, fun j hj v hv z => ?_, fun hk v hv z => ?_⟩
  · rw [hd v hv]
    refine ⟨(h5 v hv).1, fun z => ?_⟩
    obtain ⟨j, a, b⟩ := (h5 v hv).2 z
    exact ⟨j, a, by rw [hq j a]; exact b⟩
  · rw [hd v hv] at z ⊢
    obtain ⟨w, a, b, c1, c2⟩ := h8 v hv hne z
    exact ⟨w, a, b, by rw [hd w a]; exact c1, by rw [hd w a]; exact c2⟩
  · rw [hq j (by omega)] at z
    rw [e j (by omega), hd v hv]
    exact h11 j hj v hv z
  · rw [e k hk, hd v hv]
    exact h12 hk v hv z
end Bfs
