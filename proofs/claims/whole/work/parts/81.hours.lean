/-! hours -/
noncomputable def nA (b : Bk) (v t : Nat) : Nat := v * 9 + @ite _ (endB b v) (Classical.propDecidable _) 0 t
def dlB (b : Bk) (e : Nat) : Nat := (bB b e 4).toNat
def hlp (b : Bk) (N t e : Nat) : Prop := 0 < capB b e ∧ tf (T0 b) e ≠ bz b ∧ tt (T0 b) e ≠ bs b ∧ t + dlB b e ≤ N
noncomputable def gH (b : Bk) (N t : Nat) : Nat → AL
  | 0 => []
  | e + 1 => gH b N t e ++ @ite _ (hlp b N t e) (Classical.propDecidable _) [(nA b (tf (T0 b) e) t, nA b (tt (T0 b) e) (t + dlB b e), capB b e)] []
noncomputable def wH (b : Bk) (t : Nat) : Nat → AL
  | 0 => []
  | v + 1 => wH b t v ++ @ite _ (endB b v) (Classical.propDecidable _) [] [(nA b v t, nA b v (t + 1), 1000000000)]
noncomputable def hH (b : Bk) (N : Nat) : Nat → AL
  | 0 => []
  | t + 1 => hH b N t ++ (gH b N t (bn b) ++ wH b t 12)
def gR (b : Bk) (N t : Nat) : Nat → AL
  | 0 => []
  | e + 1 => gR b N t e ++ (if t + dlB b e ≤ N then [(12 * t + tf (T0 b) e, 12 * (t + dlB b e) + tt (T0 b) e, capB b e)] else [])
def wR (t : Nat) : Nat → AL
  | 0 => []
  | v + 1 => wR t v ++ [(12 * t + v, 12 * (t + 1) + v, 100000000)]
def hR (b : Bk) (N : Nat) : Nat → AL
  | 0 => []
  | t + 1 => hR b N t ++ (wR t 12 ++ gR b N t (bn b))
section Hours
variable {b : Bk} {d : DS} {N : Nat} {S : Nat → Bool} {σ : PS} {Φ : Int → PS → Prop}
theorem nA_y {v t : Nat} (h : endB b v) : nA b v t = v * 9 := by
  unfold nA
  rw [if_pos h]; rfl
theorem nA_n {v t : Nat} (h : ¬ endB b v) : nA b v t = v * 9 + t := by
  unfold nA
  rw [if_neg h]
theorem nA_lt {v t : Nat} (hv : v < 12) (ht : t ≤ 8) : nA b v t < 108 ∧ nA b v t / 9 = v := by
  by_cases h : endB b v
  · rw [nA_y h]; omega
  · rw [nA_n h]; omega
theorem dl_rng (hb : okB b) {e : Nat} (he : e < bn b) : 1 ≤ dlB b e ∧ dlB b e ≤ 3 ∧ bB b e 4 = (dlB b e : Int) := by
  have := hb.2.2.2.2 e he
  unfold okG at this
  unfold dlB
  omega
theorem gH_y {t e : Nat} (h : hlp b N t e) : gH b N t (e + 1) = gH b N t e ++ [(nA b (tf (T0 b) e) t, nA b (tt (T0 b) e) (t + dlB b e), capB b e)] := by
  rw [gH, if_pos h]
theorem gH_n {t e : Nat} (h : ¬ hlp b N t e) : gH b N t (e + 1) = gH b N t e := by
  rw [gH, if_neg h, List.append_nil]
theorem wH_y {t v : Nat} (h : endB b v) : wH b t (v + 1) = wH b t v := by
  rw [wH, if_pos h, List.append_nil]
theorem wH_n {t v : Nat} (h : ¬ endB b v) : wH b t (v + 1) = wH b t v ++ [(nA b v t, nA b v (t + 1), 1000000000)] := by
  rw [wH, if_neg h]
theorem gH_ok (hb : okB b) (hN : N ≤ 8) {t : Nat} : ∀ e, e ≤ bn b → okLs 108 (gH b N t e) ∧ (gH b N t e).length ≤ e ∧ ∀ x, 0 ≤ outL x (gH b N t e) ∧ outL x (gH b N t e) ≤ e * 999 := by
  intro e
  induction e with
  | zero => intro _; exact ⟨okLs.nil, Nat.le_refl _, fun x => ⟨Int.le_refl _, by show (0 : Int) ≤ (0 : Nat) * 999; omega⟩⟩
  | succ e ih =>
    intro he
    obtain ⟨h1, h2, h3⟩ := ih (by omega)
    have hT := (okT_T0 hb).2.1 e he
    have hc := capB_rng hb he
    by_cases q : hlp b N t e
    · rw [gH_y q]
      have hq := q.2.2.2
      have n1 := @nA_lt b (tf (T0 b) e) t hT.1 (by omega)
      have n2 := @nA_lt b (tt (T0 b) e) (t + dlB b e) hT.2.1 (by omega)
      refine ⟨h1.app (okLs.one n1.1 n2.1 (fun z => hT.2.2 (by rw [← n1.2, ← n2.2, z])) (by omega)), by rw [List.length_append, List.length_singleton]; omega, fun x => ?_⟩
      rw [outL_app, outL_one]
      have := h3 x
      split <;> omega
    · rw [gH_n q]
      exact ⟨h1, by omega, fun x => by have := h3 x; omega⟩
theorem wH_ok {t : Nat} (ht : t + 1 ≤ 8) : ∀ v, v ≤ 12 → okLs 108 (wH b t v) ∧ (wH b t v).length ≤ v ∧ ∀ x, (∃ u, u < 12 ∧ endB b u ∧ x = u * 9) → outL x (wH b t v) = 0 := by
  intro v
  induction v with
  | zero => intro _; exact ⟨okLs.nil, Nat.le_refl _, fun x _ => rfl⟩
  | succ v ih =>
    intro hv
    obtain ⟨h1, h2, h3⟩ := ih (by omega)
    by_cases q : endB b v
    · rw [wH_y q]; exact ⟨h1, by omega, h3⟩
    · rw [wH_n q]
      have n1 := @nA_lt b v t (by omega) (by omega)
      have n2 := @nA_lt b v (t + 1) (by omega) (by omega)
      have e1 := @nA_n b v t q
      have e2 := @nA_n b v (t + 1) q
      refine ⟨h1.app (okLs.one n1.1 n2.1 (by omega) (by omega)), by rw [List.length_append, List.length_singleton]; omega, fun x hx => ?_⟩
      rw [outL_app, outL_one, h3 x hx]
      obtain ⟨u, u1, u2, u3⟩ := hx
      rw [if_neg (fun z => ?_)]
      · rfl
      · have : v = u := by omega
        rw [this] at q; exact q u2
theorem hH_ok (hb : okB b) (hN : N ≤ 8) : ∀ t, t ≤ N → okLs 108 (hH b N t) ∧ (hH b N t).length ≤ 42 * t ∧ ∀ x, (∃ u, u < 12 ∧ endB b u ∧ x = u * 9) → 0 ≤ outL x (hH b N t) ∧ outL x (hH b N t) ≤ t * 29970 := by
  have hn := hb.1
  intro t
  induction t with
  | zero => intro _; exact ⟨okLs.nil, Nat.le_refl _, fun x _ => ⟨Int.le_refl _, by show (0 : Int) ≤ (0 : Nat) * 29970; omega⟩⟩
  | succ t ih =>
    intro ht
    obtain ⟨h1, h2, h3⟩ := ih (by omega)
    obtain ⟨g1, g2, g3⟩ := gH_ok (N := N) (t := t) hb hN _ (Nat.le_refl _)
    obtain ⟨w1, w2, w3⟩ := @wH_ok b t (by omega) 12 (Nat.le_refl _)
    have e : hH b N (t + 1) = hH b N t ++ (gH b N t (bn b) ++ wH b t 12) := rfl
    rw [e]
    refine ⟨h1.app (g1.app w1), by rw [List.length_append, List.length_append]; omega, fun x hx => ?_⟩
    rw [outL_app, outL_app, w3 x hx]
    have a := h3 x hx
    have c := g3 x
    omega
theorem gR_ok (hb : okB b) {t : Nat} (ht : t ≤ N) : ∀ e, e ≤ bn b → okLs (12 * (N + 1)) (gR b N t e) ∧ ∀ x, 0 ≤ outL x (gR b N t e) ∧ (outL x (gR b N t e) ≤ e * 999) ∧ (x / 12 ≠ t → outL x (gR b N t e) = 0) := by
  intro e
  induction e with
  | zero => intro _; exact ⟨okLs.nil, fun x => ⟨Int.le_refl _, by show (0 : Int) ≤ (0 : Nat) * 999; omega, fun _ => rfl⟩⟩
  | succ e ih =>
    intro he
    obtain ⟨h1, h3⟩ := ih (by omega)
    have hT := (okT_T0 hb).2.1 e he
    have hc := capB_rng hb he
    have hd := dl_rng hb he
    have ee : gR b N t (e + 1) = gR b N t e ++ (if t + dlB b e ≤ N then [(12 * t + tf (T0 b) e, 12 * (t + dlB b e) + tt (T0 b) e, capB b e)] else []) := rfl
    rw [ee]
    by_cases q : t + dlB b e ≤ N
    · rw [if_pos q]
      refine ⟨h1.app (okLs.one (by omega) (by omega) (by omega) (by omega)), fun x => ?_⟩
      rw [outL_app, outL_one]
      have := h3 x
      by_cases p : 12 * t + tf (T0 b) e = x
      · rw [if_pos p]
        exact ⟨by omega, by omega, fun z => by omega⟩
      · rw [if_neg p]
        exact ⟨by omega, by omega, fun z => by have := this.2.2 z; omega⟩
    · rw [if_neg q, List.append_nil]
      exact ⟨h1, fun x => by have := h3 x; exact ⟨this.1, by omega, this.2.2⟩⟩
theorem wR_ok {t : Nat} (ht : t + 1 ≤ N) : ∀ v, v ≤ 12 → okLs (12 * (N + 1)) (wR t v) ∧ ∀ x, 0 ≤ outL x (wR t v) ∧ outL x (wR t v) ≤ 100000000 ∧ (x / 12 ≠ t ∨ v ≤ x % 12 → outL x (wR t v) = 0) := by
  intro v
  induction v with
  | zero => intro _; exact ⟨okLs.nil, fun x => ⟨Int.le_refl _, by show (0 : Int) ≤ _; omega, fun _ => rfl⟩⟩
  | succ v ih =>
    intro hv
    obtain ⟨h1, h3⟩ := ih (by omega)
    have ee : wR t (v + 1) = wR t v ++ [(12 * t + v, 12 * (t + 1) + v, 100000000)] := rfl
    rw [ee]
    refine ⟨h1.app (okLs.one (by omega) (by omega) (by omega) (by omega)), fun x => ?_⟩
    rw [outL_app, outL_one]
    have := h3 x
    by_cases p : 12 * t + v = x
    · rw [if_pos p, this.2.2 (Or.inr (by omega))]
      exact ⟨by omega, by omega, fun z => by omega⟩
    · rw [if_neg p]
      refine ⟨by omega, by omega, fun z => ?_⟩
      rw [this.2.2 (by omega)]; rfl
theorem hR_ok (hb : okB b) : ∀ t, t ≤ N → okLs (12 * (N + 1)) (hR b N t) ∧ ∀ x, 0 ≤ outL x (hR b N t) ∧ outL x (hR b N t) ≤ 100029970 ∧ (t ≤ x / 12 → outL x (hR b N t) = 0) := by
  have hn := hb.1
  intro t
  induction t with
  | zero => intro _; exact ⟨okLs.nil, fun x => ⟨Int.le_refl _, by show (0 : Int) ≤ _; omega, fun _ => rfl⟩⟩
  | succ t ih =>
    intro ht
    obtain ⟨h1, h3⟩ := ih (by omega)
    obtain ⟨g1, g3⟩ := gR_ok (N := N) hb (show t ≤ N by omega) _ (Nat.le_refl _)
    obtain ⟨w1, w3⟩ := @wR_ok N t (by omega) 12 (Nat.le_refl _)
    have e : hR b N (t + 1) = hR b N t ++ (wR t 12 ++ gR b N t (bn b)) := rfl
    rw [e]
    refine ⟨h1.app (w1.app g1), fun x => ?_⟩
    rw [outL_app, outL_app]
    have a := h3 x
    have c := g3 x
    have w := w3 x
    by_cases q : x / 12 = t
    · rw [a.2.2 (by omega)]
      exact ⟨by omega, by omega, fun z => by omega⟩
    · rw [c.2.2 q, w.2.2 (Or.inl q)]
      exact ⟨by omega, by omega, fun z => by have := a.2.2 (by omega); omega⟩
theorem hours_eq {v1 v2 : Int} (hb : okB b) (hN : 1 ≤ N ∧ N ≤ 8) (h1 : IsMF 108 (matL (hH b N N)) (bs b * 9) (bz b * 9) v1) (h2 : IsMF (12 * (N + 1)) (matL (hR b N N)) (bs b) (12 * N + bz b) v2) : v1 = v2 := by
  have hn := hb.1
  have hs := hb.2.1
  have hz := hb.2.2.1
  have hsz := hb.2.2.2.1
  obtain ⟨o1, o1l, o1o⟩ := hH_ok (N := N) hb hN.2 N (Nat.le_refl _)
  obtain ⟨o2, o2o⟩ := hR_ok (N := N) hb N (Nat.le_refl _)
  have es : endB b (bs b) := Or.inl rfl
  have ez : endB b (bz b) := Or.inr rfl
  have small : v1 ≤ 240000 := by
    obtain ⟨f, S, h3, _⟩ := h1
    have a : v1 ≤ outf 108 (matL (hH b N N)) (bs b * 9) := by
      rw [← h3.2.2.2]
      exact sm_le (fun w hw => h3.2.1 _ w (by omega) hw)
    rw [out_matL o1] at a
    have := (o1o (bs b * 9) ⟨bs b, hs, es, rfl⟩).2
    omega
  refine Int.le_antisymm ?_ ?_
  · obtain ⟨S, s1, s2, s3⟩ := MF_cut o2 h2
    have wnn : ∀ t, t + 1 ≤ N → 0 ≤ cutL S (wR t 12) := fun t ht => cutL_nn (@wR_ok N t ht 12 (Nat.le_refl _)).1
    have gnn : ∀ t, t ≤ N → 0 ≤ cutL S (gR b N t (bn b)) := fun t ht => cutL_nn (gR_ok (N := N) hb ht _ (Nat.le_refl _)).1
    -- either it is great, or no wait is cut
    have w1 : ∀ t v, v ≤ 12 → (∀ u, u < v → S (12 * t + u) = true → S (12 * (t + 1) + u) = true) ∨ 100000000 ≤ cutL S (wR t v) := by
      intro t v
      induction v with
      | zero => intro _; exact Or.inl (fun u hu => absurd hu (Nat.not_lt_zero _))
      | succ v ih =>
        intro hv
        have ee : wR t (v + 1) = wR t v ++ [(12 * t + v, 12 * (t + 1) + v, 100000000)] := rfl
        have nn := cutL_nn (S := S) (@wR_ok (t + 1) t (Nat.le_refl _) v (by omega)).1
        rw [ee, cutL_app, cutL_one]
        by_cases p : S (12 * t + v) = true ∧ S (12 * (t + 1) + v) = false
        · rw [if_pos p]; exact Or.inr (by omega)
        · rw [if_neg p]
          rcases ih (by omega) with z | z
          · refine Or.inl (fun u hu hS => ?_)
            by_cases y : u = v
            · rw [y] at hS ⊢
              cases hh : S (12 * (t + 1) + v) with
              | true => rfl
              | false => exact absurd ⟨hS, hh⟩ p
            · exact z u (by omega) hS
          · exact Or.inr (by omega)
    have w2 : ∀ t, t ≤ N → (∀ h u, h < t → u < 12 → S (12 * h + u) = true → S (12 * (h + 1) + u) = true) ∨ 100000000 ≤ cutL S (hR b N t) := by
      intro t
      induction t with
      | zero => intro _; exact Or.inl (fun h u hh => absurd hh (Nat.not_lt_zero _))
      | succ t ih =>
        intro ht
        have e : hR b N (t + 1) = hR b N t ++ (wR t 12 ++ gR b N t (bn b)) := rfl
        have a0 := wnn t ht
        have a1 := gnn t (by omega)
        have a2 := cutL_nn (S := S) (hR_ok (N := N) hb t (by omega)).1
        rw [e, cutL_app, cutL_app]
        rcases ih (by omega) with z | z
        · rcases w1 t 12 (Nat.le_refl _) with y | y
          · refine Or.inl (fun h u hh hu hS => ?_)
            by_cases q : h = t
            · rw [q] at hS ⊢; exact y u hu hS
            · exact z h u (by omega) hu hS
          · exact Or.inr (by omega)
        · exact Or.inr (by omega)
    rcases w2 N (Nat.le_refl _) with mono | big
    · have up : ∀ u, u < 12 → ∀ t h, h + t ≤ N → S (12 * h + u) = true → S (12 * (h + t) + u) = true := by
        intro u hu t
        induction t with
        | zero => intro h _ hS; exact hS
        | succ t ih => intro h hh hS; exact mono (h + t) u (by omega) hu (ih h (by omega) hS)
      have allS : ∀ t, t ≤ N → S (12 * t + bs b) = true := fun t ht => by
        have := up (bs b) hs t 0 (by omega) (by rw [show 12 * 0 + bs b = bs b by omega]; exact s1)
        rw [show 0 + t = t by omega] at this
        exact this
      have noZ : ∀ t, t ≤ N → S (12 * t + bz b) = false := fun t ht => by
        cases hh : S (12 * t + bz b) with
        | false => rfl
        | true =>
          have := up (bz b) hz (N - t) t (by omega) hh
          rw [show t + (N - t) = N by omega, s2] at this
          cases this
      let S' : Nat → Bool := fun i => if i / 9 = bs b then true else if i / 9 = bz b then false else S (12 * (i % 9) + i / 9)
      have at_ : ∀ v t, v < 12 → t ≤ N → S' (nA b v t) = S (12 * t + v) := fun v t hv ht => by
        have h9 := (@nA_lt b v t hv (by omega)).2
        show (if nA b v t / 9 = bs b then _ else _) = _
        rw [h9]
        by_cases q : v = bs b
        · rw [if_pos q, q, allS t ht]
        · rw [if_neg q]
          by_cases q2 : v = bz b
          · rw [if_pos q2, q2, noZ t ht]
          · rw [if_neg q2, @nA_n b v t (fun z => z.elim q q2), show (v * 9 + t) % 9 = t by omega]
      have c1 : S' (bs b * 9) = true := by
        have := at_ (bs b) 0 hs (by omega)
        rw [nA_y es] at this
        rw [this]; exact allS 0 (by omega)
      have c2 : S' (bz b * 9) = false := by
        have := at_ (bz b) 0 hz (by omega)
        rw [nA_y ez] at this
        rw [this]; exact noZ 0 (by omega)
      have hcut := MF_le o1 (by omega) h1 c1 c2
      have gc : ∀ t e, t ≤ N → e ≤ bn b → cutL S' (gH b N t e) ≤ cutL S (gR b N t e) := by
        intro t e ht
        induction e with
        | zero => intro _; exact Int.le_refl _
        | succ e ih =>
          intro he
          have i1 := ih (by omega)
          have hT := (okT_T0 hb).2.1 e he
          have hc := capB_rng hb he
          have ee : gR b N t (e + 1) = gR b N t e ++ (if t + dlB b e ≤ N then [(12 * t + tf (T0 b) e, 12 * (t + dlB b e) + tt (T0 b) e, capB b e)] else []) := rfl
          rw [ee]
          by_cases q : hlp b N t e
          · rw [gH_y q, if_pos q.2.2.2, cutL_app, cutL_app, cutL_one, cutL_one, at_ _ _ hT.1 ht, at_ _ _ hT.2.1 q.2.2.2]
            omega
          · rw [gH_n q, cutL_app]
            have : 0 ≤ cutL S (if t + dlB b e ≤ N then [(12 * t + tf (T0 b) e, 12 * (t + dlB b e) + tt (T0 b) e, capB b e)] else []) := by
              split
              · rw [cutL_one]; split <;> omega
              · exact Int.le_refl _
            omega
      have wc : ∀ t v, t + 1 ≤ N → v ≤ 12 → cutL S' (wH b t v) = 0 := by
        intro t v ht
        induction v with
        | zero => intro _; rfl
        | succ v ih =>
          intro hv
          by_cases q : endB b v
          · rw [wH_y q]; exact ih (by omega)
          · rw [wH_n q, cutL_app, cutL_one, ih (by omega), at_ _ _ (by omega) (by omega), at_ _ _ (by omega) ht, if_neg (fun z => ?_)]
            · rfl
            · have := mono t v (by omega) (by omega) z.1
              rw [z.2] at this; cases this
      have hc : ∀ t, t ≤ N → cutL S' (hH b N t) ≤ cutL S (hR b N t) := by
        intro t
        induction t with
        | zero => intro _; exact Int.le_refl _
        | succ t ih =>
          intro ht
          have i1 := ih (by omega)
          have e : hR b N (t + 1) = hR b N t ++ (wR t 12 ++ gR b N t (bn b)) := rfl
          have e2 : hH b N (t + 1) = hH b N t ++ (gH b N t (bn b) ++ wH b t 12) := rfl
          rw [e, e2, cutL_app, cutL_app, cutL_app, cutL_app, wc t 12 ht (Nat.le_refl _)]
          have := gc t (bn b) (by omega) (Nat.le_refl _)
          have := wnn t ht
          omega
      have := hc N (Nat.le_refl _)
      omega
    · omega
  · obtain ⟨S, s1, s2, s3⟩ := MF_cut o1 h1
    let S' : Nat → Bool := fun i => S (nA b (i % 12) (i / 12))
    have at_ : ∀ v t, v < 12 → S' (12 * t + v) = S (nA b v t) := fun v t hv => by
      show S (nA b ((12 * t + v) % 12) ((12 * t + v) / 12)) = _
      rw [show (12 * t + v) % 12 = v by omega, show (12 * t + v) / 12 = t by omega]
    have c1 : S' (bs b) = true := by
      have := at_ (bs b) 0 hs
      rw [show 12 * 0 + bs b = bs b by omega, nA_y es] at this
      rw [this]; exact s1
    have c2 : S' (12 * N + bz b) = false := by
      rw [at_ _ _ hz, nA_y ez]; exact s2
    have hcut := MF_le o2 (by omega) h2 c1 c2
    have gc : ∀ t e, t ≤ N → e ≤ bn b → cutL S' (gR b N t e) ≤ cutL S (gH b N t e) := by
      intro t e ht
      induction e with
      | zero => intro _; exact Int.le_refl _
      | succ e ih =>
        intro he
        have i1 := ih (by omega)
        have hT := (okT_T0 hb).2.1 e he
        have hc := capB_rng hb he
        have ee : gR b N t (e + 1) = gR b N t e ++ (if t + dlB b e ≤ N then [(12 * t + tf (T0 b) e, 12 * (t + dlB b e) + tt (T0 b) e, capB b e)] else []) := rfl
        rw [ee]
        by_cases q : hlp b N t e
        · rw [gH_y q, if_pos q.2.2.2, cutL_app, cutL_app, cutL_one, cutL_one, at_ _ _ hT.1, at_ _ _ hT.2.1]
          omega
        · rw [gH_n q, cutL_app]
          have : cutL S' (if t + dlB b e ≤ N then [(12 * t + tf (T0 b) e, 12 * (t + dlB b e) + tt (T0 b) e, capB b e)] else []) ≤ 0 := by
            by_cases p : t + dlB b e ≤ N
            · rw [if_pos p, cutL_one, at_ _ _ hT.1, at_ _ _ hT.2.1]
              by_cases y : S (nA b (tf (T0 b) e) t) = true ∧ S (nA b (tt (T0 b) e) (t + dlB b e)) = false
              · rw [if_pos y]
                by_cases c0 : 0 < capB b e
                · exfalso
                  refine q ⟨c0, fun z => ?_, fun z => ?_, p⟩
                  · rw [z, nA_y ez, s2] at y; cases y.1
                  · rw [z, nA_y es, s1] at y; cases y.2
                · omega
              · rw [if_neg y]; exact Int.le_refl _
            · rw [if_neg p]; exact Int.le_refl _
          omega
    have wc : ∀ t v, v ≤ 12 → cutL S' (wR t v) ≤ cutL S (wH b t v) := by
      intro t v
      induction v with
      | zero => intro _; exact Int.le_refl _
      | succ v ih =>
        intro hv
        have i1 := ih (by omega)
        have ee : wR t (v + 1) = wR t v ++ [(12 * t + v, 12 * (t + 1) + v, 100000000)] := rfl
        rw [ee, cutL_app, cutL_one, at_ _ _ (by omega), at_ _ _ (by omega)]
        by_cases q : endB b v
        · rw [wH_y q, nA_y q, nA_y q, if_neg (fun z => by rw [z.1] at z; cases z.2)]; omega
        · rw [wH_n q, cutL_app, cutL_one]
          split <;> omega
    have hc : ∀ t, t ≤ N → cutL S' (hR b N t) ≤ cutL S (hH b N t) := by
      intro t
      induction t with
      | zero => intro _; exact Int.le_refl _
      | succ t ih =>
        intro ht
        have i1 := ih (by omega)
        have e : hR b N (t + 1) = hR b N t ++ (wR t 12 ++ gR b N t (bn b)) := rfl
        have e2 : hH b N (t + 1) = hH b N t ++ (gH b N t (bn b) ++ wH b t 12) := rfl
        rw [e, e2, cutL_app, cutL_app, cutL_app, cutL_app]
        have := gc t (bn b) (by omega) (Nat.le_refl _)
        have := wc t 12 (Nat.le_refl _)
        omega
    have := hc N (Nat.le_refl _)
    omega
theorem c_nodeAt {x y : Int} {v t : Nat} (hx : x = v) (hy : y = t) (hb : okB b) (hC : cB 1 13 b σ) (hv : v < 12) (ht : t ≤ 8) (h : Φ (nA b v t : Nat) σ) : FX5_nodeAt x y σ Φ := by
  subst hx; subst hy
  unfold FX5_nodeAt LX5_nodeAt_16 LX5_nodeAt_21
  rw [hC.2.1, hC.2.2.1]
  by_cases q : endB b v
  · rw [nA_y q] at h
    have e : ((v : Int) * 9 + 0) = ((v * 9 : Nat) : Int) := by omega
    rw [e]
    rcases id q with q1 | q1
    · exact ⟨fun _ => ⟨⟨by omega, by omega⟩, fun c => by omega, fun _ => ⟨⟨by omega, by omega⟩, h⟩⟩, fun c => absurd (by omega) c⟩
    · exact ⟨fun _ => ⟨⟨by omega, by omega⟩, fun c => by omega, fun _ => ⟨⟨by omega, by omega⟩, h⟩⟩, fun _ => ⟨fun c => absurd (by omega) c, fun _ => ⟨⟨by omega, by omega⟩, fun c => by omega, fun _ => ⟨⟨by omega, by omega⟩, h⟩⟩⟩⟩
  · rw [nA_n q] at h
    have e : ((v : Int) * 9 + (t : Int)) = ((v * 9 + t : Nat) : Int) := by omega
    have n1 : ¬ v = bs b := fun z => q (Or.inl z)
    have n2 : ¬ v = bz b := fun z => q (Or.inr z)
    rw [e]
    exact ⟨fun c => absurd (by omega) n1, fun _ => ⟨fun _ => ⟨⟨by omega, by omega⟩, fun _ => ⟨⟨by omega, by omega⟩, h⟩, fun c => absurd rfl c⟩, fun c => absurd (by omega) n2⟩⟩
theorem c_inHours {x : Int} (hx : x = N) (hN : 1 ≤ N ∧ N ≤ 8) (hb : okB b) (hC : cB 1 13 b σ) (hΦ : ∀ (σ' : PS) (v : Int), Off [8, 49, 50, 51, 52, 53, 54, 55, 56] σ σ' → IsMF 108 (matL (hH b N N)) (bs b * 9) (bz b * 9) v → Φ v σ') : FX5_inHours x σ Φ := by
  subst hx
  have hn := hb.1
  have hs := hb.2.1
  have hz := hb.2.2.1
  have hsz := hb.2.2.2.1
  have hC' : ∀ σ1 : PS, Off [8, 49, 50, 51, 52, 53, 54, 55, 56] σ σ1 → cB 1 13 b σ1 := fun σ1 ho => hC.off ho (by simp) (fun w hw => by simp; omega)
  have l11 : ∀ (f t : Nat) (σ1 : PS), t ≤ N → N - t < f → Off [8, 49, 50, 51, 52, 53, 54, 55, 56] σ σ1 → NA 108 (hH b N t) σ1 → LX5_inHours_11 f N t σ1 Φ := by
    intro f
    induction f with
    | zero => intro t σ1 h1 h2; omega
    | succ f ih =>
      intro t σ1 ht hf ho hV
      have hC1 := hC' σ1 ho
      obtain ⟨o1, o1l, o1o⟩ := hH_ok (N := N) hb hN.2 t ht
      unfold LX5_inHours_11 BX5_inHours_11
      refine ⟨fun c => ?_, fun c => ?_⟩
      · have et : t = N := by omega
        rw [et] at hV o1 o1l o1o
        refine c_nodeAt (v := bs b) (t := 0) hC1.2.1 rfl hb hC1 hs (by omega) ?_
        refine c_nodeAt (v := bz b) (t := 0) hC1.2.2.1 rfl hb hC1 hz (by omega) ?_
        rw [nA_y (Or.inl rfl), nA_y (Or.inr rfl)]
        exact c_passL (s := bs b * 9) (t := bz b * 9) rfl rfl hV o1 (by omega) (by omega) (by omega) (by omega) (by omega) (by have := o1o (bs b * 9) ⟨bs b, hs, Or.inl rfl, rfl⟩; omega) (fun σ' v o' hF _ => hΦ σ' v (ho.trans (o'.mono (by simp))) hF)
      · have ht2 : t < N := by omega
        obtain ⟨g1, g2, g3⟩ := gH_ok (N := N) (t := t) hb hN.2 _ (Nat.le_refl _)
        have l145 : ∀ (f2 v : Nat) (σ1 : PS), v ≤ 12 → 12 - v < f2 → Off [8, 49, 50, 51, 52, 53, 54, 55, 56] σ σ1 → NA 108 (hH b N t ++ (gH b N t (bn b) ++ wH b t v)) σ1 → LX5_inHours_145 (fun x2 x3 σ => LX5_inHours_11 f x2 x3 σ Φ) f2 N t v σ1 Φ := by
          intro f2
          induction f2 with
          | zero => intro v σ1 h1 h2; omega
          | succ f2 ih2 =>
            intro v σ1 hv hf2 ho hV
            have hC1 := hC' σ1 ho
            obtain ⟨w1, w2, w3⟩ := @wH_ok b t (by omega) v hv
            have hlen : (hH b N t ++ (gH b N t (bn b) ++ wH b t v)).length ≤ 42 * t + 30 + v := by rw [List.length_append, List.length_append]; omega
            unfold LX5_inHours_145 BX5_inHours_145
            rw [hC1.2.1, hC1.2.2.1]
            refine ⟨fun c => ⟨⟨by omega, by omega⟩, ?_⟩, fun c => ?_⟩
            · have ev : v = 12 := by omega
              rw [ev] at hV
              exact ih (t + 1) σ1 (by omega) (by omega) ho hV
            · have nx : ∀ σ' : PS, Off [8, 49, 50, 51, 52, 53, 54, 55, 56] σ σ' → NA 108 (hH b N t ++ (gH b N t (bn b) ++ wH b t (v + 1))) σ' → LX5_inHours_196 (fun x2 x3 σ => LX5_inHours_11 f x2 x3 σ Φ) (fun x2 x3 x4 σ => LX5_inHours_145 (fun x2 x3 σ => LX5_inHours_11 f x2 x3 σ Φ) f2 x2 x3 x4 σ Φ) N t v σ' Φ := fun σ' a1 a2 => by
                unfold LX5_inHours_196
                exact ⟨⟨by omega, by omega⟩, ih2 (v + 1) σ' (by omega) (by omega) a1 a2⟩
              refine ⟨fun c1 => nx σ1 ho (by rw [wH_y (Or.inl (by omega))]; exact hV), fun c1 => ⟨fun c2 => nx σ1 ho (by rw [wH_y (Or.inr (by omega))]; exact hV), fun c2 => ?_⟩⟩
              have ne : ¬ endB b v := fun z => by rcases z with z | z <;> omega
              have n1 := @nA_lt b v t (by omega) (by omega)
              have n2 := @nA_lt b v (t + 1) (by omega) (by omega)
              have e1 := @nA_n b v t ne
              have e2 := @nA_n b v (t + 1) ne
              refine c_nodeAt (v := v) (t := t) rfl rfl hb hC1 (by omega) (by omega) ⟨⟨by omega, by omega⟩, c_nodeAt (v := v) (t := t + 1) rfl (by omega) hb hC1 (by omega) (by omega) ?_⟩
              refine c_joinL (a := nA b v t) (b := nA b v (t + 1)) rfl rfl hV (by omega) (by omega) n1.1 n2.1 (by omega) (by omega) (fun σ' o' hV' => nx σ' (ho.trans (o'.mono (by simp))) ?_)
              rw [wH_n ne, ← List.append_assoc, ← List.append_assoc]
              rw [← List.append_assoc] at hV'
              exact hV'
        have l19 : ∀ (f2 e : Nat) (σ1 : PS), e ≤ bn b → bn b - e < f2 → Off [8, 49, 50, 51, 52, 53, 54, 55, 56] σ σ1 → NA 108 (hH b N t ++ gH b N t e) σ1 → LX5_inHours_19 (fun x2 x3 σ => LX5_inHours_11 f x2 x3 σ Φ) f2 N t e σ1 Φ := by
          intro f2
          induction f2 with
          | zero => intro e σ1 h1 h2; omega
          | succ f2 ih2 =>
            intro e σ1 he hf2 ho hV
            have hC1 := hC' σ1 ho
            obtain ⟨q1, q2, q3⟩ := gH_ok (N := N) (t := t) hb hN.2 e he
            have hlen : (hH b N t ++ gH b N t e).length ≤ 42 * t + e := by rw [List.length_append]; omega
            unfold LX5_inHours_19 BX5_inHours_19
            rw [hC1.1]
            refine ⟨fun c => ⟨13, ?_⟩, fun c => ?_⟩
            · have ee : e = bn b := by omega
              rw [ee] at hV
              refine l145 13 0 σ1 (by omega) (by omega) ho ?_
              have : wH b t 0 = [] := rfl
              rw [this, List.append_nil]
              exact hV
            · have he2 : e < bn b := by omega
              have hT := (okT_T0 hb).2.1 e he2
              have hc := capB_rng hb he2
              have hd := dl_rng hb he2
              have hCN := CN_TN (lim := capB b) hb hC1
              have h17 : σ1 17 e = (dlB b e : Int) := by
                have := hC1.2.2.2 e he2 4 (by omega)
                rw [show 13 + 4 = 17 from rfl] at this
                rw [this]; exact hd.2.2
              have e0 : ((e : Nat) : Int).toNat = e := by omega
              have nx : ∀ σ' : PS, Off [8, 49, 50, 51, 52, 53, 54, 55, 56] σ σ' → NA 108 (hH b N t ++ gH b N t (e + 1)) σ' → LX5_inHours_136 (fun x2 x3 σ => LX5_inHours_11 f x2 x3 σ Φ) (fun x2 x3 x4 σ => LX5_inHours_19 (fun x2 x3 σ => LX5_inHours_11 f x2 x3 σ Φ) f2 x2 x3 x4 σ Φ) N t e σ' Φ := fun σ' a1 a2 => by
                unfold LX5_inHours_136
                exact ⟨⟨by omega, by omega⟩, ih2 (e + 1) σ' (by omega) (by omega) a1 a2⟩
              have no : ¬ hlp b N t e → LX5_inHours_69 (fun x2 x3 σ => LX5_inHours_11 f x2 x3 σ Φ) (fun x2 x3 x4 σ => LX5_inHours_19 (fun x2 x3 σ => LX5_inHours_11 f x2 x3 σ Φ) f2 x2 x3 x4 σ Φ) N t e σ1 Φ := fun hno => by
                unfold LX5_inHours_69 LX5_inHours_70
                exact ⟨fun _ => nx σ1 ho (by rw [gH_n hno]; exact hV), fun c => absurd rfl c⟩
              refine c_usable rfl hCN (CU_T0 hC1) hn he2 ?_
              have et : tl (T0 b) e = capB b e := rfl
              have f1 : σ1 13 e = (tf (T0 b) e : Int) := (hCN.2.2.2 e he2).1
              have f2' : σ1 14 e = (tt (T0 b) e : Int) := (hCN.2.2.2 e he2).2
              rw [et, e0, f1, f2', hC1.2.1, hC1.2.2.1]
              refine ⟨fun c1 => no (fun z => by have := z.1; omega), fun c1 => ⟨⟨by omega, by omega⟩, fun c2 => no (fun z => z.2.1 (by omega)), fun c2 => ⟨⟨by omega, by omega⟩, fun c3 => no (fun z => z.2.2.1 (by omega)), fun c3 => ?_⟩⟩⟩
              unfold LX5_inHours_70
              rw [e0, h17, f1]
              refine ⟨fun c4 => by omega, fun _ => ⟨⟨by omega, by omega⟩, ⟨by omega, by omega⟩, fun c4 => nx σ1 ho (by rw [gH_n (fun z => by have := z.2.2.2; omega)]; exact hV), fun c4 => ⟨⟨by omega, by omega⟩, ?_⟩⟩⟩
              have hl : hlp b N t e := ⟨by omega, fun z => c2 (by rw [z]), fun z => c3 (by rw [z]), by omega⟩
              have n1 := @nA_lt b (tf (T0 b) e) t hT.1 (by omega)
              have n2 := @nA_lt b (tt (T0 b) e) (t + dlB b e) hT.2.1 (by omega)
              refine c_nodeAt (v := tf (T0 b) e) (t := t) rfl rfl hb hC1 hT.1 (by omega) ⟨⟨by omega, by omega⟩, ⟨by omega, by omega⟩, ?_⟩
              rw [h17, f2']
              refine ⟨⟨by omega, by omega⟩, c_nodeAt (v := tt (T0 b) e) (t := t + dlB b e) rfl (by omega) hb hC1 hT.2.1 (by omega) ?_⟩
              refine c_usable rfl hCN (CU_T0 hC1) hn he2 ?_
              rw [et]
              refine c_joinL (a := nA b (tf (T0 b) e) t) (b := nA b (tt (T0 b) e) (t + dlB b e)) rfl rfl hV (by omega) (by omega) n1.1 n2.1 (fun z => hT.2.2 (by rw [← n1.2, ← n2.2, z])) (by omega) (fun σ' o' hV' => nx σ' (ho.trans (o'.mono (by simp))) ?_)
              rw [gH_y hl, ← List.append_assoc]
              exact hV'
        refine ⟨bn b + 1, l19 (bn b + 1) 0 σ1 (by omega) (by omega) ho ?_⟩
        have : gH b N t 0 = [] := rfl
        rw [this, List.append_nil]
        exact hV
  unfold FX5_inHours
  exact c_beginL (N := 108) rfl (by omega) (fun σ2 o2 hV2 => ⟨N + 1, l11 (N + 1) 0 σ2 (by omega) (by omega) (o2.mono (by simp)) hV2⟩)
theorem m_hours {x : Int} (hx : x = N) (hN : 1 ≤ N ∧ N ≤ 8) (hb : okB b) (hM : mB 1 b σ) (hΦ : ∀ (σ' : PS) (v : Int), MK σ σ' → IsMF (12 * (N + 1)) (matL (hR b N N)) (bs b) (12 * N + bz b) v → Φ v σ') : FX12_hours x σ Φ := by
  subst hx
  have hn := hb.1
  have hs := hb.2.1
  have hz := hb.2.2.1
  have hw : 12 * (N + 1) ≤ 108 := by omega
  unfold FX12_hours
  refine m_in (fun _ _ => ⟨fun _ => ⟨⟨by omega, by omega⟩, ⟨by omega, by omega⟩, ?_⟩, fun c => by omega⟩) (fun c => by omega)
  have l25 : ∀ (f t : Nat) (σ1 : PS), t ≤ N → N - t < f → MK σ σ1 → mB 1 b σ1 → SA (12 * (N + 1)) (hR b N t) σ1 → LX12_hours_25 f N t σ1 Φ := by
    intro f
    induction f with
    | zero => intro t σ1 h1 h2; omega
    | succ f ih =>
      intro t σ1 ht hf hk hM1 hS
      obtain ⟨o1, o1o⟩ := hR_ok (N := N) hb t ht
      unfold LX12_hours_25 BX12_hours_25
      rw [hM1.2.1, hM1.2.2.1]
      refine ⟨fun c => ?_, fun c => ⟨13, ?_⟩⟩
      · have et : t = N := by omega
        rw [et] at hS o1 o1o
        refine ⟨⟨by omega, by omega⟩, ⟨by omega, by omega⟩, m_passesL (s := bs b) (t := 12 * N + bz b) rfl (by omega) hS o1 hw (by omega) (by omega) (by omega) (fun u _ => by have := o1o u; omega) (fun σ' M v o' _ _ hF _ => hΦ σ' v (hk.trans (MK.off o' (by simp) (by simp))) hF)⟩
      · have ht2 : t < N := by omega
        have l66 : ∀ (f2 e : Nat) (σ1 : PS), e ≤ bn b → bn b - e < f2 → MK σ σ1 → mB 1 b σ1 → SA (12 * (N + 1)) (hR b N t ++ (wR t 12 ++ gR b N t e)) σ1 → LX12_hours_66 (fun x1 x2 σ => LX12_hours_25 f x1 x2 σ Φ) f2 N t e σ1 Φ := by
          intro f2
          induction f2 with
          | zero => intro e σ1 h1 h2; omega
          | succ f2 ih2 =>
            intro e σ1 he hf2 hk hM1 hS
            obtain ⟨q1, q2⟩ := gR_ok (N := N) hb (show t ≤ N by omega) e he
            obtain ⟨w1, w3⟩ := @wR_ok N t (by omega) 12 (Nat.le_refl _)
            unfold LX12_hours_66 BX12_hours_66
            rw [hM1.1]
            refine ⟨fun c => ⟨⟨by omega, by omega⟩, ?_⟩, fun c => ?_⟩
            · have ee : e = bn b := by omega
              rw [ee] at hS
              exact ih (t + 1) σ1 (by omega) (by omega) hk hM1 hS
            · have he2 : e < bn b := by omega
              have hT := (okT_T0 hb).2.1 e he2
              have hc := capB_rng hb he2
              have hd := dl_rng hb he2
              have nx : ∀ σ' : PS, MK σ σ' → mB 1 b σ' → SA (12 * (N + 1)) (hR b N t ++ (wR t 12 ++ gR b N t (e + 1))) σ' → LX12_hours_126 (fun x1 x2 σ => LX12_hours_25 f x1 x2 σ Φ) (fun x1 x2 x3 σ => LX12_hours_66 (fun x1 x2 σ => LX12_hours_25 f x1 x2 σ Φ) f2 x1 x2 x3 σ Φ) N t e σ' Φ := fun σ' a1 a2 a3 => by
                unfold LX12_hours_126
                exact ⟨⟨by omega, by omega⟩, ih2 (e + 1) σ' (by omega) (by omega) a1 a2 a3⟩
              have ee : gR b N t (e + 1) = gR b N t e ++ (if t + dlB b e ≤ N then [(12 * t + tf (T0 b) e, 12 * (t + dlB b e) + tt (T0 b) e, capB b e)] else []) := rfl
              refine m_at (w := 4) rfl rfl hb hM1 he2 (by omega) ?_
              rw [hd.2.2]
              refine ⟨⟨by omega, by omega⟩, fun c1 => nx σ1 hk hM1 (by rw [ee, if_neg (by omega), List.append_nil]; exact hS), fun c1 => ⟨⟨by omega, by omega⟩, m_at (w := 0) rfl rfl hb hM1 he2 (by omega) ?_⟩⟩
              rw [(bB_n (w := 0) hb he2).1]
              refine ⟨⟨by omega, by omega⟩, m_at (w := 4) rfl rfl hb hM1 he2 (by omega) ?_⟩
              rw [hd.2.2]
              refine ⟨⟨by omega, by omega⟩, ⟨by omega, by omega⟩, m_at (w := 1) rfl rfl hb hM1 he2 (by omega) ?_⟩
              rw [(bB_n (w := 0) hb he2).2]
              refine ⟨⟨by omega, by omega⟩, m_capacity rfl hb hM1 he2 ?_⟩
              have hout : outL (12 * t + tf (T0 b) e) (hR b N t ++ (wR t 12 ++ gR b N t e)) ≤ 1000000000 := by
                rw [outL_app, outL_app]
                have a1 := o1o (12 * t + tf (T0 b) e)
                have a2 := w3 (12 * t + tf (T0 b) e)
                have a3 := q2 (12 * t + tf (T0 b) e)
                omega
              refine m_addsL (a := 12 * t + tf (T0 b) e) (b := 12 * (t + dlB b e) + tt (T0 b) e) (by omega) (by omega) hS (o1.app (w1.app q1)) hw (by omega) (by omega) (by omega) hout (fun σ' o' hS' => nx σ' (hk.trans (MK.off o' (by simp) (by simp))) (hM1.keep (o' 1 (by simp))) ?_)
              rw [ee, if_pos (by omega)]
              rw [List.append_assoc, List.append_assoc] at hS'
              exact hS'
        have l32 : ∀ (f2 v : Nat) (σ1 : PS), v ≤ 12 → 12 - v < f2 → MK σ σ1 → mB 1 b σ1 → SA (12 * (N + 1)) (hR b N t ++ wR t v) σ1 → LX12_hours_32 (fun x1 x2 σ => LX12_hours_25 f x1 x2 σ Φ) f2 N t v σ1 Φ := by
          intro f2
          induction f2 with
          | zero => intro v σ1 h1 h2; omega
          | succ f2 ih2 =>
            intro v σ1 hv hf2 hk hM1 hS
            obtain ⟨w1, w3⟩ := @wR_ok N t (by omega) v hv
            unfold LX12_hours_32 BX12_hours_32
            refine ⟨fun c => ⟨bn b + 1, ?_⟩, fun c => ⟨⟨by omega, by omega⟩, ⟨by omega, by omega⟩, ⟨by omega, by omega⟩, ⟨by omega, by omega⟩, ⟨by omega, by omega⟩, ?_⟩⟩
            · have ev : v = 12 := by omega
              rw [ev] at hS
              refine l66 (bn b + 1) 0 σ1 (by omega) (by omega) hk hM1 ?_
              have : gR b N t 0 = [] := rfl
              rw [this, List.append_nil]
              exact hS
            · have hout : outL (12 * t + v) (hR b N t ++ wR t v) ≤ 1000000000 := by
                rw [outL_app]
                have a1 := o1o (12 * t + v)
                have a2 := w3 (12 * t + v)
                omega
              refine m_addsL (a := 12 * t + v) (b := 12 * (t + 1) + v) (by omega) (by omega) hS (o1.app w1) hw (by omega) (by omega) (by omega) hout (fun σ' o' hS' => ⟨⟨by omega, by omega⟩, ih2 (v + 1) σ' (by omega) (by omega) (hk.trans (MK.off o' (by simp) (by simp))) (hM1.keep (o' 1 (by simp))) ?_⟩)
              rw [List.append_assoc] at hS'
              exact hS'
        refine l32 13 0 σ1 (by omega) (by omega) hk hM1 ?_
        have : wR t 0 = [] := rfl
        rw [this, List.append_nil]
        exact hS
  refine m_clearsL (w := 12 * (N + 1)) (by omega) hw (fun σ2 o2 z2 hS2 => ⟨N + 1, ?_⟩)
  have k2 : MK σ σ2 := ⟨fun j hj => o2 j (by simp at hj ⊢; omega), z2 2 (by omega), z2 29 (by omega), z2 36 (by omega)⟩
  exact l25 (N + 1) 0 σ2 (by omega) (by omega) k2 (hM.keep (k2.1 1 (by simp))) hS2
theorem p_hours (a1 : Int) : PT (FX11_hours a1) (FX12_hours a1) := by
  intro d σc σm hd hC hM
  have no : ¬ (1 ≤ a1 ∧ a1 ≤ 8) → FX12_hours a1 σm (fun r2 σm' => -2 = r2 ∧ ∃ d', okD d' ∧ CR d' σc ∧ MR d' σm') := fun hno => by
    unfold FX12_hours
    exact m_in (fun x y => absurd ⟨x, y⟩ hno) (fun _ => ⟨fun c => absurd rfl c, fun _ => ⟨rfl, d, hd, hC, hM⟩⟩)
  unfold FX11_hours
  refine ⟨fun c => no (by omega), fun c => ⟨fun c2 => no (by omega), fun c2 => ?_⟩⟩
  obtain ⟨N, ha⟩ : ∃ N : Nat, a1 = N := ⟨a1.toNat, by omega⟩
  refine c_inHours ha ⟨by omega, by omega⟩ hd.1 hC.1 (fun σ' v o' hF => ?_)
  have hC1 : CR d σ' := hC.off o' (fun i _ => by rw [o' 0 (by simp)]) (by rw [o' 9 (by simp)]) (fun k hk => by simp at hk ⊢; omega)
  exact m_hours ha ⟨by omega, by omega⟩ hd.1 hM.1 (fun σm' v2 k2 hF2 => ⟨hours_eq hd.1 ⟨by omega, by omega⟩ hF hF2, d, hd, hC1, hM.keep k2⟩)
end Hours
