/-! ways that have no gate, or no node, in common -/
def endB (b : Bk) (v : Nat) : Prop := v = bs b ∨ v = bz b
noncomputable def apC (b : Bk) (k v : Nat) : Int := @ite _ (k = 0 ∨ endB b v) (Classical.propDecidable _) 1000000000 1
noncomputable def apR (b : Bk) (k v : Nat) : Int := @ite _ (k = 0 ∨ endB b v) (Classical.propDecidable _) 30 1
noncomputable def nodC (b : Bk) (k : Nat) : Nat → AL
  | 0 => []
  | v + 1 => nodC b k v ++ [(v, 12 + v, apC b k v)]
noncomputable def nodR (b : Bk) (k : Nat) : Nat → AL
  | 0 => []
  | v + 1 => nodR b k v ++ [(v, 12 + v, apR b k v)]
noncomputable def gatA (b : Bk) : Nat → AL
  | 0 => []
  | e + 1 => gatA b e ++ (if 0 < capB b e then [(12 + tf (T0 b) e, tt (T0 b) e, 1)] else [])
/-- a node below n with much room whose arc is cut -/
def apX (b : Bk) (k : Nat) (S : Nat → Bool) (n : Nat) : Prop := ∃ u, u < n ∧ (k = 0 ∨ endB b u) ∧ S u = true ∧ S (12 + u) = false
noncomputable def apI (b : Bk) (k : Nat) (S : Nat → Bool) (n : Nat) : Int := @ite _ (apX b k S n) (Classical.propDecidable _) 30 0
section Apart
variable {b : Bk} {d : DS} {k : Nat} {S : Nat → Bool} {σ : PS} {Φ : Int → PS → Prop}
theorem apC_y {v : Nat} (h : k = 0 ∨ endB b v) : apC b k v = 1000000000 ∧ apR b k v = 30 := by
  unfold apC apR
  exact ⟨if_pos h, if_pos h⟩
theorem apC_n {v : Nat} (h : ¬ (k = 0 ∨ endB b v)) : apC b k v = 1 ∧ apR b k v = 1 := by
  unfold apC apR
  exact ⟨if_neg h, if_neg h⟩
theorem apI_y {n : Nat} (h : apX b k S n) : apI b k S n = 30 := by unfold apI; exact if_pos h
theorem apI_n {n : Nat} (h : ¬ apX b k S n) : apI b k S n = 0 := by unfold apI; exact if_neg h
theorem apI_nn (n : Nat) : 0 ≤ apI b k S n := by
  by_cases h : apX b k S n
  · rw [apI_y h]; omega
  · rw [apI_n h]; omega
theorem apI_s {n : Nat} (h : ¬ ((k = 0 ∨ endB b n) ∧ S n = true ∧ S (12 + n) = false)) : apI b k S (n + 1) = apI b k S n := by
  by_cases q : apX b k S n
  · rw [apI_y q]
    obtain ⟨u, a, c⟩ := q
    exact apI_y ⟨u, by omega, c⟩
  · rw [apI_n q]
    refine apI_n (fun ⟨u, a, c⟩ => ?_)
    by_cases z : u = n
    · rw [z] at c; exact h c
    · exact q ⟨u, by omega, c⟩
theorem nod_ok : ∀ v, v ≤ 12 → okLs 24 (nodC b k v) ∧ okLs 24 (nodR b k v) ∧ (nodC b k v).length = v := by
  intro v
  induction v with
  | zero => intro _; exact ⟨okLs.nil, okLs.nil, rfl⟩
  | succ v ih =>
    intro hv
    obtain ⟨h1, h2, h3⟩ := ih (by omega)
    have r : (0 ≤ apC b k v ∧ apC b k v ≤ 1000000000) ∧ (0 ≤ apR b k v ∧ apR b k v ≤ 1000000000) := by
      by_cases q : k = 0 ∨ endB b v
      · rw [(apC_y q).1, (apC_y q).2]; omega
      · rw [(apC_n q).1, (apC_n q).2]; omega
    refine ⟨h1.app (okLs.one (by omega) (by omega) (by omega) r.1), h2.app (okLs.one (by omega) (by omega) (by omega) r.2), ?_⟩
    show (nodC b k v ++ _).length = _
    rw [List.length_append, h3]; rfl
theorem gat_ok (hb : okB b) : ∀ e, e ≤ bn b → okLs 24 (gatA b e) ∧ (gatA b e).length ≤ e := by
  have hT := okT_T0 hb
  intro e
  induction e with
  | zero => intro _; exact ⟨okLs.nil, Nat.le_refl _⟩
  | succ e ih =>
    intro he
    obtain ⟨h1, h2⟩ := ih (by omega)
    have hN := hT.2.1 e he
    have ee : gatA b (e + 1) = gatA b e ++ (if 0 < capB b e then [(12 + tf (T0 b) e, tt (T0 b) e, 1)] else []) := rfl
    rw [ee]
    by_cases q : 0 < capB b e
    · rw [if_pos q]
      refine ⟨h1.app (okLs.one (by omega) (by omega) (by omega) (by omega)), ?_⟩
      rw [List.length_append, List.length_singleton]; omega
    · rw [if_neg q]
      exact ⟨h1.app okLs.nil, by rw [List.length_append, List.length_nil]; omega⟩
theorem nod_out {x : Nat} : ∀ v, (x < v → outL x (nodC b k v) = apC b k x ∧ outL x (nodR b k v) = apR b k x) ∧ (¬ x < v → outL x (nodC b k v) = 0 ∧ outL x (nodR b k v) = 0) := by
  intro v
  induction v with
  | zero => exact ⟨fun h => absurd h (Nat.not_lt_zero _), fun _ => ⟨rfl, rfl⟩⟩
  | succ v ih =>
    have e1 : nodC b k (v + 1) = nodC b k v ++ [(v, 12 + v, apC b k v)] := rfl
    have e2 : nodR b k (v + 1) = nodR b k v ++ [(v, 12 + v, apR b k v)] := rfl
    rw [e1, e2, outL_app, outL_app, outL_one, outL_one]
    by_cases q : v = x
    · rw [if_pos q, if_pos q, (ih.2 (by omega)).1, (ih.2 (by omega)).2, q]
      exact ⟨fun _ => ⟨by omega, by omega⟩, fun h => by omega⟩
    · rw [if_neg q, if_neg q]
      refine ⟨fun h => ?_, fun h => ?_⟩
      · rw [(ih.1 (by omega)).1, (ih.1 (by omega)).2]; exact ⟨by omega, by omega⟩
      · rw [(ih.2 (by omega)).1, (ih.2 (by omega)).2]; exact ⟨by omega, by omega⟩
theorem gat_out {x : Nat} : ∀ e, 0 ≤ outL x (gatA b e) ∧ outL x (gatA b e) ≤ e ∧ (x < 12 → outL x (gatA b e) = 0) := by
  intro e
  induction e with
  | zero => exact ⟨Int.le_refl _, Int.le_refl _, fun _ => rfl⟩
  | succ e ih =>
    have ee : gatA b (e + 1) = gatA b e ++ (if 0 < capB b e then [(12 + tf (T0 b) e, tt (T0 b) e, 1)] else []) := rfl
    rw [ee, outL_app]
    by_cases q : 0 < capB b e
    · rw [if_pos q, outL_one]
      by_cases p : 12 + tf (T0 b) e = x
      · rw [if_pos p]
        exact ⟨by omega, by omega, fun h => by omega⟩
      · rw [if_neg p]
        exact ⟨by omega, by omega, fun h => by have := ih.2.2 h; omega⟩
    · rw [if_neg q]
      show 0 ≤ outL x (gatA b e) + 0 ∧ outL x (gatA b e) + 0 ≤ ((e + 1 : Nat) : Int) ∧ (x < 12 → outL x (gatA b e) + 0 = 0)
      exact ⟨by omega, by omega, fun h => by have := ih.2.2 h; omega⟩
noncomputable def lsC (b : Bk) (k : Nat) : AL := nodC b k 12 ++ gatA b (bn b)
noncomputable def lsR (b : Bk) (k : Nat) : AL := nodR b k 12 ++ gatA b (bn b)
theorem lsC_ok (hb : okB b) : okLs 24 (lsC b k) ∧ okLs 24 (lsR b k) := ⟨(nod_ok 12 (Nat.le_refl _)).1.app (gat_ok hb _ (Nat.le_refl _)).1, (nod_ok 12 (Nat.le_refl _)).2.1.app (gat_ok hb _ (Nat.le_refl _)).1⟩
/-- the two nets let as much through -/
theorem apart_eq {v1 v2 : Int} (hb : okB b) (h1 : IsMF 24 (matL (lsC b k)) (bs b) (12 + bz b) v1) (h2 : IsMF 24 (matL (lsR b k)) (12 + bs b) (bz b) v2) : v1 = v2 := by
  have hn := hb.1
  have hs := hb.2.1
  have hz := hb.2.2.1
  have hsz := hb.2.2.2.1
  obtain ⟨o1, o2⟩ := @lsC_ok b k hb
  -- the class's is not great
  have small : v1 ≤ 30 := by
    have h := MF_le (S := fun i => decide (i = bs b ∨ i = 12 + bs b)) o1 (by omega) h1 (by simp) (by
      simp only [decide_eq_false_iff_not]
      omega)
    have nod0 : ∀ v, cutL (fun i => decide (i = bs b ∨ i = 12 + bs b)) (nodC b k v) ≤ 0 ∨ 12 < v := by
      intro v
      induction v with
      | zero => exact Or.inl (Int.le_refl _)
      | succ v ih =>
        by_cases q : 12 < v + 1
        · exact Or.inr q
        · refine Or.inl ?_
          have e1 : nodC b k (v + 1) = nodC b k v ++ [(v, 12 + v, apC b k v)] := rfl
          rw [e1, cutL_app, cutL_one, if_neg (fun z => ?_)]
          · rcases ih with z | z <;> omega
          · have a := of_decide_eq_true z.1
            have c := of_decide_eq_false z.2
            omega
    have gat0 : ∀ e, cutL (fun i => decide (i = bs b ∨ i = 12 + bs b)) (gatA b e) ≤ e := by
      intro e
      induction e with
      | zero => exact Int.le_refl _
      | succ e ih =>
        have ee : gatA b (e + 1) = gatA b e ++ (if 0 < capB b e then [(12 + tf (T0 b) e, tt (T0 b) e, 1)] else []) := rfl
        rw [ee, cutL_app]
        by_cases q : 0 < capB b e
        · rw [if_pos q, cutL_one]; split <;> omega
        · rw [if_neg q]
          show cutL _ (gatA b e) + 0 ≤ _
          omega
    have a := nod0 12
    have c := gat0 (bn b)
    unfold lsC at h
    rw [cutL_app] at h
    rcases a with a | a <;> omega
  refine Int.le_antisymm ?_ ?_
  · -- the cut of the reference's, and all that it must hold
    obtain ⟨S, s1, s2, s3⟩ := MF_cut o2 h2
    have nb : ∀ v, v < 12 → (¬ v + 12 < 12) := fun v _ => by omega
    let S' : Nat → Bool := fun i => if i < 12 then (decide (i = bs b) || S i) else (decide (i ≠ 12 + bz b) && (S i || @decide ((k = 0 ∨ endB b (i - 12)) ∧ S (i - 12) = true) (Classical.propDecidable _)))
    have in_ : ∀ v, v < 12 → (S' v = true ↔ v = bs b ∨ S v = true) := fun v hv => by
      show (if v < 12 then _ else _) = true ↔ _
      rw [if_pos hv]
      simp
    have out_ : ∀ v, v < 12 → (S' (12 + v) = true ↔ v ≠ bz b ∧ (S (12 + v) = true ∨ ((k = 0 ∨ endB b v) ∧ S v = true))) := fun v hv => by
      show (if 12 + v < 12 then _ else _) = true ↔ _
      rw [if_neg (by omega), show 12 + v - 12 = v by omega]
      simp only [Bool.and_eq_true, Bool.or_eq_true, decide_eq_true_eq]
      constructor
      · rintro ⟨a, c⟩
        exact ⟨fun z => a (by rw [z]), c⟩
      · rintro ⟨a, c⟩
        exact ⟨fun z => a (by omega), c⟩
    have hcut := MF_le (S := S') o1 (by omega) h1 ((in_ _ hs).mpr (Or.inl rfl)) (by
      cases hq : S' (12 + bz b) with
      | false => rfl
      | true => exact absurd rfl ((out_ _ hz).mp hq).1)
    -- X: nodes with much room whose arc is cut
    by_cases hX : apX b k S 12
    · have nod1 : ∀ v, v ≤ 12 → cutL S' (nodC b k v) + apI b k S v ≤ cutL S (nodR b k v) := by
        intro v
        induction v with
        | zero =>
          intro _
          rw [apI_n (fun ⟨u, hu, _⟩ => absurd hu (Nat.not_lt_zero _))]
          exact Int.le_refl _
        | succ v ih =>
          intro hv
          have i1 := ih (by omega)
          have e1 : nodC b k (v + 1) = nodC b k v ++ [(v, 12 + v, apC b k v)] := rfl
          have e2 : nodR b k (v + 1) = nodR b k v ++ [(v, 12 + v, apR b k v)] := rfl
          rw [e1, e2, cutL_app, cutL_app, cutL_one, cutL_one]
          by_cases q : k = 0 ∨ endB b v
          · have no : ¬ (S' v = true ∧ S' (12 + v) = false) := fun z => by
              rcases (in_ v (by omega)).mp z.1 with y | y
              · have : S' (12 + v) = true := (out_ v (by omega)).mpr ⟨by omega, Or.inl (by rw [y]; exact s1)⟩
                rw [z.2] at this; cases this
              · have : S' (12 + v) = true := (out_ v (by omega)).mpr ⟨fun w => (by rw [w, s2] at y; cases y), Or.inr ⟨q, y⟩⟩
                rw [z.2] at this; cases this
            rw [if_neg no, (apC_y q).2]
            by_cases p : S v = true ∧ S (12 + v) = false
            · rw [if_pos p, apI_y (show apX b k S (v + 1) from ⟨v, by omega, q, p.1, p.2⟩)]
              have := @apI_nn b k S v
              omega
            · rw [if_neg p, apI_s (fun z => p z.2)]
              omega
          · have hne : ¬ v = bs b ∧ ¬ v = bz b := ⟨fun z => q (Or.inr (Or.inl z)), fun z => q (Or.inr (Or.inr z))⟩
            have c1 : S' v = true ↔ S v = true := by rw [in_ v (by omega)]; exact ⟨fun z => z.resolve_left hne.1, Or.inr⟩
            have c2 : S' (12 + v) = true ↔ S (12 + v) = true := by rw [out_ v (by omega)]; exact ⟨fun z => z.2.resolve_right (fun y => q y.1), fun z => ⟨hne.2, Or.inl z⟩⟩
            have c3 : (S' v = true ∧ S' (12 + v) = false) ↔ (S v = true ∧ S (12 + v) = false) := by
              rw [← Bool.not_eq_true, ← Bool.not_eq_true, c1, c2]
            rw [apI_s (fun z => q z.1), (apC_n q).1, (apC_n q).2]
            by_cases p : S v = true ∧ S (12 + v) = false
            · rw [if_pos p, if_pos (c3.mpr p)]; omega
            · rw [if_neg p, if_neg (fun z => p (c3.mp z))]; omega
      have gat1 : ∀ e, cutL S' (gatA b e) ≤ cutL S (gatA b e) + e := by
        intro e
        induction e with
        | zero => exact Int.le_refl _
        | succ e ih =>
          have ee : gatA b (e + 1) = gatA b e ++ (if 0 < capB b e then [(12 + tf (T0 b) e, tt (T0 b) e, 1)] else []) := rfl
          rw [ee, cutL_app, cutL_app]
          by_cases q : 0 < capB b e
          · rw [if_pos q, cutL_one, cutL_one]; split <;> split <;> omega
          · rw [if_neg q]
            show cutL S' (gatA b e) + 0 ≤ cutL S (gatA b e) + 0 + _
            omega
      have a := nod1 12 (Nat.le_refl _)
      rw [apI_y hX] at a
      have c := gat1 (bn b)
      rw [s3]
      unfold lsC at hcut
      unfold lsR
      rw [cutL_app] at hcut ⊢
      omega
    · have noX : ∀ v, v < 12 → (k = 0 ∨ endB b v) → S v = true → S (12 + v) = true := fun v hv hq hS => by
        cases hh : S (12 + v) with
        | true => rfl
        | false => exact absurd ⟨v, hv, hq, hS, hh⟩ hX
      have o3 : ∀ v, v < 12 → S' (12 + v) = true → S (12 + v) = true := fun v hv h => by
        rcases ((out_ v hv).mp h).2 with y | y
        · exact y
        · exact noX v hv y.1 y.2
      have nod1 : ∀ v, v ≤ 12 → cutL S' (nodC b k v) ≤ cutL S (nodR b k v) := by
        intro v
        induction v with
        | zero => intro _; exact Int.le_refl _
        | succ v ih =>
          intro hv
          have i1 := ih (by omega)
          have e1 : nodC b k (v + 1) = nodC b k v ++ [(v, 12 + v, apC b k v)] := rfl
          have e2 : nodR b k (v + 1) = nodR b k v ++ [(v, 12 + v, apR b k v)] := rfl
          rw [e1, e2, cutL_app, cutL_app, cutL_one, cutL_one]
          by_cases q : k = 0 ∨ endB b v
          · have no : ¬ (S' v = true ∧ S' (12 + v) = false) := fun z => by
              rcases (in_ v (by omega)).mp z.1 with y | y
              · have : S' (12 + v) = true := (out_ v (by omega)).mpr ⟨by omega, Or.inl (by rw [y]; exact s1)⟩
                rw [z.2] at this; cases this
              · have : S' (12 + v) = true := (out_ v (by omega)).mpr ⟨fun w => (by rw [w, s2] at y; cases y), Or.inr ⟨q, y⟩⟩
                rw [z.2] at this; cases this
            rw [if_neg no, (apC_y q).2]
            split <;> omega
          · have hne : ¬ v = bs b ∧ ¬ v = bz b := ⟨fun z => q (Or.inr (Or.inl z)), fun z => q (Or.inr (Or.inr z))⟩
            rw [(apC_n q).1, (apC_n q).2]
            by_cases p : S' v = true ∧ S' (12 + v) = false
            · have y1 := ((in_ v (by omega)).mp p.1).resolve_left hne.1
              have y2 : S (12 + v) = false := by
                cases hh : S (12 + v) with
                | false => rfl
                | true =>
                  have := (out_ v (by omega)).mpr ⟨hne.2, Or.inl hh⟩
                  rw [p.2] at this; cases this
              rw [if_pos p, if_pos ⟨y1, y2⟩]; omega
            · rw [if_neg p]; split <;> omega
      have gat1 : ∀ e, e ≤ bn b → cutL S' (gatA b e) ≤ cutL S (gatA b e) := by
        intro e
        induction e with
        | zero => intro _; exact Int.le_refl _
        | succ e ih =>
          intro he
          have i1 := ih (by omega)
          have hN := (okT_T0 hb).2.1 e he
          have ee : gatA b (e + 1) = gatA b e ++ (if 0 < capB b e then [(12 + tf (T0 b) e, tt (T0 b) e, 1)] else []) := rfl
          rw [ee, cutL_app, cutL_app]
          by_cases q : 0 < capB b e
          · rw [if_pos q, cutL_one, cutL_one]
            by_cases p : S' (12 + tf (T0 b) e) = true ∧ S' (tt (T0 b) e) = false
            · have y1 := o3 _ hN.1 p.1
              have y2 : S (tt (T0 b) e) = false := by
                cases hh : S (tt (T0 b) e) with
                | false => rfl
                | true =>
                  have := (in_ _ hN.2.1).mpr (Or.inr hh)
                  rw [p.2] at this; cases this
              rw [if_pos p, if_pos ⟨y1, y2⟩]; omega
            · rw [if_neg p]; split <;> omega
          · rw [if_neg q]
            show cutL S' (gatA b e) + 0 ≤ cutL S (gatA b e) + 0
            omega
      have a := nod1 12 (Nat.le_refl _)
      have c := gat1 (bn b) (Nat.le_refl _)
      rw [s3]
      unfold lsC at hcut
      unfold lsR
      rw [cutL_app] at hcut ⊢
      omega
  · obtain ⟨S, s1, s2, s3⟩ := MF_cut o1 h1
    -- no arc with much room is cut
    have nodb : ∀ v, v ≤ 12 → (∀ u, u < v → (k = 0 ∨ endB b u) → S u = true → S (12 + u) = true) ∨ 1000000000 ≤ cutL S (nodC b k v) := by
      intro v
      induction v with
      | zero => intro _; exact Or.inl (fun u hu => absurd hu (Nat.not_lt_zero _))
      | succ v ih =>
        intro hv
        have e1 : nodC b k (v + 1) = nodC b k v ++ [(v, 12 + v, apC b k v)] := rfl
        have nn := cutL_nn (S := S) (@nod_ok b k v (by omega)).1
        rw [e1, cutL_app, cutL_one]
        rcases ih (by omega) with i1 | i1
        · by_cases q : (k = 0 ∨ endB b v) ∧ S v = true ∧ S (12 + v) = false
          · rw [if_pos q.2, (apC_y q.1).1]
            exact Or.inr (by omega)
          · refine Or.inl (fun u hu h1 h2 => ?_)
            by_cases z : u = v
            · cases hh : S (12 + u) with
              | true => rfl
              | false => rw [z] at h1 h2 hh; exact absurd ⟨h1, h2, hh⟩ q
            · exact i1 u (by omega) h1 h2
        · refine Or.inr ?_
          have : 0 ≤ (if S v = true ∧ S (12 + v) = false then apC b k v else 0) := by
            split
            · by_cases q : k = 0 ∨ endB b v
              · rw [(apC_y q).1]; omega
              · rw [(apC_n q).1]; omega
            · exact Int.le_refl _
          omega
    have gnn := cutL_nn (S := S) (gat_ok hb _ (Nat.le_refl _)).1
    have mono : ∀ u, u < 12 → (k = 0 ∨ endB b u) → S u = true → S (12 + u) = true := by
      rcases nodb 12 (Nat.le_refl _) with z | z
      · exact z
      · exfalso
        unfold lsC at s3
        rw [cutL_app] at s3
        omega
    have hsT := mono _ hs (Or.inr (Or.inl rfl)) s1
    have hzF : S (bz b) = false := by
      cases hh : S (bz b) with
      | false => rfl
      | true =>
        have := mono _ hz (Or.inr (Or.inr rfl)) hh
        rw [s2] at this; cases this
    have hcut := MF_le (S := S) o2 (by omega) h2 hsT hzF
    have nod1 : ∀ v, v ≤ 12 → cutL S (nodR b k v) ≤ cutL S (nodC b k v) := by
      intro v
      induction v with
      | zero => intro _; exact Int.le_refl _
      | succ v ih =>
        intro hv
        have i1 := ih (by omega)
        have e1 : nodC b k (v + 1) = nodC b k v ++ [(v, 12 + v, apC b k v)] := rfl
        have e2 : nodR b k (v + 1) = nodR b k v ++ [(v, 12 + v, apR b k v)] := rfl
        rw [e1, e2, cutL_app, cutL_app, cutL_one, cutL_one]
        by_cases q : k = 0 ∨ endB b v
        · rw [(apC_y q).1, (apC_y q).2]; split <;> omega
        · rw [(apC_n q).1, (apC_n q).2]; omega
    have a := nod1 12 (Nat.le_refl _)
    rw [s3]
    unfold lsR at hcut
    unfold lsC
    rw [cutL_app] at hcut ⊢
    omega
theorem c_waysApart {x : Int} (hx : x = k) (hk : k = 0 ∨ k = 1) (hb : okB b) (hC : cB 1 13 b σ) (hΦ : ∀ (σ' : PS) (v : Int), Off [8, 49, 50, 51, 52, 53, 54, 55, 56] σ σ' → IsMF 24 (matL (lsC b k)) (bs b) (12 + bz b) v → Φ v σ') : FX5_waysApart x σ Φ := by
  subst hx
  have hn := hb.1
  have hs := hb.2.1
  have hz := hb.2.2.1
  have hC' : ∀ σ1 : PS, Off [8, 49, 50, 51, 52, 53, 54, 55, 56] σ σ1 → cB 1 13 b σ1 := fun σ1 ho => hC.off ho (by simp) (fun w hw => by simp; omega)
  have l76 : ∀ (f i : Nat) (σ1 : PS), i ≤ bn b → bn b - i < f → Off [8, 49, 50, 51, 52, 53, 54, 55, 56] σ σ1 → NA 24 (nodC b k 12 ++ gatA b i) σ1 → LX5_waysApart_76 f i σ1 Φ := by
    intro f
    induction f with
    | zero => intro i σ1 h1 h2; omega
    | succ f ih =>
      intro i σ1 hi hf ho hV
      have hC1 := hC' σ1 ho
      obtain ⟨g1, g2⟩ := gat_ok hb i hi
      obtain ⟨n1, n2, n3⟩ := @nod_ok b k 12 (Nat.le_refl _)
      have hlen : (nodC b k 12 ++ gatA b i).length ≤ 12 + i := by rw [List.length_append, n3]; omega
      unfold LX5_waysApart_76 BX5_waysApart_76
      rw [hC1.1]
      refine ⟨fun c => ?_, fun c => ?_⟩
      · have ei : i = bn b := by omega
        rw [ei] at hV hlen
        rw [hC1.2.1, hC1.2.2.1]
        refine ⟨⟨by omega, by omega⟩, c_passL (s := bs b) (t := 12 + bz b) rfl (by omega) hV (@lsC_ok b k hb).1 (by omega) (by omega) (by omega) (by omega) (by omega) ?_ (fun σ' v o' hF _ => hΦ σ' v (ho.trans (o'.mono (by simp))) hF)⟩
        rw [outL_app, ((@nod_out b k (bs b) 12).1 hs).1, (gat_out (b := b) (x := bs b) (bn b)).2.2 hs, (apC_y (Or.inr (Or.inl rfl))).1]
        omega
      · have hi2 : i < bn b := by omega
        have hN := (okT_T0 hb).2.1 i hi2
        have hCN := CN_TN (lim := capB b) hb hC1
        have nx : ∀ σ' : PS, Off [8, 49, 50, 51, 52, 53, 54, 55, 56] σ σ' → NA 24 (nodC b k 12 ++ gatA b (i + 1)) σ' → LX5_waysApart_116 (fun x3 σ => LX5_waysApart_76 f x3 σ Φ) i σ' Φ := fun σ' a1 a2 => by
          unfold LX5_waysApart_116
          exact ⟨⟨by omega, by omega⟩, ih (i + 1) σ' (by omega) (by omega) a1 a2⟩
        have ee : gatA b (i + 1) = gatA b i ++ (if 0 < capB b i then [(12 + tf (T0 b) i, tt (T0 b) i, 1)] else []) := rfl
        refine c_usable rfl hCN (CU_T0 hC1) hn hi2 ?_
        have et : tl (T0 b) i = capB b i := rfl
        rw [et]
        refine ⟨fun c1 => nx σ1 ho ?_, fun c1 => ⟨⟨by omega, by omega⟩, ?_⟩⟩
        · rw [ee, if_neg (by omega), List.append_nil]; exact hV
        · rw [show ((i : Nat) : Int).toNat = i by omega, (hCN.2.2.2 i hi2).1, (hCN.2.2.2 i hi2).2]
          have e1 : tf (TN b (capB b)) i = tf (T0 b) i := rfl
          refine ⟨⟨by omega, by omega⟩, ⟨by omega, by omega⟩, c_joinL (a := 12 + tf (T0 b) i) (b := tt (T0 b) i) (by omega) rfl hV (by omega) (by omega) (by omega) (by omega) (by omega) (by omega) (fun σ' o' hV' => nx σ' (ho.trans (o'.mono (by simp))) ?_)⟩
          rw [ee, if_pos (by omega), ← List.append_assoc]
          exact hV'
  have l11 : ∀ (f i : Nat) (σ1 : PS), i ≤ 12 → 12 - i < f → Off [8, 49, 50, 51, 52, 53, 54, 55, 56] σ σ1 → NA 24 (nodC b k i) σ1 → LX5_waysApart_11 f k i σ1 Φ := by
    intro f
    induction f with
    | zero => intro i σ1 h1 h2; omega
    | succ f ih =>
      intro i σ1 hi hf ho hV
      have hC1 := hC' σ1 ho
      unfold LX5_waysApart_11 BX5_waysApart_11 LX5_waysApart_41
      rw [hC1.2.1, hC1.2.2.1]
      refine ⟨fun c => ?_, fun c => ?_⟩
      · have ei : i = 12 := by omega
        rw [ei] at hV
        refine ⟨bn b + 1, l76 (bn b + 1) 0 σ1 (by omega) (by omega) ho ?_⟩
        have : nodC b k 12 ++ gatA b 0 = nodC b k 12 := List.append_nil _
        rw [this]; exact hV
      · have hi2 : i < 12 := by omega
        have n3 := (@nod_ok b k i hi).2.2
        have go : ∀ s0 : Int, (s0 = 0 ↔ (k = 0 ∨ endB b i)) → LX5_waysApart_42 (fun x2 x3 σ => LX5_waysApart_11 f x2 x3 σ Φ) k i s0 σ1 Φ := fun s0 h0 => by
          unfold LX5_waysApart_42 LX5_waysApart_64
          have nx : ∀ c : Int, c = apC b k i → (0 ≤ c ∧ c ≤ 1000000000) → FX6_join i (12 + (i : Int)) c σ1 (fun z1 σ2 => Rg ((i : Int) + 1) ∧ (fun x2 x3 σ => LX5_waysApart_11 f x2 x3 σ Φ) (k : Int) ((i : Int) + 1) σ2) := fun c hc hcr => by
            refine c_joinL (a := i) (b := 12 + i) rfl (by omega) hV (by omega) (by omega) (by omega) (by omega) (by omega) hcr (fun σ' o' hV' => ⟨⟨by omega, by omega⟩, ih (i + 1) σ' (by omega) (by omega) (ho.trans (o'.mono (by simp))) ?_⟩)
            rw [hc] at hV'
            exact hV'
          exact ⟨⟨by omega, by omega⟩, fun c => nx _ (apC_y (h0.mp c)).1.symm (by omega), fun c => nx _ (apC_n (fun z => c (h0.mpr z))).1.symm (by omega)⟩
        refine ⟨fun c1 => go 0 ⟨fun _ => Or.inl (by omega), fun _ => rfl⟩, fun c1 => ⟨fun c2 => go 0 ⟨fun _ => Or.inr (Or.inl (by omega)), fun _ => rfl⟩, fun c2 => ⟨fun c3 => go 0 ⟨fun _ => Or.inr (Or.inr (by omega)), fun _ => rfl⟩, fun c3 => go 1 ⟨fun z => by omega, fun z => ?_⟩⟩⟩⟩
        rcases z with z | z | z <;> omega
  unfold FX5_waysApart
  exact c_beginL (N := 24) rfl (by omega) (fun σ2 o2 hV2 => ⟨13, l11 13 0 σ2 (by omega) (by omega) (o2.mono (by simp)) hV2⟩)
theorem m_apart {x : Int} (hx : x = k) (hk : k = 0 ∨ k = 1) (hb : okB b) (hM : mB 1 b σ) (hΦ : ∀ (σ' : PS) (v : Int), MK σ σ' → IsMF 24 (matL (lsR b k)) (12 + bs b) (bz b) v → Φ v σ') : FX12_apart x σ Φ := by
  subst hx
  have hn := hb.1
  have hs := hb.2.1
  have hz := hb.2.2.1
  have outb : ∀ i, i ≤ bn b → ∀ u, outL u (nodR b k 12 ++ gatA b i) ≤ 60 := fun i hi u => by
    rw [outL_app]
    have a := gat_out (b := b) (x := u) i
    have c : outL u (nodR b k 12) ≤ 30 := by
      by_cases q : u < 12
      · rw [((@nod_out b k u 12).1 q).2]
        by_cases p : k = 0 ∨ endB b u
        · rw [(apC_y p).2]; omega
        · rw [(apC_n p).2]; omega
      · rw [((@nod_out b k u 12).2 q).2]; omega
    omega
  unfold FX12_apart
  refine m_in (fun _ _ => ⟨fun _ => ?_, fun c => by omega⟩) (fun c => by omega)
  have l72 : ∀ (f i : Nat) (σ1 : PS), i ≤ bn b → bn b - i < f → MK σ σ1 → mB 1 b σ1 → SA 24 (nodR b k 12 ++ gatA b i) σ1 → LX12_apart_72 f i σ1 Φ := by
    intro f
    induction f with
    | zero => intro i σ1 h1 h2; omega
    | succ f ih =>
      intro i σ1 hi hf hk2 hM1 hS
      have ho := outb i hi
      obtain ⟨g1, g2⟩ := gat_ok hb i hi
      obtain ⟨n1, n2, n3⟩ := @nod_ok b k 12 (Nat.le_refl _)
      unfold LX12_apart_72 BX12_apart_72
      rw [hM1.1]
      refine ⟨fun c => ?_, fun c => ?_⟩
      · have ei : i = bn b := by omega
        rw [ei] at hS ho
        rw [hM1.2.1, hM1.2.2.1]
        refine ⟨⟨by omega, by omega⟩, m_passesL (s := 12 + bs b) (t := bz b) (by omega) rfl hS (@lsC_ok b k hb).2 (by omega) (by omega) (by omega) (by omega) (fun u _ => by have := ho u; omega) (fun σ' M v o' _ _ hF _ => hΦ σ' v (hk2.trans (MK.off o' (by simp) (by simp))) hF)⟩
      · have hi2 : i < bn b := by omega
        have hN := (okT_T0 hb).2.1 i hi2
        have nx : ∀ σ' : PS, MK σ σ' → mB 1 b σ' → SA 24 (nodR b k 12 ++ gatA b (i + 1)) σ' → LX12_apart_110 (fun x3 σ => LX12_apart_72 f x3 σ Φ) i σ' Φ := fun σ' a1 a2 a3 => by
          unfold LX12_apart_110
          exact ⟨⟨by omega, by omega⟩, ih (i + 1) σ' (by omega) (by omega) a1 a2 a3⟩
        have ee : gatA b (i + 1) = gatA b i ++ (if 0 < capB b i then [(12 + tf (T0 b) i, tt (T0 b) i, 1)] else []) := rfl
        refine m_capacity rfl hb hM1 hi2 ⟨fun c1 => nx σ1 hk2 hM1 ?_, fun c1 => ?_⟩
        · rw [ee, if_neg (by omega), List.append_nil]; exact hS
        · refine m_at (w := 0) rfl rfl hb hM1 hi2 (by omega) ?_
          rw [(bB_n (w := 0) hb hi2).1]
          refine ⟨⟨by omega, by omega⟩, m_at (w := 1) rfl rfl hb hM1 hi2 (by omega) ?_⟩
          rw [(bB_n (w := 0) hb hi2).2]
          refine m_addsL (a := 12 + tf (T0 b) i) (b := tt (T0 b) i) (by omega) rfl hS (n2.app g1) (by omega) (by omega) (by omega) (by omega) (by have := ho (12 + tf (T0 b) i); omega) (fun σ' o' hS' => nx σ' (hk2.trans (MK.off o' (by simp) (by simp))) (hM1.keep (o' 1 (by simp))) ?_)
          rw [ee, if_pos (by omega), ← List.append_assoc]
          exact hS'
  refine m_clearsL (w := 24) rfl (by omega) (fun σ2 o2 z2 hS2 => ⟨13, ?_⟩)
  have k2 : MK σ σ2 := ⟨fun j hj => o2 j (by simp at hj ⊢; omega), z2 2 (by omega), z2 29 (by omega), z2 36 (by omega)⟩
  have l19 : ∀ (f i : Nat) (σ1 : PS), i ≤ 12 → 12 - i < f → MK σ σ1 → mB 1 b σ1 → SA 24 (nodR b k i) σ1 → LX12_apart_19 f k i σ1 Φ := by
    intro f
    induction f with
    | zero => intro i σ1 h1 h2; omega
    | succ f ih =>
      intro i σ1 hi hf hk2 hM1 hS
      unfold LX12_apart_19 BX12_apart_19 LX12_apart_55
      rw [hM1.2.1, hM1.2.2.1]
      refine ⟨fun c => ?_, fun c => ⟨⟨by omega, by omega⟩, ?_⟩⟩
      · have ei : i = 12 := by omega
        rw [ei] at hS
        refine ⟨bn b + 1, l72 (bn b + 1) 0 σ1 (by omega) (by omega) hk2 hM1 ?_⟩
        have : nodR b k 12 ++ gatA b 0 = nodR b k 12 := List.append_nil _
        rw [this]; exact hS
      · have hi2 : i < 12 := by omega
        have n2 := (@nod_ok b k i hi).2.1
        have go : ∀ c : Int, c = apR b k i → (0 ≤ c ∧ c ≤ 1000000000) → LX12_apart_61 (fun x2 x3 σ => LX12_apart_19 f x2 x3 σ Φ) k i i (12 + (i : Int)) c σ1 Φ := fun c hc hcr => by
          unfold LX12_apart_61
          refine m_addsL (a := i) (b := 12 + i) rfl (by omega) hS n2 (by omega) (by omega) (by omega) hcr (by rw [((@nod_out b k i i).2 (by omega)).2]; omega) (fun σ' o' hS' => ⟨⟨by omega, by omega⟩, ih (i + 1) σ' (by omega) (by omega) (hk2.trans (MK.off o' (by simp) (by simp))) (hM1.keep (o' 1 (by simp))) ?_⟩)
          rw [hc] at hS'
          exact hS'
        refine ⟨fun c1 => go 30 (apC_y (Or.inl (by omega))).2.symm (by omega), fun c1 => ⟨fun c2 => go 30 (apC_y (Or.inr (Or.inl (by omega)))).2.symm (by omega), fun c2 => ⟨fun c3 => go 1 (apC_n (fun z => ?_)).2.symm (by omega), fun c3 => go 30 (apC_y (Or.inr (Or.inr (by omega)))).2.symm (by omega)⟩⟩⟩
        rcases z with z | z | z <;> omega
  exact l19 13 0 σ2 (by omega) (by omega) k2 (hM.keep (k2.1 1 (by simp))) hS2
theorem p_apart (a1 : Int) : PT (FX11_apart a1) (FX12_apart a1) := by
  intro d σc σm hd hC hM
  have same : ∀ r r2 : Int, r = r2 → r = r2 ∧ ∃ d', okD d' ∧ CR d' σc ∧ MR d' σm := fun r r2 e => ⟨e, d, hd, hC, hM⟩
  have go : ∀ k : Nat, (k = 0 ∨ k = 1) → a1 = k → LX11_apart_25 k σc (fun r σc' => FX12_apart a1 σm (fun r2 σm' => r = r2 ∧ ∃ d', okD d' ∧ CR d' σc' ∧ MR d' σm')) := fun k hk ha => by
    unfold LX11_apart_25
    refine c_waysApart rfl hk hd.1 hC.1 (fun σ' v o' hF => ?_)
    have hC1 : CR d σ' := hC.off o' (fun i _ => by rw [o' 0 (by simp)]) (by rw [o' 9 (by simp)]) (fun k hk => by simp at hk ⊢; omega)
    exact m_apart ha hk hd.1 hM.1 (fun σm' v2 k2 hF2 => ⟨apart_eq hd.1 hF hF2, d, hd, hC1, hM.keep k2⟩)
  unfold FX11_apart FX11_isOneOrZero
  have no : ¬ (0 ≤ a1 ∧ a1 ≤ 1) → FX12_apart a1 σm (fun r2 σm' => -1 = r2 ∧ ∃ d', okD d' ∧ CR d' σc ∧ MR d' σm') := fun hno => by
    unfold FX12_apart
    exact m_in (fun x y => absurd ⟨x, y⟩ hno) (fun _ => ⟨fun c => absurd rfl c, fun _ => same _ _ rfl⟩)
  refine ⟨fun c => ⟨fun c2 => by omega, fun _ => ⟨fun _ => go 0 (Or.inl rfl) c, fun c2 => by omega⟩⟩, fun c => ⟨fun c2 => ⟨fun _ => no (by omega), fun c3 => absurd rfl c3⟩, fun c2 => ⟨fun c3 => by omega, fun _ => ⟨fun c3 => absurd c2 c3, fun _ => go 1 (Or.inr rfl) c2⟩⟩⟩⟩
end Apart
