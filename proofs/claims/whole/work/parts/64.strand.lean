/-! strands of water: lines and rings, as functions -/
/-- the first place with p -/
noncomputable def lst (P : Nat → Prop) : Nat := @dite _ (∃ k, P k) (Classical.propDecidable _) (fun h => Classical.choose (leastN P h)) (fun _ => 0)
theorem lst_is {P : Nat → Prop} {i : Nat} (h : P i) (hn : ∀ k, k < i → ¬ P k) : lst P = i := by
  unfold lst
  rw [dif_pos ⟨i, h⟩]
  have h2 := Classical.choose_spec (leastN P ⟨i, h⟩)
  rcases Nat.lt_trichotomy (Classical.choose (leastN P ⟨i, h⟩)) i with q | q | q
  · exact absurd h2.1 (hn _ q)
  · exact q
  · exact absurd h (h2.2 i q)
noncomputable def fiL (T : NT) (le : Nat → Int) (v : Nat) : Nat := ffn (fun e => tf T e = v ∧ 0 < le e) (tn T)
noncomputable def ndL (T : NT) (le : Nat → Int) : Nat → Nat
  | 0 => ts T
  | k + 1 => tt T (fiL T le (ndL T le k))
def spL (T : NT) (le : Nat → Int) (k : Nat) : Prop := ndL T le k = tz T ∨ ∃ j, j < k ∧ ndL T le j = ndL T le k
noncomputable def leL (T : NT) (le : Nat → Int) : Nat := lst (fun k => 1 ≤ k ∧ spL T le k)
noncomputable def bgL (T : NT) (le : Nat → Int) : Nat := if ndL T le (leL T le) = tz T then 0 else lst (fun j => ndL T le j = ndL T le (leL T le))
noncomputable def rgL (T : NT) (le : Nat → Int) : Int := if ndL T le (leL T le) = tz T then 0 else 1
noncomputable def gaL (T : NT) (le : Nat → Int) (i : Nat) : Nat := fiL T le (ndL T le i)
noncomputable def amL (T : NT) (le : Nat → Int) : Int := mns 100000000 (fun i => le (gaL T le (bgL T le + i))) (leL T le - bgL T le)
noncomputable def stL (T : NT) (le : Nat → Int) : Nat → Nat → Int := aX le (fun i => 100 + gaL T le (bgL T le + i)) (amL T le)
noncomputable def lqT (T : NT) (x : Nat → Int) : Nat → Nat → Int
  | 0 => x
  | i + 1 => stL T (lqT T x i) (leL T (lqT T x i) - bgL T (lqT T x i))
def okL (T : NT) (le : Nat → Int) : Prop := okX (tn T) (tl T) le ∧ ∀ v, v < 12 → v ≠ ts T → v ≠ tz T → exG (tn T) (tf T) (tt T) le v = 0
section Strand
variable {T : NT} {le : Nat → Int}
theorem fiL_y {v : Nat} (h : fiL T le v < tn T) : tf T (fiL T le v) = v ∧ 0 < le (fiL T le v) := by
  by_cases q : ∃ e, e < tn T ∧ (tf T e = v ∧ 0 < le e)
  · obtain ⟨i, h1, h2, h3⟩ := firstN q
    have e : fiL T le v = i := ffn_at h1 h2 h3
    rw [e]; exact h2
  · have e : fiL T le v = tn T := ffn_none (fun k hk z => q ⟨k, hk, z⟩)
    omega
theorem fiL_ex {v : Nat} (h : ∃ e, e < tn T ∧ tf T e = v ∧ 0 < le e) : fiL T le v < tn T := by
  obtain ⟨i, h1, h2, h3⟩ := firstN h
  unfold fiL
  rw [ffn_at h1 h2 h3]
  exact h1
theorem fiL_is {v e : Nat} (he : e < tn T) (h : tf T e = v ∧ 0 < le e) (hn : ∀ k, k < e → ¬ (tf T k = v ∧ 0 < le k)) : fiL T le v = e := ffn_at he h hn
theorem fiL_no {v : Nat} (h : ∀ k, k < tn T → ¬ (tf T k = v ∧ 0 < le k)) : fiL T le v = tn T := ffn_none h
/-- what flows in, flows on -/
theorem on_out (hT : okT T) (h : okL T le) {e v : Nat} (he : e < tn T) (hv : tt T e = v) (hp : 0 < le e) (hs : v ≠ ts T) (hz : v ≠ tz T) : fiL T le v < tn T := by
  refine fiL_ex ?_
  by_cases q : ∃ g, g < tn T ∧ tf T g = v ∧ 0 < le g
  · exact q
  · exfalso
    have hv12 : v < 12 := by have := (hT.2.1 e he).2.1; omega
    have h0 := h.2 v hv12 hs hz
    have h1 : sm (fun g => (if tf T g = v then le g else 0) - (if tt T g = v then le g else 0)) (tn T) < sm (fun _ => 0) (tn T) := sm_lt (i := e) (fun g hg => by
      have a := h.1 g hg
      by_cases p : tf T g = v
      · have : le g = 0 := by
          by_cases z : 0 < le g
          · exact absurd ⟨g, hg, p, z⟩ q
          · omega
        rw [this]
        split <;> split <;> omega
      · rw [if_neg p]
        split <;> omega) he (by
      have hN := hT.2.1 e he
      rw [if_neg (fun z => hN.2.2 (z.trans hv.symm)), if_pos hv]
      omega)
    rw [sm_0 (fun _ _ => rfl)] at h1
    have : exG (tn T) (tf T) (tt T) le v < 0 := h1
    omega
theorem wk_go (hT : okT T) (h : okL T le) (h0 : fiL T le (ts T) < tn T) : ∀ k, (∀ j, 1 ≤ j → j < k → ¬ spL T le j) → ∀ i, i < k → ndL T le i < 12 ∧ gaL T le i < tn T := by
  intro k
  induction k with
  | zero => intro _ i hi; omega
  | succ k ih =>
    intro hno i hi
    have ih := ih (fun j a b => hno j a (by omega))
    by_cases q : i < k
    · exact ih i q
    · have e : i = k := by omega
      subst e
      cases i with
      | zero => exact ⟨hT.2.2.2.1, h0⟩
      | succ i =>
        obtain ⟨a, b⟩ := ih i (by omega)
        have hs := hno (i + 1) (by omega) (by omega)
        have hy := fiL_y b
        refine ⟨(hT.2.1 _ b).2.1, on_out hT h b rfl hy.2 (fun z => hs (Or.inr ⟨0, by omega, z.symm⟩)) (fun z => hs (Or.inl z))⟩
theorem leL_is (hT : okT T) (h : okL T le) (h0 : fiL T le (ts T) < tn T) : 1 ≤ leL T le ∧ leL T le ≤ 12 ∧ spL T le (leL T le) ∧ (∀ j, 1 ≤ j → j < leL T le → ¬ spL T le j) ∧ (∀ i, i < leL T le → ndL T le i < 12 ∧ gaL T le i < tn T) := by
  have hex : ∃ k, k < 13 ∧ (1 ≤ k ∧ spL T le k) := by
    by_cases q : ∃ k, k < 13 ∧ (1 ≤ k ∧ spL T le k)
    · exact q
    · exfalso
      have hno : ∀ j, 1 ≤ j → j < 13 → ¬ spL T le j := fun j a b z => q ⟨j, b, a, z⟩
      have hg := wk_go hT h h0 13 hno
      have := holes 12 13 (ndL T le) (fun i hi => (hg i hi).1) (fun i j hij hj z => hno j (by omega) hj (Or.inr ⟨i, hij, z⟩))
      omega
  obtain ⟨L, h1, h2, h3⟩ := firstN hex
  have e : leL T le = L := lst_is h2 h3
  rw [e]
  have hno : ∀ j, 1 ≤ j → j < L → ¬ spL T le j := fun j a b z => h3 j b ⟨a, z⟩
  exact ⟨h2.1, by omega, h2.2, hno, wk_go hT h h0 L hno⟩
/-- the first L nodes are apart, and none but the first is an end -/
theorem nd_apart (hT : okT T) (h : okL T le) (h0 : fiL T le (ts T) < tn T) {i j : Nat} (hij : i < j) (hj : j < leL T le) : ndL T le i ≠ ndL T le j := fun z =>
  (leL_is hT h h0).2.2.2.1 j (by omega) hj (Or.inr ⟨i, hij, z⟩)
theorem nd_nz (hT : okT T) (h : okL T le) (h0 : fiL T le (ts T) < tn T) {i : Nat} (hi : i < leL T le) : ndL T le i ≠ tz T := fun z => by
  cases i with
  | zero => exact hT.2.2.2.2.2 z
  | succ i => exact (leL_is hT h h0).2.2.2.1 (i + 1) (by omega) hi (Or.inl z)
theorem ga_apart (hT : okT T) (h : okL T le) (h0 : fiL T le (ts T) < tn T) {i j : Nat} (hij : i < j) (hj : j < leL T le) : gaL T le i ≠ gaL T le j := fun z => by
  obtain ⟨-, -, -, -, hg⟩ := leL_is hT h h0
  have a := (fiL_y (hg i (by omega)).2).1
  have b := (fiL_y (hg j hj).2).1
  refine nd_apart hT h h0 hij hj ?_
  rw [← a, ← b]
  exact congrArg (tf T) z
theorem bg_is (hT : okT T) (h : okL T le) (h0 : fiL T le (ts T) < tn T) : bgL T le < leL T le ∧ (¬ ndL T le (leL T le) = tz T → ndL T le (bgL T le) = ndL T le (leL T le)) ∧ (ndL T le (leL T le) = tz T → bgL T le = 0) := by
  obtain ⟨a1, a2, a3, a4, a5⟩ := leL_is hT h h0
  unfold bgL
  by_cases q : ndL T le (leL T le) = tz T
  · rw [if_pos q]
    exact ⟨by omega, fun z => absurd q z, fun _ => rfl⟩
  · rw [if_neg q]
    rcases a3 with a3 | a3
    · exact absurd a3 q
    · obtain ⟨i, i1, i2, i3⟩ := firstN a3
      rw [lst_is (P := fun j => ndL T le j = ndL T le (leL T le)) i2 i3]
      exact ⟨i1, fun _ => i2, fun z => absurd z q⟩
theorem mns_le2 {S : Int} {f : Nat → Int} : ∀ {k i : Nat}, i < k → mns S f k ≤ f i
  | 0, _, h => absurd h (Nat.not_lt_zero _)
  | k + 1, i, h => by
    rw [mns]
    by_cases e : i = k
    · subst e; exact Int.min_le_right _ _
    · have := mns_le2 (S := S) (f := f) (show i < k by omega)
      omega
theorem mns_at {S : Int} {f : Nat → Int} : ∀ {k : Nat}, mns S f k = S ∨ ∃ i, i < k ∧ mns S f k = f i
  | 0 => Or.inl rfl
  | k + 1 => by
    rw [mns]
    rcases mns_at (S := S) (f := f) (k := k) with h | ⟨i, h1, h2⟩
    · by_cases q : S ≤ f k
      · exact Or.inl (by omega)
      · exact Or.inr ⟨k, by omega, by omega⟩
    · by_cases q : f i ≤ f k
      · exact Or.inr ⟨i, by omega, by omega⟩
      · exact Or.inr ⟨k, by omega, by omega⟩
theorem mns_S {S S' : Int} {f : Nat → Int} {k : Nat} (hk : 0 < k) (h : ∀ i, i < k → f i ≤ S ∧ f i ≤ S') : mns S f k = mns S' f k := by
  have g : ∀ S S' : Int, (∀ i, i < k → f i ≤ S ∧ f i ≤ S') → mns S f k ≤ mns S' f k := fun S S' h => by
    rcases mns_at (S := S') (f := f) (k := k) with e | ⟨i, h1, h2⟩
    · rw [e]
      have a := mns_le2 (S := S) (f := f) hk
      have b := h 0 hk
      omega
    · rw [h2]; exact mns_le2 h1
  exact Int.le_antisymm (g S S' h) (g S' S (fun i hi => ⟨(h i hi).2, (h i hi).1⟩))
theorem am_is (hT : okT T) (h : okL T le) (h0 : fiL T le (ts T) < tn T) : (0 < amL T le ∧ amL T le ≤ 2000) ∧ (∃ i, bgL T le ≤ i ∧ i < leL T le ∧ le (gaL T le i) = amL T le) ∧ (∀ i, bgL T le ≤ i → i < leL T le → amL T le ≤ le (gaL T le i)) ∧ ∀ S : Int, 2000 ≤ S → mns S (fun i => le (gaL T le (bgL T le + i))) (leL T le - bgL T le) = amL T le := by
  obtain ⟨b1, b2, b3⟩ := bg_is hT h h0
  obtain ⟨-, -, -, -, hg⟩ := leL_is hT h h0
  have hb : ∀ i, i < leL T le → 0 < le (gaL T le i) ∧ le (gaL T le i) ≤ 2000 := fun i hi => by
    have a := (hg i hi).2
    have := h.1 _ a
    have := hT.2.2.1 _ a
    have := (fiL_y a).2
    exact ⟨this, by omega⟩
  have e : ∀ S : Int, 2000 ≤ S → mns S (fun i => le (gaL T le (bgL T le + i))) (leL T le - bgL T le) = amL T le := fun S hS => mns_S (by omega) (fun i hi => by
    have := hb (bgL T le + i) (by omega)
    exact ⟨by omega, by omega⟩)
  have hm : ∃ i, bgL T le ≤ i ∧ i < leL T le ∧ le (gaL T le i) = amL T le := by
    rcases mns_at (S := 100000000) (f := fun i => le (gaL T le (bgL T le + i))) (k := leL T le - bgL T le) with z | ⟨i, h1, h2⟩
    · have a := mns_le2 (S := 100000000) (f := fun i => le (gaL T le (bgL T le + i))) (show 0 < leL T le - bgL T le by omega)
      have c := hb (bgL T le + 0) (by omega)
      have a : mns 100000000 (fun i => le (gaL T le (bgL T le + i))) (leL T le - bgL T le) ≤ le (gaL T le (bgL T le + 0)) := a
      omega
    · exact ⟨bgL T le + i, by omega, by omega, h2.symm⟩
  refine ⟨?_, hm, fun i h1 h2 => ?_, e⟩
  · obtain ⟨i, h1, h2, h3⟩ := hm
    have := hb i h2
    omega
  · have a := mns_le2 (S := 100000000) (f := fun i => le (gaL T le (bgL T le + i))) (show i - bgL T le < leL T le - bgL T le by omega)
    have a : mns 100000000 (fun i => le (gaL T le (bgL T le + i))) (leL T le - bgL T le) ≤ le (gaL T le (bgL T le + (i - bgL T le))) := a
    rw [show bgL T le + (i - bgL T le) = i by omega] at a
    exact a
theorem gof_100 (e : Nat) : gof (100 + e) = e := by
  unfold gof
  rw [if_neg (by omega)]
  omega
theorem st_out {k e : Nat} (h : ∀ i, i < k → e ≠ gaL T le (bgL T le + i)) : stL T le k e = le e := by
  unfold stL
  exact aX_out (fun j hj z => h j hj (by rw [gof_100] at z; exact z))
theorem st_suc {k : Nat} : stL T le (k + 1) = fun e => if e = gaL T le (bgL T le + k) then stL T le k e - amL T le else stL T le k e := by
  funext e
  unfold stL
  rw [aX, gof_100, if_neg (show ¬ 100 + gaL T le (bgL T le + k) < 100 by omega)]
theorem st_in (hT : okT T) (h : okL T le) (h0 : fiL T le (ts T) < tn T) {i : Nat} : ∀ {k : Nat}, i < k → bgL T le + k ≤ leL T le → stL T le k (gaL T le (bgL T le + i)) = le (gaL T le (bgL T le + i)) - amL T le
  | 0, hi, _ => absurd hi (Nat.not_lt_zero _)
  | k + 1, hi, hk => by
    rw [st_suc]
    by_cases e : i = k
    · subst e
      simp only [if_true]
      rw [st_out (fun j hj => ?_)]
      exact fun z => ga_apart hT h h0 (show bgL T le + j < bgL T le + i by omega) (by omega) z.symm
    · have hne : ¬ gaL T le (bgL T le + i) = gaL T le (bgL T le + k) := ga_apart hT h h0 (show bgL T le + i < bgL T le + k by omega) (by omega)
      simp only [if_neg hne]
      exact st_in hT h h0 (by omega) (by omega)
theorem st_ex (hT : okT T) (h : okL T le) (h0 : fiL T le (ts T) < tn T) (y : Nat) : ∀ {k : Nat}, bgL T le + k ≤ leL T le → exG (tn T) (tf T) (tt T) (stL T le k) y = exG (tn T) (tf T) (tt T) le y - (if y = ndL T le (bgL T le) then amL T le else 0) + (if y = ndL T le (bgL T le + k) then amL T le else 0)
  | 0, _ => by
    have : stL T le 0 = le := rfl
    rw [this, Nat.add_zero]
    omega
  | k + 1, hk => by
    have ih := st_ex hT h h0 y (k := k) (by omega)
    obtain ⟨-, -, -, -, hg⟩ := leL_is hT h h0
    have hgk := (hg (bgL T le + k) (by omega)).2
    have hf := (fiL_y hgk).1
    have e1 : stL T le (k + 1) = fun e => if e = gaL T le (bgL T le + k) then (stL T le k (gaL T le (bgL T le + k)) - amL T le) else stL T le k e := by
      rw [st_suc]
      funext e
      by_cases q : e = gaL T le (bgL T le + k)
      · rw [if_pos q, if_pos q, q]
      · rw [if_neg q, if_neg q]
    have hn : ndL T le (bgL T le + (k + 1)) = tt T (gaL T le (bgL T le + k)) := rfl
    rw [e1, exG_upd hgk, ih, hn]
    have hf2 : tf T (gaL T le (bgL T le + k)) = ndL T le (bgL T le + k) := hf
    rw [hf2]
    by_cases p : ndL T le (bgL T le + k) = y <;> by_cases q : tt T (gaL T le (bgL T le + k)) = y
    · rw [if_pos p, if_pos q, if_pos p.symm, if_pos q.symm]; omega
    · rw [if_pos p, if_neg q, if_pos p.symm, if_neg (show ¬ y = tt T (gaL T le (bgL T le + k)) from fun z => q z.symm)]; omega
    · rw [if_neg p, if_pos q, if_neg (show ¬ y = ndL T le (bgL T le + k) from fun z => p z.symm), if_pos q.symm]; omega
    · rw [if_neg p, if_neg q, if_neg (show ¬ y = ndL T le (bgL T le + k) from fun z => p z.symm), if_neg (show ¬ y = tt T (gaL T le (bgL T le + k)) from fun z => q z.symm)]; omega
theorem st_at (e : Nat) : (∃ i, i < leL T le - bgL T le ∧ e = gaL T le (bgL T le + i)) ∨ stL T le (leL T le - bgL T le) e = le e := by
  by_cases q : ∃ i, i < leL T le - bgL T le ∧ e = gaL T le (bgL T le + i)
  · exact Or.inl q
  · exact Or.inr (st_out (fun i hi z => q ⟨i, hi, z⟩))
/-- one is taken: what is left is as good, and one gate more is dry -/
theorem st_ok (hT : okT T) (h : okL T le) (h0 : fiL T le (ts T) < tn T) : okL T (stL T le (leL T le - bgL T le)) ∧ sm (fun e => if 0 < stL T le (leL T le - bgL T le) e then 1 else 0) (tn T) < sm (fun e => if 0 < le e then 1 else 0) (tn T) := by
  obtain ⟨b1, b2, b3⟩ := bg_is hT h h0
  obtain ⟨a1, a2, a3, a4⟩ := am_is hT h h0
  have hg := (leL_is hT h h0).2.2.2.2
  have eL : bgL T le + (leL T le - bgL T le) = leL T le := by omega
  refine ⟨⟨fun e he => ?_, fun v hv hs hz => ?_⟩, ?_⟩
  · have := h.1 e he
    rcases st_at (T := T) (le := le) e with ⟨i, i1, i2⟩ | z
    · rw [i2] at this ⊢
      rw [st_in hT h h0 i1 (by omega)]
      have := a3 (bgL T le + i) (by omega) (by omega)
      omega
    · rw [z]; exact this
  · rw [st_ex hT h h0 v (by omega), h.2 v hv hs hz, eL]
    by_cases q : ndL T le (leL T le) = tz T
    · rw [b3 q, if_neg (show ¬ v = ndL T le 0 from hs), if_neg (show ¬ v = ndL T le (leL T le) by rw [q]; exact hz)]; omega
    · rw [b2 q]; omega
  · obtain ⟨i, i1, i2, i3⟩ := a2
    have hi := hg i i2
    refine sm_lt (i := gaL T le i) (fun e he => ?_) hi.2 ?_
    · have := h.1 e he
      rcases st_at (T := T) (le := le) e with ⟨j, j1, j2⟩ | z
      · rw [j2, st_in hT h h0 j1 (by omega)]
        split <;> split <;> omega
      · rw [z]; exact Int.le_refl _
    · have e : i = bgL T le + (i - bgL T le) := by omega
      have z := st_in hT h h0 (i := i - bgL T le) (k := leL T le - bgL T le) (by omega) (by omega)
      rw [← e] at z
      rw [z, if_neg (by omega), if_pos (by omega)]
      omega
/-- how many strands -/
noncomputable def NLT (T : NT) (x : Nat → Int) : Nat := lst (fun i => ¬ fiL T (lqT T x i) (ts T) < tn T)
theorem lq_ok {x : Nat → Int} (hT : okT T) (hx : okL T x) : ∀ i, (∀ j, j < i → fiL T (lqT T x j) (ts T) < tn T) → okL T (lqT T x i) ∧ sm (fun e => if 0 < lqT T x i e then 1 else 0) (tn T) + i ≤ tn T := by
  intro i
  induction i with
  | zero =>
    intro _
    refine ⟨hx, ?_⟩
    have : sm (fun e => if 0 < x e then 1 else 0) (tn T) ≤ (tn T : Int) * 1 := sm_ub (fun e he => by split <;> omega)
    show sm (fun e => if 0 < x e then 1 else 0) (tn T) + 0 ≤ (tn T : Int)
    omega
  | succ i ih =>
    intro h
    obtain ⟨h1, h2⟩ := ih (fun j hj => h j (by omega))
    obtain ⟨h3, h4⟩ := st_ok hT h1 (h i (by omega))
    refine ⟨h3, ?_⟩
    have h5 : sm (fun e => if 0 < lqT T x (i + 1) e then 1 else 0) (tn T) < sm (fun e => if 0 < lqT T x i e then 1 else 0) (tn T) := h4
    omega
theorem NLT_is {x : Nat → Int} (hT : okT T) (hx : okL T x) : NLT T x ≤ 30 ∧ (∀ j, j < NLT T x → fiL T (lqT T x j) (ts T) < tn T) ∧ ¬ fiL T (lqT T x (NLT T x)) (ts T) < tn T := by
  have hn := hT.1
  have hex : ∃ i, i < 31 ∧ ¬ fiL T (lqT T x i) (ts T) < tn T := by
    by_cases q : ∃ i, i < 31 ∧ ¬ fiL T (lqT T x i) (ts T) < tn T
    · exact q
    · exfalso
      have := (lq_ok hT hx 31 (fun j hj => Classical.byContradiction (fun z => q ⟨j, hj, z⟩))).2
      have h0 : 0 ≤ sm (fun e => if 0 < lqT T x 31 e then 1 else 0) (tn T) := sm_nn (fun e _ => by split <;> omega)
      omega
  obtain ⟨i, h1, h2, h3⟩ := firstN hex
  have e : NLT T x = i := lst_is h2 h3
  rw [e]
  exact ⟨by omega, fun j hj => Classical.byContradiction (h3 j hj), h2⟩
end Strand
