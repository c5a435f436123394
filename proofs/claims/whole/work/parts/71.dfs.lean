/-! a pass through the layers: what holds on its way -/
def pdN (fr to : Nat → Nat) (s : Nat) (pth : Nat → Nat) : Nat → Nat
  | 0 => s
  | i + 1 => tgN fr to (pth i)
def usN (fr to : Nat → Nat) (lim x cl lv : Nat → Int) (e : Nat) : Prop := rmN lim x e ≤ 0 ∨ cl (tgN fr to e) ≠ lv (srN fr to e) + 1
def DI (N n : Nat) (fr to : Nat → Nat) (lim x0 : Nat → Int) (s t : Nat) (lv x cl : Nat → Int) (ck pth : Nat → Nat) (dp : Nat) : Prop :=
  okX n lim x ∧ (∀ v, v < N → cl v = lv v ∨ (cl v = -1 ∧ v ≠ t ∧ v ≠ s)) ∧ (∀ v, v < N → ck v ≤ 2 * n ∧ ∀ e, ck v ≤ e → e < 2 * n → srN fr to e = v → usN fr to lim x cl lv e) ∧ (∀ v, v < N → cl v ≠ lv v → ∀ e, e < 2 * n → srN fr to e = v → usN fr to lim x cl lv e) ∧ (∀ e, e < 2 * n → 0 < rmN lim x e → 0 < rmN lim x0 e ∨ (lv (srN fr to e) = lv (tgN fr to e) + 1 ∧ 0 ≤ lv (tgN fr to e))) ∧ ∀ i, i < dp → pth i < 2 * n ∧ srN fr to (pth i) = pdN fr to s pth i ∧ 0 < rmN lim x (pth i) ∧ cl (pdN fr to s pth (i + 1)) = (i : Int) + 1
def aN (fr to : Nat → Nat) (lim lv x : Nat → Int) (e : Nat) : Int := if 0 < rmN lim x e ∧ lv (tgN fr to e) = lv (srN fr to e) + 1 ∧ 0 ≤ lv (srN fr to e) then 1 else 0
def bN (cl : Nat → Int) (v : Nat) : Int := if 0 ≤ cl v then 1 else 0
def WN (N n : Nat) (fr to : Nat → Nat) (lim lv x cl : Nat → Int) (dp : Nat) : Int := 220 * sm (aN fr to lim lv x) (2 * n) + 2 * sm (bN cl) N - dp
def aSN (x : Nat → Int) (ps : Nat → Nat) (a : Int) : Nat → Nat → Int
  | 0, g => x g
  | k + 1, g => if g = ps k / 2 then (if ps k % 2 = 0 then aSN x ps a k g + a else aSN x ps a k g - a) else aSN x ps a k g
section Dfs
variable {N n s t dp : Nat} {fr to : Nat → Nat} {lim x0 lv x cl : Nat → Int} {ck pth : Nat → Nat}
theorem pd_cong {p q : Nat → Nat} {i : Nat} (h : ∀ j, j < i → p j = q j) : pdN fr to s p i = pdN fr to s q i := by
  cases i with
  | zero => rfl
  | succ i => exact congrArg (tgN fr to) (h i (by omega))
theorem aN_01 (e : Nat) : 0 ≤ aN fr to lim lv x e ∧ aN fr to lim lv x e ≤ 1 := by
  unfold aN
  split <;> omega
theorem bN_01 (v : Nat) : 0 ≤ bN cl v ∧ bN cl v ≤ 1 := by
  unfold bN
  split <;> omega
theorem rm_aS {ps : Nat → Nat} {a : Int} {k e : Nat} : rmN lim (aSN x ps a (k + 1)) e = if e = ps k then rmN lim (aSN x ps a k) e - a else if e = rvN (ps k) then rmN lim (aSN x ps a k) e + a else rmN lim (aSN x ps a k) e := by
  unfold rmN rvN
  rw [aSN]
  generalize aSN x ps a k (e / 2) = X
  by_cases p : ps k % 2 = 0 <;> by_cases q : e % 2 = 0 <;> simp only [p, q, if_true, if_false] <;> split <;> split <;> (try split) <;> omega
theorem aS_ex {a : Int} (y : Nat) : ∀ {k : Nat}, (∀ i, i < k → pth i < 2 * n ∧ srN fr to (pth i) = pdN fr to s pth i) → exG n fr to (aSN x pth a k) y = exG n fr to x y + (if y = s then a else 0) - (if y = pdN fr to s pth k then a else 0)
  | 0, _ => by
    show exG n fr to x y = exG n fr to x y + (if y = s then a else 0) - (if y = s then a else 0)
    omega
  | k + 1, h => by
    have ih := aS_ex (a := a) y (k := k) (fun i hi => h i (by omega))
    obtain ⟨h1, h2⟩ := h k (by omega)
    have hg : pth k / 2 < n := by omega
    have e1 : aSN x pth a (k + 1) = fun g => if g = pth k / 2 then (if pth k % 2 = 0 then aSN x pth a k (pth k / 2) + a else aSN x pth a k (pth k / 2) - a) else aSN x pth a k g := by
      funext g
      rw [aSN]
      by_cases q : g = pth k / 2
      · rw [if_pos q, if_pos q, q]
      · rw [if_neg q, if_neg q]
    have e2 : pdN fr to s pth (k + 1) = tgN fr to (pth k) := rfl
    rw [e1, exG_upd hg, ih, e2, ← h2]
    unfold srN tgN
    by_cases c : pth k % 2 = 0
    · simp only [if_pos c]
      by_cases p : fr (pth k / 2) = y <;> by_cases q : to (pth k / 2) = y
      · rw [if_pos p, if_pos q, if_pos p.symm, if_pos q.symm]; omega
      · rw [if_pos p, if_neg q, if_pos p.symm, if_neg (show ¬ y = to (pth k / 2) from fun z => q z.symm)]; omega
      · rw [if_neg p, if_pos q, if_neg (show ¬ y = fr (pth k / 2) from fun z => p z.symm), if_pos q.symm]; omega
      · rw [if_neg p, if_neg q, if_neg (show ¬ y = fr (pth k / 2) from fun z => p z.symm), if_neg (show ¬ y = to (pth k / 2) from fun z => q z.symm)]; omega
    · simp only [if_neg c]
      by_cases p : fr (pth k / 2) = y <;> by_cases q : to (pth k / 2) = y
      · rw [if_pos p, if_pos q, if_pos p.symm, if_pos q.symm]; omega
      · rw [if_pos p, if_neg q, if_pos p.symm, if_neg (show ¬ y = to (pth k / 2) from fun z => q z.symm)]; omega
      · rw [if_neg p, if_pos q, if_neg (show ¬ y = fr (pth k / 2) from fun z => p z.symm), if_pos q.symm]; omega
      · rw [if_neg p, if_neg q, if_neg (show ¬ y = fr (pth k / 2) from fun z => p z.symm), if_neg (show ¬ y = to (pth k / 2) from fun z => q z.symm)]; omega
theorem DI.lev (hA : okA N n fr to lim) (hs : s < N) (h0 : lv s = 0) (h : DI N n fr to lim x0 s t lv x cl ck pth dp) {i : Nat} (hi : i ≤ dp) : pdN fr to s pth i < N ∧ cl (pdN fr to s pth i) = i ∧ lv (pdN fr to s pth i) = i := by
  obtain ⟨h1, h2, h3, h4, h5, h6⟩ := h
  cases i with
  | zero =>
    have := h2 s hs
    show s < N ∧ cl s = 0 ∧ lv s = 0
    rcases this with z | z
    · exact ⟨hs, by omega, h0⟩
    · exact absurd rfl z.2.2
  | succ i =>
    obtain ⟨a, b, c, d⟩ := h6 i (by omega)
    have hn := (side_N hA.2.2.1 a).2.1
    refine ⟨hn, by rw [d]; omega, ?_⟩
    rcases h2 _ hn with z | z
    · have e : pdN fr to s pth (i + 1) = tgN fr to (pth i) := rfl
      rw [e] at d ⊢
      omega
    · have e : pdN fr to s pth (i + 1) = tgN fr to (pth i) := rfl
      rw [e] at d
      omega
theorem DI.dp_lt (hA : okA N n fr to lim) (hs : s < N) (h0 : lv s = 0) (h : DI N n fr to lim x0 s t lv x cl ck pth dp) : dp < N := by
  have := holes N (dp + 1) (pdN fr to s pth) (fun i hi => (h.lev hA hs h0 (show i ≤ dp by omega)).1) (fun i j hij hj z => by
    have a := (h.lev hA hs h0 (show i ≤ dp by omega)).2.1
    have b := (h.lev hA hs h0 (show j ≤ dp by omega)).2.1
    rw [z] at a
    omega)
  omega
theorem W_rng (hA : okA N n fr to lim) (hd : dp < N) : -108 ≤ WN N n fr to lim lv x cl dp ∧ WN N n fr to lim lv x cl dp ≤ 148100 := by
  obtain ⟨hN, hn, -⟩ := hA
  have a1 : 0 ≤ sm (aN fr to lim lv x) (2 * n) := sm_nn (fun e _ => (aN_01 e).1)
  have a2 : sm (aN fr to lim lv x) (2 * n) ≤ ((2 * n : Nat) : Int) * 1 := sm_ub (fun e _ => (aN_01 e).2)
  have b1 : 0 ≤ sm (bN cl) N := sm_nn (fun e _ => (bN_01 e).1)
  have b2 : sm (bN cl) N ≤ (N : Int) * 1 := sm_ub (fun e _ => (bN_01 e).2)
  unfold WN
  omega
theorem DI.adv {e : Nat} (hA : okA N n fr to lim) (hs : s < N) (h0 : lv s = 0) (h : DI N n fr to lim x0 s t lv x cl ck pth dp) (he : e < 2 * n) (hsr : srN fr to e = pdN fr to s pth dp) (hr : 0 < rmN lim x e) (hc : cl (tgN fr to e) = cl (pdN fr to s pth dp) + 1) (hu : ∀ j, e + 1 ≤ j → j < 2 * n → srN fr to j = pdN fr to s pth dp → usN fr to lim x cl lv j) : DI N n fr to lim x0 s t lv x cl (fun v => if v = pdN fr to s pth dp then e + 1 else ck v) (fun i => if i = dp then e else pth i) (dp + 1) := by
  have hl := h.lev hA hs h0 (Nat.le_refl dp)
  obtain ⟨h1, h2, h3, h4, h5, h6⟩ := h
  have eq : ∀ i, i ≤ dp → pdN fr to s (fun i => if i = dp then e else pth i) i = pdN fr to s pth i := fun i hi => pd_cong (fun j hj => if_neg (by omega))
  refine ⟨h1, h2, fun v hv => ?_, h4, h5, fun i hi => ?_⟩
  · by_cases q : v = pdN fr to s pth dp
    · simp only [if_pos q]
      exact ⟨by omega, fun j j1 j2 j3 => hu j j1 j2 (j3.trans q)⟩
    · simp only [if_neg q]
      exact h3 v hv
  · by_cases q : i = dp
    · rw [q]
      rw [eq dp (Nat.le_refl _)]
      simp only [if_true]
      refine ⟨he, hsr, hr, ?_⟩
      show cl (tgN fr to (if dp = dp then e else pth dp)) = _
      rw [if_pos rfl, hc, hl.2.1]
    · rw [eq i (by omega), eq (i + 1) (by omega)]
      simp only [if_neg q]
      exact h6 i (by omega)
theorem DI.ret {d : Nat} (hA : okA N n fr to lim) (hs : s < N) (h0 : lv s = 0) (hlv : ∀ v, v < N → -1 ≤ lv v) (h : DI N n fr to lim x0 s t lv x cl ck pth (d + 1)) (hne : pdN fr to s pth (d + 1) ≠ t) (hu : ∀ j, j < 2 * n → srN fr to j = pdN fr to s pth (d + 1) → usN fr to lim x cl lv j) : DI N n fr to lim x0 s t lv x (fun v => if v = pdN fr to s pth (d + 1) then -1 else cl v) (fun v => if v = pdN fr to s pth (d + 1) then 0 else ck v) pth d ∧ WN N n fr to lim lv x (fun v => if v = pdN fr to s pth (d + 1) then -1 else cl v) d < WN N n fr to lim lv x cl (d + 1) := by
  have hl := h.lev hA hs h0 (Nat.le_refl (d + 1))
  have hlev := fun i (hi : i ≤ d + 1) => h.lev hA hs h0 hi
  obtain ⟨h1, h2, h3, h4, h5, h6⟩ := h
  have hns : pdN fr to s pth (d + 1) ≠ s := fun z => by
    have := hl.2.2
    rw [z, h0] at this
    omega
  have usm : ∀ e, e < 2 * n → usN fr to lim x cl lv e → usN fr to lim x (fun v => if v = pdN fr to s pth (d + 1) then -1 else cl v) lv e := fun e he hu => by
    rcases hu with z | z
    · exact Or.inl z
    · refine Or.inr ?_
      by_cases q : tgN fr to e = pdN fr to s pth (d + 1)
      · simp only [if_pos q]
        have := hlv _ (side_N hA.2.2.1 he).1
        omega
      · simp only [if_neg q]; exact z
  refine ⟨⟨h1, fun v hv => ?_, fun v hv => ?_, fun v hv hcl e he hse => ?_, h5, fun i hi => ?_⟩, ?_⟩
  · by_cases q : v = pdN fr to s pth (d + 1)
    · simp only [if_pos q]
      exact Or.inr ⟨by trivial, by rw [q]; exact hne, by rw [q]; exact hns⟩
    · simp only [if_neg q]; exact h2 v hv
  · by_cases q : v = pdN fr to s pth (d + 1)
    · simp only [if_pos q]
      exact ⟨by omega, fun e _ he hse => usm e he (hu e he (hse.trans q))⟩
    · simp only [if_neg q]
      exact ⟨(h3 v hv).1, fun e e1 e2 e3 => usm e e2 ((h3 v hv).2 e e1 e2 e3)⟩
  · by_cases q : v = pdN fr to s pth (d + 1)
    · exact usm e he (hu e he (hse.trans q))
    · simp only [if_neg q] at hcl
      exact usm e he (h4 v hv hcl e he hse)
  · obtain ⟨a, b, c, e⟩ := h6 i (by omega)
    refine ⟨a, b, c, ?_⟩
    have hni : ¬ pdN fr to s pth (i + 1) = pdN fr to s pth (d + 1) := fun z => by
      have w := (hlev (i + 1) (by omega)).2.1
      rw [z, hl.2.1] at w
      omega
    simp only [if_neg hni]
    exact e
  · have : sm (bN (fun v => if v = pdN fr to s pth (d + 1) then -1 else cl v)) N < sm (bN cl) N := sm_lt (i := pdN fr to s pth (d + 1)) (fun v hv => by
      unfold bN
      by_cases q : v = pdN fr to s pth (d + 1)
      · simp only [if_pos q]
        split <;> split <;> omega
      · simp only [if_neg q]; exact Int.le_refl _) hl.1 (by
      unfold bN
      simp only [if_true]
      rw [if_neg (by omega), if_pos (by rw [hl.2.1]; omega)]
      omega)
    unfold WN
    omega
theorem aS_rm (hA : okA N n fr to lim) (hs : s < N) (h0 : lv s = 0) (h : DI N n fr to lim x0 s t lv x cl ck pth dp) (a : Int) : ∀ k, k ≤ dp → (∀ j, j < dp → rmN lim (aSN x pth a k) (pth j) = rmN lim x (pth j) - (if j < k then a else 0)) ∧ (∀ e, (∀ j, j < k → e ≠ pth j ∧ e ≠ rvN (pth j)) → rmN lim (aSN x pth a k) e = rmN lim x e) ∧ (∀ j, j < dp → rmN lim (aSN x pth a k) (rvN (pth j)) = rmN lim x (rvN (pth j)) + (if j < k then a else 0)) := by
  have lev : ∀ i, i < dp → lv (srN fr to (pth i)) = i ∧ lv (tgN fr to (pth i)) = (i : Int) + 1 := fun i hi => by
    have a := (h.lev hA hs h0 (show i ≤ dp by omega)).2.2
    have b := (h.lev hA hs h0 (show i + 1 ≤ dp by omega)).2.2
    have c := (h.2.2.2.2.2 i hi).2.1
    rw [c]
    refine ⟨a, ?_⟩
    have e : pdN fr to s pth (i + 1) = tgN fr to (pth i) := rfl
    rw [e] at b
    omega
  have d1 : ∀ i j, i < dp → j < dp → pth i = pth j → i = j := fun i j hi hj z => by
    have a := (lev i hi).1
    have b := (lev j hj).1
    rw [z] at a
    omega
  have d2 : ∀ i j, i < dp → j < dp → pth i ≠ rvN (pth j) := fun i j hi hj z => by
    have a := lev i hi
    have b := lev j hj
    rw [z, (rv_sr (pth j)).1, (rv_sr (pth j)).2.1] at a
    omega
  have d3 : ∀ i j, i < dp → j < dp → rvN (pth i) = rvN (pth j) → i = j := fun i j hi hj z => by
    have a := (rv_sr (fr := fr) (to := to) (pth i)).2.2.1
    have b := (rv_sr (fr := fr) (to := to) (pth j)).2.2.1
    rw [z] at a
    exact d1 i j hi hj (a.symm.trans b)
  intro k
  induction k with
  | zero =>
    intro _
    exact ⟨fun j _ => by rw [if_neg (by omega)]; show rmN lim x (pth j) = _; omega, fun e _ => rfl, fun j _ => by rw [if_neg (by omega)]; show rmN lim x (rvN (pth j)) = _; omega⟩
  | succ k ih =>
    intro hk
    obtain ⟨i1, i2, i3⟩ := ih (by omega)
    refine ⟨fun j hj => ?_, fun e he => ?_, fun j hj => ?_⟩
    · rw [rm_aS, i1 j hj]
      by_cases q : j = k
      · rw [q, if_pos rfl, if_neg (by omega), if_pos (by omega)]; omega
      · rw [if_neg (fun z => q (d1 j k hj (by omega) z)), if_neg (d2 j k hj (by omega))]
        by_cases q2 : j < k
        · rw [if_pos q2, if_pos (by omega)]
        · rw [if_neg q2, if_neg (by omega)]
    · rw [rm_aS, if_neg (he k (by omega)).1, if_neg (he k (by omega)).2]
      exact i2 e (fun j hj => he j (by omega))
    · rw [rm_aS, i3 j hj, if_neg (fun z => d2 k j (by omega) hj z.symm)]
      by_cases q : j = k
      · rw [q, if_pos rfl, if_neg (by omega), if_pos (by omega)]; omega
      · rw [if_neg (fun z => q (d3 j k hj (by omega) z))]
        by_cases q2 : j < k
        · rw [if_pos q2, if_pos (by omega)]
        · rw [if_neg q2, if_neg (by omega)]
/-- for every side: it is on the path, or against it, or neither -/
theorem aS_at (hA : okA N n fr to lim) (hs : s < N) (h0 : lv s = 0) (h : DI N n fr to lim x0 s t lv x cl ck pth dp) (a : Int) {k : Nat} (hk : k ≤ dp) (e : Nat) : (∃ j, j < k ∧ e = pth j ∧ rmN lim (aSN x pth a k) e = rmN lim x e - a) ∨ (∃ j, j < k ∧ e = rvN (pth j) ∧ rmN lim (aSN x pth a k) e = rmN lim x e + a) ∨ rmN lim (aSN x pth a k) e = rmN lim x e := by
  obtain ⟨i1, i2, i3⟩ := aS_rm hA hs h0 h a k hk
  by_cases q : ∃ j, j < k ∧ e = pth j
  · obtain ⟨j, j1, j2⟩ := q
    refine Or.inl ⟨j, j1, j2, ?_⟩
    rw [j2, i1 j (by omega), if_pos j1]
  · by_cases q2 : ∃ j, j < k ∧ e = rvN (pth j)
    · obtain ⟨j, j1, j2⟩ := q2
      refine Or.inr (Or.inl ⟨j, j1, j2, ?_⟩)
      rw [j2, i3 j (by omega), if_pos j1]
    · exact Or.inr (Or.inr (i2 e (fun j hj => ⟨fun z => q ⟨j, hj, z⟩, fun z => q2 ⟨j, hj, z⟩⟩)))
theorem okX_rm {x : Nat → Int} : okX n lim x ↔ ∀ e, e < 2 * n → 0 ≤ rmN lim x e := by
  refine ⟨fun h e he => (rm_nn h he).1, fun h g hg => ?_⟩
  have a := h (2 * g) (by omega)
  have b := h (2 * g + 1) (by omega)
  unfold rmN at a b
  rw [if_pos (by omega), show 2 * g / 2 = g by omega] at a
  rw [if_neg (by omega), show (2 * g + 1) / 2 = g by omega] at b
  omega
theorem aS_ok (hA : okA N n fr to lim) (hs : s < N) (h0 : lv s = 0) (h : DI N n fr to lim x0 s t lv x cl ck pth dp) {a : Int} (ha : 0 ≤ a) (hm : ∀ j, j < dp → a ≤ rmN lim x (pth j)) {k : Nat} (hk : k ≤ dp) : okX n lim (aSN x pth a k) := by
  refine okX_rm.mpr (fun e he => ?_)
  have h1 := (rm_nn h.1 he).1
  rcases aS_at hA hs h0 h a hk e with ⟨j, j1, j2, j3⟩ | ⟨j, j1, j2, j3⟩ | j3
  · have := hm j (by omega)
    rw [j3, j2]; omega
  · rw [j3]; omega
  · rw [j3]; exact h1
theorem DI.path {a : Int} (hA : okA N n fr to lim) (hs : s < N) (h0 : lv s = 0) (h : DI N n fr to lim x0 s t lv x cl ck pth dp) (ha : 0 < a) (hm : ∀ j, j < dp → a ≤ rmN lim x (pth j)) (hex : ∃ j, j < dp ∧ rmN lim x (pth j) = a) : DI N n fr to lim x0 s t lv (aSN x pth a dp) cl ck pth 0 ∧ WN N n fr to lim lv (aSN x pth a dp) cl 0 < WN N n fr to lim lv x cl dp := by
  have hdp := h.dp_lt hA hs h0
  have at_ := fun e => aS_at hA hs h0 h a (Nat.le_refl dp) e
  have lev : ∀ i, i < dp → (lv (srN fr to (pth i)) = i ∧ lv (tgN fr to (pth i)) = (i : Int) + 1) ∧ cl (srN fr to (pth i)) = i := fun i hi => by
    have a := (h.lev hA hs h0 (show i ≤ dp by omega)).2
    have b := (h.lev hA hs h0 (show i + 1 ≤ dp by omega)).2.2
    have c := (h.2.2.2.2.2 i hi).2.1
    rw [c]
    refine ⟨⟨a.2, ?_⟩, a.1⟩
    have e : pdN fr to s pth (i + 1) = tgN fr to (pth i) := rfl
    rw [e] at b
    omega
  have hk := aS_ok hA hs h0 h (Int.le_of_lt ha) hm (Nat.le_refl dp)
  obtain ⟨h1, h2, h3, h4, h5, h6⟩ := h
  have rvl : ∀ j, j < dp → lv (srN fr to (rvN (pth j))) = (j : Int) + 1 ∧ lv (tgN fr to (rvN (pth j))) = j ∧ cl (tgN fr to (rvN (pth j))) = j := fun j hj => by
    rw [(rv_sr (pth j)).1, (rv_sr (pth j)).2.1]
    exact ⟨(lev j hj).1.2, (lev j hj).1.1, (lev j hj).2⟩
  have usm : ∀ e, usN fr to lim x cl lv e → usN fr to lim (aSN x pth a dp) cl lv e := fun e hu => by
    rcases at_ e with ⟨j, j1, j2, j3⟩ | ⟨j, j1, j2, j3⟩ | j3
    · rcases hu with z | z
      · exact Or.inl (by rw [j3]; omega)
      · exact Or.inr z
    · refine Or.inr ?_
      rw [j2, (rvl j j1).2.2, (rvl j j1).1]
      omega
    · rcases hu with z | z
      · exact Or.inl (by rw [j3]; exact z)
      · exact Or.inr z
  refine ⟨⟨hk, h2, fun v hv => ⟨(h3 v hv).1, fun e e1 e2 e3 => usm e ((h3 v hv).2 e e1 e2 e3)⟩, fun v hv hc e he hse => usm e (h4 v hv hc e he hse), fun e he hr => ?_, fun i hi => by omega⟩, ?_⟩
  · rcases at_ e with ⟨j, j1, j2, j3⟩ | ⟨j, j1, j2, j3⟩ | j3
    · exact h5 e he (by rw [j3] at hr; omega)
    · refine Or.inr ?_
      rw [j2, (rvl j j1).1, (rvl j j1).2.1]
      omega
    · exact h5 e he (by rw [j3] at hr; exact hr)
  · obtain ⟨j, j1, j2⟩ := hex
    have : sm (aN fr to lim lv (aSN x pth a dp)) (2 * n) < sm (aN fr to lim lv x) (2 * n) := sm_lt (i := pth j) (fun e he => by
      have l01 := aN_01 (fr := fr) (to := to) (lim := lim) (lv := lv) (x := x) e
      rcases at_ e with ⟨i, i1, i2, i3⟩ | ⟨i, i1, i2, i3⟩ | i3
      · have e1 : aN fr to lim lv x e = 1 := by
          unfold aN
          refine if_pos ?_
          rw [i2, (lev i i1).1.1, (lev i i1).1.2]
          exact ⟨(h6 i i1).2.2.1, by omega, by omega⟩
        rw [e1]
        exact (aN_01 e).2
      · have e1 : aN fr to lim lv (aSN x pth a dp) e = 0 := by
          unfold aN
          refine if_neg (fun z => ?_)
          rw [i2, (rvl i i1).1, (rvl i i1).2.1] at z
          omega
        rw [e1]
        exact l01.1
      · unfold aN
        rw [i3]
        exact Int.le_refl _) (h6 j j1).1 (by
      unfold aN
      rw [((aS_rm hA hs h0 ⟨h1, h2, h3, h4, h5, h6⟩ a dp (Nat.le_refl dp)).1 j j1), if_pos j1, j2, if_neg (by omega), if_pos ⟨by rw [← j2]; exact (h6 j j1).2.2.1, by rw [(lev j j1).1.1, (lev j j1).1.2], by rw [(lev j j1).1.1]; omega⟩]
      omega)
    have hN8 := hA.1
    unfold WN
    omega
/-- what is known when there is no path left -/
def PE (N n : Nat) (fr to : Nat → Nat) (lim x0 : Nat → Int) (s t : Nat) (lv x : Nat → Int) : Prop := okX n lim x ∧ (∃ dead : Nat → Prop, ¬ dead t ∧ ∀ v w, v < N → w < N → (dead v ∨ v = s) → StG n fr to lim x v w → lv w = lv v + 1 → dead w) ∧ ∀ u w, StG n fr to lim x u w → StG n fr to lim x0 u w ∨ (lv u = lv w + 1 ∧ 0 ≤ lv w)
theorem DI.fin (ht : t < N) (h : DI N n fr to lim x0 s t lv x cl ck pth dp) (hu : ∀ j, j < 2 * n → srN fr to j = s → usN fr to lim x cl lv j) : PE N n fr to lim x0 s t lv x := by
  obtain ⟨h1, h2, h3, h4, h5, h6⟩ := h
  refine ⟨h1, ⟨fun v => cl v ≠ lv v, fun z => ?_, fun v w hv hw hor hst hl => ?_⟩, fun u w hst => ?_⟩
  · rcases h2 t ht with y | y
    · exact z y
    · exact absurd rfl y.2.1
  · obtain ⟨e, e1, e2, e3, e4⟩ := st_side.mp hst
    have us : usN fr to lim x cl lv e := by
      rcases hor with z | z
      · exact h4 v hv z e e1 e2
      · exact hu e e1 (e2.trans z)
    rcases us with z | z
    · omega
    · rw [e3, e2, ← hl] at z
      exact z
  · obtain ⟨e, e1, e2, e3, e4⟩ := st_side.mp hst
    rcases h5 e e1 e4 with z | z
    · exact Or.inl (st_side.mpr ⟨e, e1, e2, e3, z⟩)
    · rw [e2, e3] at z; exact Or.inr z
/-- the sink is farther after a pass -/
theorem lv_more {lv' : Nat → Int} (hs : s < N) (ht : t < N) (hL : LV N n fr to lim x0 s t lv) (hE : PE N n fr to lim x0 s t lv x) (hL' : LV N n fr to lim x s t lv') : lv t < lv' t := by
  obtain ⟨l1, l2, l3, l4, l5⟩ := hL
  obtain ⟨k1, k2, k3, k4, k5⟩ := hL'
  obtain ⟨e1, ⟨dead, e2, e3⟩, e4⟩ := hE
  -- the level, cut at the sink's
  have cap : ∀ u w, u < N → w < N → StG n fr to lim x u w → (if 0 ≤ lv w then min (lv w) (lv t) else lv t) ≤ (if 0 ≤ lv u then min (lv u) (lv t) else lv t) + 1 := fun u w hu hw hst => by
    rcases e4 u w hst with z | z
    · by_cases p : 0 ≤ lv u
      · rw [if_pos p]
        by_cases q : lv u + 1 < lv t
        · have := l5 u w hu hw z p q
          rw [if_pos this.1]; omega
        · split <;> omega
      · rw [if_neg p]; split <;> omega
    · rw [if_pos z.2, if_pos (show 0 ≤ lv u by omega)]; omega
  have le : ∀ (j v : Nat), v < N → lv' v = j → (if 0 ≤ lv v then min (lv v) (lv t) else lv t) ≤ j := by
    intro j
    induction j with
    | zero =>
      intro v hv hz
      by_cases q : v = s
      · rw [q, if_pos (by omega)]; omega
      · obtain ⟨u, u1, u2, u3, u4⟩ := k3 v hv q (by omega)
        omega
    | succ j ih =>
      intro v hv hz
      have q : v ≠ s := fun z => by rw [z, k1] at hz; omega
      obtain ⟨u, u1, u2, u3, u4⟩ := k3 v hv q (by omega)
      have a := ih u u1 (by omega)
      have b := cap u v u1 hv u2
      omega
  have tl := le (lv' t).toNat t ht (by omega)
  rw [if_pos (by omega)] at tl
  by_cases q : lv t < lv' t
  · exact q
  · exfalso
    have eqt : lv' t = lv t := by omega
    have dd : ∀ (j v : Nat), v < N → lv' v = j → lv v = j → (j : Int) ≤ lv t → dead v ∨ v = s := by
      intro j
      induction j with
      | zero =>
        intro v hv hz _ _
        by_cases q : v = s
        · exact Or.inr q
        · obtain ⟨u, u1, u2, u3, u4⟩ := k3 v hv q (by omega)
          omega
      | succ j ih =>
        intro v hv hz hz2 hj
        have q : v ≠ s := fun z => by rw [z, k1] at hz; omega
        obtain ⟨u, u1, u2, u3, u4⟩ := k3 v hv q (by omega)
        have a := le j u u1 (by omega)
        have b := cap u v u1 hv u2
        rw [if_pos (by omega)] at b
        have c : lv u = j := by
          by_cases p : 0 ≤ lv u
          · rw [if_pos p] at a b
            omega
          · rw [if_neg p] at a b
            omega
        have d := ih u u1 (by omega) c (by omega)
        exact Or.inl (e3 u v u1 hv d u2 (by omega))
    rcases dd (lv' t).toNat t ht (by omega) (by omega) (by omega) with z | z
    · exact e2 z
    · rw [z] at l4
      omega
end Dfs
