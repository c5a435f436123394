/-! cuts, when a capacity changes -/
theorem cut_any {N : Nat} {f : Nat → Nat → Int} {S : Nat → Bool} (hf : anti N f) : sm (fun u => if S u = true then outf N f u else 0) N = cutc N f S := by
  have h2 : anti N (fun u w => if S u = true ∧ S w = true then f u w else 0) := by
    intro u w hu hw
    by_cases e : S u = true ∧ S w = true
    · simp only [if_pos e, if_pos (And.intro e.2 e.1)]
      exact hf u w hu hw
    · simp only [if_neg e, if_neg (fun z : S w = true ∧ S u = true => e ⟨z.2, z.1⟩)]
      rfl
  have h3 := anti_0 h2
  have h4 : sm (fun u => if S u = true then outf N f u else 0) N = sm (fun u => sm (fun w => (if S u = true ∧ S w = true then f u w else 0) + (if S u = true ∧ S w = false then f u w else 0)) N) N := by
    refine sm_congr (fun u _ => ?_)
    by_cases e : S u = true
    · rw [if_pos e]
      refine sm_congr (fun w _ => ?_)
      cases hw : S w <;> simp [e]
    · rw [if_neg e]
      exact (sm_0 (fun w _ => by simp [e])).symm
  rw [h4]
  have h5 : sm (fun u => sm (fun w => (if S u = true ∧ S w = true then f u w else 0) + (if S u = true ∧ S w = false then f u w else 0)) N) N = sm (fun u => sm (fun w => if S u = true ∧ S w = true then f u w else 0) N) N + cutc N f S := by
    unfold cutc
    rw [← sm_add]
    exact sm_congr (fun u _ => sm_add _ _ N)
  rw [h5, h3]
  omega
theorem cutc_add {N : Nat} {f g : Nat → Nat → Int} {S : Nat → Bool} : cutc N (fun u w => f u w + g u w) S = cutc N f S + cutc N g S := by
  unfold cutc
  rw [← sm_add]
  refine sm_congr (fun u _ => ?_)
  rw [← sm_add]
  refine sm_congr (fun w _ => ?_)
  by_cases e : S u = true ∧ S w = false
  · rw [if_pos e, if_pos e, if_pos e]
  · rw [if_neg e, if_neg e, if_neg e]; rfl
theorem cutc_congr {N : Nat} {f g : Nat → Nat → Int} {S : Nat → Bool} (h : ∀ u w, u < N → w < N → S u = true → S w = false → f u w = g u w) : cutc N f S = cutc N g S := by
  refine sm_congr (fun u hu => sm_congr (fun w hw => ?_))
  by_cases e : S u = true ∧ S w = false
  · rw [if_pos e, if_pos e]; exact h u w hu hw e.1 e.2
  · rw [if_neg e, if_neg e]
theorem cutc_pick {N u w : Nat} {f : Nat → Nat → Int} {S : Nat → Bool} (h : ∀ u w, u < N → w < N → 0 ≤ f u w) (hu : u < N) (hw : w < N) (e1 : S u = true) (e2 : S w = false) : f u w ≤ cutc N f S := by
  have h0 : ∀ u w, u < N → w < N → 0 ≤ (if S u = true ∧ S w = false then f u w else 0) := fun u w hu hw => by
    by_cases e : S u = true ∧ S w = false
    · rw [if_pos e]; exact h u w hu hw
    · rw [if_neg e]; omega
  have a1 : (if S u = true ∧ S w = false then f u w else 0) ≤ sm (fun w => if S u = true ∧ S w = false then f u w else 0) N := sm_pick (f := fun w => if S u = true ∧ S w = false then f u w else 0) (fun k hk => h0 u k hu hk) hw
  have a2 : sm (fun w => if S u = true ∧ S w = false then f u w else 0) N ≤ sm (fun u => sm (fun w => if S u = true ∧ S w = false then f u w else 0) N) N := sm_pick (f := fun u => sm (fun w => if S u = true ∧ S w = false then f u w else 0) N) (fun k hk => sm_nn (fun j hj => h0 k j hk hj)) hu
  rw [if_pos ⟨e1, e2⟩] at a1
  unfold cutc
  omega
theorem cutc_one {N a b : Nat} {v : Int} {S : Nat → Bool} (ha : a < N) (hb : b < N) : cutc N (fun u w => if a = u ∧ b = w then v else 0) S = if S a = true ∧ S b = false then v else 0 := by
  unfold cutc
  rw [sm_one ha (fun k _ hk => sm_0 (fun w _ => ?_)), sm_one hb (fun k _ hk => ?_)]
  · by_cases e : S a = true ∧ S b = false
    · rw [if_pos e, if_pos e]
      exact if_pos ⟨rfl, rfl⟩
    · rw [if_neg e, if_neg e]
  · by_cases e : S a = true ∧ S k = false
    · rw [if_pos e]
      exact if_neg (fun z => hk z.2.symm)
    · rw [if_neg e]
  · by_cases e : S k = true ∧ S w = false
    · rw [if_pos e]
      exact if_neg (fun z => hk z.1.symm)
    · rw [if_neg e]
section Cuts
variable {N n : Nat} {fr to : Nat → Nat} {lim x : Nat → Int} {S : Nat → Bool} {s t : Nat} {v : Int} {c r : Nat → Nat → Int}
theorem cG_upd {a : Nat} {δ : Int} (ha : a < n) (u w : Nat) : cG n fr to (fun e => if e = a then lim a + δ else lim e) u w = cG n fr to lim u w + (if fr a = u ∧ to a = w then δ else 0) := by
  unfold cG
  have h := sm_upd (f := fun e => if fr e = u ∧ to e = w then lim e else 0) (i := a) (v := if fr a = u ∧ to a = w then lim a + δ else 0) ha
  have e : sm (fun e => if fr e = u ∧ to e = w then (if e = a then lim a + δ else lim e) else 0) n = sm (fun k => if k = a then (if fr a = u ∧ to a = w then lim a + δ else 0) else (fun e => if fr e = u ∧ to e = w then lim e else 0) k) n := by
    refine sm_congr (fun k _ => ?_)
    by_cases q : k = a
    · subst q; simp
    · simp [q]
  rw [e, h]
  by_cases q : fr a = u ∧ to a = w
  · simp only [if_pos q]; omega
  · simp only [if_neg q]; omega
theorem cutc_upd {a : Nat} {δ : Int} (hN : okN N n fr to) (ha : a < n) : cutc N (cG n fr to (fun e => if e = a then lim a + δ else lim e)) S = cutc N (cG n fr to lim) S + (if S (fr a) = true ∧ S (to a) = false then δ else 0) := by
  rw [← cutc_one (hN a ha).1 (hN a ha).2.1, ← cutc_add]
  exact cutc_congr (fun u w _ _ _ _ => cG_upd ha u w)
theorem RO.cut_eq (h : RO N c s t r v) (hs : s < N) (hS : S s = true) (hT : S t = false) : v = cutc N c S - cutc N r S := by
  have hf := h.flow
  have h1 := cut_val hf.1 hs hS hT hf.2.2.1
  rw [hf.2.2.2] at h1
  have h2 : cutc N c S = cutc N (fun u w => c u w - r u w) S + cutc N r S := by
    rw [← cutc_add]
    exact cutc_congr (fun u w _ _ _ _ => by show c u w = c u w - r u w + r u w; omega)
  omega
theorem GO.closed (hN : okN N n fr to) (hs : s < N) (h : GO N n fr to lim s t x v) (hS : S s = true) (hT : S t = false) (hc : ∀ u w, u < N → w < N → S u = true → StG n fr to lim x u w → S w = true) : v = cutc N (cG n fr to lim) S := by
  have h1 := (h.ro hN).cut_eq hs hS hT
  have h2 : cutc N (rG n fr to lim x) S = 0 := by
    refine sm_0 (fun u hu => sm_0 (fun w hw => ?_))
    by_cases e : S u = true ∧ S w = false
    · rw [if_pos e]
      have a := (h.ro hN).2.1 u w hu hw
      have b : ¬ 0 < rG n fr to lim x u w := fun z => by
        have := hc u w hu hw e.1 ((rG_pos h.1 u w).mp z)
        rw [e.2] at this
        cases this
      omega
    · rw [if_neg e]
  omega
theorem GO.tight (hN : okN N n fr to) (hs : s < N) (h : GO N n fr to lim s t x v) (hS : S s = true) (hT : S t = false) (hv : v = cutc N (cG n fr to lim) S) {u w : Nat} (hu : u < N) (hw : w < N) (e1 : S u = true) (hst : StG n fr to lim x u w) : S w = true := by
  have h1 := (h.ro hN).cut_eq hs hS hT
  cases e2 : S w with
  | true => rfl
  | false =>
    have h2 := cutc_pick (f := rG n fr to lim x) (h.ro hN).2.1 hu hw e1 e2
    have h3 := (rG_pos h.1 u w).mpr hst
    omega
/-- a closed set that holds the beginning, holds all to which one comes -/
theorem clo_from {a : Nat} {D : Nat → Int} {st : Nat → Nat → Prop} (hD : IsDist N (fun v w => st w v) a D) (hc : ∀ u w, u < N → w < N → S u = true → st u w → S w = true) (ha : S a = true) : ∀ (m k : Nat), k < N → D k = m → S k = true := by
  intro m
  induction m with
  | zero =>
    intro k hk e
    rw [hD.zero hk e]; exact ha
  | succ m ih =>
    intro k hk e
    by_cases q : k = a
    · rw [q]; exact ha
    · obtain ⟨u, hu, hst, g1, g2⟩ := hD.2.2.1 k hk q (by omega)
      exact hc u k hu hk (ih u hu (by omega)) hst
/-- a closed set that holds a node from which one comes to the end, holds the end -/
theorem clo_to {t : Nat} {D : Nat → Int} {st : Nat → Nat → Prop} (hD : IsDist N st t D) (hc : ∀ u w, u < N → w < N → S u = true → st u w → S w = true) : ∀ (m k : Nat), k < N → D k = m → S k = true → S t = true := by
  intro m
  induction m with
  | zero =>
    intro k hk e hS
    rw [← hD.zero hk e]; exact hS
  | succ m ih =>
    intro k hk e hS
    by_cases q : k = t
    · rw [← q]; exact hS
    · obtain ⟨u, hu, hst, g1, g2⟩ := hD.2.2.1 k hk q (by omega)
      exact ih u hu (by omega) (hc k u hk hu hS hst)
end Cuts
/-- gate a's capacity is other by δ -/
abbrev limD (b : Bk) (a : Nat) (δ : Int) : Nat → Int := fun e => if e = a then capB b a + δ else capB b e
section Worth
variable {b : Bk} {a : Nat}
theorem GO_more {δ : Int} (hb : okB b) (ha : a < bn b) (h0 : xE (T0 b) a ≤ capB b a + δ) : mostT (T0 b) ≤ mostT (TN b (limD b a δ)) ∨ ¬ okT (TN b (limD b a δ)) := by
  by_cases hT' : okT (TN b (limD b a δ))
  · refine Or.inl ?_
    have hT := okT_T0 hb
    have h := mostT_go hT
    have h2 : GO 12 (bn b) (tf (T0 b)) (tt (T0 b)) (limD b a δ) (bs b) (bz b) (xE (T0 b)) (mostT (T0 b)) := by
      refine ⟨fun e he => ?_, h.2.1, h.2.2⟩
      have := h.1 e he
      show 0 ≤ _ ∧ _ ≤ if e = a then _ else _
      by_cases q : e = a
      · rw [if_pos q, q]; rw [q] at this; exact ⟨this.1, h0⟩
      · rw [if_neg q]; exact this
    exact (mostT_mf hT').ge hT'.2.2.2.1 (h2.ro hT'.2.1).flow
  · exact Or.inr hT'
theorem wide_iff (hb : okB b) (ha : a < bn b) (hT' : okT (TN b (limD b a 1))) {D : Nat → Int} (hD : IsDist 12 (fun v w => stT (T0 b) (xE (T0 b)) w v) (bs b) D) : mostT (T0 b) < mostT (TN b (limD b a 1)) ↔ (0 ≤ D (bB b a 0).toNat ∧ 0 ≤ dT (T0 b) (xE (T0 b)) (bB b a 1).toNat) := by
  have hT := okT_T0 hb
  have hg := mostT_go hT
  have hG := okG_n (hb.2.2.2.2 a ha)
  have hz := dT_is (T0 b) (xE (T0 b))
  have hneg := dE_neg hT
  constructor
  · intro hlt
    refine ⟨?_, ?_⟩
    · by_cases q : 0 ≤ D (bB b a 0).toNat
      · exact q
      · exfalso
        have hS1 : (fun v => decide (0 ≤ D v)) (bs b) = true := by simp [hD.1]
        have hcl : ∀ u w, u < 12 → w < 12 → (fun v => decide (0 ≤ D v)) u = true → stT (T0 b) (xE (T0 b)) u w → (fun v => decide (0 ≤ D v)) w = true := fun u w hu hw e hs => by
          have := hD.2.2.2 w u hw hu hs (by simpa using e)
          simpa using this.1
        have hS2 : (fun v => decide (0 ≤ D v)) (bz b) = false := by
          by_cases z : 0 ≤ D (bz b)
          · exfalso
            have := clo_from (S := fun v => decide (dT (T0 b) (xE (T0 b)) v < 0)) hD (fun u w hu hw e hs => by
              simp only [decide_eq_true_eq] at e ⊢
              by_cases y : dT (T0 b) (xE (T0 b)) w < 0
              · exact y
              · have := (hz.2.2.2 u w hu hw hs (by omega)).1
                omega) (by
              simp only [decide_eq_true_eq]
              exact hneg) (D (bz b)).toNat (bz b) hb.2.2.1 (by omega)
            simp only [decide_eq_true_eq] at this
            have h0 : dT (T0 b) (xE (T0 b)) (bz b) = 0 := hz.1
            omega
          · simpa using z
        have h1 := hg.closed hT.2.1 hT.2.2.2.1 hS1 hS2 hcl
        have h2 := (mostT_mf hT').ge hT'.2.2.2.1 ((mostT_go hT').ro hT'.2.1).flow
        have h3 := ((mostT_go hT').ro hT'.2.1).flow.le_cut (S := fun v => decide (0 ≤ D v)) hT'.2.2.2.1 hS1 hS2
        have h4 := cutc_upd (N := 12) (n := bn b) (fr := tf (T0 b)) (to := tt (T0 b)) (lim := capB b) (S := fun v => decide (0 ≤ D v)) (a := a) (δ := 1) hT.2.1 ha
        have h5 : ¬ ((fun v => decide (0 ≤ D v)) (tf (T0 b) a) = true ∧ (fun v => decide (0 ≤ D v)) (tt (T0 b) a) = false) := fun z => by
          have := z.1
          simp only [decide_eq_true_eq] at this
          exact q this
        rw [if_neg h5] at h4
        have h6 : mostT (TN b (limD b a 1)) ≤ cutc 12 (cG (bn b) (tf (T0 b)) (tt (T0 b)) (fun e => if e = a then capB b a + 1 else capB b e)) (fun v => decide (0 ≤ D v)) := h3
        have h7 : mostT (T0 b) = cutc 12 (cG (bn b) (tf (T0 b)) (tt (T0 b)) (capB b)) (fun v => decide (0 ≤ D v)) := h1
        omega
    · by_cases q : 0 ≤ dT (T0 b) (xE (T0 b)) (bB b a 1).toNat
      · exact q
      · exfalso
        have hS1 : (fun v => decide (dT (T0 b) (xE (T0 b)) v < 0)) (bs b) = true := by
          have h : dT (T0 b) (xE (T0 b)) (bs b) < 0 := hneg
          simpa using h
        have hS2 : (fun v => decide (dT (T0 b) (xE (T0 b)) v < 0)) (bz b) = false := by
          have : dT (T0 b) (xE (T0 b)) (bz b) = 0 := hz.1
          simp [this]
        have hcl : ∀ u w, u < 12 → w < 12 → (fun v => decide (dT (T0 b) (xE (T0 b)) v < 0)) u = true → stT (T0 b) (xE (T0 b)) u w → (fun v => decide (dT (T0 b) (xE (T0 b)) v < 0)) w = true := fun u w hu hw e hs => by
          simp only [decide_eq_true_eq] at e ⊢
          by_cases y : dT (T0 b) (xE (T0 b)) w < 0
          · exact y
          · have := (hz.2.2.2 u w hu hw hs (by omega)).1
            omega
        have h1 := hg.closed hT.2.1 hT.2.2.2.1 hS1 hS2 hcl
        have h3 := ((mostT_go hT').ro hT'.2.1).flow.le_cut (S := fun v => decide (dT (T0 b) (xE (T0 b)) v < 0)) hT'.2.2.2.1 hS1 hS2
        have h4 := cutc_upd (N := 12) (n := bn b) (fr := tf (T0 b)) (to := tt (T0 b)) (lim := capB b) (S := fun v => decide (dT (T0 b) (xE (T0 b)) v < 0)) (a := a) (δ := 1) hT.2.1 ha
        have h5 : ¬ ((fun v => decide (dT (T0 b) (xE (T0 b)) v < 0)) (tf (T0 b) a) = true ∧ (fun v => decide (dT (T0 b) (xE (T0 b)) v < 0)) (tt (T0 b) a) = false) := fun z => by
          have := z.2
          simp only [decide_eq_false_iff_not] at this
          have e : tt (T0 b) a = (bB b a 1).toNat := rfl
          rw [e] at this
          omega
        rw [if_neg h5] at h4
        have h6 : mostT (TN b (limD b a 1)) ≤ cutc 12 (cG (bn b) (tf (T0 b)) (tt (T0 b)) (fun e => if e = a then capB b a + 1 else capB b e)) (fun v => decide (dT (T0 b) (xE (T0 b)) v < 0)) := h3
        have h7 : mostT (T0 b) = cutc 12 (cG (bn b) (tf (T0 b)) (tt (T0 b)) (capB b)) (fun v => decide (dT (T0 b) (xE (T0 b)) v < 0)) := h1
        omega
  · intro ⟨hn, hf⟩
    have hle : mostT (T0 b) ≤ mostT (TN b (limD b a 1)) := by
      rcases GO_more (δ := 1) hb ha (by have := (hg.1 a ha).2; show _ ≤ _; have e : tl (T0 b) a = capB b a := rfl; omega) with h | h
      · exact h
      · exact absurd hT' h
    by_cases he : mostT (T0 b) = mostT (TN b (limD b a 1))
    · exfalso
      obtain ⟨f, S, -, hS1, hS2, hv⟩ := mostT_mf hT'
      rw [← he] at hv
      have h2 : GO 12 (bn b) (tf (T0 b)) (tt (T0 b)) (limD b a 1) (bs b) (bz b) (xE (T0 b)) (mostT (T0 b)) := by
        refine ⟨fun e he => ?_, hg.2.1, hg.2.2⟩
        have := hg.1 e he
        show 0 ≤ _ ∧ _ ≤ if e = a then _ else _
        have e0 : tl (T0 b) e = capB b e := rfl
        by_cases q : e = a
        · rw [if_pos q]; rw [q] at this e0 ⊢; omega
        · rw [if_neg q]; exact this
      have cl : ∀ u w, u < 12 → w < 12 → S u = true → StG (bn b) (tf (T0 b)) (tt (T0 b)) (limD b a 1) (xE (T0 b)) u w → S w = true := fun u w hu hw e hs => h2.tight hT.2.1 hT.2.2.2.1 hS1 hS2 hv hu hw e hs
      have cl2 : ∀ u w, u < 12 → w < 12 → S u = true → stT (T0 b) (xE (T0 b)) u w → S w = true := fun u w hu hw e ⟨g, hg1, hg2⟩ => cl u w hu hw e ⟨g, hg1, by
        have hle : tl (T0 b) g ≤ limD b a 1 g := by
          show capB b g ≤ if g = a then _ else _
          by_cases q : g = a
          · rw [if_pos q, q]; omega
          · rw [if_neg q]; omega
        rcases hg2 with ⟨p1, p2, p3⟩ | p
        · exact Or.inl ⟨p1, p2, by omega⟩
        · exact Or.inr p⟩
      have s1 := clo_from hD cl2 hS1 (D (bB b a 0).toNat).toNat _ hG.2.1 (by omega)
      have s2 : S (bB b a 1).toNat = true := cl _ _ hG.2.1 hG.2.2.2.1 s1 ⟨a, ha, Or.inl ⟨rfl, rfl, by
        have := (hg.1 a ha).2
        have e0 : tl (T0 b) a = capB b a := rfl
        show _ < if a = a then _ else _
        rw [if_pos rfl]; omega⟩⟩
      have s3 := clo_to hz cl2 (dT (T0 b) (xE (T0 b)) (bB b a 1).toNat).toNat _ hG.2.2.2.1 (by omega) s2
      have s4 : S (bz b) = true := s3
      have hS2' : S (bz b) = false := hS2
      rw [s4] at hS2'
      cases hS2'
    · omega
theorem narrow_iff (hb : okB b) (ha : a < bn b) (hT' : okT (TN b (limD b a (-1)))) {D : Nat → Int} (hD : IsDist 12 (fun v w => stT (T0 b) (xE (T0 b)) w v) (bB b a 0).toNat D) : mostT (TN b (limD b a (-1))) < mostT (T0 b) ↔ (0 < xE (T0 b) a ∧ xE (T0 b) a = capB b a ∧ ¬ 0 ≤ D (bB b a 1).toNat) := by
  have hT := okT_T0 hb
  have hg := mostT_go hT
  have hG := okG_n (hb.2.2.2.2 a ha)
  have hxa := hg.1 a ha
  have e0 : tl (T0 b) a = capB b a := rfl
  have hl' := hT'.2.2.1 a ha
  have e1 : tl (TN b (limD b a (-1))) a = capB b a + -1 := by
    show (if a = a then _ else _) = _
    rw [if_pos rfl]
  have up : ∀ S : Nat → Bool, cutc 12 (cG (bn b) (tf (T0 b)) (tt (T0 b)) (limD b a (-1))) S = cutc 12 (cG (bn b) (tf (T0 b)) (tt (T0 b)) (capB b)) S + (if S (bB b a 0).toNat = true ∧ S (bB b a 1).toNat = false then -1 else 0) := fun S => cutc_upd (N := 12) (n := bn b) (fr := tf (T0 b)) (to := tt (T0 b)) (lim := capB b) (S := S) (a := a) (δ := -1) hT.2.1 ha
  constructor
  · intro hlt
    obtain ⟨f, S, -, hS1, hS2, hv⟩ := mostT_mf hT'
    have h2 : mostT (TN b (limD b a (-1))) = cutc 12 (cG (bn b) (tf (T0 b)) (tt (T0 b)) (limD b a (-1))) S := hv
    have h3 : mostT (T0 b) ≤ cutc 12 (cG (bn b) (tf (T0 b)) (tt (T0 b)) (capB b)) S := (hg.ro hT.2.1).flow.le_cut hT.2.2.2.1 hS1 hS2
    have h4 := up S
    by_cases q : S (bB b a 0).toNat = true ∧ S (bB b a 1).toNat = false
    · rw [if_pos q] at h4
      have h5 : mostT (T0 b) = cutc 12 (cG (bn b) (tf (T0 b)) (tt (T0 b)) (capB b)) S := by omega
      have cl : ∀ u w, u < 12 → w < 12 → S u = true → stT (T0 b) (xE (T0 b)) u w → S w = true := fun u w hu hw e hs => hg.tight hT.2.1 hT.2.2.2.1 hS1 hS2 h5 hu hw e hs
      have h6 : xE (T0 b) a = capB b a := by
        by_cases z : xE (T0 b) a < capB b a
        · have := cl _ _ hG.2.1 hG.2.2.2.1 q.1 ⟨a, ha, Or.inl ⟨rfl, rfl, z⟩⟩
          rw [q.2] at this
          cases this
        · omega
      refine ⟨by omega, h6, fun z => ?_⟩
      have := clo_from hD cl q.1 (D (bB b a 1).toNat).toNat _ hG.2.2.2.1 (by omega)
      rw [q.2] at this
      cases this
    · rw [if_neg q] at h4
      omega
  · intro ⟨hx0, hx1, hnr⟩
    have hS : ∀ v, (fun v => decide (0 ≤ D v)) v = true ↔ 0 ≤ D v := fun v => by simp
    have hcl : ∀ u w, u < 12 → w < 12 → (fun v => decide (0 ≤ D v)) u = true → stT (T0 b) (xE (T0 b)) u w → (fun v => decide (0 ≤ D v)) w = true := fun u w hu hw e hs => by
      rw [hS] at e ⊢
      exact (hD.2.2.2 w u hw hu hs e).1
    have hro := hg.ro hT.2.1
    have q1 : (fun v => decide (0 ≤ D v)) (bB b a 0).toNat = true := by rw [hS, hD.1]; omega
    have q2 : (fun v => decide (0 ≤ D v)) (bB b a 1).toNat = false := by simpa using hnr
    -- net flow out of S is all the room of the cut
    have h1 := cut_any (S := fun v => decide (0 ≤ D v)) hro.flow.1
    have h2 : cutc 12 (fun u w => cG (bn b) (tf (T0 b)) (tt (T0 b)) (capB b) u w - rG (bn b) (tf (T0 b)) (tt (T0 b)) (capB b) (xE (T0 b)) u w) (fun v => decide (0 ≤ D v)) = cutc 12 (cG (bn b) (tf (T0 b)) (tt (T0 b)) (capB b)) (fun v => decide (0 ≤ D v)) := cutc_congr (fun u w hu hw e1 e2 => by
      have p1 := hro.2.1 u w hu hw
      have p2 : ¬ 0 < rG (tn (T0 b)) (tf (T0 b)) (tt (T0 b)) (tl (T0 b)) (xE (T0 b)) u w := fun z => by
        have := hcl u w hu hw e1 ((rG_pos hg.1 u w).mp z)
        exact Bool.noConfusion (e2.symm.trans this)
      have p3 : rG (bn b) (tf (T0 b)) (tt (T0 b)) (capB b) (xE (T0 b)) u w = 0 := by
        show rG (tn (T0 b)) (tf (T0 b)) (tt (T0 b)) (tl (T0 b)) (xE (T0 b)) u w = 0
        omega
      rw [p3]; omega)
    have cnn : ∀ u w, u < 12 → w < 12 → 0 ≤ cG (bn b) (tf (T0 b)) (tt (T0 b)) (capB b) u w := fun u w _ _ => sm_nn (fun e he => by
      have := capB_rng hb he
      by_cases z : tf (T0 b) e = u ∧ tt (T0 b) e = w
      · rw [if_pos z]; omega
      · rw [if_neg z]; omega)
    have h3 := cutc_pick (S := fun v => decide (0 ≤ D v)) cnn hG.2.1 hG.2.2.2.1 q1 q2
    have h4 : capB b a ≤ cG (bn b) (tf (T0 b)) (tt (T0 b)) (capB b) (bB b a 0).toNat (bB b a 1).toNat := by
      have := sm_pick (f := fun e => if tf (T0 b) e = (bB b a 0).toNat ∧ tt (T0 b) e = (bB b a 1).toNat then capB b e else 0) (n := bn b) (fun e he => by
        have := capB_rng hb he
        by_cases z : tf (T0 b) e = (bB b a 0).toNat ∧ tt (T0 b) e = (bB b a 1).toNat
        · simp only [if_pos z]; omega
        · simp only [if_neg z]; omega) ha
      simp only [show tf (T0 b) a = (bB b a 0).toNat from rfl, show tt (T0 b) a = (bB b a 1).toNat from rfl, and_self, if_true] at this
      exact this
    have hst := hT.2.2.2.2.2
    have hval0 : 0 ≤ mostT (T0 b) := (run_bd hT (Nat.le_refl _)).1
    have anti0 := anti_0 hro.flow.1
    -- who is in S
    have tot : ∀ P : Nat → Prop, [DecidablePred P] → sm (fun u => if P u then outf 12 (fun u w => cG (tn (T0 b)) (tf (T0 b)) (tt (T0 b)) (tl (T0 b)) u w - rG (tn (T0 b)) (tf (T0 b)) (tt (T0 b)) (tl (T0 b)) (xE (T0 b)) u w) u else 0) 12 = (if P (ts (T0 b)) then mostT (T0 b) else 0) + (if P (tz (T0 b)) then outf 12 (fun u w => cG (tn (T0 b)) (tf (T0 b)) (tt (T0 b)) (tl (T0 b)) u w - rG (tn (T0 b)) (tf (T0 b)) (tt (T0 b)) (tl (T0 b)) (xE (T0 b)) u w) (tz (T0 b)) else 0) := fun P _ => by
      let o : Nat → Int := fun u => outf 12 (fun u w => cG (tn (T0 b)) (tf (T0 b)) (tt (T0 b)) (tl (T0 b)) u w - rG (tn (T0 b)) (tf (T0 b)) (tt (T0 b)) (tl (T0 b)) (xE (T0 b)) u w) u
      have o1 : o (ts (T0 b)) = mostT (T0 b) := hro.flow.2.2.2
      have o2 : ∀ u, u < 12 → u ≠ ts (T0 b) → u ≠ tz (T0 b) → o u = 0 := hro.flow.2.2.1
      show sm (fun u => if P u then o u else 0) 12 = (if P (ts (T0 b)) then _ else _) + (if P (tz (T0 b)) then o (tz (T0 b)) else 0)
      have e : sm (fun u => if P u then o u else 0) 12 = sm (fun u => (if u = ts (T0 b) then (if P (ts (T0 b)) then mostT (T0 b) else 0) else 0) + (if u = tz (T0 b) then (if P (tz (T0 b)) then o (tz (T0 b)) else 0) else 0)) 12 := sm_congr (fun u hu => by
        by_cases z1 : u = ts (T0 b)
        · rw [if_pos z1, if_neg (fun z => hst (z1.symm.trans z)), z1, o1]; omega
        · rw [if_neg z1]
          by_cases z2 : u = tz (T0 b)
          · rw [if_pos z2, z2]; omega
          · rw [if_neg z2, o2 u hu z1 z2]
            split <;> rfl)
      rw [e, sm_add, sm_one (i := ts (T0 b)) hT.2.2.2.1 (fun k _ hk => if_neg hk), sm_one (i := tz (T0 b)) hT.2.2.2.2.1 (fun k _ hk => if_neg hk), if_pos rfl, if_pos rfl]
    have tz0 := tot (fun _ => True)
    simp only [if_true] at tz0
    have hz : outf 12 (fun u w => cG (tn (T0 b)) (tf (T0 b)) (tt (T0 b)) (tl (T0 b)) u w - rG (tn (T0 b)) (tf (T0 b)) (tt (T0 b)) (tl (T0 b)) (xE (T0 b)) u w) (tz (T0 b)) = -mostT (T0 b) := by
      have : sm (fun u => outf 12 (fun u w => cG (tn (T0 b)) (tf (T0 b)) (tt (T0 b)) (tl (T0 b)) u w - rG (tn (T0 b)) (tf (T0 b)) (tt (T0 b)) (tl (T0 b)) (xE (T0 b)) u w) u) 12 = 0 := anti0
      omega
    have hs0 := tot (fun u => (fun v => decide (0 ≤ D v)) u = true)
    rw [hz] at hs0
    have h1' : sm (fun u => if (fun v => decide (0 ≤ D v)) u = true then outf 12 (fun u w => cG (tn (T0 b)) (tf (T0 b)) (tt (T0 b)) (tl (T0 b)) u w - rG (tn (T0 b)) (tf (T0 b)) (tt (T0 b)) (tl (T0 b)) (xE (T0 b)) u w) u else 0) 12 = cutc 12 (cG (bn b) (tf (T0 b)) (tt (T0 b)) (capB b)) (fun v => decide (0 ≤ D v)) := h1.trans h2
    rw [hs0] at h1'
    have hpos : 0 < cutc 12 (cG (bn b) (tf (T0 b)) (tt (T0 b)) (capB b)) (fun v => decide (0 ≤ D v)) := by omega
    have hS1 : (fun v => decide (0 ≤ D v)) (ts (T0 b)) = true := by
      by_cases z : (fun v => decide (0 ≤ D v)) (ts (T0 b)) = true
      · exact z
      · exfalso
        rw [if_neg z] at h1'
        split at h1' <;> omega
    have hS2 : (fun v => decide (0 ≤ D v)) (tz (T0 b)) = false := by
      by_cases z : (fun v => decide (0 ≤ D v)) (tz (T0 b)) = true
      · exfalso
        rw [if_pos hS1, if_pos z] at h1'
        omega
      · simpa using z
    have c1 : mostT (T0 b) = cutc 12 (cG (bn b) (tf (T0 b)) (tt (T0 b)) (capB b)) (fun v => decide (0 ≤ D v)) := hg.closed hT.2.1 hT.2.2.2.1 hS1 hS2 hcl
    have c2 : mostT (TN b (limD b a (-1))) ≤ cutc 12 (cG (bn b) (tf (T0 b)) (tt (T0 b)) (limD b a (-1))) (fun v => decide (0 ≤ D v)) := ((mostT_go hT').ro hT'.2.1).flow.le_cut (S := fun v => decide (0 ≤ D v)) hT'.2.2.2.1 hS1 hS2
    rw [up, if_pos ⟨q1, q2⟩] at c2
    omega
end Worth
