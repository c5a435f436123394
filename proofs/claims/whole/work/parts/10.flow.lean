/-! sums -/
def sm (f : Nat → Int) : Nat → Int
  | 0 => 0
  | n + 1 => sm f n + f n
theorem sm_congr {f g : Nat → Int} : ∀ {n : Nat}, (∀ k, k < n → f k = g k) → sm f n = sm g n
  | 0, _ => rfl
  | n + 1, h => by rw [sm, sm, sm_congr (fun k hk => h k (by omega)), h n (by omega)]
theorem sm_add (f g : Nat → Int) : ∀ n : Nat, sm (fun k => f k + g k) n = sm f n + sm g n
  | 0 => rfl
  | n + 1 => by rw [sm, sm, sm, sm_add f g n]; omega
theorem sm_sub (f g : Nat → Int) : ∀ n : Nat, sm (fun k => f k - g k) n = sm f n - sm g n
  | 0 => rfl
  | n + 1 => by rw [sm, sm, sm, sm_sub f g n]; omega
theorem sm_neg (f : Nat → Int) : ∀ n : Nat, sm (fun k => -f k) n = -sm f n
  | 0 => rfl
  | n + 1 => by rw [sm, sm, sm_neg f n]; omega
theorem sm_0 {f : Nat → Int} : ∀ {n : Nat}, (∀ k, k < n → f k = 0) → sm f n = 0
  | 0, _ => rfl
  | n + 1, h => by rw [sm, sm_0 (fun k hk => h k (by omega)), h n (by omega)]; rfl
theorem sm_le {f g : Nat → Int} : ∀ {n : Nat}, (∀ k, k < n → f k ≤ g k) → sm f n ≤ sm g n
  | 0, _ => Int.le_refl _
  | n + 1, h => by
    have h1 := sm_le (f := f) (g := g) (n := n) (fun k hk => h k (by omega))
    have h2 := h n (by omega)
    rw [sm, sm]; omega
theorem sm_nn {f : Nat → Int} : ∀ {n : Nat}, (∀ k, k < n → 0 ≤ f k) → 0 ≤ sm f n
  | 0, _ => Int.le_refl _
  | n + 1, h => by
    have h1 := sm_nn (f := f) (n := n) (fun k hk => h k (by omega))
    have h2 := h n (by omega)
    rw [sm]; omega
theorem sm_upd {f : Nat → Int} {i : Nat} {v : Int} : ∀ {n : Nat}, i < n → sm (fun k => if k = i then v else f k) n = sm f n - f i + v
  | 0, h => absurd h (Nat.not_lt_zero _)
  | n + 1, h => by
    rw [sm, sm]
    by_cases hi : i < n
    · rw [sm_upd hi, if_neg (by omega)]; omega
    · have e : i = n := by omega
      subst e
      rw [if_pos rfl, sm_congr (g := f) (fun k hk => if_neg (by omega))]; omega
theorem sm_one {f : Nat → Int} {i n : Nat} (hi : i < n) (h : ∀ k, k < n → k ≠ i → f k = 0) : sm f n = f i := by
  have h1 := sm_upd (f := f) (v := 0) hi
  have h2 : sm (fun k => if k = i then 0 else f k) n = 0 := sm_0 (fun k hk => by
    by_cases e : k = i
    · rw [if_pos e]
    · rw [if_neg e]; exact h k hk e)
  omega
theorem sm_pick {f : Nat → Int} {i n : Nat} (h : ∀ k, k < n → 0 ≤ f k) (hi : i < n) : f i ≤ sm f n := by
  have h1 := sm_upd (f := f) (v := 0) hi
  have h2 : 0 ≤ sm (fun k => if k = i then 0 else f k) n := sm_nn (fun k hk => by
    by_cases e : k = i
    · rw [if_pos e]; omega
    · rw [if_neg e]; exact h k hk)
  omega
theorem sm_swap (g : Nat → Nat → Int) (m : Nat) : ∀ n : Nat, sm (fun u => sm (fun w => g u w) m) n = sm (fun w => sm (fun u => g u w) n) m
  | 0 => (sm_0 (fun k _ => rfl)).symm
  | n + 1 => by
    rw [sm, sm_swap g m n, ← sm_add]
    exact sm_congr (fun k _ => rfl)
theorem sm_if (b : Prop) [Decidable b] (f : Nat → Int) (n : Nat) : sm (fun k => if b then f k else 0) n = if b then sm f n else 0 := by
  by_cases h : b
  · rw [if_pos h]; exact sm_congr (fun k _ => if_pos h)
  · rw [if_neg h]; exact sm_0 (fun k _ => if_neg h)
/-! nets: room between nodes below N; a flow is antisymmetric -/
def outf (N : Nat) (f : Nat → Nat → Int) (v : Nat) : Int := sm (fun w => f v w) N
def cutc (N : Nat) (c : Nat → Nat → Int) (S : Nat → Bool) : Int := sm (fun u => sm (fun w => if S u = true ∧ S w = false then c u w else 0) N) N
def anti (N : Nat) (f : Nat → Nat → Int) : Prop := ∀ u w, u < N → w < N → f u w = -f w u
theorem anti_0 {N : Nat} {g : Nat → Nat → Int} (h : anti N g) : sm (fun u => sm (fun w => g u w) N) N = 0 := by
  have h1 := sm_swap g N N
  have h2 : sm (fun w => sm (fun u => g u w) N) N = -sm (fun u => sm (fun w => g u w) N) N := by
    rw [← sm_neg]
    refine sm_congr (fun w hw => ?_)
    rw [← sm_neg]
    exact sm_congr (fun u hu => h u w hu hw)
  omega
theorem cut_val {N s t : Nat} {f : Nat → Nat → Int} {S : Nat → Bool} (hf : anti N f) (hs : s < N) (hS : S s = true) (hT : S t = false) (hc : ∀ v, v < N → v ≠ s → v ≠ t → outf N f v = 0) : outf N f s = cutc N f S := by
  have h1 : sm (fun u => if S u = true then outf N f u else 0) N = outf N f s := by
    rw [sm_one hs (fun k hk hne => ?_), if_pos hS]
    by_cases e : S k = true
    · rw [if_pos e]
      exact hc k hk hne (fun z => by rw [z, hT] at e; cases e)
    · rw [if_neg e]
  have h2 : anti N (fun u w => if S u = true ∧ S w = true then f u w else 0) := by
    intro u w hu hw
    by_cases e : S u = true ∧ S w = true
    · simp only [if_pos e, if_pos (And.intro e.2 e.1)]
      exact hf u w hu hw
    · simp only [if_neg e, if_neg (fun z : S w = true ∧ S u = true => e ⟨z.2, z.1⟩)]
      rfl
  have h3 := anti_0 h2
  rw [← h1]
  have h4 : sm (fun u => if S u = true then outf N f u else 0) N = sm (fun u => sm (fun w => (if S u = true ∧ S w = true then f u w else 0) + (if S u = true ∧ S w = false then f u w else 0)) N) N := by
    refine sm_congr (fun u _ => ?_)
    by_cases e : S u = true
    · rw [if_pos e]
      refine sm_congr (fun w _ => ?_)
      cases hw : S w <;> simp [e]
    · rw [if_neg e]
      exact (sm_0 (fun w _ => by simp [e])).symm
  rw [h4]
  have h5 : sm (fun u => sm (fun w => (if S u = true ∧ S w = true then f u w else 0) + (if S u = true ∧ S w = false then f u w else 0)) N) N = sm (fun u => sm (fun w => if S u = true ∧ S w = true then f u w else 0) N) N + cutc N f S := by
    unfold cutc
    rw [← sm_add]
    exact sm_congr (fun u _ => sm_add _ _ N)
  rw [h5, h3]
  omega
theorem cutc_le {N : Nat} {f c : Nat → Nat → Int} {S : Nat → Bool} (h : ∀ u w, u < N → w < N → S u = true → S w = false → f u w ≤ c u w) : cutc N f S ≤ cutc N c S := by
  refine sm_le (fun u hu => sm_le (fun w hw => ?_))
  by_cases e : S u = true ∧ S w = false
  · rw [if_pos e, if_pos e]; exact h u w hu hw e.1 e.2
  · rw [if_neg e, if_neg e]; omega
/-- f is a flow over the room c, from s to t, of value v -/
def IsFlow (N : Nat) (c : Nat → Nat → Int) (s t : Nat) (f : Nat → Nat → Int) (v : Int) : Prop :=
  anti N f ∧ (∀ u w, u < N → w < N → f u w ≤ c u w) ∧ (∀ x, x < N → x ≠ s → x ≠ t → outf N f x = 0) ∧ outf N f s = v
theorem IsFlow.le_cut {N s t : Nat} {c f : Nat → Nat → Int} {v : Int} {S : Nat → Bool} (h : IsFlow N c s t f v) (hs : s < N) (hS : S s = true) (hT : S t = false) : v ≤ cutc N c S := by
  rw [← h.2.2.2, cut_val h.1 hs hS hT h.2.2.1]
  exact cutc_le (fun u w hu hw _ _ => h.2.1 u w hu hw)
/-- v is the most: a flow of value v and a cut that it fills -/
def IsMF (N : Nat) (c : Nat → Nat → Int) (s t : Nat) (v : Int) : Prop :=
  ∃ (f : Nat → Nat → Int) (S : Nat → Bool), IsFlow N c s t f v ∧ S s = true ∧ S t = false ∧ v = cutc N c S
theorem IsMF.ge {N s t : Nat} {c f : Nat → Nat → Int} {v w : Int} (h : IsMF N c s t v) (hs : s < N) (hf : IsFlow N c s t f w) : w ≤ v := by
  obtain ⟨g, S, h1, h2, h3, h4⟩ := h
  rw [h4]
  exact hf.le_cut hs h2 h3
theorem IsMF.one {N s t : Nat} {c : Nat → Nat → Int} {v w : Int} (hs : s < N) (h : IsMF N c s t v) (h2 : IsMF N c s t w) : v = w := by
  obtain ⟨f, _, h3, -⟩ := id h
  obtain ⟨g, _, h4, -⟩ := id h2
  have a := h.ge hs h4
  have b := h2.ge hs h3
  omega
/-- what room there is, when v has come from s to t -/
def RO (N : Nat) (c : Nat → Nat → Int) (s t : Nat) (r : Nat → Nat → Int) (v : Int) : Prop :=
  (∀ u w, u < N → w < N → r u w + r w u = c u w + c w u) ∧ (∀ u w, u < N → w < N → 0 ≤ r u w) ∧ (∀ x, x < N → x ≠ s → x ≠ t → outf N (fun u w => c u w - r u w) x = 0) ∧ outf N (fun u w => c u w - r u w) s = v
theorem RO.flow {N s t : Nat} {c r : Nat → Nat → Int} {v : Int} (h : RO N c s t r v) : IsFlow N c s t (fun u w => c u w - r u w) v := by
  refine ⟨fun u w hu hw => ?_, fun u w hu hw => ?_, h.2.2.1, h.2.2.2⟩
  · have := h.1 u w hu hw
    show c u w - r u w = -(c w u - r w u)
    omega
  · have := h.2.1 u w hu hw
    show c u w - r u w ≤ c u w
    omega
theorem RO.mf {N s t : Nat} {c r : Nat → Nat → Int} {v : Int} {S : Nat → Bool} (h : RO N c s t r v) (hs : s < N) (hS : S s = true) (hT : S t = false) (hcl : ∀ u w, u < N → w < N → S u = true → S w = false → r u w ≤ 0) : IsMF N c s t v := by
  have hf := h.flow
  refine ⟨_, S, hf, hS, hT, ?_⟩
  have h1 := cut_val hf.1 hs hS hT hf.2.2.1
  rw [hf.2.2.2] at h1
  rw [h1]
  have a := cutc_le (N := N) (f := fun u w => c u w - r u w) (c := c) (S := S) (fun u w hu hw _ _ => hf.2.1 u w hu hw)
  have b := cutc_le (N := N) (f := c) (c := fun u w => c u w - r u w) (S := S) (fun u w hu hw e1 e2 => by have := hcl u w hu hw e1 e2; omega)
  omega
theorem RO.init {N s t : Nat} {c : Nat → Nat → Int} (h : ∀ u w, u < N → w < N → 0 ≤ c u w) : RO N c s t c 0 := by
  have e : ∀ x, outf N (fun u w => c u w - c u w) x = 0 := fun x => sm_0 (fun w _ => by show c x w - c x w = 0; omega)
  exact ⟨fun _ _ _ _ => rfl, h, fun x _ _ _ => e x, e s⟩
theorem RO.le {N s t : Nat} {c r : Nat → Nat → Int} {v : Int} (h : RO N c s t r v) (hs : s < N) : v ≤ outf N c s := by
  rw [← h.2.2.2]
  refine sm_le (fun w hw => ?_)
  have := h.2.1 s w hs hw
  show c s w - r s w ≤ c s w
  omega
theorem outf_upd {N a b x : Nat} {f : Nat → Nat → Int} {v : Int} (hb : b < N) : outf N (fun u w => if u = a ∧ w = b then v else f u w) x = if x = a then outf N f x - f a b + v else outf N f x := by
  unfold outf
  by_cases e : x = a
  · subst e
    rw [if_pos rfl, ← sm_upd hb]
    refine sm_congr (fun k _ => ?_)
    show (if x = x ∧ k = b then v else f x k) = if k = b then v else f x k
    by_cases h : k = b
    · rw [if_pos ⟨rfl, h⟩, if_pos h]
    · rw [if_neg (fun z => h z.2), if_neg h]
  · rw [if_neg e]
    exact sm_congr (fun k _ => if_neg (fun z => e z.1))
