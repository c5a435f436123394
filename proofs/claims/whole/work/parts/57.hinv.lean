/-! heights: what else holds -/
def okW (T : NT) (W : List Nat) : Prop := (∀ i, i < W.length → W.getD i 0 < 12 ∧ W.getD i 0 ≠ ts T ∧ W.getD i 0 ≠ tz T) ∧ ∀ i j, i < j → j < W.length → W.getD i 0 ≠ W.getD j 0
theorem okW.len {T : NT} {W : List Nat} (hT : okT T) (h : okW T W) : W.length < 12 := by
  have hs := hT.2.2.2.1
  have := holes 12 (W.length + 1) (fun i => if i < W.length then W.getD i 0 else ts T) (fun i hi => by
    by_cases q : i < W.length
    · simp only [if_pos q]; exact (h.1 i q).1
    · simp only [if_neg q]; exact hs) (fun i j hij hj => by
    by_cases q : j < W.length
    · simp only [if_pos q, if_pos (show i < W.length by omega)]; exact h.2 i j hij q
    · simp only [if_neg q, if_pos (show i < W.length by omega)]; exact (h.1 i (by omega)).2.1)
  omega
theorem okW.put {T : NT} {W : List Nat} {w : Nat} (h : okW T W) (hw : w < 12) : okW T (psW T W w) := by
  by_cases q : w = ts T ∨ w = tz T ∨ w ∈ W
  · have e : psW T W w = W := by unfold psW; rw [if_pos q]
    rw [e]; exact h
  · have e : psW T W w = W ++ [w] := by unfold psW; exact if_neg q
    rw [e]
    have hs : w ≠ ts T := fun z => q (Or.inl z)
    have hz : w ≠ tz T := fun z => q (Or.inr (Or.inl z))
    have hn : w ∉ W := fun z => q (Or.inr (Or.inr z))
    have g : ∀ i, i < (W ++ [w]).length → (i < W.length ∧ (W ++ [w]).getD i 0 = W.getD i 0) ∨ (i = W.length ∧ (W ++ [w]).getD i 0 = w) := fun i hi => by
      rw [List.length_append, List.length_singleton] at hi
      rw [getD_appN]
      by_cases y : i < W.length
      · rw [if_pos y]; exact Or.inl ⟨y, rfl⟩
      · have e : i = W.length := by omega
        rw [if_neg y, show i - W.length = 0 by omega]
        exact Or.inr ⟨e, rfl⟩
    refine ⟨fun i hi => ?_, fun i j hij hj => ?_⟩
    · rcases g i hi with ⟨a, b⟩ | ⟨a, b⟩
      · rw [b]; exact h.1 i a
      · rw [b]; exact ⟨hw, hs, hz⟩
    · rcases g j hj with ⟨a, b⟩ | ⟨a, b⟩
      · rcases g i (by omega) with ⟨c, d⟩ | ⟨c, d⟩
        · rw [b, d]; exact h.2 i j hij a
        · omega
      · rcases g i (by omega) with ⟨c, d⟩ | ⟨c, d⟩
        · rw [b, d]
          exact fun z => hn (mem_getD.mpr ⟨i, c, z⟩)
        · omega
theorem ex_bd {T : NT} {x : Nat → Int} (hT : okT T) (hx : okX (tn T) (tl T) x) (u : Nat) : -60000 ≤ exG (tn T) (tf T) (tt T) x u ∧ exG (tn T) (tf T) (tt T) x u ≤ 60000 := by
  have hn := hT.1
  have r : ∀ e, e < tn T → -2000 ≤ (if tf T e = u then x e else 0) - (if tt T e = u then x e else 0) ∧ (if tf T e = u then x e else 0) - (if tt T e = u then x e else 0) ≤ 2000 := fun e he => by
    have h1 := hx e he
    have h2 := hT.2.2.1 e he
    by_cases p : tf T e = u <;> by_cases q : tt T e = u <;> simp only [p, q, if_true, if_false] <;> omega
  have a1 : exG (tn T) (tf T) (tt T) x u ≤ (tn T : Int) * 2000 := sm_ub (fun e he => (r e he).2)
  have a2 : sm (fun e => -((if tf T e = u then x e else 0) - (if tt T e = u then x e else 0))) (tn T) ≤ (tn T : Int) * 2000 := sm_ub (fun e he => by have := (r e he).1; omega)
  rw [sm_neg] at a2
  have e : exG (tn T) (tf T) (tt T) x u = sm (fun e => (if tf T e = u then x e else 0) - (if tt T e = u then x e else 0)) (tn T) := rfl
  omega
