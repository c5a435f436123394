theorem amK_pos {T : NT} (hT : okT T) {k : Nat} (hx : okX (tn T) (tl T) (xT T k)) (h : 0 < dsT T k) : WayG 12 (tn T) (tf T) (tt T) (tl T) (xT T k) (dT T (xT T k)) (ts T) (pnK T k) (psK T k) (dsT T k).toNat (amK T k) :=
  wayT hT hx (dT_is T _) (show dT T (xT T k) (ts T) = ((dsT T k).toNat : Int) by unfold dsT at h ⊢; omega) (by omega)
theorem xT_run {T : NT} (hT : okT T) : ∀ k : Nat, (∀ j, j < k → 0 < dsT T j) → GO 12 (tn T) (tf T) (tt T) (tl T) (ts T) (tz T) (xT T k) (sm (amK T) k) ∧ PH 12 (tn T) (tf T) (tt T) (tl T) (xT T k) (ts T) (tz T) (dT T (xT T k)) k ∧ (k : Int) ≤ 330
  | 0, _ => by
    refine ⟨GO.init (fun e he => (hT.2.2.1 e he).1), PH.init hT.1 (dT_is T _), by omega⟩
  | k + 1, h => by
    obtain ⟨h1, h2, h3⟩ := xT_run hT k (fun j hj => h j (by omega))
    have h4 := h k (by omega)
    have hw := amK_pos hT h1.1 h4
    have hL : dT T (xT T k) (ts T) = ((dsT T k).toNat : Int) := by unfold dsT at h4 ⊢; omega
    have hlt := (dT_is T (xT T k)).lt hT.2.2.2.2.1 hT.2.2.2.1
    obtain ⟨h5, h6⟩ := PH.step hT.1 hT.2.2.2.1 hw h1.1 (dT_is T _) hL (by omega) h2 (dT_is T (xT T (k + 1)))
    refine ⟨h1.way hw (dT_is T _) hT.2.2.2.2.2 hT.2.2.2.1, by rw [show ((k + 1 : Nat) : Int) = (k : Int) + 1 by omega]; exact h5, by omega⟩
noncomputable def KT (T : NT) : Nat := ffn (fun k => ¬ 0 < dsT T k) 400
theorem KT_spec {T : NT} (hT : okT T) : KT T ≤ 330 ∧ (∀ j, j < KT T → 0 < dsT T j) ∧ ¬ 0 < dsT T (KT T) := by
  have hex : ∃ i, i < 400 ∧ ¬ 0 < dsT T i := by
    by_cases q : ∃ i, i < 400 ∧ ¬ 0 < dsT T i
    · exact q
    · have := (xT_run hT 400 (fun j hj => by
        by_cases z : 0 < dsT T j
        · exact z
        · exact absurd ⟨j, hj, z⟩ q)).2.2
      omega
  obtain ⟨i, hi, hp, hk⟩ := firstN hex
  have e : KT T = i := ffn_at hi hp hk
  rw [e]
  have h1 : ∀ j, j < i → 0 < dsT T j := fun j hj => by
    by_cases z : 0 < dsT T j
    · exact z
    · exact absurd z (hk j hj)
  have := (xT_run hT i h1).2.2
  exact ⟨by omega, h1, hp⟩
/-- what passes, when no way is left -/
noncomputable def mostT (T : NT) : Int := sm (amK T) (KT T)
noncomputable def xE (T : NT) : Nat → Int := xT T (KT T)
theorem mostT_go {T : NT} (hT : okT T) : GO 12 (tn T) (tf T) (tt T) (tl T) (ts T) (tz T) (xE T) (mostT T) := (xT_run hT (KT T) (KT_spec hT).2.1).1
theorem dE_neg {T : NT} (hT : okT T) : dT T (xE T) (ts T) < 0 := by
  have h1 := (KT_spec hT).2.2
  have h2 := dT_is T (xE T)
  by_cases e : dT T (xE T) (ts T) = 0
  · exact absurd (h2.zero hT.2.2.2.1 e) hT.2.2.2.2.2
  · unfold dsT at h1
    unfold xE at e ⊢
    omega
theorem mostT_mf {T : NT} (hT : okT T) : IsMF 12 (cG (tn T) (tf T) (tt T) (tl T)) (ts T) (tz T) (mostT T) :=
  (mostT_go hT).mf hT.2.1 hT.2.2.2.1 (dT_is T _) (dE_neg hT)
theorem sm_ub {f : Nat → Int} {b : Int} : ∀ {n : Nat}, (∀ k, k < n → f k ≤ b) → sm f n ≤ n * b
  | 0, _ => by simp [sm]
  | n + 1, h => by
    have h1 := sm_ub (f := f) (b := b) (n := n) (fun k hk => h k (by omega))
    have h2 := h n (by omega)
    rw [sm, Int.natCast_add, Int.add_mul]
    omega
/-- what comes is bounded: 60000 is more than any -/
theorem run_bd {T : NT} (hT : okT T) {k : Nat} (hk : k ≤ KT T) : 0 ≤ sm (amK T) k ∧ sm (amK T) k ≤ 60000 := by
  obtain ⟨h1, -, -⟩ := xT_run hT k (fun j hj => (KT_spec hT).2.1 j (by omega))
  have h2 : ∀ j, j < k → 0 ≤ amK T j := fun j hj => by
    have h3 := (xT_run hT j (fun i hi => (KT_spec hT).2.1 i (by omega))).1
    have := (amK_pos hT h3.1 ((KT_spec hT).2.1 j (by omega))).2.2.2.1
    omega
  refine ⟨sm_nn h2, ?_⟩
  rw [← h1.2.2]
  have h3 : exG (tn T) (tf T) (tt T) (xT T k) (ts T) ≤ (tn T : Int) * 2000 := sm_ub (fun e he => by
    have a := h1.1 e he
    have b := hT.2.2.1 e he
    by_cases c : tf T e = ts T <;> by_cases c2 : tt T e = ts T <;> simp only [c, c2, if_true, if_false] <;> omega)
  have := hT.1
  omega
/-- cells that a walk may have changed -/
def Off (ks : List Nat) (σ σ' : PS) : Prop := ∀ k, k ∉ ks → σ' k = σ k
theorem Off.rf {ks : List Nat} {σ : PS} : Off ks σ σ := fun _ _ => rfl
theorem Off.trans {ks : List Nat} {a b c : PS} (h : Off ks a b) (h2 : Off ks b c) : Off ks a c := fun k hk => (h2 k hk).trans (h k hk)
theorem Off.mono {ks ls : List Nat} {a b : PS} (h : Off ks a b) (hs : ∀ k, k ∈ ks → k ∈ ls) : Off ls a b := fun k hk => h k (fun z => hk (hs k z))
theorem Off.up {ks : List Nat} {a b : PS} {k i : Nat} {v : Int} (h : Off ks a b) (hk : k ∈ ks) : Off ks a (up2 b k i v) := fun j hj => by
  rw [up2_row (fun e => hj (by rw [e]; exact hk))]
  exact h j hj
theorem Off.fl {ks : List Nat} {a b : PS} {k lo hi : Nat} {v : Int} (h : Off ks a b) (hk : k ∈ ks) : Off ks a (fl2 b k lo hi v) := fun j hj => by
  have e : fl2 b k lo hi v j = b j := by
    funext i
    unfold fl2
    rw [if_neg (fun z => hj (by rw [z.1]; exact hk))]
  rw [e]
  exact h j hj
theorem up2_at {σ : PS} {k i : Nat} {v : Int} : up2 σ k i v k i = v := by simp [up2]
theorem up2_ne {σ : PS} {k i k' i' : Nat} {v : Int} (h : ¬ (k' = k ∧ i' = i)) : up2 σ k i v k' i' = σ k' i' := by
  unfold up2
  rw [if_neg h]
theorem up2_ni {σ : PS} {k i i' : Nat} {v : Int} (h : i' ≠ i) : up2 σ k i v k i' = σ k i' := up2_ne (fun z => h z.2)
theorem up2_nk {σ : PS} {k i k' i' : Nat} {v : Int} (h : k' ≠ k) : up2 σ k i v k' i' = σ k' i' := up2_ne (fun z => h z.1)
theorem Rg_n {n : Nat} (h : n ≤ 2147483647) : Rg (n : Int) := ⟨by omega, by omega⟩
