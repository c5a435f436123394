/-! sets of bits -/
def tb (m : Int) (i : Nat) : Bool := (iz m).toBitVec.getLsbD i
theorem iz_tb (a : Int32) (i : Nat) : tb a.toInt i = a.toBitVec.getLsbD i := by unfold tb; rw [iz_of]
theorem bt_or (a b : Int) (i : Nat) : tb (ior a b) i = (tb a i || tb b i) := by
  unfold ior
  rw [iz_tb, Int32.toBitVec_or, BitVec.getLsbD_or]
  rfl
theorem bt_and (a b : Int) (i : Nat) : tb (iand a b) i = (tb a i && tb b i) := by
  unfold iand
  rw [iz_tb, Int32.toBitVec_and, BitVec.getLsbD_and]
  rfl
theorem sh_31 : ∀ v : Nat, v < 32 → (iz (v : Int) &&& 31).toBitVec.smod 32 = BitVec.ofNat 32 v := by decide +kernel
theorem bt_shl {v : Nat} (hv : v < 32) (i : Nat) : tb (ishl 1 v) i = decide (i = v) := by
  unfold ishl
  rw [iz_tb, Int32.toBitVec_shiftLeft, sh_31 v hv, BitVec.shiftLeft_eq', BitVec.toNat_ofNat, Nat.mod_eq_of_lt (by omega), BitVec.getLsbD_shiftLeft]
  have e : (iz 1).toBitVec = 1#32 := by decide +kernel
  rw [e]
  by_cases q : i = v
  · subst q; simp [hv]
  · rw [decide_eq_false q]
    by_cases c : i < v
    · simp [c]
    · by_cases d : i < 32
      · simp [BitVec.getLsbD_one]; omega
      · simp [d]
theorem bt_1 (i : Nat) : tb 1 i = decide (i = 0) := by
  unfold tb
  have e : (iz 1).toBitVec = 1#32 := by decide +kernel
  rw [e, BitVec.getLsbD_one]
  simp
theorem bt_0 (i : Nat) : tb 0 i = false := by
  unfold tb
  have e : (iz 0).toBitVec = 0#32 := by decide +kernel
  rw [e, BitVec.getLsbD_zero]
theorem bt_shr {a : Int} {v : Nat} (hv : v < 32) : tb (ishr a v) 0 = tb a v := by
  unfold ishr
  rw [iz_tb, Int32.toBitVec_shiftRight, sh_31 v hv, BitVec.sshiftRight_eq', BitVec.toNat_ofNat, Nat.mod_eq_of_lt (by omega), BitVec.getLsbD_sshiftRight]
  rw [show v + 0 = v by omega]
  unfold tb
  simp [hv]
theorem bt_ext {a b : Int} (ha : Rg a) (hb : Rg b) (h : ∀ i, i < 32 → tb a i = tb b i) : a = b := by
  rw [← iz_eq ha hb, ← Int32.toBitVec_inj]
  exact BitVec.eq_of_getLsbD_eq (fun i hi => h i hi)
theorem rg_or (a b : Int) : Rg (ior a b) := Rg_of _
theorem rg_and (a b : Int) : Rg (iand a b) := Rg_of _
theorem rg_shl (a b : Int) : Rg (ishl a b) := Rg_of _
theorem rg_shr (a b : Int) : Rg (ishr a b) := Rg_of _
theorem bit_is {a : Int} {v : Nat} (hv : v < 32) : iand (ishr a v) 1 = 1 ↔ tb a v = true := by
  constructor
  · intro h
    have h2 : tb (iand (ishr a v) 1) 0 = true := by rw [h, bt_1]; rfl
    rw [bt_and, bt_shr hv] at h2
    simp at h2
    exact h2.1
  · intro h
    refine bt_ext (rg_and _ _) (by omega) (fun i hi => ?_)
    rw [bt_and, bt_1]
    by_cases q : i = 0
    · subst q; rw [bt_shr hv, h]; rfl
    · simp [q]
theorem bit_01 {a : Int} {v : Nat} (hv : v < 32) : iand (ishr a v) 1 = if tb a v = true then 1 else 0 := by
  by_cases q : tb a v = true
  · rw [if_pos q]; exact (bit_is hv).mpr q
  · rw [if_neg q]
    refine bt_ext (rg_and _ _) (by omega) (fun i hi => ?_)
    rw [bt_and, bt_1, bt_0]
    by_cases q2 : i = 0
    · subst q2; rw [bt_shr hv]; simpa using q
    · simp [q2]
theorem bt_put {a : Int} {v : Nat} (hv : v < 32) (i : Nat) : tb (ior a (ishl 1 v)) i = (tb a i || decide (i = v)) := by rw [bt_or, bt_shl hv]
theorem bt_big {a : Int} {i : Nat} (h : ¬ i < 32) : tb a i = false := by
  unfold tb
  exact BitVec.getLsbD_of_ge _ _ (by omega)
/-- the bits of those below n that are so -/
def bP (n : Nat) (b : Int) (p : Nat → Prop) : Prop := Rg b ∧ ∀ i, tb b i = true ↔ i < n ∧ p i
theorem bP.init (p : Nat → Prop) : bP 0 0 p := ⟨by omega, fun i => by rw [bt_0]; exact ⟨fun h => Bool.noConfusion h, fun h => absurd h.1 (Nat.not_lt_zero _)⟩⟩
theorem bP.put {n : Nat} {b : Int} {p : Nat → Prop} (h : bP n b p) (hn : n < 32) (hp : p n) : bP (n + 1) (ior b (ishl 1 n)) p := by
  refine ⟨rg_or _ _, fun i => ?_⟩
  rw [bt_put hn, Bool.or_eq_true, h.2 i, decide_eq_true_eq]
  constructor
  · rintro (⟨a, c⟩ | a)
    · exact ⟨by omega, c⟩
    · subst a; exact ⟨by omega, hp⟩
  · intro ⟨a, c⟩
    by_cases e : i = n
    · exact Or.inr e
    · exact Or.inl ⟨by omega, c⟩
theorem bP.no {n : Nat} {b : Int} {p : Nat → Prop} (h : bP n b p) (hp : ¬ p n) : bP (n + 1) b p := by
  refine ⟨h.1, fun i => ?_⟩
  rw [h.2 i]
  constructor
  · intro ⟨a, c⟩; exact ⟨by omega, c⟩
  · intro ⟨a, c⟩
    by_cases e : i = n
    · subst e; exact absurd c hp
    · exact ⟨by omega, c⟩
theorem bP.one {n : Nat} {b c : Int} {p : Nat → Prop} (h : bP n b p) (h2 : bP n c p) : b = c := by
  refine bt_ext h.1 h2.1 (fun i _ => ?_)
  have a1 := h.2 i
  have a2 := h2.2 i
  by_cases e : tb b i = true
  · rw [e, (a2.mpr (a1.mp e))]
  · have e2 : ¬ tb c i = true := fun z => e (a1.mpr (a2.mp z))
    simp at e e2
    rw [e, e2]
theorem bP.iff {n : Nat} {b : Int} {p q : Nat → Prop} (h : bP n b p) (e : ∀ i, i < n → (p i ↔ q i)) : bP n b q := by
  refine ⟨h.1, fun i => ?_⟩
  rw [h.2 i]
  constructor
  · intro ⟨a, c⟩; exact ⟨a, (e i a).mp c⟩
  · intro ⟨a, c⟩; exact ⟨a, (e i a).mpr c⟩
theorem ior_0 {b : Int} (h : Rg b) : ior b 0 = b := by
  refine bt_ext (rg_or _ _) h (fun i _ => ?_)
  rw [bt_or, bt_0, Bool.or_false]
theorem bt_not {a : Int} {i : Nat} (hi : i < 32) : tb (ixor a (-1)) i = !tb a i := by
  unfold ixor
  rw [iz_tb, Int32.toBitVec_xor, BitVec.getLsbD_xor]
  have e : (iz (-1)).toBitVec = BitVec.allOnes 32 := by decide +kernel
  rw [e, BitVec.getLsbD_allOnes]
  simp [hi, tb]
theorem bit_no {a : Int} {v : Nat} (hv : v < 32) : iand (ishr a v) 1 = 0 ↔ ¬ tb a v = true := by
  rw [bit_01 hv]
  by_cases q : tb a v = true
  · rw [if_pos q]; constructor
    · intro h; omega
    · intro h; exact absurd q h
  · rw [if_neg q]; exact ⟨fun _ => q, fun _ => rfl⟩
