section Rows
variable {lay : List LE} {E : EV} {M : MI} {Φ : Int → PS → Prop} {pc : Nat} {lv lv' : List (Option Value)} {st : List Value} {σ : PS} {x : CX}
theorem r_rs (k : RS σ → RW lay E M Φ pc lv st σ x) : RW lay E M Φ pc lv st σ x := by
  obtain ⟨p, e, R, s, m, args, below, meth, c⟩ := x
  intro ok hσ
  exact k hσ ok hσ
theorem r_eq {a b : Int} (h : a = b) (k : RW lay E M Φ pc lv (.int (iz b) :: st) σ x) : RW lay E M Φ pc lv (.int (iz a) :: st) σ x := h ▸ k
theorem r_sub (h : subL lv lv') (k : RW lay E M Φ pc lv' st σ x) : RW lay E M Φ pc lv st σ x := by
  obtain ⟨p, e, R, s, m, args, below, meth, c⟩ := x
  obtain ⟨h1, h2⟩ := h.at
  intro ok hσ H locs ls hP hS hl
  exact k ok hσ H locs ls hP hS ⟨hl.1, hl.2.1, h1.symm.trans hl.2.2.1, fun i v hi => hl.2.2.2 i v (h2 i v hi)⟩
theorem r_iconst {n : Int} (d : decode M.1 pc = .ok (.iconst n, 1)) (k : RW lay E M Φ (pc + 1) lv (.int (iz n) :: st) σ x) : RW lay E M Φ pc lv st σ x := by
  obtain ⟨p, e, R, s, m, args, below, meth, c⟩ := x
  intro ok hσ H locs ls hP hS hl
  obtain ⟨hx, hb, -⟩ := id ok
  exact lv_iconst hx hb d rfl (k ok hσ H locs ls hP hS hl)
theorem r_bipush {n : Int} (d : decode M.1 pc = .ok (.bipush n, 2)) (hn : (Int8.ofInt n).toInt32 = iz n) (k : RW lay E M Φ (pc + 2) lv (.int (iz n) :: st) σ x) : RW lay E M Φ pc lv st σ x := by
  obtain ⟨p, e, R, s, m, args, below, meth, c⟩ := x
  intro ok hσ H locs ls hP hS hl
  obtain ⟨hx, hb, -⟩ := id ok
  exact lv_bipush hx hb d hn (k ok hσ H locs ls hP hS hl)
theorem r_sipush {n : Int} (d : decode M.1 pc = .ok (.sipush n, 3)) (hn : (Int16.ofInt n).toInt32 = iz n) (k : RW lay E M Φ (pc + 3) lv (.int (iz n) :: st) σ x) : RW lay E M Φ pc lv st σ x := by
  obtain ⟨p, e, R, s, m, args, below, meth, c⟩ := x
  intro ok hσ H locs ls hP hS hl
  obtain ⟨hx, hb, -⟩ := id ok
  exact lv_sipush hx hb d hn (k ok hσ H locs ls hP hS hl)
theorem r_ldc {i : Nat} {n : Int} (d : decode M.1 pc = .ok (.ldc i, 2)) (hw : Cond.constant M.2.1 i (iz n) ∈ TB) (k : RW lay E M Φ (pc + 2) lv (.int (iz n) :: st) σ x) : RW lay E M Φ pc lv st σ x := by
  obtain ⟨p, e, R, s, m, args, below, meth, c⟩ := x
  intro ok hσ H locs ls hP hS hl
  obtain ⟨hx, hb, -, hown, hts, -⟩ := id ok
  exact lv_ldc hx hb hown (hts _ hw) d (k ok hσ H locs ls hP hS hl)
theorem r_ldcw {i : Nat} {n : Int} (d : decode M.1 pc = .ok (.ldc_w i, 3)) (hw : Cond.constant M.2.1 i (iz n) ∈ TB) (k : RW lay E M Φ (pc + 3) lv (.int (iz n) :: st) σ x) : RW lay E M Φ pc lv st σ x := by
  obtain ⟨p, e, R, s, m, args, below, meth, c⟩ := x
  intro ok hσ H locs ls hP hS hl
  obtain ⟨hx, hb, -, hown, hts, -⟩ := id ok
  exact lv_ldcw hx hb hown (hts _ hw) d (k ok hσ H locs ls hP hS hl)
theorem r_ldcS {i q : Nat} {tx : String} (d : decode M.1 pc = .ok (.ldc i, 2)) (hw : (M.2.1, i, tx, q) ∈ kRef) (k : RW lay E M Φ (pc + 2) lv (.ref (eS E q) :: st) σ x) : RW lay E M Φ pc lv st σ x := by
  obtain ⟨p, e, R, s, m, args, below, meth, c⟩ := x
  intro ok hσ H locs ls hP hS hl
  obtain ⟨hx, hb, -, hown, -, -, -, hE, -⟩ := id ok
  exact va_ldcS hx hb hown (hE.2.1 _ hw) d (k ok hσ H locs ls hP hS hl)
theorem r_iloadn {k4 : Fin 4} {i : Nat} {a : Int} (d : decode M.1 pc = .ok (.iload_n k4, 1)) (hi : (k4 : Nat) = i) (hl0 : lv[i]? = some (some (.int (iz a)))) (k : RW lay E M Φ (pc + 1) lv (.int (iz a) :: st) σ x) : RW lay E M Φ pc lv st σ x := by
  obtain ⟨p, e, R, s, m, args, below, meth, c⟩ := x
  intro ok hσ H locs ls hP hS hl
  obtain ⟨hx, hb, -⟩ := id ok
  exact lv_iload_n hx hb d hi (hl.get hl0) (k ok hσ H locs ls hP hS hl)
theorem r_iload {i : Nat} {a : Int} (d : decode M.1 pc = .ok (.iload i, 2)) (hl0 : lv[i]? = some (some (.int (iz a)))) (k : RW lay E M Φ (pc + 2) lv (.int (iz a) :: st) σ x) : RW lay E M Φ pc lv st σ x := by
  obtain ⟨p, e, R, s, m, args, below, meth, c⟩ := x
  intro ok hσ H locs ls hP hS hl
  obtain ⟨hx, hb, -⟩ := id ok
  exact lv_iload hx hb d (hl.get hl0) (k ok hσ H locs ls hP hS hl)
theorem r_aloadn {k4 : Fin 4} {i q : Nat} (d : decode M.1 pc = .ok (.aload_n k4, 1)) (hi : (k4 : Nat) = i) (hl0 : lv[i]? = some (some (.ref q))) (k : RW lay E M Φ (pc + 1) lv (.ref q :: st) σ x) : RW lay E M Φ pc lv st σ x := by
  obtain ⟨p, e, R, s, m, args, below, meth, c⟩ := x
  intro ok hσ H locs ls hP hS hl
  obtain ⟨hx, hb, -⟩ := id ok
  exact lv_aload_n hx hb d hi (hl.get hl0) (k ok hσ H locs ls hP hS hl)
theorem r_aload {i q : Nat} (d : decode M.1 pc = .ok (.aload i, 2)) (hl0 : lv[i]? = some (some (.ref q))) (k : RW lay E M Φ (pc + 2) lv (.ref q :: st) σ x) : RW lay E M Φ pc lv st σ x := by
  obtain ⟨p, e, R, s, m, args, below, meth, c⟩ := x
  intro ok hσ H locs ls hP hS hl
  obtain ⟨hx, hb, -⟩ := id ok
  exact lv_aload hx hb d (hl.get hl0) (k ok hσ H locs ls hP hS hl)
theorem LH.lt {ls : Array Slot} {n i : Nat} (h : LH ls n lv) (hi : Nat.ble (i + 1) lv.length = true) : i < n ∧ i < lv.length := by
  have h1 := Nat.le_of_ble_eq_true hi
  have h2 := h.2.2.1
  omega
theorem r_istoren {k4 : Fin 4} {i : Nat} {a : Int} (d : decode M.1 pc = .ok (.istore_n k4, 1)) (hi : (k4 : Nat) = i) (hn : Nat.ble (i + 1) lv.length = true) (hv : lv.set i (some (.int (iz a))) = lv') (k : RW lay E M Φ (pc + 1) lv' st σ x) : RW lay E M Φ pc lv (.int (iz a) :: st) σ x := by
  obtain ⟨p, e, R, s, m, args, below, meth, c⟩ := x
  intro ok hσ H locs ls hP hS hl
  obtain ⟨hx, hb, -⟩ := id ok
  obtain ⟨h1, h2⟩ := hl.lt hn
  exact lv_istore_n hx hb d hi hl.has h1 rfl (fun ls' h' => k ok hσ H locs ls' hP hS (hv ▸ hl.set rfl h2 h'))
theorem r_istore {i : Nat} {a : Int} (d : decode M.1 pc = .ok (.istore i, 2)) (hn : Nat.ble (i + 1) lv.length = true) (hv : lv.set i (some (.int (iz a))) = lv') (k : RW lay E M Φ (pc + 2) lv' st σ x) : RW lay E M Φ pc lv (.int (iz a) :: st) σ x := by
  obtain ⟨p, e, R, s, m, args, below, meth, c⟩ := x
  intro ok hσ H locs ls hP hS hl
  obtain ⟨hx, hb, -⟩ := id ok
  obtain ⟨h1, h2⟩ := hl.lt hn
  exact lv_istore hx hb d hl.has h1 rfl (fun ls' h' => k ok hσ H locs ls' hP hS (hv ▸ hl.set rfl h2 h'))
theorem r_astoren {k4 : Fin 4} {i q : Nat} (d : decode M.1 pc = .ok (.astore_n k4, 1)) (hi : (k4 : Nat) = i) (hn : Nat.ble (i + 1) lv.length = true) (hv : lv.set i (some (.ref q)) = lv') (k : RW lay E M Φ (pc + 1) lv' st σ x) : RW lay E M Φ pc lv (.ref q :: st) σ x := by
  obtain ⟨p, e, R, s, m, args, below, meth, c⟩ := x
  intro ok hσ H locs ls hP hS hl
  obtain ⟨hx, hb, -⟩ := id ok
  obtain ⟨h1, h2⟩ := hl.lt hn
  exact lv_astore_n hx hb d hi hl.has h1 rfl (fun ls' h' => k ok hσ H locs ls' hP hS (hv ▸ hl.set rfl h2 h'))
theorem r_astore {i q : Nat} (d : decode M.1 pc = .ok (.astore i, 2)) (hn : Nat.ble (i + 1) lv.length = true) (hv : lv.set i (some (.ref q)) = lv') (k : RW lay E M Φ (pc + 2) lv' st σ x) : RW lay E M Φ pc lv (.ref q :: st) σ x := by
  obtain ⟨p, e, R, s, m, args, below, meth, c⟩ := x
  intro ok hσ H locs ls hP hS hl
  obtain ⟨hx, hb, -⟩ := id ok
  obtain ⟨h1, h2⟩ := hl.lt hn
  exact lv_astore hx hb d hl.has h1 rfl (fun ls' h' => k ok hσ H locs ls' hP hS (hv ▸ hl.set rfl h2 h'))
theorem r_iinc {i : Nat} {n a : Int} (d : decode M.1 pc = .ok (.iinc i n, 3)) (hl0 : lv[i]? = some (some (.int (iz a)))) (hn : Nat.ble (i + 1) lv.length = true) (hv : lv.set i (some (.int (iz (a + n)))) = lv') (k : RW lay E M Φ (pc + 3) lv' st σ x) : RW lay E M Φ pc lv st σ x := by
  obtain ⟨p, e, R, s, m, args, below, meth, c⟩ := x
  intro ok hσ H locs ls hP hS hl
  obtain ⟨hx, hb, -⟩ := id ok
  obtain ⟨h1, h2⟩ := hl.lt hn
  obtain ⟨j, hj⟩ := List.getElem?_of_mem (lvL_in hl0)
  exact lv_iinc hx hb d hl.has hj (iz_add a n) h1 rfl (fun ls' h' => k ok hσ H locs ls' hP hS (hv ▸ hl.set rfl h2 h'))
theorem r_iadd {a b : Int} (d : decode M.1 pc = .ok (.iadd, 1)) (k : RW lay E M Φ (pc + 1) lv (.int (iz (a + b)) :: st) σ x) : RW lay E M Φ pc lv (.int (iz b) :: .int (iz a) :: st) σ x := by
  obtain ⟨p, e, R, s, m, args, below, meth, c⟩ := x
  intro ok hσ H locs ls hP hS hl
  obtain ⟨hx, hb, -⟩ := id ok
  refine lv_iadd hx hb d ?_
  rw [iz_add]
  exact k ok hσ H locs ls hP hS hl
theorem r_isub {a b : Int} (d : decode M.1 pc = .ok (.isub, 1)) (k : RW lay E M Φ (pc + 1) lv (.int (iz (a - b)) :: st) σ x) : RW lay E M Φ pc lv (.int (iz b) :: .int (iz a) :: st) σ x := by
  obtain ⟨p, e, R, s, m, args, below, meth, c⟩ := x
  intro ok hσ H locs ls hP hS hl
  obtain ⟨hx, hb, -⟩ := id ok
  refine lv_isub hx hb d ?_
  rw [iz_sub]
  exact k ok hσ H locs ls hP hS hl
theorem r_imul {a b : Int} (d : decode M.1 pc = .ok (.imul, 1)) (k : RW lay E M Φ (pc + 1) lv (.int (iz (a * b)) :: st) σ x) : RW lay E M Φ pc lv (.int (iz b) :: .int (iz a) :: st) σ x := by
  obtain ⟨p, e, R, s, m, args, below, meth, c⟩ := x
  intro ok hσ H locs ls hP hS hl
  obtain ⟨hx, hb, -⟩ := id ok
  refine lv_imul hx hb d ?_
  rw [iz_mul]
  exact k ok hσ H locs ls hP hS hl
theorem r_ineg {a : Int} (d : decode M.1 pc = .ok (.ineg, 1)) (k : RW lay E M Φ (pc + 1) lv (.int (iz (-a)) :: st) σ x) : RW lay E M Φ pc lv (.int (iz a) :: st) σ x := by
  obtain ⟨p, e, R, s, m, args, below, meth, c⟩ := x
  intro ok hσ H locs ls hP hS hl
  obtain ⟨hx, hb, -⟩ := id ok
  have k' := k ok hσ H locs ls hP hS hl
  rw [← iz_neg] at k'
  refine lv_ineg hx hb d ?_
  first
    | exact k'
    | (rw [Int32.zero_sub]; exact k')
theorem r_iand {a b : Int} (d : decode M.1 pc = .ok (.iand, 1)) (k : RW lay E M Φ (pc + 1) lv (.int (iz (iand a b)) :: st) σ x) : RW lay E M Φ pc lv (.int (iz b) :: .int (iz a) :: st) σ x := by
  obtain ⟨p, e, R, s, m, args, below, meth, c⟩ := x
  intro ok hσ H locs ls hP hS hl
  obtain ⟨hx, hb, -⟩ := id ok
  have k' := k ok hσ H locs ls hP hS hl
  rw [iand, iz_of] at k'
  exact lv_iand hx hb d k'
theorem r_ior {a b : Int} (d : decode M.1 pc = .ok (.ior, 1)) (k : RW lay E M Φ (pc + 1) lv (.int (iz (ior a b)) :: st) σ x) : RW lay E M Φ pc lv (.int (iz b) :: .int (iz a) :: st) σ x := by
  obtain ⟨p, e, R, s, m, args, below, meth, c⟩ := x
  intro ok hσ H locs ls hP hS hl
  obtain ⟨hx, hb, -⟩ := id ok
  have k' := k ok hσ H locs ls hP hS hl
  rw [ior, iz_of] at k'
  exact lv_ior hx hb d k'
theorem r_ixor {a b : Int} (d : decode M.1 pc = .ok (.ixor, 1)) (k : RW lay E M Φ (pc + 1) lv (.int (iz (ixor a b)) :: st) σ x) : RW lay E M Φ pc lv (.int (iz b) :: .int (iz a) :: st) σ x := by
  obtain ⟨p, e, R, s, m, args, below, meth, c⟩ := x
  intro ok hσ H locs ls hP hS hl
  obtain ⟨hx, hb, -⟩ := id ok
  have k' := k ok hσ H locs ls hP hS hl
  rw [ixor, iz_of] at k'
  exact lv_ixor hx hb d k'
theorem r_ishl {a b : Int} (d : decode M.1 pc = .ok (.ishl, 1)) (k : RW lay E M Φ (pc + 1) lv (.int (iz (ishl a b)) :: st) σ x) : RW lay E M Φ pc lv (.int (iz b) :: .int (iz a) :: st) σ x := by
  obtain ⟨p, e, R, s, m, args, below, meth, c⟩ := x
  intro ok hσ H locs ls hP hS hl
  obtain ⟨hx, hb, -⟩ := id ok
  have k' := k ok hσ H locs ls hP hS hl
  rw [ishl, iz_of] at k'
  exact lv_ishl hx hb d k'
theorem r_ishr {a b : Int} (d : decode M.1 pc = .ok (.ishr, 1)) (k : RW lay E M Φ (pc + 1) lv (.int (iz (ishr a b)) :: st) σ x) : RW lay E M Φ pc lv (.int (iz b) :: .int (iz a) :: st) σ x := by
  obtain ⟨p, e, R, s, m, args, below, meth, c⟩ := x
  intro ok hσ H locs ls hP hS hl
  obtain ⟨hx, hb, -⟩ := id ok
  have k' := k ok hσ H locs ls hP hS hl
  rw [ishr, iz_of] at k'
  exact lv_ishr hx hb d k'
theorem r_iushr {a b : Int} (d : decode M.1 pc = .ok (.iushr, 1)) (k : RW lay E M Φ (pc + 1) lv (.int (iz (iushr a b)) :: st) σ x) : RW lay E M Φ pc lv (.int (iz b) :: .int (iz a) :: st) σ x := by
  obtain ⟨p, e, R, s, m, args, below, meth, c⟩ := x
  intro ok hσ H locs ls hP hS hl
  obtain ⟨hx, hb, -⟩ := id ok
  have k' := k ok hσ H locs ls hP hS hl
  rw [iushr, iz_of] at k'
  exact lv_iushr hx hb d rfl k'
theorem r_wrap {a : Int} (k : RW lay E M Φ pc lv (.int (iz (iwrap a)) :: st) σ x) : RW lay E M Φ pc lv (.int (iz a) :: st) σ x := by
  have e : iz (iwrap a) = iz a := iz_of _
  rw [e] at k
  exact k
theorem iz_div {a b : Int} (ha : Rg a) (hb : Rg b) (h0 : 0 ≤ a) (h1 : 0 < b) : iz a / iz b = iz (a / b) := by
  have q0 : 0 ≤ a / b := Int.ediv_nonneg h0 (by omega)
  have q1 : a / b ≤ a := Int.ediv_le_self b h0
  apply Int32.toInt_inj.mp
  rw [Int32.toInt_div, iz_toInt ha, iz_toInt hb, iz_toInt ⟨by omega, by omega⟩, Int.tdiv_eq_ediv_of_nonneg h0, Int.bmod_eq_of_le (by omega) (by omega)]
theorem r_idiv {a b : Int} (d : decode M.1 pc = .ok (.idiv, 1)) (ha : Rg a) (hb : Rg b) (h0 : 0 ≤ a) (h1 : 0 < b) (k : RW lay E M Φ (pc + 1) lv (.int (iz (a / b)) :: st) σ x) : RW lay E M Φ pc lv (.int (iz b) :: .int (iz a) :: st) σ x := by
  obtain ⟨p, e, R, s, m, args, below, meth, c⟩ := x
  intro ok hσ H locs ls hP hS hl
  obtain ⟨hx, hb', -⟩ := id ok
  refine lv_idiv hx hb' d (fun h => ?_) ?_
  · rw [← iz_0] at h
    have := (iz_eq hb ⟨by omega, by omega⟩).mp h
    omega
  · rw [iz_div ha hb h0 h1]
    exact k ok hσ H locs ls hP hS hl
theorem r_irem {a b : Int} (d : decode M.1 pc = .ok (.irem, 1)) (ha : Rg a) (hb : Rg b) (h0 : 0 ≤ a) (h1 : 0 < b) (k : RW lay E M Φ (pc + 1) lv (.int (iz (a % b)) :: st) σ x) : RW lay E M Φ pc lv (.int (iz b) :: .int (iz a) :: st) σ x := by
  obtain ⟨p, e, R, s, m, args, below, meth, c⟩ := x
  intro ok hσ H locs ls hP hS hl
  obtain ⟨hx, hb', -⟩ := id ok
  refine lv_irem hx hb' d (fun h => ?_) ?_
  · rw [← iz_0] at h
    have := (iz_eq hb ⟨by omega, by omega⟩).mp h
    omega
  · have e : iz a - iz a / iz b * iz b = iz (a % b) := by
      rw [iz_div ha hb h0 h1, iz_mul, iz_sub, Int.emod_def, Int.mul_comm]
    rw [e]
    exact k ok hσ H locs ls hP hS hl
theorem iz_i2b {a : Int} (h : -128 ≤ a ∧ a ≤ 127) : (iz a).toInt8.toInt32 = iz a := by
  have hr : Rg a := ⟨by omega, by omega⟩
  apply Int32.toInt_inj.1
  rw [Int8.toInt_toInt32, Int32.toInt_toInt8, iz_toInt hr, Int.bmod_eq_of_le (by omega) (by omega)]
theorem r_i2b {a : Int} (d : decode M.1 pc = .ok (.i2b, 1)) (h : -128 ≤ a ∧ a ≤ 127) (k : RW lay E M Φ (pc + 1) lv (.int (iz a) :: st) σ x) : RW lay E M Φ pc lv (.int (iz a) :: st) σ x := by
  obtain ⟨p, e, R, s, m, args, below, meth, c⟩ := x
  intro ok hσ H locs ls hP hS hl
  obtain ⟨hx, hb, -⟩ := id ok
  exact lv_i2b hx hb d (iz_i2b h) (k ok hσ H locs ls hP hS hl)
theorem r_dup {v : Value} (d : decode M.1 pc = .ok (.dup, 1)) (hv : v.category = 1) (k : RW lay E M Φ (pc + 1) lv (v :: v :: st) σ x) : RW lay E M Φ pc lv (v :: st) σ x := by
  obtain ⟨p, e, R, s, m, args, below, meth, c⟩ := x
  intro ok hσ H locs ls hP hS hl
  obtain ⟨hx, hb, -⟩ := id ok
  exact lv_dup hx hb d hv (k ok hσ H locs ls hP hS hl)
theorem r_dup2 {v w : Value} (d : decode M.1 pc = .ok (.dup2, 1)) (hv : v.category = 1) (hw : w.category = 1) (k : RW lay E M Φ (pc + 1) lv (v :: w :: v :: w :: st) σ x) : RW lay E M Φ pc lv (v :: w :: st) σ x := by
  obtain ⟨p, e, R, s, m, args, below, meth, c⟩ := x
  intro ok hσ H locs ls hP hS hl
  obtain ⟨hx, hb, -⟩ := id ok
  exact lv_dup2_11 hx hb d hv hw (k ok hσ H locs ls hP hS hl)
theorem r_pop {v : Value} (d : decode M.1 pc = .ok (.pop, 1)) (hv : v.category = 1) (k : RW lay E M Φ (pc + 1) lv st σ x) : RW lay E M Φ pc lv (v :: st) σ x := by
  obtain ⟨p, e, R, s, m, args, below, meth, c⟩ := x
  intro ok hσ H locs ls hP hS hl
  obtain ⟨hx, hb, -⟩ := id ok
  exact lv_pop hx hb d hv (k ok hσ H locs ls hP hS hl)
theorem r_goto {off : Int} {tgt : Nat} (d : decode M.1 pc = .ok (.goto off, 3)) (ht : (pc : Int) + off = (tgt : Int)) (k : RW lay E M Φ tgt lv st σ x) : RW lay E M Φ pc lv st σ x := by
  obtain ⟨p, e, R, s, m, args, below, meth, c⟩ := x
  intro ok hσ H locs ls hP hS hl
  obtain ⟨hx, hb, -⟩ := id ok
  exact lv_goto hx hb d ht (k ok hσ H locs ls hP hS hl)
theorem Rg_0 : Rg 0 := ⟨by decide, by decide⟩
theorem r_if_eq {a : Int} {off : Int} {tgt : Nat} (d : decode M.1 pc = .ok (.ifCond .eq off, 3)) (ht : (pc : Int) + off = (tgt : Int)) (ha : Rg a) (kt : a = 0 → RW lay E M Φ tgt lv st σ x) (kf : ¬ a = 0 → RW lay E M Φ (pc + 3) lv st σ x) : RW lay E M Φ pc lv (.int (iz a) :: st) σ x := by
  obtain ⟨p, e, R, s, m, args, below, meth, c⟩ := x
  intro ok hσ H locs ls hP hS hl
  obtain ⟨hx, hb, -⟩ := id ok
  have q := iz_eq ha Rg_0
  rw [iz_0] at q
  exact lv_if_eq hx hb d ht (fun h => kt (q.mp h) ok hσ H locs ls hP hS hl) (fun h => kf (fun z => h (q.mpr z)) ok hσ H locs ls hP hS hl)
theorem r_icmp_eq {a b : Int} {off : Int} {tgt : Nat} (d : decode M.1 pc = .ok (.if_icmp .eq off, 3)) (ht : (pc : Int) + off = (tgt : Int)) (ha : Rg a) (hb0 : Rg b) (kt : a = b → RW lay E M Φ tgt lv st σ x) (kf : ¬ a = b → RW lay E M Φ (pc + 3) lv st σ x) : RW lay E M Φ pc lv (.int (iz b) :: .int (iz a) :: st) σ x := by
  obtain ⟨p, e, R, s, m, args, below, meth, c⟩ := x
  intro ok hσ H locs ls hP hS hl
  obtain ⟨hx, hb, -⟩ := id ok
  have q := iz_eq ha hb0
  exact lv_icmp_eq hx hb d ht (fun h => kt (q.mp h) ok hσ H locs ls hP hS hl) (fun h => kf (fun z => h (q.mpr z)) ok hσ H locs ls hP hS hl)
theorem r_if_ne {a : Int} {off : Int} {tgt : Nat} (d : decode M.1 pc = .ok (.ifCond .ne off, 3)) (ht : (pc : Int) + off = (tgt : Int)) (ha : Rg a) (kt : ¬ a = 0 → RW lay E M Φ tgt lv st σ x) (kf : a = 0 → RW lay E M Φ (pc + 3) lv st σ x) : RW lay E M Φ pc lv (.int (iz a) :: st) σ x := by
  obtain ⟨p, e, R, s, m, args, below, meth, c⟩ := x
  intro ok hσ H locs ls hP hS hl
  obtain ⟨hx, hb, -⟩ := id ok
  have q := iz_eq ha Rg_0
  rw [iz_0] at q
  exact lv_if_ne hx hb d ht (fun h => kt (fun z => h (q.mpr z)) ok hσ H locs ls hP hS hl) (fun h => kf (q.mp h) ok hσ H locs ls hP hS hl)
theorem r_icmp_ne {a b : Int} {off : Int} {tgt : Nat} (d : decode M.1 pc = .ok (.if_icmp .ne off, 3)) (ht : (pc : Int) + off = (tgt : Int)) (ha : Rg a) (hb0 : Rg b) (kt : ¬ a = b → RW lay E M Φ tgt lv st σ x) (kf : a = b → RW lay E M Φ (pc + 3) lv st σ x) : RW lay E M Φ pc lv (.int (iz b) :: .int (iz a) :: st) σ x := by
  obtain ⟨p, e, R, s, m, args, below, meth, c⟩ := x
  intro ok hσ H locs ls hP hS hl
  obtain ⟨hx, hb, -⟩ := id ok
  have q := iz_eq ha hb0
  exact lv_icmp_ne hx hb d ht (fun h => kt (fun z => h (q.mpr z)) ok hσ H locs ls hP hS hl) (fun h => kf (q.mp h) ok hσ H locs ls hP hS hl)
theorem r_if_lt {a : Int} {off : Int} {tgt : Nat} (d : decode M.1 pc = .ok (.ifCond .lt off, 3)) (ht : (pc : Int) + off = (tgt : Int)) (ha : Rg a) (kt : a < 0 → RW lay E M Φ tgt lv st σ x) (kf : ¬ a < 0 → RW lay E M Φ (pc + 3) lv st σ x) : RW lay E M Φ pc lv (.int (iz a) :: st) σ x := by
  obtain ⟨p, e, R, s, m, args, below, meth, c⟩ := x
  intro ok hσ H locs ls hP hS hl
  obtain ⟨hx, hb, -⟩ := id ok
  have q := iz_lt ha Rg_0
  rw [iz_0] at q
  exact lv_if_lt hx hb d ht (fun h => kt (q.mp h) ok hσ H locs ls hP hS hl) (fun h => kf (fun z => h (q.mpr z)) ok hσ H locs ls hP hS hl)
theorem r_icmp_lt {a b : Int} {off : Int} {tgt : Nat} (d : decode M.1 pc = .ok (.if_icmp .lt off, 3)) (ht : (pc : Int) + off = (tgt : Int)) (ha : Rg a) (hb0 : Rg b) (kt : a < b → RW lay E M Φ tgt lv st σ x) (kf : ¬ a < b → RW lay E M Φ (pc + 3) lv st σ x) : RW lay E M Φ pc lv (.int (iz b) :: .int (iz a) :: st) σ x := by
  obtain ⟨p, e, R, s, m, args, below, meth, c⟩ := x
  intro ok hσ H locs ls hP hS hl
  obtain ⟨hx, hb, -⟩ := id ok
  have q := iz_lt ha hb0
  exact lv_icmp_lt hx hb d ht (fun h => kt (q.mp h) ok hσ H locs ls hP hS hl) (fun h => kf (fun z => h (q.mpr z)) ok hσ H locs ls hP hS hl)
theorem r_if_ge {a : Int} {off : Int} {tgt : Nat} (d : decode M.1 pc = .ok (.ifCond .ge off, 3)) (ht : (pc : Int) + off = (tgt : Int)) (ha : Rg a) (kt : 0 ≤ a → RW lay E M Φ tgt lv st σ x) (kf : ¬ 0 ≤ a → RW lay E M Φ (pc + 3) lv st σ x) : RW lay E M Φ pc lv (.int (iz a) :: st) σ x := by
  obtain ⟨p, e, R, s, m, args, below, meth, c⟩ := x
  intro ok hσ H locs ls hP hS hl
  obtain ⟨hx, hb, -⟩ := id ok
  have q := iz_le Rg_0 ha
  rw [iz_0] at q
  exact lv_if_ge hx hb d ht (fun h => kt (q.mp h) ok hσ H locs ls hP hS hl) (fun h => kf (fun z => h (q.mpr z)) ok hσ H locs ls hP hS hl)
theorem r_icmp_ge {a b : Int} {off : Int} {tgt : Nat} (d : decode M.1 pc = .ok (.if_icmp .ge off, 3)) (ht : (pc : Int) + off = (tgt : Int)) (ha : Rg a) (hb0 : Rg b) (kt : b ≤ a → RW lay E M Φ tgt lv st σ x) (kf : ¬ b ≤ a → RW lay E M Φ (pc + 3) lv st σ x) : RW lay E M Φ pc lv (.int (iz b) :: .int (iz a) :: st) σ x := by
  obtain ⟨p, e, R, s, m, args, below, meth, c⟩ := x
  intro ok hσ H locs ls hP hS hl
  obtain ⟨hx, hb, -⟩ := id ok
  have q := iz_le hb0 ha
  exact lv_icmp_ge hx hb d ht (fun h => kt (q.mp h) ok hσ H locs ls hP hS hl) (fun h => kf (fun z => h (q.mpr z)) ok hσ H locs ls hP hS hl)
theorem r_if_gt {a : Int} {off : Int} {tgt : Nat} (d : decode M.1 pc = .ok (.ifCond .gt off, 3)) (ht : (pc : Int) + off = (tgt : Int)) (ha : Rg a) (kt : 0 < a → RW lay E M Φ tgt lv st σ x) (kf : ¬ 0 < a → RW lay E M Φ (pc + 3) lv st σ x) : RW lay E M Φ pc lv (.int (iz a) :: st) σ x := by
  obtain ⟨p, e, R, s, m, args, below, meth, c⟩ := x
  intro ok hσ H locs ls hP hS hl
  obtain ⟨hx, hb, -⟩ := id ok
  have q := iz_lt Rg_0 ha
  rw [iz_0] at q
  exact lv_if_gt hx hb d ht (fun h => kt (q.mp h) ok hσ H locs ls hP hS hl) (fun h => kf (fun z => h (q.mpr z)) ok hσ H locs ls hP hS hl)
theorem r_icmp_gt {a b : Int} {off : Int} {tgt : Nat} (d : decode M.1 pc = .ok (.if_icmp .gt off, 3)) (ht : (pc : Int) + off = (tgt : Int)) (ha : Rg a) (hb0 : Rg b) (kt : b < a → RW lay E M Φ tgt lv st σ x) (kf : ¬ b < a → RW lay E M Φ (pc + 3) lv st σ x) : RW lay E M Φ pc lv (.int (iz b) :: .int (iz a) :: st) σ x := by
  obtain ⟨p, e, R, s, m, args, below, meth, c⟩ := x
  intro ok hσ H locs ls hP hS hl
  obtain ⟨hx, hb, -⟩ := id ok
  have q := iz_lt hb0 ha
  exact lv_icmp_gt hx hb d ht (fun h => kt (q.mp h) ok hσ H locs ls hP hS hl) (fun h => kf (fun z => h (q.mpr z)) ok hσ H locs ls hP hS hl)
theorem r_if_le {a : Int} {off : Int} {tgt : Nat} (d : decode M.1 pc = .ok (.ifCond .le off, 3)) (ht : (pc : Int) + off = (tgt : Int)) (ha : Rg a) (kt : a ≤ 0 → RW lay E M Φ tgt lv st σ x) (kf : ¬ a ≤ 0 → RW lay E M Φ (pc + 3) lv st σ x) : RW lay E M Φ pc lv (.int (iz a) :: st) σ x := by
  obtain ⟨p, e, R, s, m, args, below, meth, c⟩ := x
  intro ok hσ H locs ls hP hS hl
  obtain ⟨hx, hb, -⟩ := id ok
  have q := iz_le ha Rg_0
  rw [iz_0] at q
  exact lv_if_le hx hb d ht (fun h => kt (q.mp h) ok hσ H locs ls hP hS hl) (fun h => kf (fun z => h (q.mpr z)) ok hσ H locs ls hP hS hl)
theorem r_icmp_le {a b : Int} {off : Int} {tgt : Nat} (d : decode M.1 pc = .ok (.if_icmp .le off, 3)) (ht : (pc : Int) + off = (tgt : Int)) (ha : Rg a) (hb0 : Rg b) (kt : a ≤ b → RW lay E M Φ tgt lv st σ x) (kf : ¬ a ≤ b → RW lay E M Φ (pc + 3) lv st σ x) : RW lay E M Φ pc lv (.int (iz b) :: .int (iz a) :: st) σ x := by
  obtain ⟨p, e, R, s, m, args, below, meth, c⟩ := x
  intro ok hσ H locs ls hP hS hl
  obtain ⟨hx, hb, -⟩ := id ok
  have q := iz_le ha hb0
  exact lv_icmp_le hx hb d ht (fun h => kt (q.mp h) ok hσ H locs ls hP hS hl) (fun h => kf (fun z => h (q.mpr z)) ok hσ H locs ls hP hS hl)
theorem r_by {c : Prop} (kt : c → RW lay E M Φ pc lv st σ x) (kf : ¬ c → RW lay E M Φ pc lv st σ x) : RW lay E M Φ pc lv st σ x := by
  by_cases h : c
  · exact kt h
  · exact kf h
theorem r_swOut {a dflt lo hi : Int} {offs : Array Int} {len tgt : Nat} (d : decode M.1 pc = .ok (.tableswitch dflt lo hi offs, len)) (ht : (pc : Int) + dflt = (tgt : Int)) (ha : Rg a) (h : a < lo ∨ hi < a) (k : RW lay E M Φ tgt lv st σ x) : RW lay E M Φ pc lv (.int (iz a) :: st) σ x := by
  obtain ⟨p, e, R, s, m, args, below, meth, c⟩ := x
  intro ok hσ H locs ls hP hS hl
  obtain ⟨hx, hb, -⟩ := id ok
  exact lv_tableOut hx hb d (by rw [iz_toInt ha]; exact h) ht (k ok hσ H locs ls hP hS hl)
theorem r_swIn {a v dflt lo hi off : Int} {offs : Array Int} {len tgt : Nat} (d : decode M.1 pc = .ok (.tableswitch dflt lo hi offs, len)) (h : a = v) (hv : Rg v ∧ ¬ v < lo ∧ ¬ hi < v ∧ offs[(v - lo).toNat]? = some off) (ht : (pc : Int) + off = (tgt : Int)) (k : RW lay E M Φ tgt lv st σ x) : RW lay E M Φ pc lv (.int (iz a) :: st) σ x := by
  obtain ⟨p, e, R, s, m, args, below, meth, c⟩ := x
  intro ok hσ H locs ls hP hS hl
  obtain ⟨hx, hb, -⟩ := id ok
  subst h
  obtain ⟨h0, h1, h2, h3⟩ := hv
  exact lv_tableIn hx hb d (by rw [iz_toInt h0]; exact h1) (by rw [iz_toInt h0]; exact h2) (by rw [iz_toInt h0]; exact h3) ht (k ok hσ H locs ls hP hS hl)
/-! fields -/
def FW (own : String) (idx ci j : Nat) : Prop := ∃ (C : String) (T : u_T) (N : Nat), vwCl[ci]? = some (C, T, N) ∧ j < N ∧ (T j).1 = C ∧ Cond.fieldLink own idx C (T j).2.1 (T j).2.2.1 ∈ TB ∧ ∀ w ∈ u_ws C T N, w ∈ TB
def FP (ci j : Nat) (ty : FieldType) : Prop := ∃ (C : String) (T : u_T) (N : Nat) (ty0 : Nat → FieldType), vwCl[ci]? = some (C, T, N) ∧ (∀ k, k < N → parseFieldDescriptor (T k).2.2.1 = some (ty0 k)) ∧ (∀ a, a < N → ∀ b, b < N → a ≠ b → (T a).2.1 ≠ (T b).2.1) ∧ (T j).2.2.2 = false ∧ parseFieldDescriptor (T j).2.2.1 = some ty
theorem r_getI {idx k ci j : Nat} {fs : List (Option Nat)} (d : decode M.1 pc = .ok (.getfield idx, 3)) (w : FW M.2.1 idx ci j) (hk : lay[k]? = some (.inr (ci, fs))) (hf : fs[j]? = some none) (kk : RW lay E M Φ (pc + 3) lv (.int (iz (σ k j)) :: st) σ x) : RW lay E M Φ pc lv (.ref (eA E k) :: st) σ x := by
  obtain ⟨p, e, R, s, m, args, below, meth, c⟩ := x
  intro ok hσ H locs ls hP hS hl
  obtain ⟨hx, hb, hml, hown, hts, hK, -⟩ := id ok
  obtain ⟨C, T, N, hc, hj, hC, hlk, hin⟩ := w
  exact va_get (ref := C) hx hb hts hin hown hK hP k (wld_get hk) hc j hj (hts _ hlk) (by rw [hC]; exact fun _ h => h) (v := .int (iz (σ k j))) (by simp [List.getElem?_mapIdx, hf, fcell]) d (kk ok hσ H locs ls hP hS hl)
theorem r_getR {idx k ci j r : Nat} {fs : List (Option Nat)} (d : decode M.1 pc = .ok (.getfield idx, 3)) (w : FW M.2.1 idx ci j) (hk : lay[k]? = some (.inr (ci, fs))) (hf : fs[j]? = some (some r)) (kk : RW lay E M Φ (pc + 3) lv (.ref (eA E r) :: st) σ x) : RW lay E M Φ pc lv (.ref (eA E k) :: st) σ x := by
  obtain ⟨p, e, R, s, m, args, below, meth, c⟩ := x
  intro ok hσ H locs ls hP hS hl
  obtain ⟨hx, hb, hml, hown, hts, hK, -⟩ := id ok
  obtain ⟨C, T, N, hc, hj, hC, hlk, hin⟩ := w
  exact va_get (ref := C) hx hb hts hin hown hK hP k (wld_get hk) hc j hj (hts _ hlk) (by rw [hC]; exact fun _ h => h) (v := .ref (eA E r)) (by simp [List.getElem?_mapIdx, hf, fcell]) d (kk ok hσ H locs ls hP hS hl)
theorem r_put {idx k ci j : Nat} {fs : List (Option Nat)} {a : Int} {ty : FieldType} (d : decode M.1 pc = .ok (.putfield idx, 3)) (w : FW M.2.1 idx ci j) (wp : FP ci j ty) (hk : lay[k]? = some (.inr (ci, fs))) (hf : fs[j]? = some none) (hn : narrow ty (.int (iz a)) = .int (iz a) ∧ fits ty (.int (iz a)) = true) (ha : Rg a) (kk : RW lay E M Φ (pc + 3) lv st (up2 σ k j a) x) : RW lay E M Φ pc lv (.int (iz a) :: .ref (eA E k) :: st) σ x := by
  obtain ⟨p, e, R, s, m, args, below, meth, c⟩ := x
  intro ok hσ H locs ls hP hS hl
  obtain ⟨hx, hb, hml, hown, hts, hK, hE, -⟩ := id ok
  obtain ⟨C, T, N, hc, hj, hC, hlk, hin⟩ := w
  obtain ⟨C2, T2, N2, ty0, hc2, hty, hnm, hfin, hd⟩ := wp
  cases hc.symm.trans hc2
  have hl2 : j < fs.length := (List.getElem?_eq_some_iff.mp hf).1
  refine va_put (ref := C) hx hb hts hin ty0 hty hnm hown hK hP (wld_D hE) hS k (wld_get hk) hc j hj (hts _ hlk) (by rw [hC]; exact fun _ h => h) hfin hd hn.1 hn.2 (by simpa using hl2) d (fun H1 locs1 hP1 _ hS1 => ?_)
  exact kk ok (hσ.up ha k j) H1 locs1 ls (by rw [← wld_setF hk hf]; exact hP1) hS1 hl
theorem nar_int (a : Int) : narrow .int (.int (iz a)) = .int (iz a) ∧ fits .int (.int (iz a)) = true := ⟨rfl, rfl⟩
theorem nar_bool {a : Int} (h : a = 0 ∨ a = 1) : narrow .boolean (.int (iz a)) = .int (iz a) ∧ fits .boolean (.int (iz a)) = true := by
  rcases h with rfl | rfl <;> exact ⟨by decide +kernel, by decide +kernel⟩
/-! arrays -/
theorem r_iald {k n : Nat} {i N : Int} (d : decode M.1 pc = .ok (.iaload, 1)) (hk : lay[k]? = some (.inl (0, n))) (hN : (n : Int) = N) (hn : Nat.ble n 1000000 = true) (hi : 0 ≤ i ∧ i < N) (kk : RW lay E M Φ (pc + 1) lv (.int (iz (σ k i.toNat)) :: st) σ x) : RW lay E M Φ pc lv (.int (iz i) :: .ref (eA E k) :: st) σ x := by
  obtain ⟨p, e, R, s, m, args, below, meth, c⟩ := x
  intro ok hσ H locs ls hP hS hl
  obtain ⟨hx, hb, hml, hown, hts, hK, -⟩ := id ok
  obtain ⟨h1, h2⟩ := iz_in hN hn hi
  refine va_iald hx hb hK hP k 0 (wld_get hk) rfl h1 d ?_
  rw [h2]
  exact kk ok hσ H locs ls hP hS hl
theorem r_bald {k n : Nat} {i N : Int} (d : decode M.1 pc = .ok (.baload, 1)) (hk : lay[k]? = some (.inl (1, n))) (hN : (n : Int) = N) (hn : Nat.ble n 1000000 = true) (hi : 0 ≤ i ∧ i < N) (kk : RW lay E M Φ (pc + 1) lv (.int (iz (σ k i.toNat)) :: st) σ x) : RW lay E M Φ pc lv (.int (iz i) :: .ref (eA E k) :: st) σ x := by
  obtain ⟨p, e, R, s, m, args, below, meth, c⟩ := x
  intro ok hσ H locs ls hP hS hl
  obtain ⟨hx, hb, hml, hown, hts, hK, -⟩ := id ok
  obtain ⟨h1, h2⟩ := iz_in hN hn hi
  refine va_bald hx hb hK hP k 1 (wld_get hk) rfl h1 d ?_
  rw [h2]
  exact kk ok hσ H locs ls hP hS hl
theorem r_zald {k n : Nat} {i N : Int} (d : decode M.1 pc = .ok (.baload, 1)) (hk : lay[k]? = some (.inl (2, n))) (hN : (n : Int) = N) (hn : Nat.ble n 1000000 = true) (hi : 0 ≤ i ∧ i < N) (kk : RW lay E M Φ (pc + 1) lv (.int (iz (σ k i.toNat)) :: st) σ x) : RW lay E M Φ pc lv (.int (iz i) :: .ref (eA E k) :: st) σ x := by
  obtain ⟨p, e, R, s, m, args, below, meth, c⟩ := x
  intro ok hσ H locs ls hP hS hl
  obtain ⟨hx, hb, hml, hown, hts, hK, -⟩ := id ok
  obtain ⟨h1, h2⟩ := iz_in hN hn hi
  refine va_zald hx hb hK hP k 2 (wld_get hk) rfl h1 d ?_
  rw [h2]
  exact kk ok hσ H locs ls hP hS hl
theorem r_iast {k n : Nat} {i N a : Int} (d : decode M.1 pc = .ok (.iastore, 1)) (hk : lay[k]? = some (.inl (0, n))) (hN : (n : Int) = N) (hn : Nat.ble n 1000000 = true) (hi : 0 ≤ i ∧ i < N) (ha : Rg a) (kk : RW lay E M Φ (pc + 1) lv st (up2 σ k i.toNat a) x) : RW lay E M Φ pc lv (.int (iz a) :: .int (iz i) :: .ref (eA E k) :: st) σ x := by
  obtain ⟨p, e, R, s, m, args, below, meth, c⟩ := x
  intro ok hσ H locs ls hP hS hl
  obtain ⟨hx, hb, hml, hown, hts, hK, hE, -⟩ := id ok
  obtain ⟨h1, h2⟩ := iz_in hN hn hi
  refine va_iast hx hb hK hP (wld_D hE) hS k 0 (wld_get hk) rfl h1 d (fun H1 locs1 hP1 _ hS1 => ?_)
  rw [h2] at hP1
  exact kk ok (hσ.up ha k i.toNat) H1 locs1 ls (by rw [← wld_setA hk]; exact hP1) hS1 hl
theorem nar_byte {a : Int} (h : -128 ≤ a ∧ a ≤ 127) : vp_nar .byte (iz a) = iz a := by rw [vp_nar_byte, iz_i2b h]
theorem r_bast {k n : Nat} {i N a : Int} (d : decode M.1 pc = .ok (.bastore, 1)) (hk : lay[k]? = some (.inl (1, n))) (hN : (n : Int) = N) (hn : Nat.ble n 1000000 = true) (hi : 0 ≤ i ∧ i < N) (ha : -128 ≤ a ∧ a ≤ 127) (kk : RW lay E M Φ (pc + 1) lv st (up2 σ k i.toNat a) x) : RW lay E M Φ pc lv (.int (iz a) :: .int (iz i) :: .ref (eA E k) :: st) σ x := by
  obtain ⟨p, e, R, s, m, args, below, meth, c⟩ := x
  intro ok hσ H locs ls hP hS hl
  obtain ⟨hx, hb, hml, hown, hts, hK, hE, -⟩ := id ok
  obtain ⟨h1, h2⟩ := iz_in hN hn hi
  refine va_bast hx hb hK hP (wld_D hE) hS k 1 (wld_get hk) rfl h1 d (fun H1 locs1 hP1 _ hS1 => ?_)
  rw [h2, nar_byte ha] at hP1
  exact kk ok (hσ.up ⟨by omega, by omega⟩ k i.toNat) H1 locs1 ls (by rw [← wld_setA hk]; exact hP1) hS1 hl
theorem nar_zz {a : Int} (h : a = 0 ∨ a = 1) : vp_nar .boolean (iz a) = iz a := by
  rcases h with rfl | rfl <;> decide +kernel
theorem r_zast {k n : Nat} {i N a : Int} (d : decode M.1 pc = .ok (.bastore, 1)) (hk : lay[k]? = some (.inl (2, n))) (hN : (n : Int) = N) (hn : Nat.ble n 1000000 = true) (hi : 0 ≤ i ∧ i < N) (ha : a = 0 ∨ a = 1) (kk : RW lay E M Φ (pc + 1) lv st (up2 σ k i.toNat a) x) : RW lay E M Φ pc lv (.int (iz a) :: .int (iz i) :: .ref (eA E k) :: st) σ x := by
  obtain ⟨p, e, R, s, m, args, below, meth, c⟩ := x
  intro ok hσ H locs ls hP hS hl
  obtain ⟨hx, hb, hml, hown, hts, hK, hE, -⟩ := id ok
  obtain ⟨h1, h2⟩ := iz_in hN hn hi
  refine va_zast hx hb hK hP (wld_D hE) hS k 2 (wld_get hk) rfl h1 d (fun H1 locs1 hP1 _ hS1 => ?_)
  rw [h2, nar_zz ha] at hP1
  exact kk ok (hσ.up ⟨by omega, by omega⟩ k i.toNat) H1 locs1 ls (by rw [← wld_setA hk]; exact hP1) hS1 hl
theorem r_alen {k t n : Nat} {N : Int} {ty : FieldType} (d : decode M.1 pc = .ok (.arraylength, 1)) (hk : lay[k]? = some (.inl (t, n))) (ht : (tyE E)[t]? = some (eC E t, ty)) (hN : (n : Int) = N) (kk : RW lay E M Φ (pc + 1) lv (.int (iz N) :: st) σ x) : RW lay E M Φ pc lv (.ref (eA E k) :: st) σ x := by
  obtain ⟨p, e, R, s, m, args, below, meth, c⟩ := x
  intro ok hσ H locs ls hP hS hl
  obtain ⟨hx, hb, hml, hown, hts, hK, hE, -⟩ := id ok
  subst hN
  exact va_alen hx hb hK hP k t (wld_get hk) ht (v := iz (n : Int)) rfl d (kk ok hσ H locs ls hP hS hl)
/-! ends -/
theorem r_iret {a : Int} (d : decode M.1 pc = .ok (.ireturn, 1)) (hM : M.2.2.2.2 = (some .int, 1)) (ha : Rg a) (h : Φ a σ) : RW lay E M Φ pc lv [.int (iz a)] σ x := by
  obtain ⟨p, e, R, s, m, args, below, meth, c⟩ := x
  intro ok hσ H locs ls hP hS hl
  obtain ⟨hx, hb, hml, hown, hts, hK, hE, hV, hlk, hr, -⟩ := id ok
  rw [hM] at hr ⊢
  exact W.iret hx hb hr (fun t ht _ => ⟨a, σ, rfl, by rw [ht]; exact hP, hσ, ha, h, hS.F ht⟩) (fun q hq => hS.2.2 q hq) d hlk
theorem r_zret {a : Int} (d : decode M.1 pc = .ok (.ireturn, 1)) (hM : M.2.2.2.2 = (some .boolean, 1)) (ha : a = 0 ∨ a = 1) (h : Φ a σ) : RW lay E M Φ pc lv [.int (iz a)] σ x := by
  obtain ⟨p, e, R, s, m, args, below, meth, c⟩ := x
  intro ok hσ H locs ls hP hS hl
  obtain ⟨hx, hb, hml, hown, hts, hK, hE, hV, hlk, hr, -⟩ := id ok
  rw [hM] at hr ⊢
  exact W.zret hx hb hr (nar_bool ha).1 (fun t ht _ => ⟨a, σ, rfl, by rw [ht]; exact hP, hσ, ⟨by omega, by omega⟩, h, hS.F ht⟩) (fun q hq => hS.2.2 q hq) d hlk
theorem r_vret (d : decode M.1 pc = .ok (.return_, 1)) (hM : M.2.2.2.2 = (none, 0)) (h : Φ 0 σ) : RW lay E M Φ pc lv [] σ x := by
  obtain ⟨p, e, R, s, m, args, below, meth, c⟩ := x
  intro ok hσ H locs ls hP hS hl
  obtain ⟨hx, hb, hml, hown, hts, hK, hE, hV, hlk, hr, -⟩ := id ok
  rw [hM] at hr ⊢
  exact W.vret hx hb hr (fun t ht _ => ⟨0, σ, rfl, by rw [ht]; exact hP, hσ, Rg_0, h, hS.F ht⟩) (fun q hq => hS.2.2 q hq) d hlk
theorem r_aret {C : String} {k : Nat} {z : Int} (d : decode M.1 pc = .ok (.areturn, 1)) (hM : M.2.2.2.2 = (some (.object C), 2)) (hz : z.toNat = k) (hr0 : Rg z) (h : Φ z σ) : RW lay E M Φ pc lv [.ref (eA E k)] σ x := by
  obtain ⟨p, e, R, s, m, args, below, meth, c⟩ := x
  intro ok hσ H locs ls hP hS hl
  obtain ⟨hx, hb, hml, hown, hts, hK, hE, hV, hlk, hr, -⟩ := id ok
  rw [hM] at hr ⊢
  subst hz
  exact W.aret hx hb hr (Or.inl ⟨_, rfl⟩) (Or.inr ⟨_, rfl⟩) (fun t ht _ => ⟨z, σ, rfl, by rw [ht]; exact hP, hσ, hr0, h, hS.F ht⟩) (fun q hq => hS.2.2 q hq) d hlk
theorem r_sret {C : String} {k : Nat} {z : Int} (d : decode M.1 pc = .ok (.areturn, 1)) (hM : M.2.2.2.2 = (some (.object C), 3)) (hz : z.toNat = k) (hr0 : Rg z) (h : Φ z σ) : RW lay E M Φ pc lv [.ref (eS E k)] σ x := by
  obtain ⟨p, e, R, s, m, args, below, meth, c⟩ := x
  intro ok hσ H locs ls hP hS hl
  obtain ⟨hx, hb, hml, hown, hts, hK, hE, hV, hlk, hr, -⟩ := id ok
  rw [hM] at hr ⊢
  subst hz
  exact W.aret hx hb hr (Or.inl ⟨_, rfl⟩) (Or.inr ⟨_, rfl⟩) (fun t ht _ => ⟨z, σ, rfl, by rw [ht]; exact hP, hσ, hr0, h, hS.F ht⟩) (fun q hq => hS.2.2 q hq) d hlk
end Rows
