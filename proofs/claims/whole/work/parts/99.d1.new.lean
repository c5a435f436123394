/-! THE SURROUNDINGS, for any set of cells that may change -/
def kNestI : List (String × Nat × MethodName) := [("GateFlow", 11, yX3_init), ("GateFlow", 21, yX1_init), ("GateFlow", 28, yX0_init), ("GateFlow", 35, yX8_init), ("GateFlow", 42, yX5_init), ("GateFlow$Models", 11, yX6_init), ("GateFlow", 49, yX10_init), ("GateFlow", 56, yX9_init), ("GateFlow", 63, yX2_init), ("GateFlow", 70, yX7_init)]
def ENA (A : Nat → Prop) (E : EV) (U : State) (H : Heap) : Prop :=
  vk_S 9 kLen kByt (eS E) (eV E) A U H ∧ (∀ q ∈ kRef, vk_R q.1 q.2.1 q.2.2.1 (eS E q.2.2.2) U) ∧ (∀ q ∈ kNest ++ kNestI, va_Nw (.methodLinkNest q.1 q.2.1 q.2.2 "GateFlow") U) ∧
  va_Z "java/lang/String" "COMPACT_STRINGS" "Z" (.int 1) A U H ∧ va_Zq "jdk/internal/util/Preconditions" "SIOOBE_FORMATTER" "Ljava/util/function/BiFunction;" A U H
theorem ENA.narrow {A B : Nat → Prop} {E : EV} {U : State} {H : Heap} (h : ENA A E U H) (hAB : ∀ q, B q → A q) : ENA B E U H :=
  ⟨vk_S.narrow h.1 hAB, h.2.1, h.2.2.1, va_Z.narrow h.2.2.2.1 hAB, va_Zq.narrow h.2.2.2.2 hAB⟩
theorem ENA.env {lay : List LE} {A : Nat → Prop} {E : EV} {U : State} {H : Heap} (h : ENA A E U H) (hA : ∀ q, wA lay E q → A q) : ENV lay E U H :=
  ⟨vk_S.narrow h.1 hA, h.2.1, fun q hq => h.2.2.1 q (List.mem_append_left _ hq), va_Z.narrow h.2.2.2.1 hA, va_Zq.narrow h.2.2.2.2 hA⟩
theorem ENA.warm {A : Nat → Prop} {E : EV} {s U : State} {H : Heap} (hW : s.WarmedH U.vm) (h : ENA A E s H) : ENA A E U H :=
  ⟨vk_S.moved hW.alike h.1, fun q hq => vk_R.warm hW (h.2.1 q hq), fun q hq => va_Nw.warmM hW (h.2.2.1 q hq), va_Z.moved hW.alike h.2.2.2.1, va_Zq.moved hW.alike h.2.2.2.2⟩
theorem ENA.kept {A : Nat → Prop} {E : EV} {U : State} {H H1 : Heap} (h : ENA A E U H) (hq : ∀ a : Nat, a < H.size → ¬ A a → H1[a]? = H[a]?) : ENA A E U H1 :=
  ⟨vk_S.kept h.1 hq, h.2.1, h.2.2.1, va_Z.kept h.2.2.2.1 hq, va_Zq.kept h.2.2.2.2 hq⟩
theorem ENA.same {A : Nat → Prop} {E : EV} {u U : State} {H : Heap} (hv : U.vm = u.vm) (h : ENA A E u H) : ENA A E U H :=
  ⟨vk_S.moved (by rw [hv]; exact Vm.Alike.refl _) h.1, fun q hq => vk_R.same hv (h.2.1 q hq), fun q hq => va_Nw.same rfl hv.symm (h.2.2.1 q hq), va_Z.moved (by rw [hv]; exact Vm.Alike.refl _) h.2.2.2.1, va_Zq.moved (by rw [hv]; exact Vm.Alike.refl _) h.2.2.2.2⟩
/-- another choice of addresses -/
def wE (E : EV) (f : Nat → Nat) : EV := (E.1, E.2.1, f, E.2.2.2)
/-- an array's cell -/
def ia (E : EV) (t n : Nat) (g : Nat → Int) : va_E := .inl (eC E t, n, .inl (fun i => iz (g i)))
def z0 : Nat → Int := fun _ => 0
/-! THE GROWING WORLD: the running method, its world a list of cells -/
def NOK (E : EV) (M : MI) (A : Nat → Prop) (mc ms : Nat) : CX → Prop := fun (p, e, R, s, m, args, below, meth, c) =>
  p.tables.exec = Jvm.exec ∧ c.code = M.1 ∧ c.maxLocals = M.2.2.1 ∧ s.vm.findClass M.2.1 = some m.cls ∧ (∀ w ∈ TB, w.before args s = true) ∧ va_K (eG E) vwCl (tyE E) s ∧ ENA A E s s.heap ∧ (∀ q, s.heap.size ≤ q → A q) ∧ M.2.2.2.1 ≤ R.frames ∧ 64 * M.2.2.2.1 ≤ R.locals ∧ mc ≤ R.cells ∧ ms ≤ R.slots
def NW (E : EV) (M : MI) (A : Nat → Prop) (mc ms : Nat) (Q : State → Prop) (pc : Nat) (lv : List (Option Value)) (st : List Value) (ws : va_W) (k n : Nat) : CX → Prop := fun (p, e, R, s, m, args, below, meth, c) =>
  NOK E M A mc ms (p, e, R, s, m, args, below, meth, c) → ∀ (H : Heap) (locs : List Loc) (ls : Array Slot), va_P (eG E) vwCl ws H → va_D A ws → va_S A s.heap H locs → LH ls M.2.2.1 lv →
    W p (eL E) e R s m args below meth c H locs k n Q (F0 m pc ls st)
def isInit : CX → Prop := fun (p, e, R, s, m, args, below, meth, c) => meth.name = "<init>"
/-- the words that a new object wants -/
def NN (own : String) (idx ci N : Nat) (fs : List Value) : Prop := ∃ (C : String) (T : u_T) (ty : Nat → FieldType), vwCl[ci]? = some (C, T, N) ∧ (∀ k, k < N → parseFieldDescriptor (T k).2.2.1 = some (ty k)) ∧ (∀ w ∈ ([.classLink own idx C, .instantiable C N, .initialized C] : List Cond), w ∈ TB) ∧ (∀ w ∈ u_ws C T N, w ∈ TB) ∧ ∀ j, j < N → defaultValue (ty j) = vp_V fs j
/-- a final field, written in its class's constructor -/
def FF (own : String) (ci j : Nat) (ty : FieldType) : Prop := ∃ (C : String) (T : u_T) (N : Nat) (ty0 : Nat → FieldType), vwCl[ci]? = some (C, T, N) ∧ (∀ k, k < N → parseFieldDescriptor (T k).2.2.1 = some (ty0 k)) ∧ (∀ a, a < N → ∀ b, b < N → a ≠ b → (T a).2.1 ≠ (T b).2.1) ∧ (T j).2.2.2 = true ∧ (T j).1 = own ∧ parseFieldDescriptor (T j).2.2.1 = some ty
theorem fmap_of {α β : Type} {f : α → Option β} {l : List α} {r : List β} (h : l.map f = r.map some) : l.filterMap f = r := by
  induction l generalizing r with
  | nil =>
    cases r with
    | nil => rfl
    | cons b r => simp at h
  | cons a l ih =>
    cases r with
    | nil => simp at h
    | cons b r =>
      simp only [List.map_cons, List.cons.injEq] at h
      rw [List.filterMap_cons, h.1]
      simp only
      rw [ih h.2]
section New
variable {E : EV} {M : MI} {A : Nat → Prop} {mc ms : Nat} {Q : State → Prop} {pc k n : Nat} {lv lv' : List (Option Value)} {st : List Value} {ws ws' : va_W} {x : CX}
theorem n_aload {k4 : Fin 4} {i q : Nat} (d : decode M.1 pc = .ok (.aload_n k4, 1)) (hi : (k4 : Nat) = i) (hl0 : lv[i]? = some (some (.ref q))) (kk : NW E M A mc ms Q (pc + 1) lv (.ref q :: st) ws k n x) : NW E M A mc ms Q pc lv st ws k n x := by
  obtain ⟨p, e, R, s, m, args, below, meth, c⟩ := x
  intro ok H locs ls hP hD hS hl
  obtain ⟨hx, hb, -⟩ := id ok
  exact lv_aload_n hx hb d hi (hl.get hl0) (kk ok H locs ls hP hD hS hl)
theorem n_astore {k4 : Fin 4} {i q : Nat} (d : decode M.1 pc = .ok (.astore_n k4, 1)) (hi : (k4 : Nat) = i) (hn : Nat.ble (i + 1) lv.length = true) (hv : lv.set i (some (.ref q)) = lv') (kk : NW E M A mc ms Q (pc + 1) lv' st ws k n x) : NW E M A mc ms Q pc lv (.ref q :: st) ws k n x := by
  obtain ⟨p, e, R, s, m, args, below, meth, c⟩ := x
  intro ok H locs ls hP hD hS hl
  obtain ⟨hx, hb, -⟩ := id ok
  obtain ⟨h1, h2⟩ := hl.lt hn
  exact lv_astore_n hx hb d hi hl.has h1 rfl (fun ls' h' => kk ok H locs ls' hP hD hS (hv ▸ hl.set rfl h2 h'))
theorem n_istore {k4 : Fin 4} {i : Nat} {a : Int} (d : decode M.1 pc = .ok (.istore_n k4, 1)) (hi : (k4 : Nat) = i) (hn : Nat.ble (i + 1) lv.length = true) (hv : lv.set i (some (.int (iz a))) = lv') (kk : NW E M A mc ms Q (pc + 1) lv' st ws k n x) : NW E M A mc ms Q pc lv (.int (iz a) :: st) ws k n x := by
  obtain ⟨p, e, R, s, m, args, below, meth, c⟩ := x
  intro ok H locs ls hP hD hS hl
  obtain ⟨hx, hb, -⟩ := id ok
  obtain ⟨h1, h2⟩ := hl.lt hn
  exact lv_istore_n hx hb d hi hl.has h1 rfl (fun ls' h' => kk ok H locs ls' hP hD hS (hv ▸ hl.set rfl h2 h'))
theorem n_iconst {z : Int} (d : decode M.1 pc = .ok (.iconst z, 1)) (kk : NW E M A mc ms Q (pc + 1) lv (.int (iz z) :: st) ws k n x) : NW E M A mc ms Q pc lv st ws k n x := by
  obtain ⟨p, e, R, s, m, args, below, meth, c⟩ := x
  intro ok H locs ls hP hD hS hl
  obtain ⟨hx, hb, -⟩ := id ok
  exact lv_iconst hx hb d rfl (kk ok H locs ls hP hD hS hl)
theorem n_bipush {z : Int} (d : decode M.1 pc = .ok (.bipush z, 2)) (hz : (Int8.ofInt z).toInt32 = iz z) (kk : NW E M A mc ms Q (pc + 2) lv (.int (iz z) :: st) ws k n x) : NW E M A mc ms Q pc lv st ws k n x := by
  obtain ⟨p, e, R, s, m, args, below, meth, c⟩ := x
  intro ok H locs ls hP hD hS hl
  obtain ⟨hx, hb, -⟩ := id ok
  exact lv_bipush hx hb d hz (kk ok H locs ls hP hD hS hl)
theorem n_sipush {z : Int} (d : decode M.1 pc = .ok (.sipush z, 3)) (hz : (Int16.ofInt z).toInt32 = iz z) (kk : NW E M A mc ms Q (pc + 3) lv (.int (iz z) :: st) ws k n x) : NW E M A mc ms Q pc lv st ws k n x := by
  obtain ⟨p, e, R, s, m, args, below, meth, c⟩ := x
  intro ok H locs ls hP hD hS hl
  obtain ⟨hx, hb, -⟩ := id ok
  exact lv_sipush hx hb d hz (kk ok H locs ls hP hD hS hl)
theorem n_dup {v : Value} (d : decode M.1 pc = .ok (.dup, 1)) (hv : v.category = 1) (kk : NW E M A mc ms Q (pc + 1) lv (v :: v :: st) ws k n x) : NW E M A mc ms Q pc lv (v :: st) ws k n x := by
  obtain ⟨p, e, R, s, m, args, below, meth, c⟩ := x
  intro ok H locs ls hP hD hS hl
  obtain ⟨hx, hb, -⟩ := id ok
  exact lv_dup hx hb d hv (kk ok H locs ls hP hD hS hl)
theorem n_obj {idx q : Nat} (d : decode M.1 pc = .ok (.invokespecial idx, 3)) (w : ∀ w ∈ ([.methodLink M.2.1 idx Lib.objectInit, .instanceMethod Lib.objectInit, .code Lib.objectInit ⟨#[0xb1]⟩ 1 none] : List Cond), w ∈ TB) (hlv : 1 ≤ M.2.2.2.1) (kk : NW E M A mc ms Q (pc + 3) lv [] ws k n x) : NW E M A mc ms Q pc lv [.ref q] ws k n x := by
  obtain ⟨p, e, R, s, m, args, below, meth, c⟩ := x
  intro ok H locs ls hP hD hS hl
  obtain ⟨hx, hb, hml, hown, hts, hK, hV, hA, hfr, hlo, -⟩ := id ok
  refine W.objInit hx hb hown (hts _ (w _ (by simp))) (hts _ (w _ (by simp))) (hts _ (w _ (by simp))) rfl (hl.1.trans hml.symm) (a := q) (rest := []) rfl d (Nat.le_trans hlv hfr) (Nat.le_trans (Nat.le_of_ble_eq_true rfl : _ ≤ 64) (by omega)) ?_
  exact W.eq (g2 := F0 m (pc + 3) ls []) rfl (kk ok H locs ls hP hD hS hl)
theorem n_new {idx ci N : Nat} {fs : List Value} (d : decode M.1 pc = .ok (.new idx, 3)) (w : NN M.2.1 idx ci N fs) (hk : Nat.ble (k + 1) mc = true) (hn : Nat.ble (n + N) ms = true) (kk : ∀ q, NW E M A mc ms Q (pc + 3) lv (.ref q :: st) (ws ++ [(q, .inr (ci, fs))]) (k + 1) (n + N) x) : NW E M A mc ms Q pc lv st ws k n x := by
  obtain ⟨p, e, R, s, m, args, below, meth, c⟩ := x
  intro ok H locs ls hP hD hS hl
  obtain ⟨hx, hb, hml, hown, hts, hK, hV, hA, hfr, hlo, hmc, hms⟩ := id ok
  obtain ⟨C, T, ty, hc, hty, hw, hu, hfs⟩ := w
  exact va_new hx hb hts hu ty hty hown (hts _ (hw _ (by simp))) (hts _ (hw _ (by simp))) (hts _ (hw _ (by simp))) hK hP hD hS hA hc hfs (Nat.le_trans (Nat.le_of_ble_eq_true hk) hmc) (Nat.le_trans (Nat.le_of_ble_eq_true hn) hms) d (fun q H1 hP1 hD1 hS1 => kk q ok H1 locs ls hP1 hD1 hS1 hl)
theorem n_newa {t N : Nat} {z : Int} {atype : ArrayType} {ty : FieldType} (d : decode M.1 pc = .ok (.newarray atype, 2)) (hty : newarray.typeOf atype = ty) (w : Cond.arrayClass (newarray.typeOf atype) ∈ TB) (ht : (tyE E)[t]? = some (eC E t, ty)) (hra : ∀ (U : State) (cA : ClassId), va_RA U cA ty → U.vm.findClass ("[" ++ ty.toString) = some cA) (hdv : defaultValue ty = .int 0)
    (hz : ¬ iz z < 0 ∧ (iz z).toNatClampNeg = N) (hby : N * componentBytes ty ≤ 536870912) (hk : Nat.ble (k + 1) mc = true) (hn : Nat.ble (n + N) ms = true) (kk : ∀ q, NW E M A mc ms Q (pc + 2) lv (.ref q :: st) (ws ++ [(q, ia E t N z0)]) (k + 1) (n + N) x) : NW E M A mc ms Q pc lv (.int (iz z) :: st) ws k n x := by
  obtain ⟨p, e, R, s, m, args, below, meth, c⟩ := x
  intro ok H locs ls hP hD hS hl
  obtain ⟨hx, hb, hml, hown, hts, hK, hV, hA, hfr, hlo, hmc, hms⟩ := id ok
  refine va_newa (atype := atype) hx hb (hts _ w) hty hK hP hD hS hA (a0 := (N, .inl (fun i => iz (z0 i)))) (fun cA => ?_) hz.1 hz.2 hby (Nat.le_trans (Nat.le_of_ble_eq_true hk) hmc) (Nat.le_trans (Nat.le_of_ble_eq_true hn) hms) d (fun q cA H1 hK1 hP1 hD1 hS1 => ?_)
  · rw [vp_cell_i, hdv]
    congr 1
  · have h1 := hra _ _ ((hK1.2 (tyE E).length (cA, ty) (by simp)).2)
    have h2 := hra _ _ ((hK.2 t _ ht).2)
    have e : cA = eC E t := Option.some.inj (h1.symm.trans h2)
    subst e
    exact kk q ok H1 locs ls hP1 hD1 hS1 hl
theorem n_newI {N : Nat} {z : Int} (d : decode M.1 pc = .ok (.newarray .int, 2)) (w : Cond.arrayClass .int ∈ TB) (hz : ¬ iz z < 0 ∧ (iz z).toNatClampNeg = N) (hby : Nat.ble N 100000 = true) (hk : Nat.ble (k + 1) mc = true) (hn : Nat.ble (n + N) ms = true) (kk : ∀ q, NW E M A mc ms Q (pc + 2) lv (.ref q :: st) (ws ++ [(q, ia E 0 N z0)]) (k + 1) (n + N) x) : NW E M A mc ms Q pc lv (.int (iz z) :: st) ws k n x := by
  have h := Nat.le_of_ble_eq_true hby
  exact n_newa d rfl w rfl (fun _ _ h => h) rfl hz (by show N * 4 ≤ _; omega) hk hn kk
theorem n_newB {N : Nat} {z : Int} (d : decode M.1 pc = .ok (.newarray .byte, 2)) (w : Cond.arrayClass .byte ∈ TB) (hz : ¬ iz z < 0 ∧ (iz z).toNatClampNeg = N) (hby : Nat.ble N 100000 = true) (hk : Nat.ble (k + 1) mc = true) (hn : Nat.ble (n + N) ms = true) (kk : ∀ q, NW E M A mc ms Q (pc + 2) lv (.ref q :: st) (ws ++ [(q, ia E 1 N z0)]) (k + 1) (n + N) x) : NW E M A mc ms Q pc lv (.int (iz z) :: st) ws k n x := by
  have h := Nat.le_of_ble_eq_true hby
  exact n_newa d rfl w rfl (fun _ _ h => h) rfl hz (by show N * 1 ≤ _; omega) hk hn kk
theorem n_newZ {N : Nat} {z : Int} (d : decode M.1 pc = .ok (.newarray .boolean, 2)) (w : Cond.arrayClass .boolean ∈ TB) (hz : ¬ iz z < 0 ∧ (iz z).toNatClampNeg = N) (hby : Nat.ble N 100000 = true) (hk : Nat.ble (k + 1) mc = true) (hn : Nat.ble (n + N) ms = true) (kk : ∀ q, NW E M A mc ms Q (pc + 2) lv (.ref q :: st) (ws ++ [(q, ia E 2 N z0)]) (k + 1) (n + N) x) : NW E M A mc ms Q pc lv (.int (iz z) :: st) ws k n x := by
  have h := Nat.le_of_ble_eq_true hby
  exact n_newa d rfl w rfl (fun _ _ h => h) rfl hz (by show N * 1 ≤ _; omega) hk hn kk
theorem n_put {idx q0 a ci j : Nat} {fs : List Value} {v : Value} {ty : FieldType} (d : decode M.1 pc = .ok (.putfield idx, 3)) (w : FW M.2.1 idx ci j) (wp : FP ci j ty) (he : ws[q0]? = some (a, .inr (ci, fs))) (hv : narrow ty v = v ∧ fits ty v = true) (hl0 : Nat.ble (j + 1) fs.length = true) (hs : ws.set q0 (a, .inr (ci, fs.set j v)) = ws') (kk : NW E M A mc ms Q (pc + 3) lv st ws' k n x) : NW E M A mc ms Q pc lv (v :: .ref a :: st) ws k n x := by
  obtain ⟨p, e, R, s, m, args, below, meth, c⟩ := x
  intro ok H locs ls hP hD hS hl
  obtain ⟨hx, hb, hml, hown, hts, hK, -⟩ := id ok
  obtain ⟨C, T, N, hc, hj, hC, hlk, hin⟩ := w
  obtain ⟨C2, T2, N2, ty0, hc2, hty, hnm, hfin, hd⟩ := wp
  cases hc.symm.trans hc2
  subst hs
  exact va_put (ref := C) hx hb hts hin ty0 hty hnm hown hK hP hD hS q0 he hc j hj (hts _ hlk) (by rw [hC]; exact fun _ h => h) hfin hd hv.1 hv.2 (Nat.le_of_ble_eq_true hl0) d (fun H1 locs1 hP1 hD1 hS1 => kk ok H1 locs1 ls hP1 hD1 hS1 hl)
theorem n_putF {idx q0 a ci j : Nat} {fs : List Value} {v : Value} {ty : FieldType} (d : decode M.1 pc = .ok (.putfield idx, 3)) (hin2 : isInit x) (w : FW M.2.1 idx ci j) (wp : FF M.2.1 ci j ty) (he : ws[q0]? = some (a, .inr (ci, fs))) (hv : narrow ty v = v ∧ fits ty v = true) (hl0 : Nat.ble (j + 1) fs.length = true) (hs : ws.set q0 (a, .inr (ci, fs.set j v)) = ws') (kk : NW E M A mc ms Q (pc + 3) lv st ws' k n x) : NW E M A mc ms Q pc lv (v :: .ref a :: st) ws k n x := by
  obtain ⟨p, e, R, s, m, args, below, meth, c⟩ := x
  have hin2 : meth.name = "<init>" := hin2
  intro ok H locs ls hP hD hS hl
  obtain ⟨hx, hb, hml, hown, hts, hK, -⟩ := id ok
  obtain ⟨C, T, N, hc, hj, hC, hlk, hin⟩ := w
  obtain ⟨C2, T2, N2, ty0, hc2, hty, hnm, hfin, hdc, hd⟩ := wp
  cases hc.symm.trans hc2
  subst hs
  exact va_putF (ref := C) hx hb hts hin ty0 hty hnm hown hK hP hD hS q0 he hc j hj (hts _ hlk) (by rw [hC]; exact fun _ h => h) hfin hin2 hdc hd hv.1 hv.2 (Nat.le_of_ble_eq_true hl0) d (fun H1 locs1 hP1 hD1 hS1 => kk ok H1 locs1 ls hP1 hD1 hS1 hl)
theorem n_get {idx q0 a ci j : Nat} {fs : List Value} {v : Value} (d : decode M.1 pc = .ok (.getfield idx, 3)) (w : FW M.2.1 idx ci j) (he : ws[q0]? = some (a, .inr (ci, fs))) (hf : fs[j]? = some v) (kk : NW E M A mc ms Q (pc + 3) lv (v :: st) ws k n x) : NW E M A mc ms Q pc lv (.ref a :: st) ws k n x := by
  obtain ⟨p, e, R, s, m, args, below, meth, c⟩ := x
  intro ok H locs ls hP hD hS hl
  obtain ⟨hx, hb, hml, hown, hts, hK, -⟩ := id ok
  obtain ⟨C, T, N, hc, hj, hC, hlk, hin⟩ := w
  exact va_get (ref := C) hx hb hts hin hown hK hP q0 he hc j hj (hts _ hlk) (by rw [hC]; exact fun _ h => h) hf d (kk ok H locs ls hP hD hS hl)
theorem n_iast {q0 a N : Nat} {g : Nat → Int} {i v : Int} (d : decode M.1 pc = .ok (.iastore, 1)) (he : ws[q0]? = some (a, ia E 0 N g)) (hN : Nat.ble N 1000000 = true) (hi : 0 ≤ i ∧ i < N) (hs : ws.set q0 (a, ia E 0 N (fun j => if j = i.toNat then v else g j)) = ws') (kk : NW E M A mc ms Q (pc + 1) lv st ws' k n x) : NW E M A mc ms Q pc lv (.int (iz v) :: .int (iz i) :: .ref a :: st) ws k n x := by
  obtain ⟨p, e, R, s, m, args, below, meth, c⟩ := x
  intro ok H locs ls hP hD hS hl
  obtain ⟨hx, hb, hml, hown, hts, hK, -⟩ := id ok
  obtain ⟨h1, h2⟩ := iz_in (N := (N : Int)) rfl hN hi
  have e1 : (Sum.inl (eC E 0, N, Sum.inl (upd (fun j => iz (g j)) i.toNat (iz v))) : va_E) = ia E 0 N (fun j => if j = i.toNat then v else g j) := by
    unfold ia
    congr 4
    funext j
    by_cases hj : j = i.toNat <;> simp [upd, hj]
  subst hs
  refine va_iast hx hb hK hP hD hS q0 0 he rfl h1 d (fun H1 locs1 hP1 hD1 hS1 => ?_)
  rw [h2, e1] at hP1 hD1
  exact kk ok H1 locs1 ls hP1 hD1 hS1 hl
end New
