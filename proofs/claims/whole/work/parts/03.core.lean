/-! THE PURE STATE: a number for each place of each cell; the machine holds iz of it. -/
abbrev PS : Type := Nat → Nat → Int
def iz (z : Int) : Int32 := Int32.ofInt z
abbrev Rg (z : Int) : Prop := -2147483648 ≤ z ∧ z ≤ 2147483647
def RS (σ : PS) : Prop := ∀ k i : Nat, Rg (σ k i)
def up2 (σ : PS) (k i : Nat) (v : Int) : PS := fun k' i' => if k' = k ∧ i' = i then v else σ k' i'
theorem RS.up {σ : PS} {v : Int} (h : RS σ) (hv : Rg v) (k i : Nat) : RS (up2 σ k i v) := by
  intro k' i'
  unfold up2
  split
  · exact hv
  · exact h k' i'
theorem iz_toInt {z : Int} (h : Rg z) : (iz z).toInt = z := by
  unfold iz
  have h2 : z.bmod (2 ^ 32) = z := Int.bmod_eq_of_le (by omega) (by omega)
  rw [Int32.toInt_ofInt]
  exact h2
theorem iz_of (x : Int32) : iz x.toInt = x := Int32.ofInt_toInt x
theorem Rg_of (x : Int32) : Rg x.toInt := by
  have h1 := Int32.le_toInt x
  have h2 := Int32.toInt_lt x
  exact ⟨by omega, by omega⟩
theorem iz_add (a b : Int) : iz a + iz b = iz (a + b) := (Int32.ofInt_add a b).symm
theorem iz_sub (a b : Int) : iz a - iz b = iz (a - b) := (Int32.ofInt_sub a b).symm
theorem iz_mul (a b : Int) : iz a * iz b = iz (a * b) := (Int32.ofInt_mul a b).symm
theorem iz_neg (a : Int) : -iz a = iz (-a) := (Int32.ofInt_neg a).symm
theorem iz_lt {a b : Int} (ha : Rg a) (hb : Rg b) : iz a < iz b ↔ a < b := by rw [Int32.lt_iff_toInt_lt, iz_toInt ha, iz_toInt hb]
theorem iz_le {a b : Int} (ha : Rg a) (hb : Rg b) : iz a ≤ iz b ↔ a ≤ b := by rw [Int32.le_iff_toInt_le, iz_toInt ha, iz_toInt hb]
theorem iz_eq {a b : Int} (ha : Rg a) (hb : Rg b) : iz a = iz b ↔ a = b := by rw [← Int32.toInt_inj, iz_toInt ha, iz_toInt hb]
theorem iz_0 : iz 0 = 0 := by decide +kernel
theorem iz_in {i N : Int} {n : Nat} (hN : (n : Int) = N) (hn : Nat.ble n 1000000 = true) (h : 0 ≤ i ∧ i < N) : vp_in (iz i) n ∧ (iz i).toNatClampNeg = i.toNat := by
  have h2 := Nat.le_of_ble_eq_true hn
  have hr : Rg i := ⟨by omega, by omega⟩
  refine ⟨vp_in_iff.mpr ?_, ?_⟩
  · rw [iz_toInt hr]; omega
  · show (iz i).toInt.toNat = i.toNat
    rw [iz_toInt hr]
/-! pure words for the operations that aren't sums -/
def iand (a b : Int) : Int := (iz a &&& iz b).toInt
def ior (a b : Int) : Int := (iz a ||| iz b).toInt
def ixor (a b : Int) : Int := (iz a ^^^ iz b).toInt
def ishl (a b : Int) : Int := (iz a <<< (iz b &&& 31)).toInt
def ishr (a b : Int) : Int := (iz a >>> (iz b &&& 31)).toInt
def iushr (a b : Int) : Int := ((iz a).toUInt32 >>> ((iz b).toUInt32 &&& Int32.toUInt32 31)).toInt32.toInt
def iwrap (a : Int) : Int := (iz a).toInt
theorem iwrap_id {a : Int} (h : Rg a) : iwrap a = a := iz_toInt h
/-! THE LAYOUT: every cell of a world is made once and for all -/
abbrev LE : Type := (Nat × Nat) ⊕ (Nat × List (Option Nat))
abbrev EV : Type := Launch × va_G × (Nat → Nat) × (Nat → ClassId) × (Nat → Nat) × (Nat → Nat)
abbrev eL (E : EV) : Launch := E.1
abbrev eG (E : EV) : va_G := E.2.1
abbrev eA (E : EV) : Nat → Nat := E.2.2.1
abbrev eC (E : EV) : Nat → ClassId := E.2.2.2.1
abbrev eS (E : EV) : Nat → Nat := E.2.2.2.2.1
abbrev eV (E : EV) : Nat → Nat := E.2.2.2.2.2
def fcell (E : EV) (row : Nat → Int) (j : Nat) (f : Option Nat) : Value := match f with
  | none => .int (iz (row j))
  | some r => .ref (eA E r)
def lcell (E : EV) (row : Nat → Int) (e : LE) : va_E := match e with
  | .inl a => .inl (eC E a.1, a.2, .inl (fun i => iz (row i)))
  | .inr o => .inr (o.1, o.2.mapIdx (fcell E row))
def wld (lay : List LE) (E : EV) (σ : PS) : va_W := lay.mapIdx (fun k e => (eA E k, lcell E (σ k) e))
def wA (lay : List LE) (E : EV) : Nat → Prop := fun q => ∃ k : Nat, k < lay.length ∧ eA E k = q
def tyE (E : EV) : List (ClassId × FieldType) := [(eC E 0, .int), (eC E 1, .byte), (eC E 2, .boolean)]
def eOK (lay : List LE) (E : EV) : Prop := ∀ i j : Nat, i < lay.length → j < lay.length → eA E i = eA E j → i = j
theorem wld_get {lay : List LE} {E : EV} {σ : PS} {k : Nat} {e : LE} (h : lay[k]? = some e) : (wld lay E σ)[k]? = some (eA E k, lcell E (σ k) e) := by
  simp [wld, List.getElem?_mapIdx, h]
theorem wld_len {lay : List LE} {E : EV} {σ : PS} : (wld lay E σ).length = lay.length := by simp [wld]
theorem lay_lt {lay : List LE} {k : Nat} {e : LE} (h : lay[k]? = some e) : k < lay.length := (List.getElem?_eq_some_iff.mp h).1
theorem wld_of {lay : List LE} {E : EV} {σ : PS} {k : Nat} {q : Nat × va_E} (h : (wld lay E σ)[k]? = some q) : k < lay.length ∧ q.1 = eA E k := by
  have hl : k < lay.length := by
    have := (List.getElem?_eq_some_iff.mp h).1
    rwa [wld_len] at this
  refine ⟨hl, ?_⟩
  rw [wld_get (List.getElem?_eq_getElem hl)] at h
  cases h
  rfl
theorem wld_D {lay : List LE} {E : EV} {σ : PS} (h : eOK lay E) : va_D (wA lay E) (wld lay E σ) := by
  refine ⟨fun i j p q hi hj hpq => ?_, fun k q hk => ?_⟩
  · obtain ⟨h1, e1⟩ := wld_of hi
    obtain ⟨h2, e2⟩ := wld_of hj
    exact h i j h1 h2 (by rw [← e1, ← e2, hpq])
  · obtain ⟨h1, e1⟩ := wld_of hk
    exact ⟨k, h1, e1.symm⟩
theorem wld_set {lay : List LE} {E : EV} {σ σ' : PS} {k : Nat} {e : LE} {v : va_E} (h : lay[k]? = some e) (he : v = lcell E (σ' k) e) (hσ : ∀ k' : Nat, k' ≠ k → σ' k' = σ k') : (wld lay E σ).set k (eA E k, v) = wld lay E σ' := by
  apply List.ext_getElem?
  intro i
  by_cases hi : i = k
  · subst hi
    rw [List.getElem?_set_self (by rw [wld_len]; exact lay_lt h), wld_get h, he]
  · rw [List.getElem?_set_ne (Ne.symm hi)]
    simp only [wld, List.getElem?_mapIdx]
    rw [hσ i hi]
theorem up2_row {σ : PS} {k i : Nat} {v : Int} {k' : Nat} (h : k' ≠ k) : up2 σ k i v k' = σ k' := by
  funext i'
  simp [up2, h]
theorem up2_self {σ : PS} {k i : Nat} {v : Int} : up2 σ k i v k = fun j => if j = i then v else σ k j := by
  funext i'
  simp [up2]
theorem wld_setA {lay : List LE} {E : EV} {σ : PS} {k t n i : Nat} {v : Int} (h : lay[k]? = some (.inl (t, n))) : (wld lay E σ).set k (eA E k, .inl (eC E t, n, .inl (upd (fun j => iz (σ k j)) i (iz v)))) = wld lay E (up2 σ k i v) := by
  refine wld_set h ?_ (fun k' hk => up2_row hk)
  rw [up2_self]
  show (Sum.inl _ : va_E) = Sum.inl _
  congr 4
  funext j
  by_cases hj : j = i <;> simp [upd, hj]
theorem wld_setF {lay : List LE} {E : EV} {σ : PS} {k ci j : Nat} {fs : List (Option Nat)} {v : Int} (h : lay[k]? = some (.inr (ci, fs))) (hf : fs[j]? = some none) : (wld lay E σ).set k (eA E k, .inr (ci, (fs.mapIdx (fcell E (σ k))).set j (.int (iz v)))) = wld lay E (up2 σ k j v) := by
  refine wld_set h ?_ (fun k' hk => up2_row hk)
  rw [up2_self]
  show (Sum.inr _ : va_E) = Sum.inr _
  congr 2
  have hl : j < fs.length := (List.getElem?_eq_some_iff.mp hf).1
  apply List.ext_getElem?
  intro i
  by_cases hi : i = j
  · subst hi
    rw [List.getElem?_set_self (by simpa using hl)]
    simp [List.getElem?_mapIdx, hf, fcell]
  · rw [List.getElem?_set_ne (Ne.symm hi)]
    simp only [List.getElem?_mapIdx]
    cases hq : fs[i]? with
    | none => rfl
    | some f => cases f <;> simp [fcell, hi]
/-! THE SURROUNDINGS: String constants, statics, nest links, that hold at every call -/
def kLen : List Nat := [4, 2, 3, 5, 5, 5, 4, 4, 56]
def kTxt : List String := ["from", "to", "cap", "least", "delay", "water", "room", "shut", "from   to     least  cap    delay  water  room   shut   "]
def kByt : List (List Int32) := kTxt.map fun t => t.toList.map fun c => Int32.ofNat c.toNat
def kRef : List (String × Nat × String × Nat) := [("GateFlow$Condition", 116, "from", 0), ("GateFlow$Condition", 118, "to", 1), ("GateFlow$Condition", 120, "cap", 2), ("GateFlow$Condition", 122, "least", 3), ("GateFlow$Condition", 124, "delay", 4), ("GateFlow$Condition", 126, "water", 5), ("GateFlow$Condition", 128, "room", 6), ("GateFlow$Condition", 130, "shut", 7), ("GateFlowModel", 303, "from   to     least  cap    delay  water  room   shut   ", 8)]
def kNest : List (String × Nat × MethodName) := [("GateFlow$ByWays", 107, yX11_hasBit), ("GateFlow$Models", 39, yX11_hasBit), ("GateFlow$Lists", 24, yX11_isList)]
def ENV (lay : List LE) (E : EV) (U : State) (H : Heap) : Prop :=
  vk_S 9 kLen kByt (eS E) (eV E) (wA lay E) U H ∧ (∀ q ∈ kRef, vk_R q.1 q.2.1 q.2.2.1 (eS E q.2.2.2) U) ∧ (∀ q ∈ kNest, va_Nw (.methodLinkNest q.1 q.2.1 q.2.2 "GateFlow") U) ∧
  va_Z "java/lang/String" "COMPACT_STRINGS" "Z" (.int 1) (wA lay E) U H ∧ va_Zq "jdk/internal/util/Preconditions" "SIOOBE_FORMATTER" "Ljava/util/function/BiFunction;" (wA lay E) U H
theorem ENV.warm {lay : List LE} {E : EV} {s U : State} {H : Heap} (hW : s.WarmedH U.vm) (h : ENV lay E s H) : ENV lay E U H :=
  ⟨vk_S.moved hW.alike h.1, fun q hq => vk_R.warm hW (h.2.1 q hq), fun q hq => va_Nw.warmM hW (h.2.2.1 q hq), va_Z.moved hW.alike h.2.2.2.1, va_Zq.moved hW.alike h.2.2.2.2⟩
theorem ENV.kept {lay : List LE} {E : EV} {U : State} {H H1 : Heap} (h : ENV lay E U H) (hq : ∀ a : Nat, a < H.size → ¬ wA lay E a → H1[a]? = H[a]?) : ENV lay E U H1 :=
  ⟨vk_S.kept h.1 hq, h.2.1, h.2.2.1, va_Z.kept h.2.2.2.1 hq, va_Zq.kept h.2.2.2.2 hq⟩
theorem ENV.same {lay : List LE} {E : EV} {u U : State} {H : Heap} (hv : U.vm = u.vm) (h : ENV lay E u H) : ENV lay E U H :=
  ⟨vk_S.moved (by rw [hv]; exact Vm.Alike.refl _) h.1, fun q hq => vk_R.same hv (h.2.1 q hq), fun q hq => va_Nw.same rfl hv.symm (h.2.2.1 q hq), va_Z.moved (by rw [hv]; exact Vm.Alike.refl _) h.2.2.2.1, va_Zq.moved (by rw [hv]; exact Vm.Alike.refl _) h.2.2.2.2⟩
/-! A METHOD'S CONTRACT -/
abbrev MI : Type := ByteArray × String × Nat × Nat × Option FieldType × Nat
def TB : List Cond := lw_tbl.filter goodWord
theorem TB_in {w : Cond} (h : w ∈ lw_tbl) (hg : goodWord w = true) : w ∈ TB := List.mem_filter.mpr ⟨h, hg⟩
theorem TB_good : GoodIn TB TB := fun w h => ⟨h, good_of_word (List.mem_filter.mp h).2⟩
def rvv (E : EV) (K : Nat) (z : Int) : Option Value := match K with
  | 0 => none
  | 1 => some (.int (iz z))
  | 2 => some (.ref (eA E z.toNat))
  | _ => some (.ref (eS E z.toNat))
def rml (n : Nat) : Room := { frames := n, cells := 0, slots := 0, locals := 64 * n }
def PU (lay : List LE) (E : EV) (σ : PS) (U : State) : Prop := va_P (eG E) vwCl (wld lay E σ) U.heap ∧ va_K (eG E) vwCl (tyE E) U ∧ ENV lay E U U.heap
def QF (lay : List LE) (E : EV) (K : Nat) (Φ : Int → PS → Prop) : Array Value → State → Outcome → State → Prop := fun _ st o t =>
  ∃ (z : Int) (σ : PS), o = .returned (rvv E K z) ∧ va_P (eG E) vwCl (wld lay E σ) t.heap ∧ RS σ ∧ Rg z ∧ Φ z σ ∧ va_F (wA lay E) st t
/-- y, of the code told, met with Φ from σ, at these arguments -/
def CT (lay : List LE) (E : EV) (y : MethodName) (M : MI) (av : List Value) (σ : PS) (Φ : Int → PS → Prop) : Prop :=
  Met (eL E) y (.code y M.1 M.2.2.1 M.2.2.2.2.1 :: TB) (rml M.2.2.2.1) (va_Pc av (PU lay E σ)) (QF lay E M.2.2.2.2.2 Φ) 0 0 (wA lay E)
/-! THE RUNNING METHOD -/
abbrev CX : Type := Program × Env × Room × State × MethodId × Array Value × List Frame × Method × Code
def LH (ls : Array Slot) (n : Nat) (lv : List (Option Value)) : Prop := ls.size = n ∧ lv_wf ls ∧ lv.length = n ∧ ∀ (i : Nat) (v : Value), lv[i]? = some (some v) → ls[i]? = some (.val v) ∧ v.category = 1
def COK (lay : List LE) (E : EV) (M : MI) : CX → Prop := fun (p, e, R, s, m, args, below, meth, c) =>
  p.tables.exec = Jvm.exec ∧ c.code = M.1 ∧ c.maxLocals = M.2.2.1 ∧ s.vm.findClass M.2.1 = some m.cls ∧ (∀ w ∈ TB, w.before args s = true) ∧ va_K (eG E) vwCl (tyE E) s ∧ eOK lay E ∧ ENV lay E s s.heap ∧ meth.locks = false ∧ meth.sig.returnType = M.2.2.2.2.1 ∧ M.2.2.2.1 ≤ R.frames ∧ 64 * M.2.2.2.1 ≤ R.locals
def RW (lay : List LE) (E : EV) (M : MI) (Φ : Int → PS → Prop) (pc : Nat) (lv : List (Option Value)) (st : List Value) (σ : PS) : CX → Prop := fun (p, e, R, s, m, args, below, meth, c) =>
  COK lay E M (p, e, R, s, m, args, below, meth, c) → RS σ → ∀ (H : Heap) (locs : List Loc) (ls : Array Slot), va_P (eG E) vwCl (wld lay E σ) H → va_S (wA lay E) s.heap H locs → LH ls M.2.2.1 lv →
    W p (eL E) e R s m args below meth c H locs 0 0 (MQ below (QF lay E M.2.2.2.2.2 Φ) args s 0 0 (wA lay E)) (F0 m pc ls st)
theorem LH.get {ls : Array Slot} {n : Nat} {lv : List (Option Value)} (h : LH ls n lv) {i : Nat} {v : Value} (hi : lv[i]? = some (some v)) : ls[i]? = some (.val v) := (h.2.2.2 i v hi).1
def lvL (lv : List (Option Value)) : List (Nat × Value) := (List.range lv.length).filterMap fun j => (lv[j]?.join).map fun w => (j, w)
theorem lvL_mem {lv : List (Option Value)} {q : Nat × Value} (h : q ∈ lvL lv) : lv[q.1]? = some (some q.2) := by
  obtain ⟨j, hj, hq⟩ := List.mem_filterMap.mp h
  cases hh : lv[j]? with
  | none => simp [hh] at hq
  | some o =>
    cases o with
    | none => simp [hh] at hq
    | some w =>
      simp [hh] at hq
      subst hq
      exact hh
theorem lvL_in {lv : List (Option Value)} {j : Nat} {w : Value} (h : lv[j]? = some (some w)) : (j, w) ∈ lvL lv := by
  refine List.mem_filterMap.mpr ⟨j, List.mem_range.mpr (List.getElem?_eq_some_iff.mp h).1, ?_⟩
  simp [h]
theorem LH.has {ls : Array Slot} {n : Nat} {lv : List (Option Value)} (h : LH ls n lv) : lv_has ls n (lvL lv) := ⟨h.1, h.2.1, fun q hq => h.get (lvL_mem hq)⟩
theorem LH.set {ls ls' : Array Slot} {n i : Nat} {v : Value} {lv : List (Option Value)} (h : LH ls n lv) (hv : v.category = 1) (hi : i < lv.length) (h' : lv_has ls' n ((i, v) :: (lvL lv).filter (fun q => !(q.1 == i) && !(q.1 + 1 == i && q.2.category == 2)))) : LH ls' n (lv.set i (some v)) := by
  refine ⟨h'.1, h'.2.1, by rw [List.length_set]; exact h.2.2.1, fun j w hj => ?_⟩
  by_cases e : j = i
  · subst e
    rw [List.getElem?_set_self hi] at hj
    have e2 : v = w := Option.some.inj (Option.some.inj hj)
    subst e2
    exact ⟨h'.2.2 (j, v) List.mem_cons_self, hv⟩
  · rw [List.getElem?_set_ne (Ne.symm e)] at hj
    have h1 := h.2.2.2 j w hj
    refine ⟨h'.2.2 (j, w) (List.mem_cons_of_mem _ (List.mem_filter.mpr ⟨lvL_in hj, ?_⟩)), h1.2⟩
    simp [e, h1.2]
/-- fewer locals -/
def subL : List (Option Value) → List (Option Value) → Prop
  | [], [] => True
  | _ :: l, none :: l' => subL l l'
  | o :: l, some v :: l' => o = some v ∧ subL l l'
  | _, _ => False
theorem subL_n {o : Option Value} {l l' : List (Option Value)} (h : subL l l') : subL (o :: l) (none :: l') := by cases o <;> exact h
theorem subL_s {v : Value} {l l' : List (Option Value)} (h : subL l l') : subL (some v :: l) (some v :: l') := ⟨rfl, h⟩
theorem subL_e : subL [] [] := trivial
theorem subL.at {l l' : List (Option Value)} (h : subL l l') : l.length = l'.length ∧ ∀ (i : Nat) (v : Value), l'[i]? = some (some v) → l[i]? = some (some v) := by
  induction l generalizing l' with
  | nil =>
    cases l' with
    | nil => exact ⟨rfl, fun i v h => by simp at h⟩
    | cons a l' => cases a <;> exact h.elim
  | cons o l ih =>
    cases l' with
    | nil => exact h.elim
    | cons a l' =>
      cases a with
      | none =>
        have h : subL l l' := by cases o <;> exact h
        obtain ⟨h1, h2⟩ := ih h
        refine ⟨by simp [h1], fun i v hi => ?_⟩
        cases i with
        | zero => simp at hi
        | succ i => simpa using h2 i v (by simpa using hi)
      | some w =>
        have h : o = some w ∧ subL l l' := by cases o <;> exact h
        obtain ⟨rfl, h3⟩ := h
        obtain ⟨h1, h2⟩ := ih h3
        refine ⟨by simp [h1], fun i v hi => ?_⟩
        cases i with
        | zero => simpa using hi
        | succ i => simpa using h2 i v (by simpa using hi)
