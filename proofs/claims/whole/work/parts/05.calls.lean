section Calls
variable {lay : List LE} {E : EV} {M M2 : MI} {Φ : Int → PS → Prop} {pc : Nat} {lv lv' : List (Option Value)} {st st0 : List Value} {σ : PS} {x : CX}
theorem PU_blind {av : List Value} : FrameBlind (va_Pc av (PU lay E σ)) := fun a U g mk ⟨h, hP, hK, hE⟩ => ⟨h, hP, va_K.moved (u := U) (U := U.calling g mk a) (Vm.Alike.refl U.vm) hK, ENV.same (u := U) (U := U.calling g mk a) rfl hE⟩
theorem PU_at {s : State} {H : Heap} {locs : List Loc} (hK : va_K (eG E) vwCl (tyE E) s) (hV : ENV lay E s s.heap) (hP : va_P (eG E) vwCl (wld lay E σ) H) (hS : va_S (wA lay E) s.heap H locs) (U : State) (hU : U.heap = H) (hW : s.WarmedH U.vm) : PU lay E σ U :=
  ⟨by rw [hU]; exact hP, va_K.moved hW.alike hK, by rw [hU]; exact ENV.warm hW (ENV.kept hV hS.2.1)⟩
def allOne (av : List Value) : Bool := av.all fun v => v.category == 1
theorem allOne_at {av : List Value} (h : allOne av = true) : ∀ v ∈ av, v.category = 1 := fun v hv => by simpa using List.all_eq_true.mp h v hv
theorem lgsl_one {av : List Value} (h : ∀ v ∈ av, v.category = 1) : (lg_sl av).length = av.length := by
  induction av with
  | nil => rfl
  | cons a l ih =>
    have h1 := h a List.mem_cons_self
    have h2 := ih fun v hv => h v (List.mem_cons_of_mem _ hv)
    simp only [lg_sl, List.flatMap_cons] at h2 ⊢
    rw [if_neg (by omega), List.length_append, h2]
    simp only [List.length_cons, List.length_nil]
    omega
theorem lvargs_one {av : List Value} (h : ∀ v ∈ av, v.category = 1) : ∀ (k i : Nat) (v : Value), av[i]? = some v → (k + i, v) ∈ lv_args k av := by
  induction av with
  | nil => intro k i v hi; simp at hi
  | cons a l ih =>
    intro k i v hi
    have h1 := h a List.mem_cons_self
    have h2 := ih (fun v hv => h v (List.mem_cons_of_mem _ hv))
    unfold lv_args
    rw [if_neg (by omega)]
    cases i with
    | zero =>
      simp at hi
      subst hi
      exact List.mem_cons_self
    | succ i =>
      refine List.mem_cons_of_mem _ ?_
      have h3 := h2 (k + 1) i v (by simpa using hi)
      rw [show k + (i + 1) = k + 1 + i by omega]
      exact h3
theorem LH_entry {av : List Value} {n : Nat} (h : ∀ v ∈ av, v.category = 1) (hn : av.length ≤ n) : LH ((lg_sl av ++ List.replicate (n - (lg_sl av).length) Slot.unset).toArray) n (av.map some ++ List.replicate (n - av.length) none) := by
  have h1 := lv_entry av (n := n) (by rw [lgsl_one h]; exact hn)
  refine ⟨h1.1, h1.2.1, by simp; omega, fun i v hi => ?_⟩
  by_cases hl : i < av.length
  · rw [List.getElem?_append_left (by simpa using hl), List.getElem?_map] at hi
    cases hq : av[i]? with
    | none => rw [hq] at hi; cases hi
    | some v2 =>
      rw [hq] at hi
      have e2 : v2 = v := Option.some.inj (Option.some.inj hi)
      subst e2
      have h2 := lvargs_one h 0 i v2 hq
      rw [Nat.zero_add] at h2
      exact ⟨h1.2.2 _ h2, h v2 (List.mem_of_getElem? hq)⟩
  · rw [List.getElem?_append_right (by simpa using hl)] at hi
    have := List.eq_of_mem_replicate (List.mem_of_getElem? hi)
    cases this
theorem ct_of {y : MethodName} {av : List Value} (hy : plainName y.cls = true) (ho : y.cls = M.2.1) (hE : eOK lay E) (hn : Nat.ble av.length M.2.2.1 = true) (hcat : allOne av = true) (hσ : RS σ) (k : ∀ x, RW lay E M Φ 0 (av.map some ++ List.replicate (M.2.2.1 - av.length) none) [] σ x) : CT lay E y M av σ Φ := by
  refine Met.ofW (cc := M.1) (maxL := M.2.2.1) (ret := M.2.2.2.2.1) hy rfl ?_
  intro p e s m args below meth c s₁ B hml hPc
  obtain ⟨rfl, hP, hK, hV⟩ := hPc
  have hts := atoms_spec (ws := .code y M.1 M.2.2.1 M.2.2.2.2.1 :: TB) B.pre
  have hown : s.vm.findClass M.2.1 = some m.cls := ho ▸ findClass_of_methodNamed B.named
  rw [lg_entry_eq]
  exact k (p, e, _, s, m, av.toArray, below, meth, c) ⟨B.exec, B.bytes, hml, hown, fun w hw => hts w (List.mem_cons_of_mem _ hw), hK, hE, hV, B.notSynchronized, B.returns, Nat.le_refl _, Nat.le_refl _⟩ hσ s.heap [] _ hP va_S.rf (LH_entry (allOne_at hcat) (Nat.le_of_ble_eq_true hn))
theorem r_ofRun {p : Program} {l : Launch} {e : Env} {R : Room} {s : State} {m : MethodId} {args a : Array Value} {below : List Frame} {meth : Method} {c : Code} {H : Heap} {locs : List Loc} {K : Nat} {Ψ : Int → PS → Prop} {Q : State → Prop} {ls : Array Slot}
    (hr : va_Run p l e R s m args below meth c H locs 0 0 0 0 (F0 m pc ls st0) st (QF lay E K Ψ a) (wA lay E)) (hS : va_S (wA lay E) s.heap H locs)
    (kk : ∀ (z : Int) (σ' : PS), Rg z → RS σ' → Ψ z σ' → ∀ (H1 : Heap) (locs1 : List Loc), va_P (eG E) vwCl (wld lay E σ') H1 → va_S (wA lay E) s.heap H1 locs1 → W p l e R s m args below meth c H1 locs1 0 0 Q (F0 m (pc + 3) ls ((rvv E K z).toList ++ st))) : W p l e R s m args below meth c H locs 0 0 Q (F0 m pc ls st0) := by
  intro T hT X
  obtain ⟨v, st₀, t, T', L, h0, X', hL, e1, e2, ⟨z, σ', hv, hP, hσ, hz, hΨ, hF⟩, go⟩ := hr T hT X
  cases hv
  rw [va_F, h0] at hF
  obtain ⟨t2, a1, b1⟩ := kk z σ' hz hσ hΨ T'.heap (locs ++ L) (by rw [e1]; exact hP)
    ⟨Nat.le_trans hS.1 (by rw [e1]; exact hF.1), fun q h1 h2 => by rw [e1, hF.2 q (Nat.lt_of_lt_of_le h1 hS.1) h2]; exact hS.2.1 q h1 h2, fun q hq => by
      rcases List.mem_append.mp hq with h | h
      · exact hS.2.2 q h
      · exact hL q h⟩ T' rfl X'
  exact ⟨t2, go t2 a1, b1⟩
def ynm (y : MethodName) (n : Nat) : Prop := (y.cls ≠ "java/lang/invoke/MethodHandle" ∧ y.cls ≠ "java/lang/invoke/VarHandle") ∧ (parseMethodDescriptor y.desc).map (fun d => d.parameters.length) = some n
def CWV (own : String) (idx : Nat) (y : MethodName) (M2 : MI) : Prop := ∀ w ∈ ([.methodLink own idx y, .instanceMethod y, .selects y.cls y y, .initialized y.cls, .code y M2.1 M2.2.2.1 M2.2.2.2.2.1] : List Cond), w ∈ TB
def CWS (own : String) (idx : Nat) (y : MethodName) (M2 : MI) : Prop := ∀ w ∈ ([.methodLink own idx y, .static y, .initialized y.cls, .code y M2.1 M2.2.2.1 M2.2.2.2.2.1] : List Cond), w ∈ TB
def CWN (own : String) (idx : Nat) (y : MethodName) (M2 : MI) : Prop := (own, idx, y) ∈ kNest ∧ ∀ w ∈ ([.static y, .initialized y.cls, .code y M2.1 M2.2.2.1 M2.2.2.2.2.1] : List Cond), w ∈ TB
theorem good_in {w : Cond} (h : w ∈ TB) : w ∈ TB ∧ ((w.onTables && w.keeps) = true ∨ ∃ ty, w = .arrayClass ty) := TB_good w h
theorem lvl_room {R : Room} {a b n : Nat} (h1 : b ≤ R.frames) (h2 : 64 * b ≤ R.locals) (h : a + 1 ≤ b) (hn : Nat.ble n 40 = true) : (rml a).frames + 1 ≤ R.frames ∧ 8 + (n + 11) + (rml a).locals ≤ R.locals := by
  have hn2 := Nat.le_of_ble_eq_true hn
  refine ⟨by show a + 1 ≤ _; omega, ?_⟩
  show 8 + (n + 11) + 64 * a ≤ R.locals
  omega
theorem r_callV {idx b ci n : Nat} {fs : List (Option Nat)} {y : MethodName} {As : List Value} {Ψ : Int → PS → Prop} (d : decode M.1 pc = .ok (.invokevirtual idx, 3)) (cw : CWV M.2.1 idx y M2) (hy : ynm y n) (hM : CT lay E y M2 (.ref (eA E b) :: As) σ Ψ) (hb0 : lay[b]? = some (.inr (ci, fs))) (hc : vwCl[ci]?.map (fun q => q.1) = some y.cls) (hn : As.length = n) (hlv : M2.2.2.2.1 + 1 ≤ M.2.2.2.1) (hL : Nat.ble M2.2.2.1 40 = true) (hst : st0 = As.reverse ++ .ref (eA E b) :: st) (hcat : Nat.ble ((st.map fun v => v.category).sum) 8 = true)
    (k : ∀ (z : Int) (σ' : PS), Rg z → RS σ' → Ψ z σ' → RW lay E M Φ (pc + 3) lv ((rvv E M2.2.2.2.2.2 z).toList ++ st) σ' x) : RW lay E M Φ pc lv st0 σ x := by
  obtain ⟨p, e, R, s, m, args, below, meth, c⟩ := x
  intro ok hσ H locs ls hP hS hl
  obtain ⟨hx, hb, hml, hown, hts, hK, hE, hV, hlk, hr, hfr, hlo⟩ := id ok
  have hlen : ∃ q, vwCl[ci]? = some q ∧ q.1 = y.cls := by
    cases hq : vwCl[ci]? with
    | none => rw [hq] at hc; cases hc
    | some q => rw [hq] at hc; exact ⟨q, rfl, Option.some.inj hc⟩
  obtain ⟨q, hq, hqy⟩ := hlen
  have hG : GoodIn TB (wsV M.2.1 idx y.cls y (.code y M2.1 M2.2.2.1 M2.2.2.2.2.1 :: TB)) := by
    intro w hw
    rcases List.mem_append.mp hw with h | h
    · exact good_in (cw w (by simp at h ⊢; rcases h with h | h | h | h <;> simp [h]))
    · rcases List.mem_cons.mp h with h | h
      · exact good_in (cw w (by rw [h]; simp))
      · exact TB_good w h
  have hrecv := va_recv hK hP hq (wld_get (E := E) (σ := σ) hb0)
  rw [hqy] at hrecv
  refine r_ofRun (va_runV (As := As) (rest := st) ⟨hx, hb, hml, hown, hts⟩ hM (cwV n hts hG rfl rfl rfl ⟨rfl, hy.1.1, hy.1.2, hy.2⟩ (lvl_room hfr hlo hlv hL)) ⟨PU_blind, hrecv, fun U hU hW => ⟨rfl, PU_at hK hV hP hS U hU hW⟩⟩ rfl hn hl.1 hst (lv_room (Nat.le_of_ble_eq_true hcat)) d ⟨Nat.zero_le _, Nat.zero_le _⟩) hS (fun z σ' hz hσ' hΨ H1 locs1 hP1 hS1 => ?_)
  exact k z σ' hz hσ' hΨ ok hσ' H1 locs1 ls hP1 hS1 hl
theorem r_callS {idx n : Nat} {y : MethodName} {As : List Value} {Ψ : Int → PS → Prop} (d : decode M.1 pc = .ok (.invokestatic idx, 3)) (cw : CWS M.2.1 idx y M2) (hy : ynm y n) (hM : CT lay E y M2 As σ Ψ) (hn : As.length = n) (hlv : M2.2.2.2.1 + 1 ≤ M.2.2.2.1) (hL : Nat.ble M2.2.2.1 40 = true) (hst : st0 = As.reverse ++ st) (hcat : Nat.ble ((st.map fun v => v.category).sum) 8 = true)
    (k : ∀ (z : Int) (σ' : PS), Rg z → RS σ' → Ψ z σ' → RW lay E M Φ (pc + 3) lv ((rvv E M2.2.2.2.2.2 z).toList ++ st) σ' x) : RW lay E M Φ pc lv st0 σ x := by
  obtain ⟨p, e, R, s, m, args, below, meth, c⟩ := x
  intro ok hσ H locs ls hP hS hl
  obtain ⟨hx, hb, hml, hown, hts, hK, hE, hV, hlk, hr, hfr, hlo⟩ := id ok
  have hG : GoodIn TB (va_wsS M.2.1 idx y (.code y M2.1 M2.2.2.1 M2.2.2.2.2.1 :: TB)) := by
    intro w hw
    rcases List.mem_append.mp hw with h | h
    · exact good_in (cw w (by simp at h ⊢; rcases h with h | h | h <;> simp [h]))
    · rcases List.mem_cons.mp h with h | h
      · exact good_in (cw w (by rw [h]; simp))
      · exact TB_good w h
  refine r_ofRun (va_runS (As := As) (rest := st) ⟨hx, hb, hml, hown, hts⟩ hM (va_cwS n hts hG rfl rfl rfl ⟨hy.1.1, hy.1.2, hy.2⟩ (lvl_room hfr hlo hlv hL)) ⟨PU_blind, fun U hU hW => ⟨rfl, PU_at hK hV hP hS U hU hW⟩⟩ rfl hn hl.1 hst (lv_room (Nat.le_of_ble_eq_true hcat)) d ⟨Nat.zero_le _, Nat.zero_le _⟩) hS (fun z σ' hz hσ' hΨ H1 locs1 hP1 hS1 => ?_)
  exact k z σ' hz hσ' hΨ ok hσ' H1 locs1 ls hP1 hS1 hl
theorem r_callN {idx n : Nat} {y : MethodName} {As : List Value} {Ψ : Int → PS → Prop} (d : decode M.1 pc = .ok (.invokestatic idx, 3)) (cw : CWN M.2.1 idx y M2) (hy : ynm y n) (hM : CT lay E y M2 As σ Ψ) (hn : As.length = n) (hlv : M2.2.2.2.1 + 1 ≤ M.2.2.2.1) (hL : Nat.ble M2.2.2.1 40 = true) (hst : st0 = As.reverse ++ st) (hcat : Nat.ble ((st.map fun v => v.category).sum) 8 = true)
    (k : ∀ (z : Int) (σ' : PS), Rg z → RS σ' → Ψ z σ' → RW lay E M Φ (pc + 3) lv ((rvv E M2.2.2.2.2.2 z).toList ++ st) σ' x) : RW lay E M Φ pc lv st0 σ x := by
  obtain ⟨p, e, R, s, m, args, below, meth, c⟩ := x
  intro ok hσ H locs ls hP hS hl
  obtain ⟨hx, hb, hml, hown, hts, hK, hE, hV, hlk, hr, hfr, hlo⟩ := id ok
  have hG : GoodIn TB (.code y M2.1 M2.2.2.1 M2.2.2.2.2.1 :: TB) := by
    intro w hw
    rcases List.mem_cons.mp hw with h | h
    · exact good_in (cw.2 w (by rw [h]; simp))
    · exact TB_good w h
  refine r_ofRun (va_runSN (As := As) (rest := st) ⟨hx, hb, hml, hown, hts⟩ hM ⟨va_cnB n hts hG rfl rfl rfl (hV.2.2.1 _ cw.1) (hts _ (cw.2 _ (by simp))) ⟨hy.1.1, hy.1.2, hy.2⟩ (lvl_room hfr hlo hlv hL), hts _ (cw.2 _ (by simp)), trivial⟩ ⟨PU_blind, fun U hU hW => ⟨rfl, PU_at hK hV hP hS U hU hW⟩⟩ rfl hn hl.1 hst (lv_room (Nat.le_of_ble_eq_true hcat)) d ⟨Nat.zero_le _, Nat.zero_le _⟩) hS (fun z σ' hz hσ' hΨ H1 locs1 hP1 hS1 => ?_)
  exact k z σ' hz hσ' hΨ ok hσ' H1 locs1 ls hP1 hS1 hl
def MW (own : String) (idx : Nat) (y : MethodName) (b : ByteArray) : Prop := ∀ w ∈ ([.methodLink own idx y, .static y, .initialized "java/lang/Math", .code y b 2 (some .int)] : List Cond), w ∈ TB
theorem iz_min {a b : Int} (ha : Rg a) (hb : Rg b) : (if iz b < iz a then iz b else iz a) = iz (min a b) := by
  by_cases h : b < a
  · rw [if_pos ((iz_lt hb ha).mpr h), Int.min_eq_right (by omega)]
  · rw [if_neg (fun z => h ((iz_lt hb ha).mp z)), Int.min_eq_left (by omega)]
theorem iz_max {a b : Int} (ha : Rg a) (hb : Rg b) : (if iz a < iz b then iz b else iz a) = iz (max a b) := by
  by_cases h : a < b
  · rw [if_pos ((iz_lt ha hb).mpr h), Int.max_eq_right (by omega)]
  · rw [if_neg (fun z => h ((iz_lt ha hb).mp z)), Int.max_eq_left (by omega)]
theorem r_min {idx : Nat} {a b : Int} (d : decode M.1 pc = .ok (.invokestatic idx, 3)) (w : MW M.2.1 idx Lib.Math.min.name Lib.Math.min.code) (ha : Rg a) (hb0 : Rg b) (hlv : 1 ≤ M.2.2.2.1) (hcat : Nat.ble ((st.map fun v => v.category).sum) 8 = true) (k : RW lay E M Φ (pc + 3) lv (.int (iz (min a b)) :: st) σ x) : RW lay E M Φ pc lv (.int (iz b) :: .int (iz a) :: st) σ x := by
  obtain ⟨p, e, R, s, m, args, below, meth, c⟩ := x
  intro ok hσ H locs ls hP hS hl
  obtain ⟨hx, hb, hml, hown, hts, hK, hE, hV, hlk, hr, hfr, hlo⟩ := id ok
  have hc := Nat.le_of_ble_eq_true hcat
  refine va_mmin hx hb (hml.trans hl.1.symm) hown (hts _ (w _ (by simp))) (hts _ (w _ (by simp))) (hts _ (w _ (by simp))) (hts _ (w _ (by simp))) (by omega) (by omega) (Nat.zero_le _) (Nat.zero_le _) d ?_
  rw [iz_min ha hb0]
  exact k ok hσ H locs ls hP hS hl
theorem r_max {idx : Nat} {a b : Int} (d : decode M.1 pc = .ok (.invokestatic idx, 3)) (w : MW M.2.1 idx Lib.Math.max.name Lib.Math.max.code) (ha : Rg a) (hb0 : Rg b) (hlv : 1 ≤ M.2.2.2.1) (hcat : Nat.ble ((st.map fun v => v.category).sum) 8 = true) (k : RW lay E M Φ (pc + 3) lv (.int (iz (max a b)) :: st) σ x) : RW lay E M Φ pc lv (.int (iz b) :: .int (iz a) :: st) σ x := by
  obtain ⟨p, e, R, s, m, args, below, meth, c⟩ := x
  intro ok hσ H locs ls hP hS hl
  obtain ⟨hx, hb, hml, hown, hts, hK, hE, hV, hlk, hr, hfr, hlo⟩ := id ok
  have hc := Nat.le_of_ble_eq_true hcat
  refine va_mmax hx hb (hml.trans hl.1.symm) hown (hts _ (w _ (by simp))) (hts _ (w _ (by simp))) (hts _ (w _ (by simp))) (hts _ (w _ (by simp))) (by omega) (by omega) (Nat.zero_le _) (Nat.zero_le _) d ?_
  rw [iz_max ha hb0]
  exact k ok hσ H locs ls hP hS hl
/-- row k's places dp .. dp + n - 1 become row j's sp .. -/
def cp2 (σ : PS) (j k sp dp n : Nat) : PS := fun k' i => if k' = k ∧ dp ≤ i ∧ i < dp + n then σ j (sp + (i - dp)) else σ k' i
theorem RS.cp {j k sp dp n : Nat} (h : RS σ) : RS (cp2 σ j k sp dp n) := by
  intro k' i
  unfold cp2
  split
  · exact h _ _
  · exact h _ _
def AW (own : String) (idx : Nat) : Prop := ∀ w ∈ ([.methodLink own idx arraycopyName, .native arraycopyName, .static arraycopyName, .initialized "java/lang/System"] : List Cond), w ∈ TB
theorem r_acopy {idx j k nj nk : Nat} {sp dp n Nj Nk : Int} (d : decode M.1 pc = .ok (.invokestatic idx, 3)) (w : AW M.2.1 idx) (hj : lay[j]? = some (.inl (0, nj))) (hk : lay[k]? = some (.inl (0, nk))) (hNj : (nj : Int) = Nj) (hNk : (nk : Int) = Nk) (hbj : Nat.ble nj 1000000 = true) (hbk : Nat.ble nk 1000000 = true) (h : 0 ≤ sp ∧ 0 ≤ dp ∧ 0 ≤ n ∧ sp + n ≤ Nj ∧ dp + n ≤ Nk) (hlv : 1 ≤ M.2.2.2.1) (hw2 : Nat.ble (nativeFrameWords "java/lang/System" "arraycopy" 5 + 11 + 8) 64 = true) (hcat : Nat.ble ((st.map fun v => v.category).sum) 8 = true)
    (kk : RW lay E M Φ (pc + 3) lv st (cp2 σ j k sp.toNat dp.toNat n.toNat) x) : RW lay E M Φ pc lv (.int (iz n) :: .int (iz dp) :: .ref (eA E k) :: .int (iz sp) :: .ref (eA E j) :: st) σ x := by
  obtain ⟨p, e, R, s, m, args, below, meth, c⟩ := x
  intro ok hσ H locs ls hP hS hl
  obtain ⟨hx, hb, hml, hown, hts, hK, hE, hV, hlk, hr, hfr, hlo⟩ := id ok
  have hc := Nat.le_of_ble_eq_true hcat
  have hc2 := Nat.le_of_ble_eq_true hw2
  have hq1 := Nat.le_of_ble_eq_true hbj
  have hq2 := Nat.le_of_ble_eq_true hbk
  obtain ⟨g1, g2, g3, g4, g5⟩ := h
  have cl : ∀ z : Int, 0 ≤ z → z ≤ 2147483647 → ¬ iz z < 0 ∧ (iz z).toNatClampNeg = z.toNat := by
    intro z z0 z1
    refine ⟨fun q => ?_, ?_⟩
    · rw [← iz_0] at q
      have := (iz_lt ⟨by omega, by omega⟩ Rg_0).mp q
      omega
    · show (iz z).toInt.toNat = z.toNat
      rw [iz_toInt ⟨by omega, by omega⟩]
  obtain ⟨a1, b1⟩ := cl sp g1 (by omega)
  obtain ⟨a2, b2⟩ := cl dp g2 (by omega)
  obtain ⟨a3, b3⟩ := cl n g3 (by omega)
  refine va_copyi hx hb (hml.trans hl.1.symm) hown (hts _ (w _ (by simp))) (hts _ (w _ (by simp))) (hts _ (w _ (by simp))) (hts _ (w _ (by simp))) hK hP (wld_D hE) hS j k 0 0 (ty := .int) (wld_get hj) (wld_get hk) rfl rfl rfl a1 a2 a3 (by rw [b1, b3]; omega) (by rw [b2, b3]; omega) (fun _ _ => rfl) (by omega) (by omega) d (fun H1 locs1 hP1 _ hS1 => ?_)
  rw [b1, b2, b3] at hP1
  refine kk ok hσ.cp H1 locs1 ls ?_ hS1 hl
  have e1 : (wld lay E σ).set k (eA E k, .inl (eC E 0, nk, .inl (va_cpy (fun i => iz (σ j i)) (fun i => iz (σ k i)) sp.toNat dp.toNat n.toNat))) = wld lay E (cp2 σ j k sp.toNat dp.toNat n.toNat) := by
    refine wld_set hk ?_ (fun k' hk' => by funext i; simp [cp2, hk'])
    show (Sum.inl _ : va_E) = Sum.inl _
    congr 4
    funext i
    unfold va_cpy cp2
    simp only [true_and]
    split <;> rfl
  rw [← e1]
  exact hP1
end Calls
