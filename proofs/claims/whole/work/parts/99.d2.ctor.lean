/-! A CONSTRUCTOR'S CONTRACT: from one cell, all fields at their defaults, to a world of which B tells -/
def PN (E : EV) (w0 : va_W) (sz : Nat) (U : State) : Prop := U.heap.size = sz ∧ va_P (eG E) vwCl w0 U.heap ∧ va_K (eG E) vwCl (tyE E) U ∧ ENA (va_A w0 sz) E U U.heap ∧ va_D (fun _ => True) w0
def Qn (E : EV) (A : Nat → Prop) (B : va_W → Prop) : Array Value → State → Outcome → State → Prop := va_Qv (S := va_W) B (fun ws t => va_P (eG E) vwCl ws t.heap ∧ va_D A ws) A
def NCT (E : EV) (y : MethodName) (M : MI) (mc ms ci : Nat) (fs : List Value) (B : Nat → va_W → Prop) : Prop := ∀ h0 sz : Nat,
  Met (eL E) y (.code y M.1 M.2.2.1 M.2.2.2.2.1 :: TB) { frames := M.2.2.2.1, cells := mc, slots := ms, locals := 64 * M.2.2.2.1 } (va_Pc [.ref h0] (PN E [(h0, .inr (ci, fs))] sz)) (Qn E (va_A [(h0, .inr (ci, fs))] sz) (B h0)) mc ms (va_A [(h0, .inr (ci, fs))] sz)
def NQX (E : EV) (A : Nat → Prop) (B : va_W → Prop) (mc ms : Nat) : CX → State → Prop := fun (p, e, R, s, m, args, below, meth, c) => MQ below (Qn E A B) args s mc ms A
def noRet : CX → Prop := fun (p, e, R, s, m, args, below, meth, c) => meth.sig.returnType = none ∧ meth.locks = false
theorem PN_blind {E : EV} {w0 : va_W} {sz h0 : Nat} : FrameBlind (va_Pc [.ref h0] (PN E w0 sz)) := fun a U g mk ⟨h, hsz, hP, hK, hE, hD⟩ => ⟨h, hsz, hP, va_K.moved (u := U) (U := U.calling g mk a) (Vm.Alike.refl U.vm) hK, ENA.same (u := U) (U := U.calling g mk a) rfl hE, hD⟩
theorem nt_of {E : EV} {y : MethodName} {M : MI} {mc ms ci : Nat} {fs : List Value} {B : Nat → va_W → Prop} (hy : plainName y.cls = true) (ho : y.cls = M.2.1) (hi : y.name = "<init>") (hM : M.2.2.1 = 1) (hr : M.2.2.2.2.1 = none)
    (kk : ∀ (h0 : Nat) (A : Nat → Prop) (x : CX), isInit x → noRet x → NW E M A mc ms (NQX E A (B h0) mc ms x) 0 [some (.ref h0)] [] [(h0, .inr (ci, fs))] 0 0 x) : NCT E y M mc ms ci fs B := by
  intro h0 sz
  refine Met.ofW (cc := M.1) (maxL := M.2.2.1) (ret := M.2.2.2.2.1) hy rfl ?_
  intro p e s m args below meth c s₁ B1 hml hPc
  obtain ⟨rfl, hsz, hP, hK, hV, hD0⟩ := hPc
  subst hsz
  have hts := atoms_spec (ws := .code y M.1 M.2.2.1 M.2.2.2.2.1 :: TB) B1.pre
  have hown : s.vm.findClass M.2.1 = some m.cls := ho ▸ findClass_of_methodNamed B1.named
  have hin : meth.name = "<init>" := (name_of_methodNamed B1.named B1.method).1.trans hi
  rw [lg_entry_eq]
  have hl : LH ((lg_sl [Value.ref h0] ++ List.replicate (M.2.2.1 - (lg_sl [Value.ref h0]).length) Slot.unset).toArray) M.2.2.1 ([Value.ref h0].map some ++ List.replicate (M.2.2.1 - [Value.ref h0].length) none) := LH_entry (fun v hv => by simp at hv; subst hv; rfl) (by rw [hM]; exact Nat.le_refl _)
  have e9 : ([Value.ref h0].map some ++ List.replicate (M.2.2.1 - [Value.ref h0].length) none) = [some (.ref h0)] := by rw [hM]; rfl
  rw [e9] at hl
  exact kk h0 _ (p, e, _, s, m, _, below, meth, c) hin ⟨B1.returns.trans hr, B1.notSynchronized⟩ ⟨B1.exec, B1.bytes, hml, hown, fun w hw => hts w (List.mem_cons_of_mem _ hw), hK, hV, fun q h => Or.inr h, Nat.le_refl _, Nat.le_refl _, Nat.le_refl _, Nat.le_refl _⟩ s.heap [] _ hP hD0.self va_S.rf hl
section NewCalls
variable {E : EV} {M M2 : MI} {A : Nat → Prop} {mc ms : Nat} {Q : State → Prop} {pc k n : Nat} {lv lv' : List (Option Value)} {st : List Value} {ws ws' wr : va_W} {x : CX}
/-- the words that a constructor's call wants -/
def CWI (own : String) (idx : Nat) (y : MethodName) (M2 : MI) : Prop := (∀ w ∈ ([.methodLink own idx y, .instanceMethod y, .initialized y.cls, .code y M2.1 M2.2.2.1 none] : List Cond), w ∈ TB) ∧ y.name = "<init>" ∧ M2.2.2.2.2.1 = none ∧ ynm y 0
def CWJ (own : String) (idx : Nat) (y : MethodName) (M2 : MI) : Prop := (own, idx, y) ∈ kNestI ∧ (∀ w ∈ ([.instanceMethod y, .initialized y.cls, .code y M2.1 M2.2.2.1 none] : List Cond), w ∈ TB) ∧ y.name = "<init>" ∧ M2.2.2.2.2.1 = none ∧ ynm y 0
theorem n_init {idx i0 q mc2 ms2 ci : Nat} {fs : List Value} {y : MethodName} {B2 : Nat → va_W → Prop} (d : decode M.1 pc = .ok (.invokespecial idx, 3)) (cw : CWI M.2.1 idx y M2 ∨ CWJ M.2.1 idx y M2) (hM : NCT E y M2 mc2 ms2 ci fs B2) (he : ws[i0]? = some (q, .inr (ci, fs))) (isR : List Nat) (hR : isR.map (fun i => ws[i]?) = wr.map some) (hnd : (va_nd isR && isR.all fun i => !(i == i0)) = true) (hlv : M2.2.2.2.1 + 1 ≤ M.2.2.2.1) (hL : Nat.ble M2.2.2.1 40 = true) (hcat : Nat.ble ((st.map fun v => v.category).sum) 8 = true) (hk : Nat.ble (k + mc2) mc = true) (hn : Nat.ble (n + ms2) ms = true)
    (kk : ∀ w1, B2 q w1 → NW E M A mc ms Q (pc + 3) lv st (wr ++ w1) (k + mc2) (n + ms2) x) : NW E M A mc ms Q pc lv (.ref q :: st) ws k n x := by
  obtain ⟨p, e, R, s, m, args, below, meth, c⟩ := x
  intro ok H locs ls hP hD hS hl
  obtain ⟨hx, hb, hml, hown, hts, hK, hV, hA, hfr, hlo, hmc, hms⟩ := id ok
  rw [Bool.and_eq_true] at hnd
  have hC : [i0].map (fun i => ws[i]?) = ([(q, .inr (ci, fs))] : va_W).map some := by simp [he]
  have hPc := hP.sub (ws' := [(q, .inr (ci, fs))]) [i0] (fmap_of hC)
  have hDc := hD.sub (ws' := [(q, .inr (ci, fs))]) [i0] rfl hC
  have hFc := va_free (wc := [(q, .inr (ci, fs))]) hD hS hA [i0] hC
  have hV2 : ENA A E s H := hV.kept hS.2.1
  have hPre : PreS s H (va_Pc [.ref q] (PN E [(q, .inr (ci, fs))] H.size)) [.ref q] := ⟨PN_blind, fun U hU hW => ⟨rfl, by rw [hU], by rw [hU]; exact hPc, va_K.moved hW.alike hK, by rw [hU]; exact (hV2.warm hW).narrow hFc, hDc.weaken (fun _ _ _ _ => trivial)⟩⟩
  have hf : k + mc2 ≤ R.cells ∧ n + ms2 ≤ R.slots := ⟨Nat.le_trans (Nat.le_of_ble_eq_true hk) hmc, Nat.le_trans (Nat.le_of_ble_eq_true hn) hms⟩
  have hG : M2.2.2.2.2.1 = none → (∀ w ∈ ([.code y M2.1 M2.2.2.1 none] : List Cond), w ∈ TB) → GoodIn TB (.code y M2.1 M2.2.2.1 M2.2.2.2.2.1 :: TB) := by
    intro hret hw w hw2
    rcases List.mem_cons.mp hw2 with h | h
    · rw [hret] at h
      exact good_in (hw w (by rw [h]; simp))
    · exact TB_good w h
  have hr : va_Run p (eL E) e R s m args below meth c H locs k n mc2 ms2 (F0 m pc ls (.ref q :: st)) st (Qn E (va_A [(q, .inr (ci, fs))] H.size) (B2 q) (Value.ref q :: ([] : List Value)).toArray) (va_A [(q, .inr (ci, fs))] H.size) := by
    rcases cw with cw | cw
    · obtain ⟨hw, hyi, hret, hy⟩ := cw
      have cwq := cwI (R := R) (own := M.2.1) (index := idx) (y := y) (rm := { frames := M2.2.2.2.1, cells := mc2, slots := ms2, locals := 64 * M2.2.2.2.1 }) (ws := .code y M2.1 M2.2.2.1 M2.2.2.2.2.1 :: TB) (ws' := TB) (bytes := M2.1) (maxL := M2.2.2.1) 0 hts (hG hret (fun w h => hw w (by simp at h ⊢; simp [h]))) (by rw [hret]) rfl rfl (hts _ (hw _ (by simp))) (hts _ (hw _ (by simp))) (hts _ (hw _ (by simp))) hyi ⟨hy.1.1, hy.1.2, hy.2⟩ (lvl_room (a := M2.2.2.2.1) hfr hlo hlv hL)
      exact va_runI (As := []) (rest := st) ⟨hx, hb, hml, hown, hts⟩ (hM q H.size) cwq hPre rfl rfl hl.1 rfl (lv_room (Nat.le_of_ble_eq_true hcat)) d hf
    · obtain ⟨hnest, hw, hyi, hret, hy⟩ := cw
      have cwq := va_cnB (R := R) (own := M.2.1) (index := idx) (y := y) (rm := { frames := M2.2.2.2.1, cells := mc2, slots := ms2, locals := 64 * M2.2.2.2.1 }) (ws := .code y M2.1 M2.2.2.1 M2.2.2.2.2.1 :: TB) (ws' := TB) (bytes := M2.1) (maxL := M2.2.2.1) (ret := none) 0 hts (hG hret (fun w h => hw w (by simp at h ⊢; simp [h]))) (by rw [hret]) rfl rfl (hV.2.2.1 _ (List.mem_append_right _ hnest)) (hts _ (hw _ (by simp))) ⟨hy.1.1, hy.1.2, hy.2⟩ (lvl_room (a := M2.2.2.2.1) hfr hlo hlv hL)
      exact va_runIN (As := []) (rest := st) ⟨hx, hb, hml, hown, hts⟩ (hM q H.size) ⟨cwq, hyi, hts _ (hw _ (by simp))⟩ hPre rfl rfl hl.1 rfl (lv_room (Nat.le_of_ble_eq_true hcat)) d hf
  refine va_callv hr hS (fun q _ h => hFc q h) hFc (fun w1 t H1 locs1 ht hvm hw1 hB hz1 hk1 hS1 => ?_)
  obtain ⟨hP1, hD1⟩ := hB
  rw [ht] at hP1
  obtain ⟨hP2, hD2⟩ := va_join hP hD [i0] isR hC hR hnd.1 (fun i hi hi2 => by
    have := List.all_eq_true.mp hnd.2 i hi
    simp at hi2
    simp [hi2] at this) hk1 hFc hP1 hD1
  exact kk w1 hw1 ok H1 locs1 ls hP2 hD2 hS1 hl
/-- Arrays.fill over a whole row -/
theorem n_fill {idx i0 a N : Nat} {g : Nat → Int} {v : Int} (d : decode M.1 pc = .ok (.invokestatic idx, 3)) (cw : CWS M.2.1 idx yJ7_fill_53178 mi_fill) (he : ws[i0]? = some (a, ia E 0 N g)) (hN : Nat.ble N 1000000 = true) (hv : Rg v) (hg : ∀ i, Rg (g i)) (isR : List Nat) (hR : isR.map (fun i => ws[i]?) = wr.map some) (hnd : (va_nd isR && isR.all fun i => !(i == i0)) = true) (hlv : 2 ≤ M.2.2.2.1) (hcat : Nat.ble ((st.map fun v => v.category).sum) 8 = true)
    (kk : NW E M A mc ms Q (pc + 3) lv st (wr ++ [(a, ia E 0 N (fun i => if 0 = 0 ∧ 0 ≤ i ∧ i < N then v else g i))]) k n x) (hk : Nat.ble k mc = true) (hn : Nat.ble n ms = true) : NW E M A mc ms Q pc lv (.int (iz v) :: .ref a :: st) ws k n x := by
  obtain ⟨p, e, R, s, m, args, below, meth, c⟩ := x
  intro ok H locs ls hP hD hS hl
  obtain ⟨hx, hb, hml, hown, hts, hK, hV, hA, hfr, hlo, hmc, hms⟩ := id ok
  rw [Bool.and_eq_true] at hnd
  have hE : eOK [.inl (0, N)] (wE E (fun _ => a)) := fun i j hi hj _ => by simp at hi hj; omega
  have hM := C_fill (E := wE E (fun _ => a)) hE (k := 0) (n := N) (v := v) rfl (Nat.le_of_ble_eq_true hN) hv (fun _ i => g i) (fun _ i => hg i)
  have hG : GoodIn TB (va_wsS M.2.1 idx yJ7_fill_53178 (.code yJ7_fill_53178 mi_fill.1 mi_fill.2.2.1 mi_fill.2.2.2.2.1 :: TB)) := by
    intro w hw
    rcases List.mem_append.mp hw with h | h
    · exact good_in (cw w (by simp at h ⊢; rcases h with h | h | h <;> simp [h]))
    · rcases List.mem_cons.mp h with h | h
      · exact good_in (cw w (by rw [h]; simp))
      · exact TB_good w h
  have hC : [i0].map (fun i => ws[i]?) = ([(a, ia E 0 N g)] : va_W).map some := by simp [he]
  have hPc := hP.sub (ws' := [(a, ia E 0 N g)]) [i0] (fmap_of hC)
  have hFc := va_free (wc := [(a, ia E 0 N g)]) hD hS hA [i0] hC
  have hwA : ∀ q, wA [.inl (0, N)] (wE E (fun _ => a)) q → q = a := fun q ⟨k, _, h⟩ => h.symm
  have hwA2 : ∀ q, wA [.inl (0, N)] (wE E (fun _ => a)) q → A q := fun q h => by
    rw [hwA q h]
    exact hD.2 i0 _ he
  have hV2 : ENV [.inl (0, N)] (wE E (fun _ => a)) s H := ENA.env (E := wE E (fun _ => a)) (hV.kept hS.2.1) hwA2
  have hr := va_runS (As := [.ref a, .int (iz v)]) (rest := st) (p := p) (l := eL E) (e := e) (R := R) (s := s) (m := m) (args := args) (below := below) (meth := meth) (c := c) (H := H) (locs := locs) (cells := k) (slots := n) (g := F0 m pc ls (.int (iz v) :: .ref a :: st)) ⟨hx, hb, hml, hown, hts⟩ hM (va_cwS 2 hts hG rfl rfl rfl ⟨nm_fill.1.1, nm_fill.1.2, nm_fill.2⟩ (lvl_room (a := 1) hfr hlo hlv rfl)) ⟨PU_blind, fun U hU hW => ⟨rfl, by rw [hU]; exact hPc, va_K.moved hW.alike hK, by rw [hU]; exact ENV.warm hW hV2⟩⟩ rfl rfl hl.1 rfl (lv_room (Nat.le_of_ble_eq_true hcat)) d ⟨Nat.le_trans (Nat.le_of_ble_eq_true hk) hmc, Nat.le_trans (Nat.le_of_ble_eq_true hn) hms⟩
  intro T hT X
  obtain ⟨v', st₀, t, T', L, h0, X', hL, e1, e2, ⟨z, σ', hv', hP1, hσ, hz, hΨ, hF⟩, go⟩ := hr T hT X
  cases hv'
  rw [va_F, h0] at hF
  have hk1 : ∀ q : Nat, q < H.size → ¬ va_A [(a, ia E 0 N g)] H.size q → T'.heap[q]? = H[q]? := fun q h1 h2 => by
    rw [e1]
    exact hF.2 q h1 (fun h => h2 (Or.inl ⟨0, ia E 0 N g, by rw [hwA q h]; rfl⟩))
  have hw1 : wld [.inl (0, N)] (wE E (fun _ => a)) σ' = [(a, ia E 0 N (fun i => if 0 = 0 ∧ 0 ≤ i ∧ i < N then v else g i))] := by
    have e3 : (fun i => if 0 = 0 ∧ 0 ≤ i ∧ i < N then v else g i) = σ' 0 := by
      rw [hΨ]
      funext i
      simp [fl2]
    rw [e3]
    rfl
  rw [hw1, ← e1] at hP1
  obtain ⟨hP2, hD2⟩ := va_join hP hD [i0] isR hC hR hnd.1 (fun i hi hi2 => by
    have := List.all_eq_true.mp hnd.2 i hi
    simp at hi2
    simp [hi2] at this) hk1 hFc hP1 ⟨fun i j p q hi hj _ => by
      have h1 := (List.getElem?_eq_some_iff.mp hi).1
      have h2 := (List.getElem?_eq_some_iff.mp hj).1
      simp at h1 h2
      omega, fun j q hj => by
      have h1 := (List.getElem?_eq_some_iff.mp hj).1
      simp at h1
      subst h1
      simp at hj
      subst hj
      exact Or.inl ⟨0, ia E 0 N g, rfl⟩⟩
  obtain ⟨t2, a1, b1⟩ := kk ok T'.heap (locs ++ L) ls hP2 hD2
    ⟨Nat.le_trans hS.1 (by rw [e1]; exact hF.1), fun q h1 h2 => by rw [e1, hF.2 q (Nat.lt_of_lt_of_le h1 hS.1) (fun h => h2 (hwA2 q h))]; exact hS.2.1 q h1 h2, fun q hq => by
      rcases List.mem_append.mp hq with h | h
      · exact hS.2.2 q h
      · exact hwA2 _ (hL q h)⟩ hl T' rfl X'
  exact ⟨t2, go t2 a1, b1⟩
theorem n_ret {A : Nat → Prop} {B : va_W → Prop} (d : decode M.1 pc = .ok (.return_, 1)) (hr : noRet x) (hk : Nat.ble k mc = true) (hn : Nat.ble n ms = true) (is : List Nat) (hs : is.map (fun i => ws[i]?) = ws'.map some) (hnd : va_nd is = true) (hB : B ws') : NW E M A mc ms (NQX E A B mc ms x) pc lv [] ws k n x := by
  obtain ⟨p, e, R, s, m, args, below, meth, c⟩ := x
  obtain ⟨hr, hlk⟩ : meth.sig.returnType = none ∧ meth.locks = false := hr
  intro ok H locs ls hP hD hS hl
  obtain ⟨hx, hb, -⟩ := id ok
  refine W.widen (k := mc) (n := ms) (Nat.le_of_ble_eq_true hk) (Nat.le_of_ble_eq_true hn) ?_
  exact W.vret hx hb hr (fun t ht _ => ⟨⟨ws', rfl, hB, by rw [ht]; exact hP.sub is (fmap_of hs), hD.sub is hnd hs⟩, hS.F ht⟩) (fun q hq => hS.2.2 q hq) d hlk
theorem n_sig (e : ws = ws') (kk : NW E M A mc ms Q pc lv st ws' k n x) : NW E M A mc ms Q pc lv st ws k n x := e ▸ kk
theorem n_cs {k' n' : Nat} (hk : k = k') (hn : n = n') (kk : NW E M A mc ms Q pc lv st ws k' n' x) : NW E M A mc ms Q pc lv st ws k n x := by
  subst hk; subst hn; exact kk
end NewCalls
