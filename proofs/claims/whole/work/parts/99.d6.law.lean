/-! THE LAW'S BODY: two worlds side by side -/
def mi_law : MI := (cL_law, RL, 4, 1000, ret, 1)
theorem va_P_l {D : va_G} {cl : List vw_C} {w1 w2 : va_W} {H : Heap} (h : va_P D cl (w1 ++ w2) H) : va_P D cl w1 H := fun k q hk => by
  obtain ⟨j, hj⟩ := List.getElem?_of_mem (List.mem_append_left w2 (List.mem_of_getElem? hk))
  exact h j q hj
theorem va_P_r {D : va_G} {cl : List vw_C} {w1 w2 : va_W} {H : Heap} (h : va_P D cl (w1 ++ w2) H) : va_P D cl w2 H := fun k q hk => by
  obtain ⟨j, hj⟩ := List.getElem?_of_mem (List.mem_append_right w1 (List.mem_of_getElem? hk))
  exact h j q hj
theorem va_D_l {A : Nat → Prop} {w1 w2 : va_W} (h : va_D A (w1 ++ w2)) : va_D A w1 := by
  have key : ∀ (k : Nat) (q : Nat × va_E), w1[k]? = some q → (w1 ++ w2)[k]? = some q := fun k q hk => by
    rw [List.getElem?_append_left (List.getElem?_eq_some_iff.mp hk).1]
    exact hk
  exact ⟨fun i j p q hi hj hpq => h.1 i j p q (key i p hi) (key j q hj) hpq, fun k q hk => h.2 k q (key k q hk)⟩
theorem va_D_r {A : Nat → Prop} {w1 w2 : va_W} (h : va_D A (w1 ++ w2)) : va_D A w2 := by
  have key : ∀ (k : Nat) (q : Nat × va_E), w2[k]? = some q → (w1 ++ w2)[w1.length + k]? = some q := fun k q hk => by
    rw [List.getElem?_append_right (by omega), show w1.length + k - w1.length = k by omega]
    exact hk
  refine ⟨fun i j p q hi hj hpq => ?_, fun k q hk => h.2 _ q (key k q hk)⟩
  have := h.1 _ _ p q (key i p hi) (key j q hj) hpq
  omega
theorem va_D_x {A : Nat → Prop} {w1 w2 : va_W} (h : va_D A (w1 ++ w2)) {i j : Nat} {p q : Nat × va_E} (hi : w1[i]? = some p) (hj : w2[j]? = some q) : p.1 ≠ q.1 := by
  intro e
  have hl := (List.getElem?_eq_some_iff.mp hi).1
  have h1 : (w1 ++ w2)[i]? = some p := by rw [List.getElem?_append_left hl]; exact hi
  have h2 : (w1 ++ w2)[w1.length + j]? = some q := by
    rw [List.getElem?_append_right (by omega), show w1.length + j - w1.length = j by omega]
    exact hj
  have := h.1 _ _ p q h1 h2 e
  omega
theorem va_D_fst {A : Nat → Prop} {ws ws' : va_W} (h : va_D A ws) (e : ws'.map Prod.fst = ws.map Prod.fst) : va_D A ws' := by
  have key : ∀ (k : Nat) (q : Nat × va_E), ws'[k]? = some q → ∃ q0 : Nat × va_E, ws[k]? = some q0 ∧ q0.1 = q.1 := by
    intro k q hk
    have h1 : (ws'.map Prod.fst)[k]? = some q.1 := by rw [List.getElem?_map, hk]; rfl
    rw [e, List.getElem?_map] at h1
    cases hq : ws[k]? with
    | none => rw [hq] at h1; cases h1
    | some q0 => rw [hq] at h1; exact ⟨q0, rfl, Option.some.inj h1⟩
  refine ⟨fun i j p q hi hj hpq => ?_, fun k q hk => ?_⟩
  · obtain ⟨p0, g1, g2⟩ := key i p hi
    obtain ⟨q0, g3, g4⟩ := key j q hj
    exact h.1 i j p0 q0 g1 g3 (by rw [g2, g4, hpq])
  · obtain ⟨q0, g1, g2⟩ := key k q hk
    rw [← g2]
    exact h.2 k q0 g1
theorem wld_fst {lay : List LE} {E : EV} {σ τ : PS} : (wld lay E σ).map Prod.fst = (wld lay E τ).map Prod.fst := by
  apply List.ext_getElem?
  intro i
  simp only [wld, List.getElem?_map, List.getElem?_mapIdx]
  cases lay[i]? <;> rfl
theorem wld_eOK {lay : List LE} {E : EV} {σ : PS} {A : Nat → Prop} (h : va_D A (wld lay E σ)) : eOK lay E := fun i j hi hj e =>
  h.1 i j _ _ (wld_get (List.getElem?_eq_getElem hi)) (wld_get (List.getElem?_eq_getElem hj)) e
theorem wld_wA {lay : List LE} {E : EV} {σ : PS} {q : Nat} (h : wA lay E q) : ∃ (k : Nat) (e : va_E), (wld lay E σ)[k]? = some (q, e) := by
  obtain ⟨k, hk, rfl⟩ := h
  exact ⟨k, _, wld_get (List.getElem?_eq_getElem hk)⟩
/-- the script, as the law's frame sees it -/
def XS (b L : Nat) (xs : Nat → Int32) (A : Nat → Prop) : CX → Prop := fun (p, e, R, s, m, args, below, meth, c) => va_X b L xs s s.heap ∧ b < s.heap.size ∧ ¬ A b
def xz (xs : Nat → Int32) (i : Int) (k : Nat) : Int := (xs (i.toNat + k)).toInt
section LawRows
variable {E : EV} {M M2 : MI} {A : Nat → Prop} {mc ms : Nat} {Q : State → Prop} {pc k n : Nat} {lv lv' : List (Option Value)} {st st0 : List Value} {ws ws' : va_W} {x : CX}
theorem n_widen {k' n' : Nat} (hk : Nat.ble k k' = true) (hn : Nat.ble n n' = true) (kk : NW E M A mc ms Q pc lv st ws k' n' x) : NW E M A mc ms Q pc lv st ws k n x := by
  obtain ⟨p, e, R, s, m, args, below, meth, c⟩ := x
  intro ok H locs ls hP hD hS hl
  exact W.widen (Nat.le_of_ble_eq_true hk) (Nat.le_of_ble_eq_true hn) (kk ok H locs ls hP hD hS hl)
theorem n_knowD (kk : va_D A ws → NW E M A mc ms Q pc lv st ws k n x) : NW E M A mc ms Q pc lv st ws k n x := by
  obtain ⟨p, e, R, s, m, args, below, meth, c⟩ := x
  intro ok H locs ls hP hD hS hl
  exact kk hD ok H locs ls hP hD hS hl
theorem n_iload {k4 : Fin 4} {i : Nat} {a : Int} (d : decode M.1 pc = .ok (.iload_n k4, 1)) (hi : (k4 : Nat) = i) (hl0 : lv[i]? = some (some (.int (iz a)))) (kk : NW E M A mc ms Q (pc + 1) lv (.int (iz a) :: st) ws k n x) : NW E M A mc ms Q pc lv st ws k n x := by
  obtain ⟨p, e, R, s, m, args, below, meth, c⟩ := x
  intro ok H locs ls hP hD hS hl
  obtain ⟨hx, hb, -⟩ := id ok
  exact lv_iload_n hx hb d hi (hl.get hl0) (kk ok H locs ls hP hD hS hl)
theorem n_iadd {a b : Int} (d : decode M.1 pc = .ok (.iadd, 1)) (kk : NW E M A mc ms Q (pc + 1) lv (.int (iz (a + b)) :: st) ws k n x) : NW E M A mc ms Q pc lv (.int (iz b) :: .int (iz a) :: st) ws k n x := by
  obtain ⟨p, e, R, s, m, args, below, meth, c⟩ := x
  intro ok H locs ls hP hD hS hl
  obtain ⟨hx, hb, -⟩ := id ok
  refine lv_iadd hx hb d ?_
  rw [iz_add]
  exact kk ok H locs ls hP hD hS hl
theorem n_isub {a b : Int} (d : decode M.1 pc = .ok (.isub, 1)) (kk : NW E M A mc ms Q (pc + 1) lv (.int (iz (a - b)) :: st) ws k n x) : NW E M A mc ms Q pc lv (.int (iz b) :: .int (iz a) :: st) ws k n x := by
  obtain ⟨p, e, R, s, m, args, below, meth, c⟩ := x
  intro ok H locs ls hP hD hS hl
  obtain ⟨hx, hb, -⟩ := id ok
  refine lv_isub hx hb d ?_
  rw [iz_sub]
  exact kk ok H locs ls hP hD hS hl
theorem n_iand {a b : Int} (d : decode M.1 pc = .ok (.iand, 1)) (kk : NW E M A mc ms Q (pc + 1) lv (.int (iz (iand a b)) :: st) ws k n x) : NW E M A mc ms Q pc lv (.int (iz b) :: .int (iz a) :: st) ws k n x := by
  obtain ⟨p, e, R, s, m, args, below, meth, c⟩ := x
  intro ok H locs ls hP hD hS hl
  obtain ⟨hx, hb, -⟩ := id ok
  have k' := kk ok H locs ls hP hD hS hl
  rw [iand, iz_of] at k'
  exact lv_iand hx hb d k'
theorem n_iinc {i : Nat} {c0 a : Int} (d : decode M.1 pc = .ok (.iinc i c0, 3)) (hl0 : lv[i]? = some (some (.int (iz a)))) (hn : Nat.ble (i + 1) lv.length = true) (hv : lv.set i (some (.int (iz (a + c0)))) = lv') (kk : NW E M A mc ms Q (pc + 3) lv' st ws k n x) : NW E M A mc ms Q pc lv st ws k n x := by
  obtain ⟨p, e, R, s, m, args, below, meth, c⟩ := x
  intro ok H locs ls hP hD hS hl
  obtain ⟨hx, hb, -⟩ := id ok
  obtain ⟨h1, h2⟩ := hl.lt hn
  obtain ⟨j, hj⟩ := List.getElem?_of_mem (lvL_in hl0)
  exact lv_iinc hx hb d hl.has hj (iz_add a c0) h1 rfl (fun ls' h' => kk ok H locs ls' hP hD hS (hv ▸ hl.set rfl h2 h'))
theorem n_goto {off : Int} {tgt : Nat} (d : decode M.1 pc = .ok (.goto off, 3)) (ht : (pc : Int) + off = (tgt : Int)) (kk : NW E M A mc ms Q tgt lv st ws k n x) : NW E M A mc ms Q pc lv st ws k n x := by
  obtain ⟨p, e, R, s, m, args, below, meth, c⟩ := x
  intro ok H locs ls hP hD hS hl
  obtain ⟨hx, hb, -⟩ := id ok
  exact lv_goto hx hb d ht (kk ok H locs ls hP hD hS hl)
theorem n_icmp_gt {off a b : Int} {tgt : Nat} (d : decode M.1 pc = .ok (.if_icmp .gt off, 3)) (ht : (pc : Int) + off = (tgt : Int)) (ha : Rg a) (hb0 : Rg b) (kt : b < a → NW E M A mc ms Q tgt lv st ws k n x) (kf : a ≤ b → NW E M A mc ms Q (pc + 3) lv st ws k n x) : NW E M A mc ms Q pc lv (.int (iz b) :: .int (iz a) :: st) ws k n x := by
  obtain ⟨p, e, R, s, m, args, below, meth, c⟩ := x
  intro ok H locs ls hP hD hS hl
  obtain ⟨hx, hb, -⟩ := id ok
  refine lv_icmp_gt hx hb d ht (fun q => ?_) (fun q => ?_)
  · exact kt ((iz_lt hb0 ha).mp q) ok H locs ls hP hD hS hl
  · exact kf (Int.not_lt.mp (fun z => q ((iz_lt hb0 ha).mpr z))) ok H locs ls hP hD hS hl
theorem n_icmp_eq {off a b : Int} {tgt : Nat} (d : decode M.1 pc = .ok (.if_icmp .eq off, 3)) (ht : (pc : Int) + off = (tgt : Int)) (e0 : a = b) (kt : NW E M A mc ms Q tgt lv st ws k n x) : NW E M A mc ms Q pc lv (.int (iz b) :: .int (iz a) :: st) ws k n x := by
  obtain ⟨p, e, R, s, m, args, below, meth, c⟩ := x
  intro ok H locs ls hP hD hS hl
  obtain ⟨hx, hb, -⟩ := id ok
  exact lv_icmp_eq hx hb d ht (fun _ => kt ok H locs ls hP hD hS hl) (fun q => absurd (by rw [e0]) q)
theorem n_tabIn {dflt lo hi a off : Int} {offs : Array Int} {len tgt : Nat} (d : decode M.1 pc = .ok (.tableswitch dflt lo hi offs, len)) (ha : Rg a) (h1 : lo ≤ a) (h2 : a ≤ hi) (ho : offs[(a - lo).toNat]? = some off) (ht : (pc : Int) + off = (tgt : Int)) (kk : NW E M A mc ms Q tgt lv st ws k n x) : NW E M A mc ms Q pc lv (.int (iz a) :: st) ws k n x := by
  obtain ⟨p, e, R, s, m, args, below, meth, c⟩ := x
  intro ok H locs ls hP hD hS hl
  obtain ⟨hx, hb, -⟩ := id ok
  exact lv_tableIn hx hb d (by rw [iz_toInt ha]; omega) (by rw [iz_toInt ha]; omega) (by rw [iz_toInt ha]; exact ho) ht (kk ok H locs ls hP hD hS hl)
theorem n_tabOut {dflt lo hi a : Int} {offs : Array Int} {len tgt : Nat} (d : decode M.1 pc = .ok (.tableswitch dflt lo hi offs, len)) (ha : Rg a) (h : a < lo ∨ hi < a) (ht : (pc : Int) + dflt = (tgt : Int)) (kk : NW E M A mc ms Q tgt lv st ws k n x) : NW E M A mc ms Q pc lv (.int (iz a) :: st) ws k n x := by
  obtain ⟨p, e, R, s, m, args, below, meth, c⟩ := x
  intro ok H locs ls hP hD hS hl
  obtain ⟨hx, hb, -⟩ := id ok
  exact lv_tableOut hx hb d (by rw [iz_toInt ha]; exact h) ht (kk ok H locs ls hP hD hS hl)
theorem n_sld {b L : Nat} {xs : Nat → Int32} {i : Int} (d : decode M.1 pc = .ok (.iaload, 1)) (hX : XS b L xs A x) (hL : L ≤ 3072) (hi : 0 ≤ i ∧ i < L) (kk : NW E M A mc ms Q (pc + 1) lv (.int (iz (xs i.toNat).toInt) :: st) ws k n x) : NW E M A mc ms Q pc lv (.int (iz i) :: .ref b :: st) ws k n x := by
  obtain ⟨p, e, R, s, m, args, below, meth, c⟩ := x
  obtain ⟨hX1, hX2, hX3⟩ := hX
  intro ok H locs ls hP hD hS hl
  obtain ⟨hx, hb, -⟩ := id ok
  have hr : Rg i := ⟨by omega, by omega⟩
  have h2 : (iz i).toNatClampNeg = i.toNat := by
    show (iz i).toInt.toNat = i.toNat
    rw [iz_toInt hr]
  have h1 : vp_in (iz i) L := vp_in_iff.mpr (by rw [iz_toInt hr]; omega)
  refine va_sld hx hb hX1 hX2 hX3 hS h1 d ?_
  rw [h2, ← iz_of (xs i.toNat)]
  exact kk ok H locs ls hP hD hS hl
theorem n_slen {b L : Nat} {xs : Nat → Int32} (d : decode M.1 pc = .ok (.arraylength, 1)) (hX : XS b L xs A x) (kk : NW E M A mc ms Q (pc + 1) lv (.int (iz (L : Int)) :: st) ws k n x) : NW E M A mc ms Q pc lv (.ref b :: st) ws k n x := by
  obtain ⟨p, e, R, s, m, args, below, meth, c⟩ := x
  obtain ⟨hX1, hX2, hX3⟩ := hX
  intro ok H locs ls hP hD hS hl
  obtain ⟨hx, hb, -⟩ := id ok
  exact va_slen hx hb hX1 hX2 hX3 hS d (kk ok H locs ls hP hD hS hl)
/-- a call of a method of one world, another world beside it -/
theorem n_call {lay : List LE} {f : Nat → Nat} {σ : PS} {w0 w2 : va_W} {idx b0 ci n0 : Nat} {fs : List (Option Nat)} {y : MethodName} {As : List Value} {Ψ : Int → PS → Prop} (d : decode M.1 pc = .ok (.invokevirtual idx, 3)) (cw : CWV M.2.1 idx y M2) (hy : ynm y n0) (hM : CT lay (wE E f) y M2 (.ref (f b0) :: As) σ Ψ) (hb0 : lay[b0]? = some (.inr (ci, fs))) (hc : vwCl[ci]?.map (fun q => q.1) = some y.cls) (hn : As.length = n0) (hlv : M2.2.2.2.1 + 1 ≤ M.2.2.2.1) (hL : Nat.ble M2.2.2.1 40 = true) (hst : st0 = As.reverse ++ .ref (f b0) :: st) (hcat : Nat.ble ((st.map fun v => v.category).sum) 8 = true) (hkm : Nat.ble k mc = true) (hnm : Nat.ble n ms = true)
    (kk : ∀ (z : Int) (σ' : PS), Rg z → RS σ' → Ψ z σ' → NW E M A mc ms Q (pc + 3) lv ((rvv (wE E f) M2.2.2.2.2.2 z).toList ++ st) (w0 ++ (wld lay (wE E f) σ' ++ w2)) k n x) : NW E M A mc ms Q pc lv st0 (w0 ++ (wld lay (wE E f) σ ++ w2)) k n x := by
  obtain ⟨p, e, R, s, m, args, below, meth, c⟩ := x
  intro ok H locs ls hP hD hS hl
  obtain ⟨hx, hb, hml, hown, hts, hK, hV, hA, hfr, hlo, hmc, hms⟩ := id ok
  have hlen : ∃ q, vwCl[ci]? = some q ∧ q.1 = y.cls := by
    cases hq : vwCl[ci]? with
    | none => rw [hq] at hc; cases hc
    | some q => rw [hq] at hc; exact ⟨q, rfl, Option.some.inj hc⟩
  obtain ⟨q, hq, hqy⟩ := hlen
  have hG : GoodIn TB (wsV M.2.1 idx y.cls y (.code y M2.1 M2.2.2.1 M2.2.2.2.2.1 :: TB)) := by
    intro w hw
    rcases List.mem_append.mp hw with h | h
    · exact good_in (cw w (by simp at h ⊢; rcases h with h | h | h | h <;> simp [h]))
    · rcases List.mem_cons.mp h with h | h
      · exact good_in (cw w (by rw [h]; simp))
      · exact TB_good w h
  have hP0 : va_P (eG E) vwCl w0 H := va_P_l hP
  have hPm : va_P (eG E) vwCl (wld lay (wE E f) σ) H := va_P_l (va_P_r hP)
  have hP2 : va_P (eG E) vwCl w2 H := va_P_r (va_P_r hP)
  have hDr := va_D_r hD
  have hDm := va_D_l hDr
  have hwA : ∀ a, wA lay (wE E f) a → A a := fun a h => by
    obtain ⟨j, e, hj⟩ := wld_wA (σ := σ) h
    exact hDm.2 j _ hj
  have hV2 : ENV lay (wE E f) s H := ENA.env (E := wE E f) (hV.kept hS.2.1) hwA
  have hrecv := va_recv hK hPm hq (wld_get (E := wE E f) (σ := σ) hb0)
  rw [hqy] at hrecv
  have hr := va_runV (As := As) (rest := st) (p := p) (l := eL E) (e := e) (R := R) (s := s) (m := m) (args := args) (below := below) (meth := meth) (c := c) (H := H) (locs := locs) (cells := k) (slots := n) (g := F0 m pc ls st0) ⟨hx, hb, hml, hown, hts⟩ hM (cwV n0 hts hG rfl rfl rfl ⟨rfl, hy.1.1, hy.1.2, hy.2⟩ (lvl_room (a := M2.2.2.2.1) hfr hlo hlv hL)) ⟨PU_blind, hrecv, fun U hU hW => ⟨rfl, by rw [hU]; exact hPm, va_K.moved hW.alike hK, by rw [hU]; exact ENV.warm hW hV2⟩⟩ rfl hn hl.1 hst (lv_room (Nat.le_of_ble_eq_true hcat)) d ⟨Nat.le_trans (Nat.le_of_ble_eq_true hkm) hmc, Nat.le_trans (Nat.le_of_ble_eq_true hnm) hms⟩
  intro T hT X
  obtain ⟨v', st₀, t, T', L, h0, X', hLo, e1, e2, ⟨z, σ', hv', hP1, hσ, hz, hΨ, hF⟩, go⟩ := hr T hT X
  cases hv'
  rw [va_F, h0] at hF
  have k0 : va_P (eG E) vwCl w0 T'.heap := hP0.kept (fun j q hj => by
    rw [e1]
    refine hF.2 q.1 ((hP0 j q hj).lt) (fun h => ?_)
    obtain ⟨i, e, hi⟩ := wld_wA (σ := σ) h
    obtain ⟨i2, hi2⟩ := List.getElem?_of_mem (List.mem_append_left w2 (List.mem_of_getElem? hi))
    exact va_D_x hD hj hi2 rfl)
  have k2 : va_P (eG E) vwCl w2 T'.heap := hP2.kept (fun j q hj => by
    rw [e1]
    refine hF.2 q.1 ((hP2 j q hj).lt) (fun h => ?_)
    obtain ⟨i, e, hi⟩ := wld_wA (σ := σ) h
    exact va_D_x hDr hi hj rfl)
  rw [← e1] at hP1
  have hD' : va_D A (w0 ++ (wld lay (wE E f) σ' ++ w2)) := va_D_fst hD (by rw [List.map_append, List.map_append, List.map_append, List.map_append, wld_fst (σ := σ') (τ := σ)])
  obtain ⟨t2, a1, b1⟩ := kk z σ' hz hσ hΨ ok T'.heap (locs ++ L) ls (k0.app (hP1.app k2)) hD'
    ⟨Nat.le_trans hS.1 (by rw [e1]; exact hF.1), fun q h1 h2 => by rw [e1, hF.2 q (Nat.lt_of_lt_of_le h1 hS.1) (fun h => h2 (hwA q h))]; exact hS.2.1 q h1 h2, fun q hq => by
      rcases List.mem_append.mp hq with h | h
      · exact hS.2.2 q h
      · exact hwA _ (hLo q h)⟩ hl T' rfl X'
  exact ⟨t2, go t2 a1, b1⟩
/-- a constructor's call on the newest cell -/
theorem n_initL {idx N q mc2 ms2 ci : Nat} {fs : List Value} {y : MethodName} {B2 : Nat → va_W → Prop} (d : decode M.1 pc = .ok (.invokespecial idx, 3)) (cw : CWI M.2.1 idx y M2 ∨ CWJ M.2.1 idx y M2) (hM : NCT E y M2 mc2 ms2 ci fs B2) (hN : ws.length = N) (hnd : (va_nd (List.range N) && (List.range N).all fun i => !(i == N)) = true) (hlv : M2.2.2.2.1 + 1 ≤ M.2.2.2.1) (hL : Nat.ble M2.2.2.1 40 = true) (hcat : Nat.ble ((st.map fun v => v.category).sum) 8 = true) (hk : Nat.ble (k + mc2) mc = true) (hn : Nat.ble (n + ms2) ms = true)
    (kk : ∀ w1, B2 q w1 → NW E M A mc ms Q (pc + 3) lv st (ws ++ w1) (k + mc2) (n + ms2) x) : NW E M A mc ms Q pc lv (.ref q :: st) (ws ++ [(q, .inr (ci, fs))]) k n x := by
  refine n_init (i0 := N) (wr := ws) d cw hM ?_ (List.range N) ?_ hnd hlv hL hcat hk hn kk
  · rw [List.getElem?_append_right (by omega), hN, Nat.sub_self]
    rfl
  · refine List.ext_getElem (by simp [hN]) (fun i h1 h2 => ?_)
    have hi : i < ws.length := by simpa using h2
    rw [List.getElem_map, List.getElem_map, List.getElem_range, List.getElem?_append_left hi, List.getElem?_eq_getElem hi]
end LawRows
/-- both worlds -/
def W2 (E : EV) (fC fM : Nat → Nat) (σc σm : PS) : va_W := wld layC (wE E fC) σc ++ (wld layM (wE E fM) σm ++ [])
def LVs (b : Nat) (fC fM : Nat → Nat) (i : Int) : List (Option Value) := [some (.ref b), some (.ref (fC 0)), some (.ref (fM 0)), some (.int (iz i))]
def NL (E : EV) (A : Nat → Prop) (Q : State → Prop) (fC fM : Nat → Nat) (b : Nat) (i : Int) (pc : Nat) (st : List Value) (σc σm : PS) (x : CX) : Prop := NW E mi_law A 600000 7302250 Q pc (LVs b fC fM i) st (W2 E fC fM σc σm) 600000 7302250 x
section LawCalls2
variable {E : EV} {M2 : MI} {A : Nat → Prop} {Q : State → Prop} {fC fM : Nat → Nat} {b L : Nat} {i : Int} {xs : Nat → Int32} {pc : Nat} {st st0 : List Value} {σc σm : PS} {x : CX}
theorem l_callC {idx n0 : Nat} {y : MethodName} {As : List Value} {Ψ : Int → PS → Prop} (d : decode cL_law pc = .ok (.invokevirtual idx, 3)) (cw : CWV RL idx y M2) (hy : ynm y n0) (hM : CT layC (wE E fC) y M2 (.ref (fC 0) :: As) σc Ψ) (hc : y.cls = RX11) (hn : As.length = n0) (hK : M2.2.2.2.2.2 = 1) (hlv : Nat.ble (M2.2.2.2.1 + 1) 1000 = true) (hL : Nat.ble M2.2.2.1 40 = true) (hst : st0 = As.reverse ++ .ref (fC 0) :: st) (hcat : Nat.ble ((st.map fun v => v.category).sum) 8 = true)
    (kk : ∀ (z : Int) (σ' : PS), Rg z → RS σ' → Ψ z σ' → NL E A Q fC fM b i (pc + 3) (.int (iz z) :: st) σ' σm x) : NL E A Q fC fM b i pc st0 σc σm x := by
  refine n_sig (List.nil_append _).symm ?_
  refine n_call (M := mi_law) (lay := layC) (w0 := []) (b0 := 0) (ci := 11) d cw hy hM lC_0 (by rw [hc]; rfl) hn (Nat.le_of_ble_eq_true hlv) hL hst hcat rfl rfl (fun z σ' h1 h2 h3 => ?_)
  refine n_sig (List.nil_append _) ?_
  have k1 := kk z σ' h1 h2 h3
  rw [hK]
  exact k1
theorem l_callM {idx n0 : Nat} {y : MethodName} {As : List Value} {Ψ : Int → PS → Prop} (d : decode cL_law pc = .ok (.invokevirtual idx, 3)) (cw : CWV RL idx y M2) (hy : ynm y n0) (hM : CT layM (wE E fM) y M2 (.ref (fM 0) :: As) σm Ψ) (hc : y.cls = RX12) (hn : As.length = n0) (hK : M2.2.2.2.2.2 = 1) (hlv : Nat.ble (M2.2.2.2.1 + 1) 1000 = true) (hL : Nat.ble M2.2.2.1 40 = true) (hst : st0 = As.reverse ++ .ref (fM 0) :: st) (hcat : Nat.ble ((st.map fun v => v.category).sum) 8 = true)
    (kk : ∀ (z : Int) (σ' : PS), Rg z → RS σ' → Ψ z σ' → NL E A Q fC fM b i (pc + 3) (.int (iz z) :: st) σc σ' x) : NL E A Q fC fM b i pc st0 σc σm x := by
  refine n_call (M := mi_law) (lay := layM) (w0 := wld layC (wE E fC) σc) (w2 := []) (b0 := 0) (ci := 12) d cw hy hM lM_0 (by rw [hc]; rfl) hn (Nat.le_of_ble_eq_true hlv) hL hst hcat rfl rfl (fun z σ' h1 h2 h3 => ?_)
  have k1 := kk z σ' h1 h2 h3
  rw [hK]
  exact k1
theorem l_C (d : decode cL_law pc = .ok (.aload_n 1, 1)) (kk : NL E A Q fC fM b i (pc + 1) (.ref (fC 0) :: st) σc σm x) : NL E A Q fC fM b i pc st σc σm x := n_aload (M := mi_law) d rfl rfl kk
theorem l_M (d : decode cL_law pc = .ok (.aload_n 2, 1)) (kk : NL E A Q fC fM b i (pc + 1) (.ref (fM 0) :: st) σc σm x) : NL E A Q fC fM b i pc st σc σm x := n_aload (M := mi_law) d rfl rfl kk
theorem l_arg {kz : Int} (k : Nat) (d0 : decode cL_law pc = .ok (.aload_n 0, 1)) (d1 : decode cL_law (pc + 1) = .ok (.iload_n 3, 1)) (d2 : decode cL_law (pc + 2) = .ok (.iconst kz, 1)) (d3 : decode cL_law (pc + 3) = .ok (.iadd, 1)) (d4 : decode cL_law (pc + 4) = .ok (.iaload, 1)) (hk : kz = k ∧ k ≤ 5) (hX : XS b L xs A x) (hL : L ≤ 3072) (hi : 0 ≤ i ∧ i + 6 ≤ L)
    (kk : NL E A Q fC fM b i (pc + 5) (.int (iz (xz xs i k)) :: st) σc σm x) : NL E A Q fC fM b i pc st σc σm x := by
  refine n_aload (M := mi_law) d0 rfl rfl ?_
  refine n_iload (M := mi_law) (a := i) d1 rfl rfl ?_
  refine n_iconst (M := mi_law) d2 ?_
  refine n_iadd (M := mi_law) d3 ?_
  refine n_sld (M := mi_law) d4 hX hL (by omega) ?_
  have e : (xs (i + kz).toNat).toInt = xz xs i k := by
    unfold xz
    rw [show (i + kz).toNat = i.toNat + k by omega]
  rw [e]
  exact kk
theorem l_same {off z1 z2 : Int} (d : decode cL_law pc = .ok (.if_icmp .eq off, 3)) (e : z1 = z2) (ht : (pc : Int) + off = ((1272 : Nat) : Int)) (kk : NL E A Q fC fM b i 1272 st σc σm x) : NL E A Q fC fM b i pc (.int (iz z2) :: .int (iz z1) :: st) σc σm x := n_icmp_eq (M := mi_law) d ht e kk
end LawCalls2
/-- where a call's comparison goes -/
def KK (E : EV) (A : Nat → Prop) (Q : State → Prop) (fC fM : Nat → Nat) (b : Nat) (i : Int) (x : CX) : Prop := ∀ (d : DS) (σc σm : PS), okD d → CR d σc → MR d σm → RS σc → RS σm → NL E A Q fC fM b i 1272 [] σc σm x
