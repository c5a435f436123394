def mi_fill : MI := (cJ7_fill_53178, RJ7, 4, 1, none, 0)
def mi_fill4 : MI := (cJ7_fill_fda19, RJ7, 5, 3, none, 0)
def mi_rangeCheck : MI := (cJ7_rangeCheck_23922, RJ7, 3, 1, none, 0)
def mi_bitCount : MI := (cJ6_bitCount_0f7a4, RJ6, 1, 1, (some .int), 1)
def mi_Slength : MI := (cJ0_length_8abf5, RJ0, 1, 7, (some .int), 1)
def mi_ScharAt : MI := (cJ0_charAt_5068e, RJ0, 2, 7, (some .char), 1)
def mi_coder : MI := (cJ0_coder_7d493, RJ0, 1, 1, (some .byte), 1)
def mi_isLatin1 : MI := (cJ0_isLatin1_aae02, RJ0, 1, 1, (some .boolean), 1)
def mi_L1charAt : MI := (cJ1_charAt_3b067, RJ1, 2, 4, (some .char), 1)
def mi_ScheckIndex : MI := (cJ0_checkIndex_df160, RJ0, 2, 2, none, 0)
def mi_PcheckIndex : MI := (cJ3_checkIndex_8e157, RJ3, 3, 1, (some .int), 1)
theorem nm_bitCount : ynm yJ6_bitCount_0f7a4 1 := ⟨⟨by decide +kernel, by decide +kernel⟩, by decide +kernel⟩
theorem nm_fill : ynm yJ7_fill_53178 2 := ⟨⟨by decide +kernel, by decide +kernel⟩, by decide +kernel⟩
theorem nm_fill4 : ynm yJ7_fill_fda19 4 := ⟨⟨by decide +kernel, by decide +kernel⟩, by decide +kernel⟩
theorem nm_rangeCheck : ynm yJ7_rangeCheck_23922 3 := ⟨⟨by decide +kernel, by decide +kernel⟩, by decide +kernel⟩
theorem nm_Slength : ynm yJ0_length_8abf5 0 := ⟨⟨by decide +kernel, by decide +kernel⟩, by decide +kernel⟩
theorem nm_ScharAt : ynm yJ0_charAt_5068e 1 := ⟨⟨by decide +kernel, by decide +kernel⟩, by decide +kernel⟩
theorem nm_coder : ynm yJ0_coder_7d493 0 := ⟨⟨by decide +kernel, by decide +kernel⟩, by decide +kernel⟩
theorem nm_isLatin1 : ynm yJ0_isLatin1_aae02 0 := ⟨⟨by decide +kernel, by decide +kernel⟩, by decide +kernel⟩
theorem nm_L1charAt : ynm yJ1_charAt_3b067 2 := ⟨⟨by decide +kernel, by decide +kernel⟩, by decide +kernel⟩
theorem nm_ScheckIndex : ynm yJ0_checkIndex_df160 2 := ⟨⟨by decide +kernel, by decide +kernel⟩, by decide +kernel⟩
theorem nm_PcheckIndex : ynm yJ3_checkIndex_8e157 3 := ⟨⟨by decide +kernel, by decide +kernel⟩, by decide +kernel⟩
theorem cw_RJ7_13 : CWS RJ7 13 yJ7_rangeCheck_23922 mi_rangeCheck := tb_r [777, 778, 109, 779] (by decide +kernel)
theorem cw_RJ0_335 : CWV RJ0 335 yJ0_coder_7d493 mi_coder := tb_r [1024, 1025, 1026, 113, 1027] (by decide +kernel)
theorem cw_RJ0_492 : CWV RJ0 492 yJ0_isLatin1_aae02 mi_isLatin1 := tb_r [1034, 1035, 1036, 113, 1037] (by decide +kernel)
theorem cw_RJ0_495 : CWS RJ0 495 yJ1_charAt_3b067 mi_L1charAt := tb_r [1038, 1039, 114, 1040] (by decide +kernel)
theorem cw_RJ1_9 : CWS RJ1 9 yJ0_checkIndex_df160 mi_ScheckIndex := tb_r [1041, 1042, 113, 1043] (by decide +kernel)
theorem cw_RJ0_1059 : CWS RJ0 1059 yJ3_checkIndex_8e157 mi_PcheckIndex := tb_r [1046, 1047, 115, 1048] (by decide +kernel)
theorem fl_RJ0_38 : Cond.fieldLink RJ0 38 "java/lang/String" "COMPACT_STRINGS" "Z" ∈ TB := tb_1 1028 (by decide +kernel)
theorem fl_RJ0_9 : Cond.fieldLink RJ0 9 "java/lang/String" "value" "[B" ∈ TB := tb_1 1748 (by decide +kernel)
theorem fl_RJ0_15 : Cond.fieldLink RJ0 15 "java/lang/String" "coder" "B" ∈ TB := tb_1 1749 (by decide +kernel)
theorem fl_RJ0_1053 : Cond.fieldLink RJ0 1053 "jdk/internal/util/Preconditions" "SIOOBE_FORMATTER" "Ljava/util/function/BiFunction;" ∈ TB := tb_1 1044 (by decide +kernel)
theorem kw_RJ6_265 : Cond.constant RJ6 265 (iz 1431655765) ∈ TB := tb_1 1094 (by decide +kernel)
theorem kw_RJ6_266 : Cond.constant RJ6 266 (iz 858993459) ∈ TB := tb_1 1095 (by decide +kernel)
theorem kw_RJ6_267 : Cond.constant RJ6 267 (iz 252645135) ∈ TB := tb_1 1096 (by decide +kernel)
/-- what bitCount's instructions make of a number -/
def ibits1 (a : Int) : Int := a - iand (iushr a 1) 1431655765
def ibits2 (a : Int) : Int := iand (ibits1 a) 858993459 + iand (iushr (ibits1 a) 2) 858993459
def ibits3 (a : Int) : Int := iand (ibits2 a + iushr (ibits2 a) 4) 252645135
def ibits4 (a : Int) : Int := ibits3 a + iushr (ibits3 a) 8
def ibits5 (a : Int) : Int := ibits4 a + iushr (ibits4 a) 16
def ibits (a : Int) : Int := iand (ibits5 a) 63
def slen (k : Nat) : Int := (kLen.getD k 0 : Nat)
def schr (k i : Nat) : Int := ((kByt.getD k []).getD i 0).toInt
theorem Rg_schr (k i : Nat) : Rg (schr k i) := Rg_of _
theorem slen_all : ∀ k, k < 9 → Rg (slen k) ∧ slen k ≤ 100 ∧ ishr (slen k) 0 = slen k := by decide +kernel
theorem schr_all : ∀ k, k < 9 → ∀ i, i < kLen.getD k 0 → 0 ≤ schr k i ∧ schr k i < 128 ∧ iand (schr k i) 255 = schr k i := by decide +kernel
theorem Rg_slen {k : Nat} (h : k < 9) : Rg (slen k) := (slen_all k h).1
section JdkE
variable {lay : List LE} {E : EV} {M : MI} {Φ : Int → PS → Prop} {pc : Nat} {lv lv' : List (Option Value)} {st : List Value} {σ : PS} {x : CX}
theorem r_eok (k : eOK lay E → RW lay E M Φ pc lv st σ x) : RW lay E M Φ pc lv st σ x := by
  obtain ⟨p, e, R, s, m, args, below, meth, c⟩ := x
  intro ok hσ
  obtain ⟨hx, hb, hml, hown, hts, hK, hE, -⟩ := id ok
  exact k hE ok hσ
theorem st_ldcwS {p : Program} {l : Launch} {e : Env} {R : Room} {s : State} {m : MethodId} {args : Array Value} {below : List Frame} {meth : Method} {c : Code} {T : State} {locs : List Loc} {cells slots : Nat}
    (X : Stand p l e R s m args below meth c T locs cells slots) (hexec : p.tables.exec = Jvm.exec) {own text : String} {index : Nat} {a : Addr} (hown : s.vm.findClass own = some m.cls)
    (hconst : (Cond.stringRef own index text).before args s = true) (hev : (Term.string own index).eval args s none [] s = some (.ref a)) {g : JFrame} (hg : g.method = m) (hdg : decode c.code g.pc = .ok (.ldc_w index, 3)) :
    ∀ target, Steps p.tables e below (T.setTop { g with pc := g.pc + 3, stack := .ref a :: g.stack }) target → Steps p.tables e below (T.setTop g) target := by
  obtain ⟨k, cf, i, a', hk, hcf, hcp, -, hr, hev'⟩ := Cond.stringRef_spec hown hconst
  cases hev.symm.trans hev'
  obtain ⟨k', hk', he⟩ := X.warmed.alike.2.2 _ _ hk
  have hr' : k'.resolved[index]? = some (some (.string a)) := by
    rcases X.warmed.entry hk hk' index with h | ⟨h, -⟩
    · rw [h]; exact hr
    · rw [hr] at h; cases h
  intro target hrest
  subst hg
  jvm_step X.here [hexec, hdg, ldc_w.wp_string (e := e) (s := T) (f := g) X.here.top hk' (by rw [he]; exact hcf) hcp hr']
  exact hrest
theorem r_ldcwS {i q : Nat} {tx : String} (d : decode M.1 pc = .ok (.ldc_w i, 3)) (hw : (M.2.1, i, tx, q) ∈ kRef) (k : RW lay E M Φ (pc + 3) lv (.ref (eS E q) :: st) σ x) : RW lay E M Φ pc lv st σ x := by
  obtain ⟨p, e, R, s, m, args, below, meth, c⟩ := x
  intro ok hσ H locs ls hP hS hl
  obtain ⟨hx, hb, -, hown, -, -, -, hE, -⟩ := id ok
  intro T hT X
  obtain ⟨t, a1, b1⟩ := k ok hσ H locs ls hP hS hl T hT X
  have hZ := hE.2.1 _ hw
  exact ⟨t, st_ldcwS X hx hown (text := tx) (a := eS E q) hZ.1 hZ.2 (g := F0 m pc ls st) rfl (by rw [hb]; exact d) t a1, b1⟩
end JdkE
section JdkA
variable {lay : List LE} {E : EV} {M : MI} {Φ : Int → PS → Prop} {pc : Nat} {lv lv' : List (Option Value)} {st st0 : List Value} {σ : PS} {x : CX}
theorem C_bitCount (hE : eOK lay E) (a : Int) (ra : Rg a) (σ : PS) (hs : RS σ) : CT lay E yJ6_bitCount_0f7a4 mi_bitCount [.int (iz a)] σ (fun z σ1 => z = ibits a ∧ σ1 = σ) := by
  refine ct_of (by decide +kernel) rfl hE rfl rfl hs (fun x => ?_)
  show RW lay E mi_bitCount _ 0 [some (.int (iz a))] [] σ x
  refine r_iloadn (dc D_cJ6_bitCount_0f7a4_0 0 rfl) rfl rfl ?_
  refine r_iloadn (dc D_cJ6_bitCount_0f7a4_0 1 rfl) rfl rfl ?_
  refine r_iconst (dc D_cJ6_bitCount_0f7a4_0 2 rfl) ?_
  refine r_iushr (dc D_cJ6_bitCount_0f7a4_0 3 rfl) ?_
  refine r_ldcw (n := 1431655765) (dc D_cJ6_bitCount_0f7a4_0 4 rfl) kw_RJ6_265 ?_
  refine r_iand (dc D_cJ6_bitCount_0f7a4_0 5 rfl) ?_
  refine r_isub (dc D_cJ6_bitCount_0f7a4_0 6 rfl) ?_
  refine r_istoren (lv' := [some (.int (iz (ibits1 a)))]) (dc D_cJ6_bitCount_0f7a4_0 7 rfl) rfl rfl rfl ?_
  refine r_iloadn (dc D_cJ6_bitCount_0f7a4_0 8 rfl) rfl rfl ?_
  refine r_ldcw (n := 858993459) (dc D_cJ6_bitCount_0f7a4_0 9 rfl) kw_RJ6_266 ?_
  refine r_iand (dc D_cJ6_bitCount_0f7a4_0 10 rfl) ?_
  refine r_iloadn (dc D_cJ6_bitCount_0f7a4_0 11 rfl) rfl rfl ?_
  refine r_iconst (dc D_cJ6_bitCount_0f7a4_0 12 rfl) ?_
  refine r_iushr (dc D_cJ6_bitCount_0f7a4_0 13 rfl) ?_
  refine r_ldcw (n := 858993459) (dc D_cJ6_bitCount_0f7a4_0 14 rfl) kw_RJ6_266 ?_
  refine r_iand (dc D_cJ6_bitCount_0f7a4_0 15 rfl) ?_
  refine r_iadd (dc D_cJ6_bitCount_0f7a4_0 16 rfl) ?_
  refine r_istoren (lv' := [some (.int (iz (ibits2 a)))]) (dc D_cJ6_bitCount_0f7a4_0 17 rfl) rfl rfl rfl ?_
  refine r_iloadn (dc D_cJ6_bitCount_0f7a4_0 18 rfl) rfl rfl ?_
  refine r_iloadn (dc D_cJ6_bitCount_0f7a4_0 19 rfl) rfl rfl ?_
  refine r_iconst (dc D_cJ6_bitCount_0f7a4_0 20 rfl) ?_
  refine r_iushr (dc D_cJ6_bitCount_0f7a4_0 21 rfl) ?_
  refine r_iadd (dc D_cJ6_bitCount_0f7a4_0 22 rfl) ?_
  refine r_ldcw (n := 252645135) (dc D_cJ6_bitCount_0f7a4_0 23 rfl) kw_RJ6_267 ?_
  refine r_iand (dc D_cJ6_bitCount_0f7a4_0 24 rfl) ?_
  refine r_istoren (lv' := [some (.int (iz (ibits3 a)))]) (dc D_cJ6_bitCount_0f7a4_0 25 rfl) rfl rfl rfl ?_
  refine r_iloadn (dc D_cJ6_bitCount_0f7a4_0 26 rfl) rfl rfl ?_
  refine r_iloadn (dc D_cJ6_bitCount_0f7a4_0 27 rfl) rfl rfl ?_
  refine r_bipush (n := 8) (dc D_cJ6_bitCount_0f7a4_0 28 rfl) (by decide +kernel) ?_
  refine r_iushr (dc D_cJ6_bitCount_0f7a4_0 29 rfl) ?_
  refine r_iadd (dc D_cJ6_bitCount_0f7a4_0 30 rfl) ?_
  refine r_istoren (lv' := [some (.int (iz (ibits4 a)))]) (dc D_cJ6_bitCount_0f7a4_0 31 rfl) rfl rfl rfl ?_
  refine r_iloadn (dc D_cJ6_bitCount_0f7a4_0 32 rfl) rfl rfl ?_
  refine r_iloadn (dc D_cJ6_bitCount_0f7a4_0 33 rfl) rfl rfl ?_
  refine r_bipush (n := 16) (dc D_cJ6_bitCount_0f7a4_0 34 rfl) (by decide +kernel) ?_
  refine r_iushr (dc D_cJ6_bitCount_0f7a4_0 35 rfl) ?_
  refine r_iadd (dc D_cJ6_bitCount_0f7a4_0 36 rfl) ?_
  refine r_istoren (lv' := [some (.int (iz (ibits5 a)))]) (dc D_cJ6_bitCount_0f7a4_0 37 rfl) rfl rfl rfl ?_
  refine r_iloadn (dc D_cJ6_bitCount_0f7a4_0 38 rfl) rfl rfl ?_
  refine r_bipush (n := 63) (dc D_cJ6_bitCount_0f7a4_0 39 rfl) (by decide +kernel) ?_
  refine r_iand (dc D_cJ6_bitCount_0f7a4_1 0 rfl) ?_
  exact r_iret (dc D_cJ6_bitCount_0f7a4_1 1 rfl) rfl (Rg_of _) ⟨rfl, rfl⟩
theorem fill_loop {k n : Nat} {v : Int} (hk : lay[k]? = some (.inl (0, n))) (hn : n ≤ 1000000) (hv : Rg v) (hΦ : Φ 0 (fl2 σ k 0 n v)) (f : Nat) : ∀ j : Nat, j ≤ n → n - j ≤ f → RW lay E mi_fill Φ 5 [some (.ref (eA E k)), some (.int (iz v)), some (.int (iz (j : Int))), some (.int (iz (n : Int)))] [] (fl2 σ k 0 j v) x := by
  induction f with
  | zero =>
    intro j h1 h2
    have e0 : j = n := by omega
    subst e0
    refine r_iloadn (dc D_cJ7_fill_53178_0 5 rfl) rfl rfl ?_
    refine r_iloadn (dc D_cJ7_fill_53178_0 6 rfl) rfl rfl ?_
    refine r_icmp_ge (tgt := 20) (dc D_cJ7_fill_53178_0 7 rfl) (by decide) ⟨by omega, by omega⟩ ⟨by omega, by omega⟩ (fun _ => ?_) (fun c => absurd (Int.le_refl _) c)
    exact r_vret (dc D_cJ7_fill_53178_0 14 rfl) rfl hΦ
  | succ f ih =>
    intro j h1 h2
    refine r_iloadn (dc D_cJ7_fill_53178_0 5 rfl) rfl rfl ?_
    refine r_iloadn (dc D_cJ7_fill_53178_0 6 rfl) rfl rfl ?_
    refine r_icmp_ge (tgt := 20) (dc D_cJ7_fill_53178_0 7 rfl) (by decide) ⟨by omega, by omega⟩ ⟨by omega, by omega⟩ (fun c => ?_) (fun c => ?_)
    · have e0 : j = n := by omega
      subst e0
      exact r_vret (dc D_cJ7_fill_53178_0 14 rfl) rfl hΦ
    · refine r_aloadn (dc D_cJ7_fill_53178_0 8 rfl) rfl rfl ?_
      refine r_iloadn (dc D_cJ7_fill_53178_0 9 rfl) rfl rfl ?_
      refine r_iloadn (dc D_cJ7_fill_53178_0 10 rfl) rfl rfl ?_
      refine r_iast (N := (n : Int)) (dc D_cJ7_fill_53178_0 11 rfl) hk rfl (Nat.ble_eq.mpr hn) ⟨by omega, by omega⟩ hv ?_
      refine r_iinc (lv' := [some (.ref (eA E k)), some (.int (iz v)), some (.int (iz ((j : Int) + 1))), some (.int (iz (n : Int)))]) (dc D_cJ7_fill_53178_0 12 rfl) rfl rfl rfl ?_
      refine r_goto (tgt := 5) (dc D_cJ7_fill_53178_0 13 rfl) (by decide) ?_
      have e1 : up2 (fl2 σ k 0 j v) k ((j : Int).toNat) v = fl2 σ k 0 (j + 1) v := fl2_s (Nat.zero_le j)
      rw [e1]
      exact ih (j + 1) (by omega) (by omega)
theorem C_fill (hE : eOK lay E) {k n : Nat} {v : Int} (hk : lay[k]? = some (.inl (0, n))) (hn : n ≤ 1000000) (hv : Rg v) (σ : PS) (hs : RS σ) : CT lay E yJ7_fill_53178 mi_fill [.ref (eA E k), .int (iz v)] σ (fun _ σ1 => σ1 = fl2 σ k 0 n v) := by
  refine ct_of (by decide +kernel) rfl hE rfl rfl hs (fun x => ?_)
  show RW lay E mi_fill _ 0 [some (.ref (eA E k)), some (.int (iz v)), none, none] [] σ x
  refine r_iconst (dc D_cJ7_fill_53178_0 0 rfl) ?_
  refine r_istoren (lv' := [some (.ref (eA E k)), some (.int (iz v)), some (.int (iz 0)), none]) (dc D_cJ7_fill_53178_0 1 rfl) rfl rfl rfl ?_
  refine r_aloadn (dc D_cJ7_fill_53178_0 2 rfl) rfl rfl ?_
  refine r_alen (N := (n : Int)) (dc D_cJ7_fill_53178_0 3 rfl) hk rfl rfl ?_
  refine r_istoren (lv' := [some (.ref (eA E k)), some (.int (iz v)), some (.int (iz 0)), some (.int (iz (n : Int)))]) (dc D_cJ7_fill_53178_0 4 rfl) rfl rfl rfl ?_
  have h := fill_loop (E := E) (x := x) (σ := σ) (Φ := fun _ σ1 => σ1 = fl2 σ k 0 n v) hk hn hv rfl n 0 (Nat.zero_le _) (Nat.le_refl _)
  rw [fl2_0] at h
  exact h
theorem r_fill {idx k n : Nat} {v : Int} (d : decode M.1 pc = .ok (.invokestatic idx, 3)) (cw : CWS M.2.1 idx yJ7_fill_53178 mi_fill) (hk : lay[k]? = some (.inl (0, n))) (hn : Nat.ble n 1000000 = true) (hv : Rg v) (hlv : 2 ≤ M.2.2.2.1) (hcat : Nat.ble ((st.map fun v => v.category).sum) 8 = true) (kk : RW lay E M Φ (pc + 3) lv st (fl2 σ k 0 n v) x) : RW lay E M Φ pc lv (.int (iz v) :: .ref (eA E k) :: st) σ x := by
  refine r_eok (fun hE => r_rs (fun hs => ?_))
  exact r_callS (As := [.ref (eA E k), .int (iz v)]) d cw nm_fill (C_fill hE hk (Nat.le_of_ble_eq_true hn) hv σ hs) rfl hlv rfl rfl hcat (fun z σ1 _ _ e => by rw [e]; exact kk)
theorem C_rangeCheck (hE : eOK lay E) {lo hi N : Int} (rlo : Rg lo) (rhi : Rg hi) (rN : Rg N) (h : 0 ≤ lo ∧ lo ≤ hi ∧ hi ≤ N) (σ : PS) (hs : RS σ) : CT lay E yJ7_rangeCheck_23922 mi_rangeCheck [.int (iz N), .int (iz lo), .int (iz hi)] σ (fun _ σ1 => σ1 = σ) := by
  refine ct_of (by decide +kernel) rfl hE rfl rfl hs (fun x => ?_)
  show RW lay E mi_rangeCheck _ 0 [some (.int (iz N)), some (.int (iz lo)), some (.int (iz hi))] [] σ x
  refine r_iloadn (dc D_cJ7_rangeCheck_23922_0 0 rfl) rfl rfl ?_
  refine r_iloadn (dc D_cJ7_rangeCheck_23922_0 1 rfl) rfl rfl ?_
  refine r_icmp_le (tgt := 46) (dc D_cJ7_rangeCheck_23922_0 2 rfl) (by decide) rlo rhi (fun _ => ?_) (fun c => absurd h.2.1 c)
  refine r_iloadn (dc D_cJ7_rangeCheck_23922_0 21 rfl) rfl rfl ?_
  refine r_if_ge (tgt := 59) (dc D_cJ7_rangeCheck_23922_0 22 rfl) (by decide) rlo (fun _ => ?_) (fun c => absurd h.1 c)
  refine r_iloadn (dc D_cJ7_rangeCheck_23922_0 28 rfl) rfl rfl ?_
  refine r_iloadn (dc D_cJ7_rangeCheck_23922_0 29 rfl) rfl rfl ?_
  refine r_icmp_le (tgt := 73) (dc D_cJ7_rangeCheck_23922_0 30 rfl) (by decide) rhi rN (fun _ => ?_) (fun c => absurd h.2.2 c)
  exact r_vret (dc D_cJ7_rangeCheck_23922_0 36 rfl) rfl rfl
theorem fill4_loop {k n : Nat} {lo hi : Nat} {v : Int} (hk : lay[k]? = some (.inl (0, n))) (hn : n ≤ 1000000) (hv : Rg v) (hh : hi ≤ n) (hΦ : Φ 0 (fl2 σ k lo hi v)) (f : Nat) : ∀ j : Nat, lo ≤ j → j ≤ hi → hi - j ≤ f → RW lay E mi_fill4 Φ 10 [some (.ref (eA E k)), some (.int (iz (lo : Int))), some (.int (iz (hi : Int))), some (.int (iz v)), some (.int (iz (j : Int)))] [] (fl2 σ k lo j v) x := by
  induction f with
  | zero =>
    intro j h0 h1 h2
    have e0 : j = hi := by omega
    subst e0
    refine r_iload (dc D_cJ7_fill_fda19_0 7 rfl) rfl ?_
    refine r_iloadn (dc D_cJ7_fill_fda19_0 8 rfl) rfl rfl ?_
    refine r_icmp_ge (tgt := 27) (dc D_cJ7_fill_fda19_0 9 rfl) (by decide) ⟨by omega, by omega⟩ ⟨by omega, by omega⟩ (fun _ => ?_) (fun c => absurd (Int.le_refl _) c)
    exact r_vret (dc D_cJ7_fill_fda19_0 16 rfl) rfl hΦ
  | succ f ih =>
    intro j h0 h1 h2
    refine r_iload (dc D_cJ7_fill_fda19_0 7 rfl) rfl ?_
    refine r_iloadn (dc D_cJ7_fill_fda19_0 8 rfl) rfl rfl ?_
    refine r_icmp_ge (tgt := 27) (dc D_cJ7_fill_fda19_0 9 rfl) (by decide) ⟨by omega, by omega⟩ ⟨by omega, by omega⟩ (fun c => ?_) (fun c => ?_)
    · have e0 : j = hi := by omega
      subst e0
      exact r_vret (dc D_cJ7_fill_fda19_0 16 rfl) rfl hΦ
    · refine r_aloadn (dc D_cJ7_fill_fda19_0 10 rfl) rfl rfl ?_
      refine r_iload (dc D_cJ7_fill_fda19_0 11 rfl) rfl ?_
      refine r_iloadn (dc D_cJ7_fill_fda19_0 12 rfl) rfl rfl ?_
      refine r_iast (N := (n : Int)) (dc D_cJ7_fill_fda19_0 13 rfl) hk rfl (Nat.ble_eq.mpr hn) ⟨by omega, by omega⟩ hv ?_
      refine r_iinc (lv' := [some (.ref (eA E k)), some (.int (iz (lo : Int))), some (.int (iz (hi : Int))), some (.int (iz v)), some (.int (iz ((j : Int) + 1)))]) (dc D_cJ7_fill_fda19_0 14 rfl) rfl rfl rfl ?_
      refine r_goto (tgt := 10) (dc D_cJ7_fill_fda19_0 15 rfl) (by decide) ?_
      have e1 : up2 (fl2 σ k lo j v) k ((j : Int).toNat) v = fl2 σ k lo (j + 1) v := fl2_s h0
      rw [e1]
      exact ih (j + 1) (by omega) (by omega) (by omega)
theorem C_fill4 (hE : eOK lay E) {k n : Nat} {lo hi : Nat} {v : Int} (hk : lay[k]? = some (.inl (0, n))) (hn : n ≤ 1000000) (hv : Rg v) (h1 : lo ≤ hi) (h2 : hi ≤ n) (σ : PS) (hs : RS σ) : CT lay E yJ7_fill_fda19 mi_fill4 [.ref (eA E k), .int (iz (lo : Int)), .int (iz (hi : Int)), .int (iz v)] σ (fun _ σ1 => σ1 = fl2 σ k lo hi v) := by
  refine ct_of (by decide +kernel) rfl hE rfl rfl hs (fun x => ?_)
  show RW lay E mi_fill4 _ 0 [some (.ref (eA E k)), some (.int (iz (lo : Int))), some (.int (iz (hi : Int))), some (.int (iz v)), none] [] σ x
  refine r_aloadn (dc D_cJ7_fill_fda19_0 0 rfl) rfl rfl ?_
  refine r_alen (N := (n : Int)) (dc D_cJ7_fill_fda19_0 1 rfl) hk rfl rfl ?_
  refine r_iloadn (dc D_cJ7_fill_fda19_0 2 rfl) rfl rfl ?_
  refine r_iloadn (dc D_cJ7_fill_fda19_0 3 rfl) rfl rfl ?_
  refine r_callS (As := [.int (iz (n : Int)), .int (iz (lo : Int)), .int (iz (hi : Int))]) (st := []) (dc D_cJ7_fill_fda19_0 4 rfl) cw_RJ7_13 nm_rangeCheck (C_rangeCheck hE ⟨by omega, by omega⟩ ⟨by omega, by omega⟩ ⟨by omega, by omega⟩ ⟨by omega, by omega, by omega⟩ σ hs) rfl (by decide) rfl rfl rfl (fun z σ1 _ _ e => ?_)
  rw [e]
  show RW lay E mi_fill4 _ 7 [some (.ref (eA E k)), some (.int (iz (lo : Int))), some (.int (iz (hi : Int))), some (.int (iz v)), none] [] σ x
  refine r_iloadn (dc D_cJ7_fill_fda19_0 5 rfl) rfl rfl ?_
  refine r_istore (lv' := [some (.ref (eA E k)), some (.int (iz (lo : Int))), some (.int (iz (hi : Int))), some (.int (iz v)), some (.int (iz (lo : Int)))]) (dc D_cJ7_fill_fda19_0 6 rfl) rfl rfl ?_
  have h := fill4_loop (E := E) (x := x) (σ := σ) (lo := lo) (Φ := fun _ σ1 => σ1 = fl2 σ k lo hi v) hk hn hv h2 rfl (hi - lo) lo (Nat.le_refl _) h1 (Nat.le_refl _)
  rw [fl2_0] at h
  exact h
theorem r_fill4 {idx k n : Nat} {lo hi v N : Int} (d : decode M.1 pc = .ok (.invokestatic idx, 3)) (cw : CWS M.2.1 idx yJ7_fill_fda19 mi_fill4) (hk : lay[k]? = some (.inl (0, n))) (hN : (n : Int) = N) (hn : Nat.ble n 1000000 = true) (rlo : Rg lo) (rhi : Rg hi) (hv : Rg v) (h : 0 ≤ lo ∧ lo ≤ hi ∧ hi ≤ N) (hlv : 4 ≤ M.2.2.2.1) (hcat : Nat.ble ((st.map fun v => v.category).sum) 8 = true) (kk : RW lay E M Φ (pc + 3) lv st (fl2 σ k lo.toNat hi.toNat v) x) : RW lay E M Φ pc lv (.int (iz v) :: .int (iz hi) :: .int (iz lo) :: .ref (eA E k) :: st) σ x := by
  refine r_eok (fun hE => r_rs (fun hs => ?_))
  obtain ⟨lo, rfl⟩ : ∃ z : Nat, lo = (z : Int) := ⟨lo.toNat, by omega⟩
  obtain ⟨hi, rfl⟩ : ∃ z : Nat, hi = (z : Int) := ⟨hi.toNat, by omega⟩
  exact r_callS (As := [.ref (eA E k), .int (iz (lo : Int)), .int (iz (hi : Int)), .int (iz v)]) d cw nm_fill4 (C_fill4 hE hk (Nat.le_of_ble_eq_true hn) hv (by omega) (by omega) σ hs) rfl hlv rfl rfl hcat (fun z σ1 _ _ e => by rw [e]; exact kk)
end JdkA
section JdkS
variable {lay : List LE} {E : EV} {M M2 : MI} {Φ : Int → PS → Prop} {pc : Nat} {lv lv' : List (Option Value)} {st st0 : List Value} {σ : PS} {x : CX}
theorem r_nret {a : Int} {ty : FieldType} (d : decode M.1 pc = .ok (.ireturn, 1)) (hM : M.2.2.2.2 = (some ty, 1)) (hn : narrow ty (.int (iz a)) = .int (iz a)) (ha : Rg a) (h : Φ a σ) : RW lay E M Φ pc lv [.int (iz a)] σ x := by
  obtain ⟨p, e, R, s, m, args, below, meth, c⟩ := x
  intro ok hσ H locs ls hP hS hl
  obtain ⟨hx, hb, hml, hown, hts, hK, hE, hV, hlk, hr, -⟩ := id ok
  rw [hM] at hr ⊢
  exact W.zret hx hb hr hn (fun t ht _ => ⟨a, σ, rfl, by rw [ht]; exact hP, hσ, ha, h, hS.F ht⟩) (fun q hq => hS.2.2 q hq) d hlk
theorem r_gcs (d : decode M.1 pc = .ok (.getstatic 38, 3)) (hM : M.2.1 = RJ0) (k : RW lay E M Φ (pc + 3) lv (.int (iz 1) :: st) σ x) : RW lay E M Φ pc lv st σ x := by
  obtain ⟨p, e, R, s, m, args, below, meth, c⟩ := x
  intro ok hσ H locs ls hP hS hl
  obtain ⟨hx, hb, hml, hown, hts, hK, hE, hV, hlk, hr, -⟩ := id ok
  rw [hM] at hown
  exact va_gets hx hb hV.2.2.2.1 hS hown (hts _ fl_RJ0_38) (fun _ h => h) d (k ok hσ H locs ls hP hS hl)
theorem r_sval {q : Nat} (hq : q < 9) (d : decode M.1 pc = .ok (.getfield 9, 3)) (hM : M.2.1 = RJ0) (k : RW lay E M Φ (pc + 3) lv (.ref (eV E q) :: st) σ x) : RW lay E M Φ pc lv (.ref (eS E q) :: st) σ x := by
  obtain ⟨p, e, R, s, m, args, below, meth, c⟩ := x
  intro ok hσ H locs ls hP hS hl
  obtain ⟨hx, hb, hml, hown, hts, hK, hE, hV, hlk, hr, -⟩ := id ok
  rw [hM] at hown
  exact vk_getf hx hb (hV.1.1 q hq).2.2.1 hS hown (hts _ fl_RJ0_9) (fun _ h => h) d (k ok hσ H locs ls hP hS hl)
theorem r_scod {q : Nat} (hq : q < 9) (d : decode M.1 pc = .ok (.getfield 15, 3)) (hM : M.2.1 = RJ0) (k : RW lay E M Φ (pc + 3) lv (.int (iz 0) :: st) σ x) : RW lay E M Φ pc lv (.ref (eS E q) :: st) σ x := by
  obtain ⟨p, e, R, s, m, args, below, meth, c⟩ := x
  intro ok hσ H locs ls hP hS hl
  obtain ⟨hx, hb, hml, hown, hts, hK, hE, hV, hlk, hr, -⟩ := id ok
  rw [hM] at hown
  exact vk_getf hx hb (hV.1.1 q hq).2.1 hS hown (hts _ fl_RJ0_15) (fun _ h => h) d (k ok hσ H locs ls hP hS hl)
theorem r_slenA {q : Nat} (hq : q < 9) (d : decode M.1 pc = .ok (.arraylength, 1)) (k : RW lay E M Φ (pc + 1) lv (.int (iz (slen q)) :: st) σ x) : RW lay E M Φ pc lv (.ref (eV E q) :: st) σ x := by
  obtain ⟨p, e, R, s, m, args, below, meth, c⟩ := x
  intro ok hσ H locs ls hP hS hl
  obtain ⟨hx, hb, hml, hown, hts, hK, hE, hV, hlk, hr, -⟩ := id ok
  exact va_tlen hx hb (hV.1.1 q hq).2.2.2 hS (v := iz (slen q)) rfl d (k ok hσ H locs ls hP hS hl)
theorem r_sbald {q : Nat} {i : Int} (hq : q < 9) (hi : 0 ≤ i ∧ i < slen q) (d : decode M.1 pc = .ok (.baload, 1)) (k : RW lay E M Φ (pc + 1) lv (.int (iz (schr q i.toNat)) :: st) σ x) : RW lay E M Φ pc lv (.int (iz i) :: .ref (eV E q) :: st) σ x := by
  obtain ⟨p, e, R, s, m, args, below, meth, c⟩ := x
  intro ok hσ H locs ls hP hS hl
  obtain ⟨hx, hb, hml, hown, hts, hK, hE, hV, hlk, hr, -⟩ := id ok
  have hb2 : kLen.getD q 0 ≤ 1000000 := by
    have := (slen_all q hq).2.1
    unfold slen at this
    omega
  obtain ⟨h1, h2⟩ := iz_in (i := i) (N := slen q) (n := kLen.getD q 0) rfl (Nat.ble_eq.mpr hb2) hi
  refine va_tb hx hb (hV.1.1 q hq).2.2.2 hS h1 (v := .int (iz (schr q i.toNat))) ?_ d (k ok hσ H locs ls hP hS hl)
  rw [h2]
  show Value.int ((kByt.getD q []).getD i.toNat 0) = Value.int (iz (schr q i.toNat))
  rw [schr, iz_of]
theorem i2c_small : ∀ n : Nat, n < 128 → ((iz (n : Int)).toUInt32 % 65536).toInt32 = iz (n : Int) ∧ narrow .char (.int (iz (n : Int))) = .int (iz (n : Int)) := by decide +kernel
theorem r_i2c {a : Int} (d : decode M.1 pc = .ok (.i2c, 1)) (h : 0 ≤ a ∧ a < 128) (k : RW lay E M Φ (pc + 1) lv (.int (iz a) :: st) σ x) : RW lay E M Φ pc lv (.int (iz a) :: st) σ x := by
  obtain ⟨p, e, R, s, m, args, below, meth, c⟩ := x
  intro ok hσ H locs ls hP hS hl
  obtain ⟨hx, hb, -⟩ := id ok
  obtain ⟨n, rfl⟩ : ∃ n : Nat, a = (n : Int) := ⟨a.toNat, by omega⟩
  exact lv_i2c hx hb d (i2c_small n (by omega)).1 (k ok hσ H locs ls hP hS hl)
theorem r_callT {idx q n : Nat} {y : MethodName} {As : List Value} {Ψ : Int → PS → Prop} (d : decode M.1 pc = .ok (.invokevirtual idx, 3)) (cw : CWV M.2.1 idx y M2) (hy : ynm y n) (hM : CT lay E y M2 (.ref (eS E q) :: As) σ Ψ) (hq : q < 9) (hyc : y.cls = "java/lang/String") (hn : As.length = n) (hlv : M2.2.2.2.1 + 1 ≤ M.2.2.2.1) (hL : Nat.ble M2.2.2.1 40 = true) (hst : st0 = As.reverse ++ .ref (eS E q) :: st) (hcat : Nat.ble ((st.map fun v => v.category).sum) 8 = true)
    (k : ∀ (z : Int) (σ' : PS), Rg z → RS σ' → Ψ z σ' → RW lay E M Φ (pc + 3) lv ((rvv E M2.2.2.2.2.2 z).toList ++ st) σ' x) : RW lay E M Φ pc lv st0 σ x := by
  obtain ⟨p, e, R, s, m, args, below, meth, c⟩ := x
  intro ok hσ H locs ls hP hS hl
  obtain ⟨hx, hb, hml, hown, hts, hK, hE, hV, hlk, hr, hfr, hlo⟩ := id ok
  have hG : GoodIn TB (wsV M.2.1 idx y.cls y (.code y M2.1 M2.2.2.1 M2.2.2.2.2.1 :: TB)) := by
    intro w hw
    rcases List.mem_append.mp hw with h | h
    · exact good_in (cw w (by simp at h ⊢; rcases h with h | h | h | h <;> simp [h]))
    · rcases List.mem_cons.mp h with h | h
      · exact good_in (cw w (by rw [h]; simp))
      · exact TB_good w h
  have hrecv := vk_recv hV.1 hq hS
  rw [← hyc] at hrecv
  refine r_ofRun (va_runV (As := As) (rest := st) ⟨hx, hb, hml, hown, hts⟩ hM (cwV n hts hG rfl rfl rfl ⟨rfl, hy.1.1, hy.1.2, hy.2⟩ (lvl_room hfr hlo hlv hL)) ⟨PU_blind, hrecv, fun U hU hW => ⟨rfl, PU_at hK hV hP hS U hU hW⟩⟩ rfl hn hl.1 hst (lv_room (Nat.le_of_ble_eq_true hcat)) d ⟨Nat.zero_le _, Nat.zero_le _⟩) hS (fun z σ' hz hσ' hΨ H1 locs1 hP1 hS1 => ?_)
  exact k z σ' hz hσ' hΨ ok hσ' H1 locs1 ls hP1 hS1 hl
theorem C_coder (hE : eOK lay E) {q : Nat} (hq : q < 9) (σ : PS) (hs : RS σ) : CT lay E yJ0_coder_7d493 mi_coder [.ref (eS E q)] σ (fun z σ1 => z = 0 ∧ σ1 = σ) := by
  refine ct_of (by decide +kernel) rfl hE rfl rfl hs (fun x => ?_)
  show RW lay E mi_coder _ 0 [some (.ref (eS E q))] [] σ x
  refine r_gcs (dc D_cJ0_coder_7d493_0 0 rfl) rfl ?_
  refine r_if_eq (tgt := 13) (dc D_cJ0_coder_7d493_0 1 rfl) (by decide) (Rl rfl) (fun c => absurd c (by decide)) (fun _ => ?_)
  refine r_aloadn (dc D_cJ0_coder_7d493_0 2 rfl) rfl rfl ?_
  refine r_scod hq (dc D_cJ0_coder_7d493_0 3 rfl) rfl ?_
  refine r_goto (tgt := 14) (dc D_cJ0_coder_7d493_0 4 rfl) (by decide) ?_
  exact r_nret (ty := .byte) (dc D_cJ0_coder_7d493_0 6 rfl) rfl (by decide +kernel) (Rl rfl) ⟨rfl, rfl⟩
theorem C_isLatin1 (hE : eOK lay E) {q : Nat} (hq : q < 9) (σ : PS) (hs : RS σ) : CT lay E yJ0_isLatin1_aae02 mi_isLatin1 [.ref (eS E q)] σ (fun z σ1 => z = 1 ∧ σ1 = σ) := by
  refine ct_of (by decide +kernel) rfl hE rfl rfl hs (fun x => ?_)
  show RW lay E mi_isLatin1 _ 0 [some (.ref (eS E q))] [] σ x
  refine r_gcs (dc D_cJ0_isLatin1_aae02_0 0 rfl) rfl ?_
  refine r_if_eq (tgt := 17) (dc D_cJ0_isLatin1_aae02_0 1 rfl) (by decide) (Rl rfl) (fun c => absurd c (by decide)) (fun _ => ?_)
  refine r_aloadn (dc D_cJ0_isLatin1_aae02_0 2 rfl) rfl rfl ?_
  refine r_scod hq (dc D_cJ0_isLatin1_aae02_0 3 rfl) rfl ?_
  refine r_if_ne (tgt := 17) (dc D_cJ0_isLatin1_aae02_0 4 rfl) (by decide) (Rl rfl) (fun c => absurd rfl c) (fun _ => ?_)
  refine r_iconst (dc D_cJ0_isLatin1_aae02_0 5 rfl) ?_
  refine r_goto (tgt := 18) (dc D_cJ0_isLatin1_aae02_0 6 rfl) (by decide) ?_
  exact r_zret (dc D_cJ0_isLatin1_aae02_0 8 rfl) rfl (by decide) ⟨rfl, rfl⟩
theorem C_Slength (hE : eOK lay E) {q : Nat} (hq : q < 9) (σ : PS) (hs : RS σ) : CT lay E yJ0_length_8abf5 mi_Slength [.ref (eS E q)] σ (fun z σ1 => z = slen q ∧ σ1 = σ) := by
  refine ct_of (by decide +kernel) rfl hE rfl rfl hs (fun x => ?_)
  show RW lay E mi_Slength _ 0 [some (.ref (eS E q))] [] σ x
  refine r_aloadn (dc D_cJ0_length_8abf5_0 0 rfl) rfl rfl ?_
  refine r_sval hq (dc D_cJ0_length_8abf5_0 1 rfl) rfl ?_
  refine r_slenA hq (dc D_cJ0_length_8abf5_0 2 rfl) ?_
  refine r_aloadn (dc D_cJ0_length_8abf5_0 3 rfl) rfl rfl ?_
  refine r_callT (As := []) (st := [.int (iz (slen q))]) (dc D_cJ0_length_8abf5_0 4 rfl) cw_RJ0_335 nm_coder (C_coder hE hq σ hs) hq rfl rfl (by decide) rfl rfl rfl (fun z σ1 _ _ e => ?_)
  rw [e.1, e.2]
  show RW lay E mi_Slength _ 9 [some (.ref (eS E q))] [.int (iz 0), .int (iz (slen q))] σ x
  refine r_ishr (dc D_cJ0_length_8abf5_0 5 rfl) ?_
  rw [(slen_all q hq).2.2]
  exact r_iret (dc D_cJ0_length_8abf5_0 6 rfl) rfl (Rg_slen hq) ⟨rfl, rfl⟩
theorem C_PcheckIndex (hE : eOK lay E) {i n : Int} (ri : Rg i) (rn : Rg n) (h : 0 ≤ i ∧ i < n) (v : Value) (hv : (v.category == 1) = true) (σ : PS) (hs : RS σ) : CT lay E yJ3_checkIndex_8e157 mi_PcheckIndex [.int (iz i), .int (iz n), v] σ (fun _ σ1 => σ1 = σ) := by
  refine ct_of (by decide +kernel) rfl hE rfl (by show (true && (true && ((v.category == 1) && true))) = true; rw [hv]; rfl) hs (fun x => ?_)
  show RW lay E mi_PcheckIndex _ 0 [some (.int (iz i)), some (.int (iz n)), some v] [] σ x
  refine r_iloadn (dc D_cJ3_checkIndex_8e157_0 0 rfl) rfl rfl ?_
  refine r_if_lt (tgt := 9) (dc D_cJ3_checkIndex_8e157_0 1 rfl) (by decide) ri (fun c => absurd h.1 (by omega)) (fun _ => ?_)
  refine r_iloadn (dc D_cJ3_checkIndex_8e157_0 2 rfl) rfl rfl ?_
  refine r_iloadn (dc D_cJ3_checkIndex_8e157_0 3 rfl) rfl rfl ?_
  refine r_icmp_lt (tgt := 16) (dc D_cJ3_checkIndex_8e157_0 4 rfl) (by decide) ri rn (fun _ => ?_) (fun c => absurd h.2 c)
  refine r_iloadn (dc D_cJ3_checkIndex_8e157_0 10 rfl) rfl rfl ?_
  exact r_iret (dc D_cJ3_checkIndex_8e157_0 11 rfl) rfl ri rfl
theorem r_gfm (d : decode M.1 pc = .ok (.getstatic 1053, 3)) (hM : M.2.1 = RJ0) (k : ∀ v : Value, (v.category == 1) = true → RW lay E M Φ (pc + 3) lv (v :: st) σ x) : RW lay E M Φ pc lv st σ x := by
  obtain ⟨p, e, R, s, m, args, below, meth, c⟩ := x
  intro ok hσ H locs ls hP hS hl
  obtain ⟨hx, hb, hml, hown, hts, hK, hE, hV, hlk, hr, -⟩ := id ok
  rw [hM] at hown
  rcases hV.2.2.2.2 with hZ | ⟨t, hZ⟩
  · exact va_gets hx hb hZ hS hown (hts _ fl_RJ0_1053) (fun _ h => h) d (k _ rfl ok hσ H locs ls hP hS hl)
  · exact va_gets hx hb hZ hS hown (hts _ fl_RJ0_1053) (fun _ h => h) d (k _ rfl ok hσ H locs ls hP hS hl)
theorem C_ScheckIndex (hE : eOK lay E) {i n : Int} (ri : Rg i) (rn : Rg n) (h : 0 ≤ i ∧ i < n) (σ : PS) (hs : RS σ) : CT lay E yJ0_checkIndex_df160 mi_ScheckIndex [.int (iz i), .int (iz n)] σ (fun _ σ1 => σ1 = σ) := by
  refine ct_of (by decide +kernel) rfl hE rfl rfl hs (fun x => ?_)
  show RW lay E mi_ScheckIndex _ 0 [some (.int (iz i)), some (.int (iz n))] [] σ x
  refine r_iloadn (dc D_cJ0_checkIndex_df160_0 0 rfl) rfl rfl ?_
  refine r_iloadn (dc D_cJ0_checkIndex_df160_0 1 rfl) rfl rfl ?_
  refine r_gfm (dc D_cJ0_checkIndex_df160_0 2 rfl) rfl (fun v hv => ?_)
  refine r_callS (As := [.int (iz i), .int (iz n), v]) (st := []) (dc D_cJ0_checkIndex_df160_0 3 rfl) cw_RJ0_1059 nm_PcheckIndex (C_PcheckIndex hE ri rn h v hv σ hs) rfl (by decide) rfl rfl rfl (fun z σ1 _ _ e => ?_)
  rw [e]
  show RW lay E mi_ScheckIndex _ 8 [some (.int (iz i)), some (.int (iz n))] [.int (iz z)] σ x
  refine r_pop (dc D_cJ0_checkIndex_df160_0 4 rfl) rfl ?_
  exact r_vret (dc D_cJ0_checkIndex_df160_0 5 rfl) rfl rfl
theorem C_L1charAt (hE : eOK lay E) {q : Nat} {i : Int} (hq : q < 9) (ri : Rg i) (h : 0 ≤ i ∧ i < slen q) (σ : PS) (hs : RS σ) : CT lay E yJ1_charAt_3b067 mi_L1charAt [.ref (eV E q), .int (iz i)] σ (fun z σ1 => z = schr q i.toNat ∧ σ1 = σ) := by
  refine ct_of (by decide +kernel) rfl hE rfl rfl hs (fun x => ?_)
  show RW lay E mi_L1charAt _ 0 [some (.ref (eV E q)), some (.int (iz i))] [] σ x
  refine r_iloadn (dc D_cJ1_charAt_3b067_0 0 rfl) rfl rfl ?_
  refine r_aloadn (dc D_cJ1_charAt_3b067_0 1 rfl) rfl rfl ?_
  refine r_slenA hq (dc D_cJ1_charAt_3b067_0 2 rfl) ?_
  refine r_callS (As := [.int (iz i), .int (iz (slen q))]) (st := []) (dc D_cJ1_charAt_3b067_0 3 rfl) cw_RJ1_9 nm_ScheckIndex (C_ScheckIndex hE ri (Rg_slen hq) h σ hs) rfl (by decide) rfl rfl rfl (fun z σ1 _ _ e => ?_)
  rw [e]
  show RW lay E mi_L1charAt _ 6 [some (.ref (eV E q)), some (.int (iz i))] [] σ x
  refine r_aloadn (dc D_cJ1_charAt_3b067_0 4 rfl) rfl rfl ?_
  refine r_iloadn (dc D_cJ1_charAt_3b067_0 5 rfl) rfl rfl ?_
  refine r_sbald hq h (dc D_cJ1_charAt_3b067_0 6 rfl) ?_
  refine r_sipush (n := 255) (dc D_cJ1_charAt_3b067_0 7 rfl) (by decide +kernel) ?_
  refine r_iand (dc D_cJ1_charAt_3b067_0 8 rfl) ?_
  obtain ⟨h1, h2, h3⟩ := schr_all q hq i.toNat (by have := h.2; unfold slen at this; omega)
  rw [h3]
  refine r_i2c (dc D_cJ1_charAt_3b067_0 9 rfl) ⟨h1, h2⟩ ?_
  refine r_nret (ty := .char) (dc D_cJ1_charAt_3b067_0 10 rfl) rfl ?_ (Rg_schr _ _) ⟨rfl, rfl⟩
  have h4 := (i2c_small (schr q i.toNat).toNat (by omega)).2
  rw [Int.toNat_of_nonneg h1] at h4
  exact h4
theorem C_ScharAt (hE : eOK lay E) {q : Nat} {i : Int} (hq : q < 9) (ri : Rg i) (h : 0 ≤ i ∧ i < slen q) (σ : PS) (hs : RS σ) : CT lay E yJ0_charAt_5068e mi_ScharAt [.ref (eS E q), .int (iz i)] σ (fun z σ1 => z = schr q i.toNat ∧ σ1 = σ) := by
  refine ct_of (by decide +kernel) rfl hE rfl rfl hs (fun x => ?_)
  show RW lay E mi_ScharAt _ 0 [some (.ref (eS E q)), some (.int (iz i))] [] σ x
  refine r_aloadn (dc D_cJ0_charAt_5068e_0 0 rfl) rfl rfl ?_
  refine r_callT (As := []) (st := []) (dc D_cJ0_charAt_5068e_0 1 rfl) cw_RJ0_492 nm_isLatin1 (C_isLatin1 hE hq σ hs) hq rfl rfl (by decide) rfl rfl rfl (fun z σ1 _ _ e => ?_)
  rw [e.1, e.2]
  show RW lay E mi_ScharAt _ 4 [some (.ref (eS E q)), some (.int (iz i))] [.int (iz 1)] σ x
  refine r_if_eq (tgt := 16) (dc D_cJ0_charAt_5068e_0 2 rfl) (by decide) (Rl rfl) (fun c => absurd c (by decide)) (fun _ => ?_)
  refine r_aloadn (dc D_cJ0_charAt_5068e_0 3 rfl) rfl rfl ?_
  refine r_sval hq (dc D_cJ0_charAt_5068e_0 4 rfl) rfl ?_
  refine r_iloadn (dc D_cJ0_charAt_5068e_0 5 rfl) rfl rfl ?_
  refine r_callS (As := [.ref (eV E q), .int (iz i)]) (st := []) (dc D_cJ0_charAt_5068e_0 6 rfl) cw_RJ0_495 nm_L1charAt (C_L1charAt hE hq ri h σ hs) rfl (by decide) rfl rfl rfl (fun z σ1 _ _ e => ?_)
  rw [e.1, e.2]
  show RW lay E mi_ScharAt _ 15 [some (.ref (eS E q)), some (.int (iz i))] [.int (iz (schr q i.toNat))] σ x
  obtain ⟨h1, h2, h3⟩ := schr_all q hq i.toNat (by have := h.2; unfold slen at this; omega)
  refine r_nret (ty := .char) (dc D_cJ0_charAt_5068e_0 7 rfl) rfl ?_ (Rg_schr _ _) ⟨rfl, rfl⟩
  have h4 := (i2c_small (schr q i.toNat).toNat (by omega)).2
  rw [Int.toNat_of_nonneg h1] at h4
  exact h4
theorem r_strlen {idx k : Nat} (d : decode M.1 pc = .ok (.invokevirtual idx, 3)) (cw : CWV M.2.1 idx yJ0_length_8abf5 mi_Slength) (hk : k < 9) (hlv : Nat.ble 8 M.2.2.2.1 = true) (hcat : Nat.ble ((st.map fun v => v.category).sum) 8 = true) (kk : RW lay E M Φ (pc + 3) lv (.int (iz (slen k)) :: st) σ x) : RW lay E M Φ pc lv (.ref (eS E k) :: st) σ x := by
  refine r_eok (fun hE => r_rs (fun hs => ?_))
  exact r_callT (As := []) d cw nm_Slength (C_Slength hE hk σ hs) hk rfl rfl (Nat.le_of_ble_eq_true hlv) rfl rfl hcat (fun z σ1 _ _ e => by rw [e.1, e.2]; exact kk)
theorem r_strat {idx k : Nat} {i : Int} (d : decode M.1 pc = .ok (.invokevirtual idx, 3)) (cw : CWV M.2.1 idx yJ0_charAt_5068e mi_ScharAt) (h : k < 9 ∧ 0 ≤ i ∧ i < slen k) (hlv : Nat.ble 8 M.2.2.2.1 = true) (hcat : Nat.ble ((st.map fun v => v.category).sum) 8 = true) (kk : RW lay E M Φ (pc + 3) lv (.int (iz (schr k i.toNat)) :: st) σ x) : RW lay E M Φ pc lv (.int (iz i) :: .ref (eS E k) :: st) σ x := by
  refine r_eok (fun hE => r_rs (fun hs => ?_))
  have hb := (slen_all k h.1).2.1
  exact r_callT (As := [.int (iz i)]) d cw nm_ScharAt (C_ScharAt hE h.1 ⟨by omega, by omega⟩ h.2 σ hs) h.1 rfl rfl (Nat.le_of_ble_eq_true hlv) rfl rfl hcat (fun z σ1 _ _ e => by rw [e.1, e.2]; exact kk)
end JdkS
