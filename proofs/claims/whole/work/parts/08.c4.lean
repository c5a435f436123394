def mi_X2_takeWord : MI := (cX2_takeWord, RX2, 4, 9, (some .int), 1)
def BX2_takeWord_57 (K57 : Int → Int → PS → Prop) (x2 x3 : Int) (σ : PS) (Φ : Int → PS → Prop) : Prop :=
  ((8 ≤ x3 →
    FX9_fail x2 σ (fun z2 σ3 =>
    Φ (-1) σ3)) ∧
  (¬ 8 ≤ x3 →
    FX2_nameOf x3 σ (fun z4 σ5 =>
    FX2_isWord x2 z4 σ5 (fun z6 σ7 =>
    ((z6 = 0 →
      Rg (x3 + 1) ∧
      K57 x2 (x3 + 1) σ7) ∧
    (¬ z6 = 0 →
      Φ x3 σ7))))))
def LX2_takeWord_57 : Nat → Int → Int → PS → (Int → PS → Prop) → Prop
  | 0, _, _, _, _ => False
  | n + 1, x2, x3, σ, Φ => BX2_takeWord_57 (fun x2 x3 σ => LX2_takeWord_57 n x2 x3 σ Φ) x2 x3 σ Φ
def LX2_takeWord_55 (x2 : Int) (σ : PS) (Φ : Int → PS → Prop) : Prop :=
  ∃ n, LX2_takeWord_57 n x2 0 σ Φ
def BX2_takeWord_7 (K7 : Int → Int → PS → Prop) (x2 x3 : Int) (σ : PS) (Φ : Int → PS → Prop) : Prop :=
  ((90 ≤ x3 →
    LX2_takeWord_55 x2 σ Φ) ∧
  (¬ 90 ≤ x3 →
    FX9_byteAt (σ 9 2) σ (fun z2 σ3 =>
    ((z2 < 97 →
      LX2_takeWord_55 x2 σ3 Φ) ∧
    (¬ z2 < 97 →
      FX9_byteAt (σ3 9 2) σ3 (fun z5 σ6 =>
      ((122 < z5 →
        LX2_takeWord_55 x2 σ6 Φ) ∧
      (¬ 122 < z5 →
        Rg ((σ6 9 2) + 1) ∧
        ∀ σ9 : PS, σ9 = up2 σ6 9 2 ((σ6 9 2) + 1) →
        Rg (x3 + 1) ∧
        K7 x2 (x3 + 1) σ9))))))))
def LX2_takeWord_7 : Nat → Int → Int → PS → (Int → PS → Prop) → Prop
  | 0, _, _, _, _ => False
  | n + 1, x2, x3, σ, Φ => BX2_takeWord_7 (fun x2 x3 σ => LX2_takeWord_7 n x2 x3 σ Φ) x2 x3 σ Φ
def FX2_takeWord (σ : PS) (Φ : Int → PS → Prop) : Prop :=
  ∀ v1 : Int, v1 = σ 9 2 →
  ∃ n, LX2_takeWord_7 n v1 0 σ Φ
theorem cw_RX2_99 : CWS RX2 99 yX2_nameOf mi_X2_nameOf := tb_r [1006, 1007, 106, 1008] (by decide +kernel)
theorem nm_yX2_nameOf : ynm yX2_nameOf 1 := ⟨⟨by decide +kernel, by decide +kernel⟩, by decide +kernel⟩
theorem cw_RX2_103 : CWS RX2 103 yX2_isWord mi_X2_isWord := tb_r [1017, 1018, 106, 1019] (by decide +kernel)
theorem nm_yX2_isWord : ynm yX2_isWord 3 := ⟨⟨by decide +kernel, by decide +kernel⟩, by decide +kernel⟩
set_option maxRecDepth 100000 in
theorem TBX2_takeWord_57 {E : EV} (hE : eOK layC E) {Φ : Int → PS → Prop} {K57 : Int → Int → PS → Prop} (x : CX) (hK57 : ∀ (x2 x3 : Int) (σ : PS), Rg x2 → Rg x3 → RS σ → K57 x2 x3 σ → RW layC E mi_X2_takeWord Φ 57 [none, some (.ref (eA E 9)), some (.int (iz x2)), some (.int (iz x3))] [] σ x) (x2 x3 : Int) (rx2 : Rg x2) (rx3 : Rg x3) (σ : PS) (hs : RS σ) (h : BX2_takeWord_57 K57 x2 x3 σ Φ) : RW layC E mi_X2_takeWord Φ 57 [none, some (.ref (eA E 9)), some (.int (iz x2)), some (.int (iz x3))] [] σ x := by
  refine r_iloadn (dc D_cX2_takeWord_0 30 rfl) rfl rfl ?_
  refine r_bipush (n := 8) (dc D_cX2_takeWord_0 31 rfl) (by decide +kernel) ?_
  refine r_icmp_ge (tgt := 83) (dc D_cX2_takeWord_0 32 rfl) (by decide) rx3 (Rl rfl) (fun c1 => ?_) (fun c1 => ?_)
  · have h := h.1 c1
    refine r_aloadn (dc D_cX2_takeWord_1 3 rfl) rfl rfl ?_
    refine r_iloadn (dc D_cX2_takeWord_1 4 rfl) rfl rfl ?_
    refine r_callV (As := [.int (iz x2)]) (st := []) (dc D_cX2_takeWord_1 5 rfl) cw_RX2_55 nm_yX9_fail (CX9_fail hE _ rx2 _ hs h) lC_9 rfl rfl (by decide) rfl rfl rfl (fun z2 σ3 rz2 hσ3 h => ?_)
    show RW layC E mi_X2_takeWord Φ 88 [none, some (.ref (eA E 9)), some (.int (iz x2)), some (.int (iz x3))] [] σ3 x
    refine r_iconst (n := (-1)) (dc D_cX2_takeWord_1 6 rfl) ?_
    exact r_iret (dc D_cX2_takeWord_1 7 rfl) rfl (Rl rfl) h
  · have h := h.2 c1
    refine r_aloadn (dc D_cX2_takeWord_0 33 rfl) rfl rfl ?_
    refine r_iloadn (dc D_cX2_takeWord_0 34 rfl) rfl rfl ?_
    refine r_iloadn (dc D_cX2_takeWord_0 35 rfl) rfl rfl ?_
    refine r_callS (As := [.int (iz x3)]) (st := [.int (iz x2), .ref (eA E 9)]) (dc D_cX2_takeWord_0 36 rfl) cw_RX2_99 nm_yX2_nameOf (CX2_nameOf hE _ rx3 _ hs h) rfl (by decide) rfl rfl rfl (fun z4 σ5 rz4 hσ5 h => ?_)
    show RW layC E mi_X2_takeWord Φ 69 [none, some (.ref (eA E 9)), some (.int (iz x2)), some (.int (iz x3))] [.ref (eS E (z4.toNat)), .int (iz x2), .ref (eA E 9)] σ5 x
    refine r_callS (As := [.ref (eA E 9), .int (iz x2), .ref (eS E (z4.toNat))]) (st := []) (dc D_cX2_takeWord_0 37 rfl) cw_RX2_103 nm_yX2_isWord (CX2_isWord hE _ _ rx2 rz4 _ hσ5 h) rfl (by decide) rfl rfl rfl (fun z6 σ7 rz6 hσ7 h => ?_)
    show RW layC E mi_X2_takeWord Φ 72 [none, some (.ref (eA E 9)), some (.int (iz x2)), some (.int (iz x3))] [.int (iz z6)] σ7 x
    refine r_if_eq (tgt := 77) (dc D_cX2_takeWord_0 38 rfl) (by decide) rz6 (fun c8 => ?_) (fun c8 => ?_)
    · have h := h.1 c8
      obtain ⟨o9, h⟩ := h
      refine r_iinc (lv' := [none, some (.ref (eA E 9)), some (.int (iz x2)), some (.int (iz (x3 + 1)))]) (dc D_cX2_takeWord_1 1 rfl) rfl rfl rfl ?_
      refine r_goto (tgt := 57) (dc D_cX2_takeWord_1 2 rfl) (by decide) ?_
      exact hK57 _ _ _ rx2 o9 hσ7 h
    · have h := h.2 c8
      refine r_iloadn (dc D_cX2_takeWord_0 39 rfl) rfl rfl ?_
      exact r_iret (dc D_cX2_takeWord_1 0 rfl) rfl rx3 h
theorem TX2_takeWord_57 {E : EV} (hE : eOK layC E) {Φ : Int → PS → Prop} (x : CX) (n : Nat) : ∀ (x2 x3 : Int) (σ : PS), Rg x2 → Rg x3 → RS σ → LX2_takeWord_57 n x2 x3 σ Φ → RW layC E mi_X2_takeWord Φ 57 [none, some (.ref (eA E 9)), some (.int (iz x2)), some (.int (iz x3))] [] σ x := by
  induction n with
  | zero => intro x2 x3 σ _ _ _ h; exact h.elim
  | succ n ih => intro x2 x3 σ rx2 rx3 hs h; exact TBX2_takeWord_57 hE x ih x2 x3 rx2 rx3 σ hs h
set_option maxRecDepth 100000 in
theorem TX2_takeWord_55 {E : EV} (hE : eOK layC E) {Φ : Int → PS → Prop} (x : CX) (x2 : Int) (rx2 : Rg x2) (σ : PS) (hs : RS σ) (h : LX2_takeWord_55 x2 σ Φ) : RW layC E mi_X2_takeWord Φ 55 [none, some (.ref (eA E 9)), some (.int (iz x2)), none] [] σ x := by
  refine r_iconst (n := 0) (dc D_cX2_takeWord_0 28 rfl) ?_
  refine r_istoren (lv' := [none, some (.ref (eA E 9)), some (.int (iz x2)), some (.int (iz 0))]) (dc D_cX2_takeWord_0 29 rfl) rfl rfl rfl ?_
  obtain ⟨n, h⟩ := h
  exact TX2_takeWord_57 hE x n _ _ _ rx2 (Rl rfl) hs h
set_option maxRecDepth 100000 in
theorem TBX2_takeWord_7 {E : EV} (hE : eOK layC E) {Φ : Int → PS → Prop} {K7 : Int → Int → PS → Prop} (x : CX) (hK7 : ∀ (x2 x3 : Int) (σ : PS), Rg x2 → Rg x3 → RS σ → K7 x2 x3 σ → RW layC E mi_X2_takeWord Φ 7 [none, some (.ref (eA E 9)), some (.int (iz x2)), some (.int (iz x3))] [] σ x) (x2 x3 : Int) (rx2 : Rg x2) (rx3 : Rg x3) (σ : PS) (hs : RS σ) (h : BX2_takeWord_7 K7 x2 x3 σ Φ) : RW layC E mi_X2_takeWord Φ 7 [none, some (.ref (eA E 9)), some (.int (iz x2)), some (.int (iz x3))] [] σ x := by
  refine r_iloadn (dc D_cX2_takeWord_0 5 rfl) rfl rfl ?_
  refine r_bipush (n := 90) (dc D_cX2_takeWord_0 6 rfl) (by decide +kernel) ?_
  refine r_icmp_ge (tgt := 55) (dc D_cX2_takeWord_0 7 rfl) (by decide) rx3 (Rl rfl) (fun c1 => ?_) (fun c1 => ?_)
  · have h := h.1 c1
    refine r_sub (lv' := [none, some (.ref (eA E 9)), some (.int (iz x2)), none]) (subL_n (subL_s (subL_s (subL_n subL_e)))) ?_
    exact TX2_takeWord_55 hE x _ rx2 _ hs h
  · have h := h.2 c1
    refine r_aloadn (dc D_cX2_takeWord_0 8 rfl) rfl rfl ?_
    refine r_aloadn (dc D_cX2_takeWord_0 9 rfl) rfl rfl ?_
    refine r_getI (dc D_cX2_takeWord_0 10 rfl) fw_RX2_52 lC_9 rfl ?_
    refine r_callV (As := [.int (iz (σ 9 2))]) (st := []) (dc D_cX2_takeWord_0 11 rfl) cw_RX2_81 nm_yX9_byteAt (CX9_byteAt hE _ (hs _ _) _ hs h) lC_9 rfl rfl (by decide) rfl rfl rfl (fun z2 σ3 rz2 hσ3 h => ?_)
    show RW layC E mi_X2_takeWord Φ 21 [none, some (.ref (eA E 9)), some (.int (iz x2)), some (.int (iz x3))] [.int (iz z2)] σ3 x
    refine r_bipush (n := 97) (dc D_cX2_takeWord_0 12 rfl) (by decide +kernel) ?_
    refine r_icmp_lt (tgt := 55) (dc D_cX2_takeWord_0 13 rfl) (by decide) rz2 (Rl rfl) (fun c4 => ?_) (fun c4 => ?_)
    · have h := h.1 c4
      refine r_sub (lv' := [none, some (.ref (eA E 9)), some (.int (iz x2)), none]) (subL_n (subL_s (subL_s (subL_n subL_e)))) ?_
      exact TX2_takeWord_55 hE x _ rx2 _ hσ3 h
    · have h := h.2 c4
      refine r_aloadn (dc D_cX2_takeWord_0 14 rfl) rfl rfl ?_
      refine r_aloadn (dc D_cX2_takeWord_0 15 rfl) rfl rfl ?_
      refine r_getI (dc D_cX2_takeWord_0 16 rfl) fw_RX2_52 lC_9 rfl ?_
      refine r_callV (As := [.int (iz (σ3 9 2))]) (st := []) (dc D_cX2_takeWord_0 17 rfl) cw_RX2_81 nm_yX9_byteAt (CX9_byteAt hE _ (hσ3 _ _) _ hσ3 h) lC_9 rfl rfl (by decide) rfl rfl rfl (fun z5 σ6 rz5 hσ6 h => ?_)
      show RW layC E mi_X2_takeWord Φ 34 [none, some (.ref (eA E 9)), some (.int (iz x2)), some (.int (iz x3))] [.int (iz z5)] σ6 x
      refine r_bipush (n := 122) (dc D_cX2_takeWord_0 18 rfl) (by decide +kernel) ?_
      refine r_icmp_gt (tgt := 55) (dc D_cX2_takeWord_0 19 rfl) (by decide) rz5 (Rl rfl) (fun c7 => ?_) (fun c7 => ?_)
      · have h := h.1 c7
        refine r_sub (lv' := [none, some (.ref (eA E 9)), some (.int (iz x2)), none]) (subL_n (subL_s (subL_s (subL_n subL_e)))) ?_
        exact TX2_takeWord_55 hE x _ rx2 _ hσ6 h
      · have h := h.2 c7
        refine r_aloadn (dc D_cX2_takeWord_0 20 rfl) rfl rfl ?_
        refine r_dup (dc D_cX2_takeWord_0 21 rfl) rfl ?_
        refine r_getI (dc D_cX2_takeWord_0 22 rfl) fw_RX2_52 lC_9 rfl ?_
        refine r_iconst (n := 1) (dc D_cX2_takeWord_0 23 rfl) ?_
        refine r_iadd (dc D_cX2_takeWord_0 24 rfl) ?_
        obtain ⟨o8, h⟩ := h
        refine r_put (dc D_cX2_takeWord_0 25 rfl) fw_RX2_52 fp_9_2 lC_9 rfl (nar_int _) o8 ?_
        refine r_sig (fun σ9 eσ9 => ?_)
        have h := h σ9 eσ9
        have hσ9 : RS σ9 := RS_eq eσ9 (RS.up hσ6 o8 _ _)
        obtain ⟨o10, h⟩ := h
        refine r_iinc (lv' := [none, some (.ref (eA E 9)), some (.int (iz x2)), some (.int (iz (x3 + 1)))]) (dc D_cX2_takeWord_0 26 rfl) rfl rfl rfl ?_
        refine r_goto (tgt := 7) (dc D_cX2_takeWord_0 27 rfl) (by decide) ?_
        exact hK7 _ _ _ rx2 o10 hσ9 h
theorem TX2_takeWord_7 {E : EV} (hE : eOK layC E) {Φ : Int → PS → Prop} (x : CX) (n : Nat) : ∀ (x2 x3 : Int) (σ : PS), Rg x2 → Rg x3 → RS σ → LX2_takeWord_7 n x2 x3 σ Φ → RW layC E mi_X2_takeWord Φ 7 [none, some (.ref (eA E 9)), some (.int (iz x2)), some (.int (iz x3))] [] σ x := by
  induction n with
  | zero => intro x2 x3 σ _ _ _ h; exact h.elim
  | succ n ih => intro x2 x3 σ rx2 rx3 hs h; exact TBX2_takeWord_7 hE x ih x2 x3 rx2 rx3 σ hs h
set_option maxRecDepth 100000 in
theorem CX2_takeWord {E : EV} (hE : eOK layC E) {Φ : Int → PS → Prop} (σ : PS) (hs : RS σ) (h : FX2_takeWord σ Φ) : CT layC E yX2_takeWord mi_X2_takeWord [.ref (eA E 10), .ref (eA E 9)] σ Φ := by
  refine ct_of (by decide +kernel) rfl hE rfl rfl hs (fun x => ?_)
  show RW layC E mi_X2_takeWord Φ 0 [some (.ref (eA E 10)), some (.ref (eA E 9)), none, none] [] σ x
  refine r_aloadn (dc D_cX2_takeWord_0 0 rfl) rfl rfl ?_
  refine r_getI (dc D_cX2_takeWord_0 1 rfl) fw_RX2_52 lC_9 rfl ?_
  refine r_name (fun v1 ev1 => ?_)
  have h := h v1 ev1
  have rv1 : Rg v1 := Rg_eq ev1 (hs _ _)
  refine r_istoren (lv' := [some (.ref (eA E 10)), some (.ref (eA E 9)), some (.int (iz v1)), none]) (dc D_cX2_takeWord_0 2 rfl) rfl rfl rfl ?_
  refine r_iconst (n := 0) (dc D_cX2_takeWord_0 3 rfl) ?_
  refine r_istoren (lv' := [some (.ref (eA E 10)), some (.ref (eA E 9)), some (.int (iz v1)), some (.int (iz 0))]) (dc D_cX2_takeWord_0 4 rfl) rfl rfl rfl ?_
  refine r_sub (lv' := [none, some (.ref (eA E 9)), some (.int (iz v1)), some (.int (iz 0))]) (subL_n (subL_s (subL_s (subL_s subL_e)))) ?_
  obtain ⟨n, h⟩ := h
  exact TX2_takeWord_7 hE x n _ _ _ rv1 (Rl rfl) hs h
-- end of GateFlow$Condition.takeWord
def mi_X2_valueOf : MI := (cX2_valueOf, RX2, 4, 1, (some .int), 1)
def FX2_valueOf (a1 a3 a4 : Int) (σ : PS) (Φ : Int → PS → Prop) : Prop :=
  (a1 = 0 →
    (0 ≤ a3 ∧ a3 < 30) ∧
    Φ (σ 13 a3.toNat) σ) ∧
  (a1 = 1 →
    (0 ≤ a3 ∧ a3 < 30) ∧
    Φ (σ 14 a3.toNat) σ) ∧
  (a1 = 2 →
    (0 ≤ a3 ∧ a3 < 30) ∧
    Φ (σ 16 a3.toNat) σ) ∧
  (a1 = 3 →
    (0 ≤ a3 ∧ a3 < 30) ∧
    Φ (σ 15 a3.toNat) σ) ∧
  (a1 = 4 →
    (0 ≤ a3 ∧ a3 < 30) ∧
    Φ (σ 17 a3.toNat) σ) ∧
  (a1 = 5 →
    Φ a4 σ) ∧
  (a1 = 6 →
    (0 ≤ a3 ∧ a3 < 30) ∧
    Rg ((σ 16 a3.toNat) - a4) ∧
    Φ ((σ 16 a3.toNat) - a4) σ) ∧
  ((a1 < 0 ∨ 6 < a1) →
    (0 ≤ a3 ∧ a3 < 30) ∧
    Rg (1 - (σ 18 a3.toNat)) ∧
    Φ (1 - (σ 18 a3.toNat)) σ)
theorem fw_RX2_92 : FW RX2 92 3 6 := ⟨RX3, TX3, 9, rfl, by decide, rfl, tb_1 176 (by decide +kernel), uw_3⟩
theorem fw_RX2_132 : FW RX2 132 3 0 := ⟨RX3, TX3, 9, rfl, by decide, rfl, tb_1 140 (by decide +kernel), uw_3⟩
theorem fw_RX2_143 : FW RX2 143 3 5 := ⟨RX3, TX3, 9, rfl, by decide, rfl, tb_1 166 (by decide +kernel), uw_3⟩
theorem fw_RX2_136 : FW RX2 136 3 3 := ⟨RX3, TX3, 9, rfl, by decide, rfl, tb_1 157 (by decide +kernel), uw_3⟩
theorem fw_RX2_141 : FW RX2 141 3 4 := ⟨RX3, TX3, 9, rfl, by decide, rfl, tb_1 162 (by decide +kernel), uw_3⟩
theorem fw_RX2_139 : FW RX2 139 3 2 := ⟨RX3, TX3, 9, rfl, by decide, rfl, tb_1 153 (by decide +kernel), uw_3⟩
theorem fw_RX2_134 : FW RX2 134 3 1 := ⟨RX3, TX3, 9, rfl, by decide, rfl, tb_1 149 (by decide +kernel), uw_3⟩
set_option maxRecDepth 100000 in
theorem CX2_valueOf {E : EV} (hE : eOK layC E) {Φ : Int → PS → Prop} (a1 a3 a4 : Int) (ra1 : Rg a1) (ra3 : Rg a3) (ra4 : Rg a4) (σ : PS) (hs : RS σ) (h : FX2_valueOf a1 a3 a4 σ Φ) : CT layC E yX2_valueOf mi_X2_valueOf [.int (iz a1), .ref (eA E 1), .int (iz a3), .int (iz a4)] σ Φ := by
  refine ct_of (by decide +kernel) rfl hE rfl rfl hs (fun x => ?_)
  show RW layC E mi_X2_valueOf Φ 0 [some (.int (iz a1)), some (.ref (eA E 1)), some (.int (iz a3)), some (.int (iz a4))] [] σ x
  refine r_iloadn (dc D_cX2_valueOf_0 0 rfl) rfl rfl ?_
  refine r_by (c := a1 = 0) (fun c2 => ?_) (fun nc2 => ?_)
  · refine r_swIn (tgt := 44) (off := 43) (v := 0) (dc D_cX2_valueOf_0 1 rfl) c2 (by decide) (by decide) ?_
    have h := h.1 c2
    refine r_aloadn (dc D_cX2_valueOf_0 2 rfl) rfl rfl ?_
    refine r_getR (dc D_cX2_valueOf_0 3 rfl) fw_RX2_132 lC_1 rfl ?_
    refine r_iloadn (dc D_cX2_valueOf_0 4 rfl) rfl rfl ?_
    obtain ⟨o1, h⟩ := h
    refine r_iald (N := 30) (dc D_cX2_valueOf_0 5 rfl) lC_13 rfl rfl o1 ?_
    exact r_iret (dc D_cX2_valueOf_0 6 rfl) rfl (hs _ _) h
  replace h := h.2
  refine r_by (c := a1 = 1) (fun c4 => ?_) (fun nc4 => ?_)
  · refine r_swIn (tgt := 51) (off := 50) (v := 1) (dc D_cX2_valueOf_0 1 rfl) c4 (by decide) (by decide) ?_
    have h := h.1 c4
    refine r_aloadn (dc D_cX2_valueOf_0 7 rfl) rfl rfl ?_
    refine r_getR (dc D_cX2_valueOf_0 8 rfl) fw_RX2_134 lC_1 rfl ?_
    refine r_iloadn (dc D_cX2_valueOf_0 9 rfl) rfl rfl ?_
    obtain ⟨o3, h⟩ := h
    refine r_iald (N := 30) (dc D_cX2_valueOf_0 10 rfl) lC_14 rfl rfl o3 ?_
    exact r_iret (dc D_cX2_valueOf_0 11 rfl) rfl (hs _ _) h
  replace h := h.2
  refine r_by (c := a1 = 2) (fun c6 => ?_) (fun nc6 => ?_)
  · refine r_swIn (tgt := 58) (off := 57) (v := 2) (dc D_cX2_valueOf_0 1 rfl) c6 (by decide) (by decide) ?_
    have h := h.1 c6
    refine r_aloadn (dc D_cX2_valueOf_0 12 rfl) rfl rfl ?_
    refine r_getR (dc D_cX2_valueOf_0 13 rfl) fw_RX2_136 lC_1 rfl ?_
    refine r_iloadn (dc D_cX2_valueOf_0 14 rfl) rfl rfl ?_
    obtain ⟨o5, h⟩ := h
    refine r_iald (N := 30) (dc D_cX2_valueOf_0 15 rfl) lC_16 rfl rfl o5 ?_
    exact r_iret (dc D_cX2_valueOf_0 16 rfl) rfl (hs _ _) h
  replace h := h.2
  refine r_by (c := a1 = 3) (fun c8 => ?_) (fun nc8 => ?_)
  · refine r_swIn (tgt := 65) (off := 64) (v := 3) (dc D_cX2_valueOf_0 1 rfl) c8 (by decide) (by decide) ?_
    have h := h.1 c8
    refine r_aloadn (dc D_cX2_valueOf_0 17 rfl) rfl rfl ?_
    refine r_getR (dc D_cX2_valueOf_0 18 rfl) fw_RX2_139 lC_1 rfl ?_
    refine r_iloadn (dc D_cX2_valueOf_0 19 rfl) rfl rfl ?_
    obtain ⟨o7, h⟩ := h
    refine r_iald (N := 30) (dc D_cX2_valueOf_0 20 rfl) lC_15 rfl rfl o7 ?_
    exact r_iret (dc D_cX2_valueOf_0 21 rfl) rfl (hs _ _) h
  replace h := h.2
  refine r_by (c := a1 = 4) (fun c10 => ?_) (fun nc10 => ?_)
  · refine r_swIn (tgt := 72) (off := 71) (v := 4) (dc D_cX2_valueOf_0 1 rfl) c10 (by decide) (by decide) ?_
    have h := h.1 c10
    refine r_aloadn (dc D_cX2_valueOf_0 22 rfl) rfl rfl ?_
    refine r_getR (dc D_cX2_valueOf_0 23 rfl) fw_RX2_141 lC_1 rfl ?_
    refine r_iloadn (dc D_cX2_valueOf_0 24 rfl) rfl rfl ?_
    obtain ⟨o9, h⟩ := h
    refine r_iald (N := 30) (dc D_cX2_valueOf_0 25 rfl) lC_17 rfl rfl o9 ?_
    exact r_iret (dc D_cX2_valueOf_0 26 rfl) rfl (hs _ _) h
  replace h := h.2
  refine r_by (c := a1 = 5) (fun c11 => ?_) (fun nc11 => ?_)
  · refine r_swIn (tgt := 79) (off := 78) (v := 5) (dc D_cX2_valueOf_0 1 rfl) c11 (by decide) (by decide) ?_
    have h := h.1 c11
    refine r_iloadn (dc D_cX2_valueOf_0 27 rfl) rfl rfl ?_
    exact r_iret (dc D_cX2_valueOf_0 28 rfl) rfl ra4 h
  replace h := h.2
  refine r_by (c := a1 = 6) (fun c14 => ?_) (fun nc14 => ?_)
  · refine r_swIn (tgt := 81) (off := 80) (v := 6) (dc D_cX2_valueOf_0 1 rfl) c14 (by decide) (by decide) ?_
    have h := h.1 c14
    refine r_aloadn (dc D_cX2_valueOf_0 29 rfl) rfl rfl ?_
    refine r_getR (dc D_cX2_valueOf_0 30 rfl) fw_RX2_136 lC_1 rfl ?_
    refine r_iloadn (dc D_cX2_valueOf_0 31 rfl) rfl rfl ?_
    obtain ⟨o12, h⟩ := h
    refine r_iald (N := 30) (dc D_cX2_valueOf_0 32 rfl) lC_16 rfl rfl o12 ?_
    refine r_iloadn (dc D_cX2_valueOf_0 33 rfl) rfl rfl ?_
    refine r_isub (dc D_cX2_valueOf_0 34 rfl) ?_
    obtain ⟨o13, h⟩ := h
    exact r_iret (dc D_cX2_valueOf_0 35 rfl) rfl o13 h
  replace h := h.2
  have c17 : a1 < 0 ∨ 6 < a1 := by omega
  have h := h c17
  refine r_swOut (tgt := 90) (dc D_cX2_valueOf_0 1 rfl) (by decide) ra1 c17 ?_
  refine r_iconst (n := 1) (dc D_cX2_valueOf_0 36 rfl) ?_
  refine r_aloadn (dc D_cX2_valueOf_0 37 rfl) rfl rfl ?_
  refine r_getR (dc D_cX2_valueOf_0 38 rfl) fw_RX2_143 lC_1 rfl ?_
  refine r_iloadn (dc D_cX2_valueOf_0 39 rfl) rfl rfl ?_
  obtain ⟨o15, h⟩ := h
  refine r_iald (N := 30) (dc D_cX2_valueOf_1 0 rfl) lC_18 rfl rfl o15 ?_
  refine r_isub (dc D_cX2_valueOf_1 1 rfl) ?_
  obtain ⟨o16, h⟩ := h
  exact r_iret (dc D_cX2_valueOf_1 2 rfl) rfl o16 h
-- end of GateFlow$Condition.valueOf
def mi_X2_takeComparison : MI := (cX2_takeComparison, RX2, 11, 10, (some .int), 1)
def LX2_takeComparison_163 (K53 : Int → Int → Int → Int → Int → PS → Prop) (x4 x5 x6 x8 s0 s1 : Int) (σ : PS) (Φ : Int → PS → Prop) : Prop :=
  ∀ v1 : Int, v1 = ior s0 s1 →
  Rg (x8 + 1) ∧
  K53 x4 x5 x6 v1 (x8 + 1) σ
def LX2_takeComparison_146 (K53 : Int → Int → Int → Int → Int → PS → Prop) (x4 x5 x6 x7 x8 s0 : Int) (σ : PS) (Φ : Int → PS → Prop) : Prop :=
  ((s0 = 0 →
    LX2_takeComparison_163 K53 x4 x5 x6 x8 x7 0 σ Φ) ∧
  (¬ s0 = 0 →
    LX2_takeComparison_163 K53 x4 x5 x6 x8 x7 (ishl 1 x8) σ Φ))
def BX2_takeComparison_53 (K53 : Int → Int → Int → Int → Int → PS → Prop) (x4 x5 x6 x7 x8 : Int) (σ : PS) (Φ : Int → PS → Prop) : Prop :=
  ((σ 1 6 ≤ x8 →
    Φ x7 σ) ∧
  (¬ σ 1 6 ≤ x8 →
    ((30 ≤ x8 →
      Φ x7 σ) ∧
    (¬ 30 ≤ x8 →
      ((0 ≤ σ 9 3 →
        Φ x7 σ) ∧
      (¬ 0 ≤ σ 9 3 →
        (0 ≤ x8 ∧ x8 < 30) ∧
        FX2_valueOf x4 x8 (σ 25 x8.toNat) σ (fun z5 σ6 =>
        ((¬ x5 = 60 →
          ((¬ x5 = 62 →
            ((¬ z5 = x6 →
              LX2_takeComparison_146 K53 x4 x5 x6 x7 x8 0 σ6 Φ) ∧
            (z5 = x6 →
              LX2_takeComparison_146 K53 x4 x5 x6 x7 x8 1 σ6 Φ))) ∧
          (x5 = 62 →
            ((z5 ≤ x6 →
              LX2_takeComparison_146 K53 x4 x5 x6 x7 x8 0 σ6 Φ) ∧
            (¬ z5 ≤ x6 →
              LX2_takeComparison_146 K53 x4 x5 x6 x7 x8 1 σ6 Φ))))) ∧
        (x5 = 60 →
          ((x6 ≤ z5 →
            LX2_takeComparison_146 K53 x4 x5 x6 x7 x8 0 σ6 Φ) ∧
          (¬ x6 ≤ z5 →
            LX2_takeComparison_146 K53 x4 x5 x6 x7 x8 1 σ6 Φ)))))))))))
def LX2_takeComparison_53 : Nat → Int → Int → Int → Int → Int → PS → (Int → PS → Prop) → Prop
  | 0, _, _, _, _, _, _, _ => False
  | n + 1, x4, x5, x6, x7, x8, σ, Φ => BX2_takeComparison_53 (fun x4 x5 x6 x7 x8 σ => LX2_takeComparison_53 n x4 x5 x6 x7 x8 σ Φ) x4 x5 x6 x7 x8 σ Φ
def LX2_takeComparison_41 (x4 x5 : Int) (σ : PS) (Φ : Int → PS → Prop) : Prop :=
  FX9_number σ (fun z1 σ2 =>
  ∃ n, LX2_takeComparison_53 n x4 x5 z1 0 0 σ2 Φ)
def FX2_takeComparison (σ : PS) (Φ : Int → PS → Prop) : Prop :=
  FX2_takeWord σ (fun z1 σ2 =>
  FX9_byteAt (σ2 9 2) σ2 (fun z3 σ4 =>
  FX9_takes 60 σ4 (fun z5 σ6 =>
  ((¬ z5 = 0 →
    LX2_takeComparison_41 z1 z3 σ6 Φ) ∧
  (z5 = 0 →
    FX9_takes 61 σ6 (fun z8 σ9 =>
    ((¬ z8 = 0 →
      LX2_takeComparison_41 z1 z3 σ9 Φ) ∧
    (z8 = 0 →
      FX9_expect 62 σ9 (fun z11 σ12 =>
      LX2_takeComparison_41 z1 z3 σ12 Φ)))))))))
theorem cw_RX2_95 : CWS RX2 95 yX2_valueOf mi_X2_valueOf := tb_r [1071, 1072, 106, 1073] (by decide +kernel)
theorem nm_yX2_valueOf : ynm yX2_valueOf 4 := ⟨⟨by decide +kernel, by decide +kernel⟩, by decide +kernel⟩
theorem cw_RX2_89 : CWV RX2 89 yX9_number mi_X9_number := tb_r [1070, 954, 955, 105, 956] (by decide +kernel)
theorem cw_RX2_77 : CWV RX2 77 yX2_takeWord mi_X2_takeWord := tb_r [1001, 1003, 34, 106, 1004] (by decide +kernel)
theorem nm_yX2_takeWord : ynm yX2_takeWord 1 := ⟨⟨by decide +kernel, by decide +kernel⟩, by decide +kernel⟩
theorem cw_RX2_85 : CWV RX2 85 yX9_expect mi_X9_expect := tb_r [1069, 963, 964, 105, 965] (by decide +kernel)
set_option maxRecDepth 100000 in
theorem TX2_takeComparison_163 {E : EV} (hE : eOK layC E) {Φ : Int → PS → Prop} {K53 : Int → Int → Int → Int → Int → PS → Prop} (x : CX) (hK53 : ∀ (x4 x5 x6 x7 x8 : Int) (σ : PS), Rg x4 → Rg x5 → Rg x6 → Rg x7 → Rg x8 → RS σ → K53 x4 x5 x6 x7 x8 σ → RW layC E mi_X2_takeComparison Φ 53 [none, some (.ref (eA E 9)), some (.ref (eA E 1)), some (.ref (eA E 25)), some (.int (iz x4)), some (.int (iz x5)), some (.int (iz x6)), some (.int (iz x7)), some (.int (iz x8)), none, none] [] σ x) (x4 x5 x6 x8 s0 s1 : Int) (rx4 : Rg x4) (rx5 : Rg x5) (rx6 : Rg x6) (rx8 : Rg x8) (rs0 : Rg s0) (rs1 : Rg s1) (σ : PS) (hs : RS σ) (h : LX2_takeComparison_163 K53 x4 x5 x6 x8 s0 s1 σ Φ) : RW layC E mi_X2_takeComparison Φ 163 [none, some (.ref (eA E 9)), some (.ref (eA E 1)), some (.ref (eA E 25)), some (.int (iz x4)), some (.int (iz x5)), some (.int (iz x6)), none, some (.int (iz x8)), none, none] [.int (iz s1), .int (iz s0)] σ x := by
  refine r_ior (dc D_cX2_takeComparison_2 1 rfl) ?_
  refine r_name (fun v1 ev1 => ?_)
  have h := h v1 ev1
  have rv1 : Rg v1 := Rg_eq ev1 (Rg_of _)
  refine r_istore (lv' := [none, some (.ref (eA E 9)), some (.ref (eA E 1)), some (.ref (eA E 25)), some (.int (iz x4)), some (.int (iz x5)), some (.int (iz x6)), some (.int (iz v1)), some (.int (iz x8)), none, none]) (dc D_cX2_takeComparison_2 2 rfl) rfl rfl ?_
  obtain ⟨o2, h⟩ := h
  refine r_iinc (lv' := [none, some (.ref (eA E 9)), some (.ref (eA E 1)), some (.ref (eA E 25)), some (.int (iz x4)), some (.int (iz x5)), some (.int (iz x6)), some (.int (iz v1)), some (.int (iz (x8 + 1))), none, none]) (dc D_cX2_takeComparison_2 3 rfl) rfl rfl rfl ?_
  refine r_goto (tgt := 53) (dc D_cX2_takeComparison_2 4 rfl) (by decide) ?_
  exact hK53 _ _ _ _ _ _ rx4 rx5 rx6 rv1 o2 hs h
set_option maxRecDepth 100000 in
theorem TX2_takeComparison_146 {E : EV} (hE : eOK layC E) {Φ : Int → PS → Prop} {K53 : Int → Int → Int → Int → Int → PS → Prop} (x : CX) (hK53 : ∀ (x4 x5 x6 x7 x8 : Int) (σ : PS), Rg x4 → Rg x5 → Rg x6 → Rg x7 → Rg x8 → RS σ → K53 x4 x5 x6 x7 x8 σ → RW layC E mi_X2_takeComparison Φ 53 [none, some (.ref (eA E 9)), some (.ref (eA E 1)), some (.ref (eA E 25)), some (.int (iz x4)), some (.int (iz x5)), some (.int (iz x6)), some (.int (iz x7)), some (.int (iz x8)), none, none] [] σ x) (x4 x5 x6 x7 x8 s0 : Int) (rx4 : Rg x4) (rx5 : Rg x5) (rx6 : Rg x6) (rx7 : Rg x7) (rx8 : Rg x8) (rs0 : Rg s0) (σ : PS) (hs : RS σ) (h : LX2_takeComparison_146 K53 x4 x5 x6 x7 x8 s0 σ Φ) : RW layC E mi_X2_takeComparison Φ 146 [none, some (.ref (eA E 9)), some (.ref (eA E 1)), some (.ref (eA E 25)), some (.int (iz x4)), some (.int (iz x5)), some (.int (iz x6)), some (.int (iz x7)), some (.int (iz x8)), none, none] [.int (iz s0)] σ x := by
  refine r_istore (lv' := [none, some (.ref (eA E 9)), some (.ref (eA E 1)), some (.ref (eA E 25)), some (.int (iz x4)), some (.int (iz x5)), some (.int (iz x6)), some (.int (iz x7)), some (.int (iz x8)), none, some (.int (iz s0))]) (dc D_cX2_takeComparison_1 32 rfl) rfl rfl ?_
  refine r_iload (dc D_cX2_takeComparison_1 33 rfl) rfl ?_
  refine r_iload (dc D_cX2_takeComparison_1 34 rfl) rfl ?_
  refine r_if_eq (tgt := 162) (dc D_cX2_takeComparison_1 35 rfl) (by decide) rs0 (fun c1 => ?_) (fun c1 => ?_)
  · have h := h.1 c1
    refine r_iconst (n := 0) (dc D_cX2_takeComparison_2 0 rfl) ?_
    refine r_sub (lv' := [none, some (.ref (eA E 9)), some (.ref (eA E 1)), some (.ref (eA E 25)), some (.int (iz x4)), some (.int (iz x5)), some (.int (iz x6)), none, some (.int (iz x8)), none, none]) (subL_n (subL_s (subL_s (subL_s (subL_s (subL_s (subL_s (subL_n (subL_s (subL_n (subL_n subL_e))))))))))) ?_
    exact TX2_takeComparison_163 hE x hK53 _ _ _ _ _ _ rx4 rx5 rx6 rx8 rx7 (Rl rfl) _ hs h
  · have h := h.2 c1
    refine r_iconst (n := 1) (dc D_cX2_takeComparison_1 36 rfl) ?_
    refine r_iload (dc D_cX2_takeComparison_1 37 rfl) rfl ?_
    refine r_ishl (dc D_cX2_takeComparison_1 38 rfl) ?_
    refine r_goto (tgt := 163) (dc D_cX2_takeComparison_1 39 rfl) (by decide) ?_
    refine r_sub (lv' := [none, some (.ref (eA E 9)), some (.ref (eA E 1)), some (.ref (eA E 25)), some (.int (iz x4)), some (.int (iz x5)), some (.int (iz x6)), none, some (.int (iz x8)), none, none]) (subL_n (subL_s (subL_s (subL_s (subL_s (subL_s (subL_s (subL_n (subL_s (subL_n (subL_n subL_e))))))))))) ?_
    exact TX2_takeComparison_163 hE x hK53 _ _ _ _ _ _ rx4 rx5 rx6 rx8 rx7 (Rg_of _) _ hs h
set_option maxRecDepth 100000 in
theorem TBX2_takeComparison_53 {E : EV} (hE : eOK layC E) {Φ : Int → PS → Prop} {K53 : Int → Int → Int → Int → Int → PS → Prop} (x : CX) (hK53 : ∀ (x4 x5 x6 x7 x8 : Int) (σ : PS), Rg x4 → Rg x5 → Rg x6 → Rg x7 → Rg x8 → RS σ → K53 x4 x5 x6 x7 x8 σ → RW layC E mi_X2_takeComparison Φ 53 [none, some (.ref (eA E 9)), some (.ref (eA E 1)), some (.ref (eA E 25)), some (.int (iz x4)), some (.int (iz x5)), some (.int (iz x6)), some (.int (iz x7)), some (.int (iz x8)), none, none] [] σ x) (x4 x5 x6 x7 x8 : Int) (rx4 : Rg x4) (rx5 : Rg x5) (rx6 : Rg x6) (rx7 : Rg x7) (rx8 : Rg x8) (σ : PS) (hs : RS σ) (h : BX2_takeComparison_53 K53 x4 x5 x6 x7 x8 σ Φ) : RW layC E mi_X2_takeComparison Φ 53 [none, some (.ref (eA E 9)), some (.ref (eA E 1)), some (.ref (eA E 25)), some (.int (iz x4)), some (.int (iz x5)), some (.int (iz x6)), some (.int (iz x7)), some (.int (iz x8)), none, none] [] σ x := by
  refine r_iload (dc D_cX2_takeComparison_0 27 rfl) rfl ?_
  refine r_aloadn (dc D_cX2_takeComparison_0 28 rfl) rfl rfl ?_
  refine r_getI (dc D_cX2_takeComparison_0 29 rfl) fw_RX2_92 lC_1 rfl ?_
  refine r_icmp_ge (tgt := 172) (dc D_cX2_takeComparison_0 30 rfl) (by decide) rx8 (hs _ _) (fun c1 => ?_) (fun c1 => ?_)
  · have h := h.1 c1
    refine r_iload (dc D_cX2_takeComparison_2 5 rfl) rfl ?_
    exact r_iret (dc D_cX2_takeComparison_2 6 rfl) rfl rx7 h
  · have h := h.2 c1
    refine r_iload (dc D_cX2_takeComparison_0 31 rfl) rfl ?_
    refine r_aloadn (dc D_cX2_takeComparison_0 32 rfl) rfl rfl ?_
    refine r_alen (N := 30) (dc D_cX2_takeComparison_0 33 rfl) lC_25 rfl rfl ?_
    refine r_icmp_ge (tgt := 172) (dc D_cX2_takeComparison_0 34 rfl) (by decide) rx8 (Rl rfl) (fun c2 => ?_) (fun c2 => ?_)
    · have h := h.1 c2
      refine r_iload (dc D_cX2_takeComparison_2 5 rfl) rfl ?_
      exact r_iret (dc D_cX2_takeComparison_2 6 rfl) rfl rx7 h
    · have h := h.2 c2
      refine r_aloadn (dc D_cX2_takeComparison_0 35 rfl) rfl rfl ?_
      refine r_getI (dc D_cX2_takeComparison_0 36 rfl) fw_RX2_25 lC_9 rfl ?_
      refine r_if_ge (tgt := 172) (dc D_cX2_takeComparison_0 37 rfl) (by decide) (hs _ _) (fun c3 => ?_) (fun c3 => ?_)
      · have h := h.1 c3
        refine r_iload (dc D_cX2_takeComparison_2 5 rfl) rfl ?_
        exact r_iret (dc D_cX2_takeComparison_2 6 rfl) rfl rx7 h
      · have h := h.2 c3
        refine r_iload (dc D_cX2_takeComparison_0 38 rfl) rfl ?_
        refine r_aloadn (dc D_cX2_takeComparison_0 39 rfl) rfl rfl ?_
        refine r_iload (dc D_cX2_takeComparison_1 0 rfl) rfl ?_
        refine r_aloadn (dc D_cX2_takeComparison_1 1 rfl) rfl rfl ?_
        refine r_iload (dc D_cX2_takeComparison_1 2 rfl) rfl ?_
        obtain ⟨o4, h⟩ := h
        refine r_iald (N := 30) (dc D_cX2_takeComparison_1 3 rfl) lC_25 rfl rfl o4 ?_
        refine r_callS (As := [.int (iz x4), .ref (eA E 1), .int (iz x8), .int (iz (σ 25 x8.toNat))]) (st := []) (dc D_cX2_takeComparison_1 4 rfl) cw_RX2_95 nm_yX2_valueOf (CX2_valueOf hE _ _ _ rx4 rx8 (hs _ _) _ hs h) rfl (by decide) rfl rfl rfl (fun z5 σ6 rz5 hσ6 h => ?_)
        show RW layC E mi_X2_takeComparison Φ 88 [none, some (.ref (eA E 9)), some (.ref (eA E 1)), some (.ref (eA E 25)), some (.int (iz x4)), some (.int (iz x5)), some (.int (iz x6)), some (.int (iz x7)), some (.int (iz x8)), none, none] [.int (iz z5)] σ6 x
        refine r_istore (lv' := [none, some (.ref (eA E 9)), some (.ref (eA E 1)), some (.ref (eA E 25)), some (.int (iz x4)), some (.int (iz x5)), some (.int (iz x6)), some (.int (iz x7)), some (.int (iz x8)), some (.int (iz z5)), none]) (dc D_cX2_takeComparison_1 5 rfl) rfl rfl ?_
        refine r_iload (dc D_cX2_takeComparison_1 6 rfl) rfl ?_
        refine r_bipush (n := 60) (dc D_cX2_takeComparison_1 7 rfl) (by decide +kernel) ?_
        refine r_icmp_ne (tgt := 112) (dc D_cX2_takeComparison_1 8 rfl) (by decide) rx5 (Rl rfl) (fun c7 => ?_) (fun c7 => ?_)
        · have h := h.1 c7
          refine r_iload (dc D_cX2_takeComparison_1 16 rfl) rfl ?_
          refine r_bipush (n := 62) (dc D_cX2_takeComparison_1 17 rfl) (by decide +kernel) ?_
          refine r_icmp_ne (tgt := 134) (dc D_cX2_takeComparison_1 18 rfl) (by decide) rx5 (Rl rfl) (fun c8 => ?_) (fun c8 => ?_)
          · have h := h.1 c8
            refine r_iload (dc D_cX2_takeComparison_1 26 rfl) rfl ?_
            refine r_iload (dc D_cX2_takeComparison_1 27 rfl) rfl ?_
            refine r_icmp_ne (tgt := 145) (dc D_cX2_takeComparison_1 28 rfl) (by decide) rz5 rx6 (fun c9 => ?_) (fun c9 => ?_)
            · have h := h.1 c9
              refine r_iconst (n := 0) (dc D_cX2_takeComparison_1 31 rfl) ?_
              refine r_sub (lv' := [none, some (.ref (eA E 9)), some (.ref (eA E 1)), some (.ref (eA E 25)), some (.int (iz x4)), some (.int (iz x5)), some (.int (iz x6)), some (.int (iz x7)), some (.int (iz x8)), none, none]) (subL_n (subL_s (subL_s (subL_s (subL_s (subL_s (subL_s (subL_s (subL_s (subL_n (subL_n subL_e))))))))))) ?_
              exact TX2_takeComparison_146 hE x hK53 _ _ _ _ _ _ rx4 rx5 rx6 rx7 rx8 (Rl rfl) _ hσ6 h
            · have h := h.2 c9
              refine r_iconst (n := 1) (dc D_cX2_takeComparison_1 29 rfl) ?_
              refine r_goto (tgt := 146) (dc D_cX2_takeComparison_1 30 rfl) (by decide) ?_
              refine r_sub (lv' := [none, some (.ref (eA E 9)), some (.ref (eA E 1)), some (.ref (eA E 25)), some (.int (iz x4)), some (.int (iz x5)), some (.int (iz x6)), some (.int (iz x7)), some (.int (iz x8)), none, none]) (subL_n (subL_s (subL_s (subL_s (subL_s (subL_s (subL_s (subL_s (subL_s (subL_n (subL_n subL_e))))))))))) ?_
              exact TX2_takeComparison_146 hE x hK53 _ _ _ _ _ _ rx4 rx5 rx6 rx7 rx8 (Rl rfl) _ hσ6 h
          · have h := h.2 c8
            refine r_iload (dc D_cX2_takeComparison_1 19 rfl) rfl ?_
            refine r_iload (dc D_cX2_takeComparison_1 20 rfl) rfl ?_
            refine r_icmp_le (tgt := 130) (dc D_cX2_takeComparison_1 21 rfl) (by decide) rz5 rx6 (fun c10 => ?_) (fun c10 => ?_)
            · have h := h.1 c10
              refine r_iconst (n := 0) (dc D_cX2_takeComparison_1 24 rfl) ?_
              refine r_goto (tgt := 146) (dc D_cX2_takeComparison_1 25 rfl) (by decide) ?_
              refine r_sub (lv' := [none, some (.ref (eA E 9)), some (.ref (eA E 1)), some (.ref (eA E 25)), some (.int (iz x4)), some (.int (iz x5)), some (.int (iz x6)), some (.int (iz x7)), some (.int (iz x8)), none, none]) (subL_n (subL_s (subL_s (subL_s (subL_s (subL_s (subL_s (subL_s (subL_s (subL_n (subL_n subL_e))))))))))) ?_
              exact TX2_takeComparison_146 hE x hK53 _ _ _ _ _ _ rx4 rx5 rx6 rx7 rx8 (Rl rfl) _ hσ6 h
            · have h := h.2 c10
              refine r_iconst (n := 1) (dc D_cX2_takeComparison_1 22 rfl) ?_
              refine r_goto (tgt := 146) (dc D_cX2_takeComparison_1 23 rfl) (by decide) ?_
              refine r_sub (lv' := [none, some (.ref (eA E 9)), some (.ref (eA E 1)), some (.ref (eA E 25)), some (.int (iz x4)), some (.int (iz x5)), some (.int (iz x6)), some (.int (iz x7)), some (.int (iz x8)), none, none]) (subL_n (subL_s (subL_s (subL_s (subL_s (subL_s (subL_s (subL_s (subL_s (subL_n (subL_n subL_e))))))))))) ?_
              exact TX2_takeComparison_146 hE x hK53 _ _ _ _ _ _ rx4 rx5 rx6 rx7 rx8 (Rl rfl) _ hσ6 h
        · have h := h.2 c7
          refine r_iload (dc D_cX2_takeComparison_1 9 rfl) rfl ?_
          refine r_iload (dc D_cX2_takeComparison_1 10 rfl) rfl ?_
          refine r_icmp_ge (tgt := 108) (dc D_cX2_takeComparison_1 11 rfl) (by decide) rz5 rx6 (fun c11 => ?_) (fun c11 => ?_)
          · have h := h.1 c11
            refine r_iconst (n := 0) (dc D_cX2_takeComparison_1 14 rfl) ?_
            refine r_goto (tgt := 146) (dc D_cX2_takeComparison_1 15 rfl) (by decide) ?_
            refine r_sub (lv' := [none, some (.ref (eA E 9)), some (.ref (eA E 1)), some (.ref (eA E 25)), some (.int (iz x4)), some (.int (iz x5)), some (.int (iz x6)), some (.int (iz x7)), some (.int (iz x8)), none, none]) (subL_n (subL_s (subL_s (subL_s (subL_s (subL_s (subL_s (subL_s (subL_s (subL_n (subL_n subL_e))))))))))) ?_
            exact TX2_takeComparison_146 hE x hK53 _ _ _ _ _ _ rx4 rx5 rx6 rx7 rx8 (Rl rfl) _ hσ6 h
          · have h := h.2 c11
            refine r_iconst (n := 1) (dc D_cX2_takeComparison_1 12 rfl) ?_
            refine r_goto (tgt := 146) (dc D_cX2_takeComparison_1 13 rfl) (by decide) ?_
            refine r_sub (lv' := [none, some (.ref (eA E 9)), some (.ref (eA E 1)), some (.ref (eA E 25)), some (.int (iz x4)), some (.int (iz x5)), some (.int (iz x6)), some (.int (iz x7)), some (.int (iz x8)), none, none]) (subL_n (subL_s (subL_s (subL_s (subL_s (subL_s (subL_s (subL_s (subL_s (subL_n (subL_n subL_e))))))))))) ?_
            exact TX2_takeComparison_146 hE x hK53 _ _ _ _ _ _ rx4 rx5 rx6 rx7 rx8 (Rl rfl) _ hσ6 h
theorem TX2_takeComparison_53 {E : EV} (hE : eOK layC E) {Φ : Int → PS → Prop} (x : CX) (n : Nat) : ∀ (x4 x5 x6 x7 x8 : Int) (σ : PS), Rg x4 → Rg x5 → Rg x6 → Rg x7 → Rg x8 → RS σ → LX2_takeComparison_53 n x4 x5 x6 x7 x8 σ Φ → RW layC E mi_X2_takeComparison Φ 53 [none, some (.ref (eA E 9)), some (.ref (eA E 1)), some (.ref (eA E 25)), some (.int (iz x4)), some (.int (iz x5)), some (.int (iz x6)), some (.int (iz x7)), some (.int (iz x8)), none, none] [] σ x := by
  induction n with
  | zero => intro x4 x5 x6 x7 x8 σ _ _ _ _ _ _ h; exact h.elim
  | succ n ih => intro x4 x5 x6 x7 x8 σ rx4 rx5 rx6 rx7 rx8 hs h; exact TBX2_takeComparison_53 hE x ih x4 x5 x6 x7 x8 rx4 rx5 rx6 rx7 rx8 σ hs h
set_option maxRecDepth 100000 in
theorem TX2_takeComparison_41 {E : EV} (hE : eOK layC E) {Φ : Int → PS → Prop} (x : CX) (x4 x5 : Int) (rx4 : Rg x4) (rx5 : Rg x5) (σ : PS) (hs : RS σ) (h : LX2_takeComparison_41 x4 x5 σ Φ) : RW layC E mi_X2_takeComparison Φ 41 [none, some (.ref (eA E 9)), some (.ref (eA E 1)), some (.ref (eA E 25)), some (.int (iz x4)), some (.int (iz x5)), none, none, none, none, none] [] σ x := by
  refine r_aloadn (dc D_cX2_takeComparison_0 20 rfl) rfl rfl ?_
  refine r_callV (As := []) (st := []) (dc D_cX2_takeComparison_0 21 rfl) cw_RX2_89 nm_yX9_number (CX9_number hE  _ hs h) lC_9 rfl rfl (by decide) rfl rfl rfl (fun z1 σ2 rz1 hσ2 h => ?_)
  show RW layC E mi_X2_takeComparison Φ 45 [none, some (.ref (eA E 9)), some (.ref (eA E 1)), some (.ref (eA E 25)), some (.int (iz x4)), some (.int (iz x5)), none, none, none, none, none] [.int (iz z1)] σ2 x
  refine r_istore (lv' := [none, some (.ref (eA E 9)), some (.ref (eA E 1)), some (.ref (eA E 25)), some (.int (iz x4)), some (.int (iz x5)), some (.int (iz z1)), none, none, none, none]) (dc D_cX2_takeComparison_0 22 rfl) rfl rfl ?_
  refine r_iconst (n := 0) (dc D_cX2_takeComparison_0 23 rfl) ?_
  refine r_istore (lv' := [none, some (.ref (eA E 9)), some (.ref (eA E 1)), some (.ref (eA E 25)), some (.int (iz x4)), some (.int (iz x5)), some (.int (iz z1)), some (.int (iz 0)), none, none, none]) (dc D_cX2_takeComparison_0 24 rfl) rfl rfl ?_
  refine r_iconst (n := 0) (dc D_cX2_takeComparison_0 25 rfl) ?_
  refine r_istore (lv' := [none, some (.ref (eA E 9)), some (.ref (eA E 1)), some (.ref (eA E 25)), some (.int (iz x4)), some (.int (iz x5)), some (.int (iz z1)), some (.int (iz 0)), some (.int (iz 0)), none, none]) (dc D_cX2_takeComparison_0 26 rfl) rfl rfl ?_
  obtain ⟨n, h⟩ := h
  exact TX2_takeComparison_53 hE x n _ _ _ _ _ _ rx4 rx5 rz1 (Rl rfl) (Rl rfl) hσ2 h
set_option maxRecDepth 100000 in
theorem CX2_takeComparison {E : EV} (hE : eOK layC E) {Φ : Int → PS → Prop} (σ : PS) (hs : RS σ) (h : FX2_takeComparison σ Φ) : CT layC E yX2_takeComparison mi_X2_takeComparison [.ref (eA E 10), .ref (eA E 9), .ref (eA E 1), .ref (eA E 25)] σ Φ := by
  refine ct_of (by decide +kernel) rfl hE rfl rfl hs (fun x => ?_)
  show RW layC E mi_X2_takeComparison Φ 0 [some (.ref (eA E 10)), some (.ref (eA E 9)), some (.ref (eA E 1)), some (.ref (eA E 25)), none, none, none, none, none, none, none] [] σ x
  refine r_aloadn (dc D_cX2_takeComparison_0 0 rfl) rfl rfl ?_
  refine r_aloadn (dc D_cX2_takeComparison_0 1 rfl) rfl rfl ?_
  refine r_callV (As := [.ref (eA E 9)]) (st := []) (dc D_cX2_takeComparison_0 2 rfl) cw_RX2_77 nm_yX2_takeWord (CX2_takeWord hE  _ hs h) lC_10 rfl rfl (by decide) rfl rfl rfl (fun z1 σ2 rz1 hσ2 h => ?_)
  show RW layC E mi_X2_takeComparison Φ 5 [some (.ref (eA E 10)), some (.ref (eA E 9)), some (.ref (eA E 1)), some (.ref (eA E 25)), none, none, none, none, none, none, none] [.int (iz z1)] σ2 x
  refine r_istore (lv' := [some (.ref (eA E 10)), some (.ref (eA E 9)), some (.ref (eA E 1)), some (.ref (eA E 25)), some (.int (iz z1)), none, none, none, none, none, none]) (dc D_cX2_takeComparison_0 3 rfl) rfl rfl ?_
  refine r_aloadn (dc D_cX2_takeComparison_0 4 rfl) rfl rfl ?_
  refine r_aloadn (dc D_cX2_takeComparison_0 5 rfl) rfl rfl ?_
  refine r_getI (dc D_cX2_takeComparison_0 6 rfl) fw_RX2_52 lC_9 rfl ?_
  refine r_callV (As := [.int (iz (σ2 9 2))]) (st := []) (dc D_cX2_takeComparison_0 7 rfl) cw_RX2_81 nm_yX9_byteAt (CX9_byteAt hE _ (hσ2 _ _) _ hσ2 h) lC_9 rfl rfl (by decide) rfl rfl rfl (fun z3 σ4 rz3 hσ4 h => ?_)
  show RW layC E mi_X2_takeComparison Φ 15 [some (.ref (eA E 10)), some (.ref (eA E 9)), some (.ref (eA E 1)), some (.ref (eA E 25)), some (.int (iz z1)), none, none, none, none, none, none] [.int (iz z3)] σ4 x
  refine r_istore (lv' := [some (.ref (eA E 10)), some (.ref (eA E 9)), some (.ref (eA E 1)), some (.ref (eA E 25)), some (.int (iz z1)), some (.int (iz z3)), none, none, none, none, none]) (dc D_cX2_takeComparison_0 8 rfl) rfl rfl ?_
  refine r_aloadn (dc D_cX2_takeComparison_0 9 rfl) rfl rfl ?_
  refine r_bipush (n := 60) (dc D_cX2_takeComparison_0 10 rfl) (by decide +kernel) ?_
  refine r_callV (As := [.int (iz 60)]) (st := []) (dc D_cX2_takeComparison_0 11 rfl) cw_RX2_64 nm_yX9_takes (CX9_takes hE _ (Rl rfl) _ hσ4 h) lC_9 rfl rfl (by decide) rfl rfl rfl (fun z5 σ6 rz5 hσ6 h => ?_)
  show RW layC E mi_X2_takeComparison Φ 23 [some (.ref (eA E 10)), some (.ref (eA E 9)), some (.ref (eA E 1)), some (.ref (eA E 25)), some (.int (iz z1)), some (.int (iz z3)), none, none, none, none, none] [.int (iz z5)] σ6 x
  refine r_if_ne (tgt := 41) (dc D_cX2_takeComparison_0 12 rfl) (by decide) rz5 (fun c7 => ?_) (fun c7 => ?_)
  · have h := h.1 c7
    refine r_sub (lv' := [none, some (.ref (eA E 9)), some (.ref (eA E 1)), some (.ref (eA E 25)), some (.int (iz z1)), some (.int (iz z3)), none, none, none, none, none]) (subL_n (subL_s (subL_s (subL_s (subL_s (subL_s (subL_n (subL_n (subL_n (subL_n (subL_n subL_e))))))))))) ?_
    exact TX2_takeComparison_41 hE x _ _ rz1 rz3 _ hσ6 h
  · have h := h.2 c7
    refine r_aloadn (dc D_cX2_takeComparison_0 13 rfl) rfl rfl ?_
    refine r_bipush (n := 61) (dc D_cX2_takeComparison_0 14 rfl) (by decide +kernel) ?_
    refine r_callV (As := [.int (iz 61)]) (st := []) (dc D_cX2_takeComparison_0 15 rfl) cw_RX2_64 nm_yX9_takes (CX9_takes hE _ (Rl rfl) _ hσ6 h) lC_9 rfl rfl (by decide) rfl rfl rfl (fun z8 σ9 rz8 hσ9 h => ?_)
    show RW layC E mi_X2_takeComparison Φ 32 [some (.ref (eA E 10)), some (.ref (eA E 9)), some (.ref (eA E 1)), some (.ref (eA E 25)), some (.int (iz z1)), some (.int (iz z3)), none, none, none, none, none] [.int (iz z8)] σ9 x
    refine r_if_ne (tgt := 41) (dc D_cX2_takeComparison_0 16 rfl) (by decide) rz8 (fun c10 => ?_) (fun c10 => ?_)
    · have h := h.1 c10
      refine r_sub (lv' := [none, some (.ref (eA E 9)), some (.ref (eA E 1)), some (.ref (eA E 25)), some (.int (iz z1)), some (.int (iz z3)), none, none, none, none, none]) (subL_n (subL_s (subL_s (subL_s (subL_s (subL_s (subL_n (subL_n (subL_n (subL_n (subL_n subL_e))))))))))) ?_
      exact TX2_takeComparison_41 hE x _ _ rz1 rz3 _ hσ9 h
    · have h := h.2 c10
      refine r_aloadn (dc D_cX2_takeComparison_0 17 rfl) rfl rfl ?_
      refine r_bipush (n := 62) (dc D_cX2_takeComparison_0 18 rfl) (by decide +kernel) ?_
      refine r_callV (As := [.int (iz 62)]) (st := []) (dc D_cX2_takeComparison_0 19 rfl) cw_RX2_85 nm_yX9_expect (CX9_expect hE _ (Rl rfl) _ hσ9 h) lC_9 rfl rfl (by decide) rfl rfl rfl (fun z11 σ12 rz11 hσ12 h => ?_)
      show RW layC E mi_X2_takeComparison Φ 41 [some (.ref (eA E 10)), some (.ref (eA E 9)), some (.ref (eA E 1)), some (.ref (eA E 25)), some (.int (iz z1)), some (.int (iz z3)), none, none, none, none, none] [] σ12 x
      refine r_sub (lv' := [none, some (.ref (eA E 9)), some (.ref (eA E 1)), some (.ref (eA E 25)), some (.int (iz z1)), some (.int (iz z3)), none, none, none, none, none]) (subL_n (subL_s (subL_s (subL_s (subL_s (subL_s (subL_n (subL_n (subL_n (subL_n (subL_n subL_e))))))))))) ?_
      exact TX2_takeComparison_41 hE x _ _ rz1 rz3 _ hσ12 h
-- end of GateFlow$Condition.takeComparison
def mi_X2_takeOpening : MI := (cX2_takeOpening, RX2, 2, 5, (some .boolean), 1)
def FX2_takeOpening (σ : PS) (Φ : Int → PS → Prop) : Prop :=
  FX9_takes 33 σ (fun z1 σ2 =>
  ((z1 = 0 →
    ((5 ≤ σ2 10 3 →
      Φ 0 σ2) ∧
    (¬ 5 ≤ σ2 10 3 →
      FX9_takes 40 σ2 (fun z5 σ6 =>
      ((z5 = 0 →
        Φ 0 σ6) ∧
      (¬ z5 = 0 →
        Rg ((σ6 10 3) + 1) ∧
        FX2_openBracket ((σ6 10 3) + 1) σ6 (fun z9 σ10 =>
        Φ 1 σ10))))))) ∧
  (¬ z1 = 0 →
    (0 ≤ σ2 10 3 ∧ σ2 10 3 < 6) ∧
    (0 ≤ σ2 10 3 ∧ σ2 10 3 < 6) ∧
    ∀ σ13 : PS, σ13 = up2 σ2 60 (σ2 10 3).toNat (ixor (σ2 60 (σ2 10 3).toNat) 1) →
    Φ 1 σ13)))
theorem cw_RX2_21 : CWV RX2 21 yX2_openBracket mi_X2_openBracket := tb_r [986, 988, 31, 106, 989] (by decide +kernel)
theorem nm_yX2_openBracket : ynm yX2_openBracket 1 := ⟨⟨by decide +kernel, by decide +kernel⟩, by decide +kernel⟩
set_option maxRecDepth 100000 in
theorem CX2_takeOpening {E : EV} (hE : eOK layC E) {Φ : Int → PS → Prop} (σ : PS) (hs : RS σ) (h : FX2_takeOpening σ Φ) : CT layC E yX2_takeOpening mi_X2_takeOpening [.ref (eA E 10), .ref (eA E 9)] σ Φ := by
  refine ct_of (by decide +kernel) rfl hE rfl rfl hs (fun x => ?_)
  show RW layC E mi_X2_takeOpening Φ 0 [some (.ref (eA E 10)), some (.ref (eA E 9))] [] σ x
  refine r_aloadn (dc D_cX2_takeOpening_0 0 rfl) rfl rfl ?_
  refine r_bipush (n := 33) (dc D_cX2_takeOpening_0 1 rfl) (by decide +kernel) ?_
  refine r_callV (As := [.int (iz 33)]) (st := []) (dc D_cX2_takeOpening_0 2 rfl) cw_RX2_64 nm_yX9_takes (CX9_takes hE _ (Rl rfl) _ hs h) lC_9 rfl rfl (by decide) rfl rfl rfl (fun z1 σ2 rz1 hσ2 h => ?_)
  show RW layC E mi_X2_takeOpening Φ 6 [some (.ref (eA E 10)), some (.ref (eA E 9))] [.int (iz z1)] σ2 x
  refine r_if_eq (tgt := 24) (dc D_cX2_takeOpening_0 3 rfl) (by decide) rz1 (fun c3 => ?_) (fun c3 => ?_)
  · have h := h.1 c3
    refine r_aloadn (dc D_cX2_takeOpening_0 15 rfl) rfl rfl ?_
    refine r_getI (dc D_cX2_takeOpening_0 16 rfl) fw_RX2_49 lC_10 rfl ?_
    refine r_iconst (n := 5) (dc D_cX2_takeOpening_0 17 rfl) ?_
    refine r_icmp_ge (tgt := 53) (dc D_cX2_takeOpening_0 18 rfl) (by decide) (hσ2 _ _) (Rl rfl) (fun c4 => ?_) (fun c4 => ?_)
    · have h := h.1 c4
      refine r_iconst (n := 0) (dc D_cX2_takeOpening_0 31 rfl) ?_
      exact r_zret (dc D_cX2_takeOpening_0 32 rfl) rfl (by decide) h
    · have h := h.2 c4
      refine r_aloadn (dc D_cX2_takeOpening_0 19 rfl) rfl rfl ?_
      refine r_bipush (n := 40) (dc D_cX2_takeOpening_0 20 rfl) (by decide +kernel) ?_
      refine r_callV (As := [.int (iz 40)]) (st := []) (dc D_cX2_takeOpening_0 21 rfl) cw_RX2_64 nm_yX9_takes (CX9_takes hE _ (Rl rfl) _ hσ2 h) lC_9 rfl rfl (by decide) rfl rfl rfl (fun z5 σ6 rz5 hσ6 h => ?_)
      show RW layC E mi_X2_takeOpening Φ 38 [some (.ref (eA E 10)), some (.ref (eA E 9))] [.int (iz z5)] σ6 x
      refine r_if_eq (tgt := 53) (dc D_cX2_takeOpening_0 22 rfl) (by decide) rz5 (fun c7 => ?_) (fun c7 => ?_)
      · have h := h.1 c7
        refine r_iconst (n := 0) (dc D_cX2_takeOpening_0 31 rfl) ?_
        exact r_zret (dc D_cX2_takeOpening_0 32 rfl) rfl (by decide) h
      · have h := h.2 c7
        refine r_aloadn (dc D_cX2_takeOpening_0 23 rfl) rfl rfl ?_
        refine r_aloadn (dc D_cX2_takeOpening_0 24 rfl) rfl rfl ?_
        refine r_getI (dc D_cX2_takeOpening_0 25 rfl) fw_RX2_49 lC_10 rfl ?_
        refine r_iconst (n := 1) (dc D_cX2_takeOpening_0 26 rfl) ?_
        refine r_iadd (dc D_cX2_takeOpening_0 27 rfl) ?_
        obtain ⟨o8, h⟩ := h
        refine r_callV (As := [.int (iz ((σ6 10 3) + 1))]) (st := []) (dc D_cX2_takeOpening_0 28 rfl) cw_RX2_21 nm_yX2_openBracket (CX2_openBracket hE _ o8 _ hσ6 h) lC_10 rfl rfl (by decide) rfl rfl rfl (fun z9 σ10 rz9 hσ10 h => ?_)
        show RW layC E mi_X2_takeOpening Φ 51 [some (.ref (eA E 10)), some (.ref (eA E 9))] [] σ10 x
        refine r_iconst (n := 1) (dc D_cX2_takeOpening_0 29 rfl) ?_
        exact r_zret (dc D_cX2_takeOpening_0 30 rfl) rfl (by decide) h
  · have h := h.2 c3
    refine r_aloadn (dc D_cX2_takeOpening_0 4 rfl) rfl rfl ?_
    refine r_getR (dc D_cX2_takeOpening_0 5 rfl) fw_RX2_18 lC_10 rfl ?_
    refine r_aloadn (dc D_cX2_takeOpening_0 6 rfl) rfl rfl ?_
    refine r_getI (dc D_cX2_takeOpening_0 7 rfl) fw_RX2_49 lC_10 rfl ?_
    refine r_dup2 (dc D_cX2_takeOpening_0 8 rfl) rfl rfl ?_
    obtain ⟨o11, h⟩ := h
    refine r_iald (N := 6) (dc D_cX2_takeOpening_0 9 rfl) lC_60 rfl rfl o11 ?_
    refine r_iconst (n := 1) (dc D_cX2_takeOpening_0 10 rfl) ?_
    refine r_ixor (dc D_cX2_takeOpening_0 11 rfl) ?_
    obtain ⟨o12, h⟩ := h
    refine r_iast (N := 6) (dc D_cX2_takeOpening_0 12 rfl) lC_60 rfl rfl o12 (Rg_of _) ?_
    refine r_sig (fun σ13 eσ13 => ?_)
    have h := h σ13 eσ13
    have hσ13 : RS σ13 := RS_eq eσ13 (RS.up hσ2 (Rg_of _) _ _)
    refine r_iconst (n := 1) (dc D_cX2_takeOpening_0 13 rfl) ?_
    exact r_zret (dc D_cX2_takeOpening_0 14 rfl) rfl (by decide) h
-- end of GateFlow$Condition.takeOpening
def mi_X2_holding : MI := (cX2_holding, RX2, 6, 11, (some .int), 1)
def LX2_holding_101 (σ : PS) (Φ : Int → PS → Prop) : Prop :=
  FX3_allBits σ (fun z1 σ2 =>
  Φ (iand (ior (σ 58 0) (σ 59 0)) z1) σ2)
def LX2_holding_86 (σ : PS) (Φ : Int → PS → Prop) : Prop :=
  ((σ 10 3 ≤ 0 →
    LX2_holding_101 σ Φ) ∧
  (¬ σ 10 3 ≤ 0 →
    FX9_fail (σ 9 2) σ (fun z2 σ3 =>
    LX2_holding_101 σ3 Φ)))
def LX2_holding_80 (K11 : Int → Int → PS → Prop) (x4 x5 : Int) (σ : PS) (Φ : Int → PS → Prop) : Prop :=
  Rg (x5 + 1) ∧
  K11 x4 (x5 + 1) σ
def LX2_holding_41 (K11 : Int → Int → PS → Prop) (x4 x5 : Int) (σ : PS) (Φ : Int → PS → Prop) : Prop :=
  ((x4 = 0 →
    FX9_isAtEnd σ (fun z2 σ3 =>
    ((z2 = 0 →
      FX2_takeJoint σ3 (fun z5 σ6 =>
      LX2_holding_80 K11 z5 x5 σ6 Φ)) ∧
    (¬ z2 = 0 →
      LX2_holding_86 σ3 Φ)))) ∧
  (¬ x4 = 0 →
    FX2_takeComparison σ (fun z7 σ8 =>
    FX2_putPart z7 σ8 (fun z9 σ10 =>
    LX2_holding_80 K11 0 x5 σ10 Φ))))
def BX2_holding_11 (K11 : Int → Int → PS → Prop) (x4 x5 : Int) (σ : PS) (Φ : Int → PS → Prop) : Prop :=
  ((90 < x5 →
    LX2_holding_86 σ Φ) ∧
  (¬ 90 < x5 →
    ((0 ≤ σ 9 3 →
      LX2_holding_86 σ Φ) ∧
    (¬ 0 ≤ σ 9 3 →
      ((x4 = 0 →
        LX2_holding_41 K11 x4 x5 σ Φ) ∧
      (¬ x4 = 0 →
        FX2_takeOpening σ (fun z4 σ5 =>
        ((z4 = 0 →
          LX2_holding_41 K11 x4 x5 σ5 Φ) ∧
        (¬ z4 = 0 →
          LX2_holding_80 K11 x4 x5 σ5 Φ)))))))))
def LX2_holding_11 : Nat → Int → Int → PS → (Int → PS → Prop) → Prop
  | 0, _, _, _, _ => False
  | n + 1, x4, x5, σ, Φ => BX2_holding_11 (fun x4 x5 σ => LX2_holding_11 n x4 x5 σ Φ) x4 x5 σ Φ
def FX2_holding (σ : PS) (Φ : Int → PS → Prop) : Prop :=
  FX2_openBracket 0 σ (fun z1 σ2 =>
  ∃ n, LX2_holding_11 n 1 0 σ2 Φ)
theorem cw_RX2_58 : CWV RX2 58 yX3_allBits mi_X3_allBits := tb_r [1086, 802, 803, 98, 804] (by decide +kernel)
theorem cw_RX2_42 : CWV RX2 42 yX9_isAtEnd mi_X9_isAtEnd := tb_r [1078, 1079, 1080, 105, 1081] (by decide +kernel)
theorem nm_yX9_isAtEnd : ynm yX9_isAtEnd 0 := ⟨⟨by decide +kernel, by decide +kernel⟩, by decide +kernel⟩
theorem cw_RX2_46 : CWV RX2 46 yX2_takeJoint mi_X2_takeJoint := tb_r [1082, 1084, 36, 106, 1085] (by decide +kernel)
theorem nm_yX2_takeJoint : ynm yX2_takeJoint 1 := ⟨⟨by decide +kernel, by decide +kernel⟩, by decide +kernel⟩
theorem cw_RX2_35 : CWV RX2 35 yX2_takeComparison mi_X2_takeComparison := tb_r [997, 999, 33, 106, 1000] (by decide +kernel)
theorem nm_yX2_takeComparison : ynm yX2_takeComparison 3 := ⟨⟨by decide +kernel, by decide +kernel⟩, by decide +kernel⟩
theorem cw_RX2_31 : CWV RX2 31 yX2_takeOpening mi_X2_takeOpening := tb_r [992, 994, 32, 106, 995] (by decide +kernel)
theorem nm_yX2_takeOpening : ynm yX2_takeOpening 1 := ⟨⟨by decide +kernel, by decide +kernel⟩, by decide +kernel⟩
set_option maxRecDepth 100000 in
theorem TX2_holding_101 {E : EV} (hE : eOK layC E) {Φ : Int → PS → Prop} (x : CX) (σ : PS) (hs : RS σ) (h : LX2_holding_101 σ Φ) : RW layC E mi_X2_holding Φ 101 [some (.ref (eA E 10)), none, some (.ref (eA E 1)), none, none, none] [] σ x := by
  refine r_aloadn (dc D_cX2_holding_1 9 rfl) rfl rfl ?_
  refine r_getR (dc D_cX2_holding_1 10 rfl) fw_RX2_9 lC_10 rfl ?_
  refine r_iconst (n := 0) (dc D_cX2_holding_1 11 rfl) ?_
  refine r_iald (N := 6) (dc D_cX2_holding_1 12 rfl) lC_58 rfl rfl ⟨by decide, by decide⟩ ?_
  refine r_aloadn (dc D_cX2_holding_1 13 rfl) rfl rfl ?_
  refine r_getR (dc D_cX2_holding_1 14 rfl) fw_RX2_15 lC_10 rfl ?_
  refine r_iconst (n := 0) (dc D_cX2_holding_1 15 rfl) ?_
  refine r_iald (N := 6) (dc D_cX2_holding_1 16 rfl) lC_59 rfl rfl ⟨by decide, by decide⟩ ?_
  refine r_ior (dc D_cX2_holding_1 17 rfl) ?_
  refine r_aloadn (dc D_cX2_holding_1 18 rfl) rfl rfl ?_
  refine r_callV (As := []) (st := [.int (iz (ior (σ 58 0) (σ 59 0)))]) (dc D_cX2_holding_1 19 rfl) cw_RX2_58 nm_yX3_allBits (CX3_allBits hE  _ hs h) lC_1 rfl rfl (by decide) rfl rfl rfl (fun z1 σ2 rz1 hσ2 h => ?_)
  show RW layC E mi_X2_holding Φ 118 [some (.ref (eA E 10)), none, some (.ref (eA E 1)), none, none, none] [.int (iz z1), .int (iz (ior (σ 58 0) (σ 59 0)))] σ2 x
  refine r_iand (dc D_cX2_holding_1 20 rfl) ?_
  exact r_iret (dc D_cX2_holding_1 21 rfl) rfl (Rg_of _) h
set_option maxRecDepth 100000 in
theorem TX2_holding_86 {E : EV} (hE : eOK layC E) {Φ : Int → PS → Prop} (x : CX) (σ : PS) (hs : RS σ) (h : LX2_holding_86 σ Φ) : RW layC E mi_X2_holding Φ 86 [some (.ref (eA E 10)), some (.ref (eA E 9)), some (.ref (eA E 1)), none, none, none] [] σ x := by
  refine r_aloadn (dc D_cX2_holding_1 2 rfl) rfl rfl ?_
  refine r_getI (dc D_cX2_holding_1 3 rfl) fw_RX2_49 lC_10 rfl ?_
  refine r_if_le (tgt := 101) (dc D_cX2_holding_1 4 rfl) (by decide) (hs _ _) (fun c1 => ?_) (fun c1 => ?_)
  · have h := h.1 c1
    refine r_sub (lv' := [some (.ref (eA E 10)), none, some (.ref (eA E 1)), none, none, none]) (subL_s (subL_n (subL_s (subL_n (subL_n (subL_n subL_e)))))) ?_
    exact TX2_holding_101 hE x  _ hs h
  · have h := h.2 c1
    refine r_aloadn (dc D_cX2_holding_1 5 rfl) rfl rfl ?_
    refine r_aloadn (dc D_cX2_holding_1 6 rfl) rfl rfl ?_
    refine r_getI (dc D_cX2_holding_1 7 rfl) fw_RX2_52 lC_9 rfl ?_
    refine r_callV (As := [.int (iz (σ 9 2))]) (st := []) (dc D_cX2_holding_1 8 rfl) cw_RX2_55 nm_yX9_fail (CX9_fail hE _ (hs _ _) _ hs h) lC_9 rfl rfl (by decide) rfl rfl rfl (fun z2 σ3 rz2 hσ3 h => ?_)
    show RW layC E mi_X2_holding Φ 101 [some (.ref (eA E 10)), some (.ref (eA E 9)), some (.ref (eA E 1)), none, none, none] [] σ3 x
    refine r_sub (lv' := [some (.ref (eA E 10)), none, some (.ref (eA E 1)), none, none, none]) (subL_s (subL_n (subL_s (subL_n (subL_n (subL_n subL_e)))))) ?_
    exact TX2_holding_101 hE x  _ hσ3 h
set_option maxRecDepth 100000 in
theorem TX2_holding_80 {E : EV} (hE : eOK layC E) {Φ : Int → PS → Prop} {K11 : Int → Int → PS → Prop} (x : CX) (hK11 : ∀ (x4 x5 : Int) (σ : PS), Rg x4 → Rg x5 → RS σ → K11 x4 x5 σ → RW layC E mi_X2_holding Φ 11 [some (.ref (eA E 10)), some (.ref (eA E 9)), some (.ref (eA E 1)), some (.ref (eA E 25)), some (.int (iz x4)), some (.int (iz x5))] [] σ x) (x4 x5 : Int) (rx4 : Rg x4) (rx5 : Rg x5) (σ : PS) (hs : RS σ) (h : LX2_holding_80 K11 x4 x5 σ Φ) : RW layC E mi_X2_holding Φ 80 [some (.ref (eA E 10)), some (.ref (eA E 9)), some (.ref (eA E 1)), some (.ref (eA E 25)), some (.int (iz x4)), some (.int (iz x5))] [] σ x := by
  obtain ⟨o1, h⟩ := h
  refine r_iinc (lv' := [some (.ref (eA E 10)), some (.ref (eA E 9)), some (.ref (eA E 1)), some (.ref (eA E 25)), some (.int (iz x4)), some (.int (iz (x5 + 1)))]) (dc D_cX2_holding_1 0 rfl) rfl rfl rfl ?_
  refine r_goto (tgt := 11) (dc D_cX2_holding_1 1 rfl) (by decide) ?_
  exact hK11 _ _ _ rx4 o1 hs h
set_option maxRecDepth 100000 in
theorem TX2_holding_41 {E : EV} (hE : eOK layC E) {Φ : Int → PS → Prop} {K11 : Int → Int → PS → Prop} (x : CX) (hK11 : ∀ (x4 x5 : Int) (σ : PS), Rg x4 → Rg x5 → RS σ → K11 x4 x5 σ → RW layC E mi_X2_holding Φ 11 [some (.ref (eA E 10)), some (.ref (eA E 9)), some (.ref (eA E 1)), some (.ref (eA E 25)), some (.int (iz x4)), some (.int (iz x5))] [] σ x) (x4 x5 : Int) (rx4 : Rg x4) (rx5 : Rg x5) (σ : PS) (hs : RS σ) (h : LX2_holding_41 K11 x4 x5 σ Φ) : RW layC E mi_X2_holding Φ 41 [some (.ref (eA E 10)), some (.ref (eA E 9)), some (.ref (eA E 1)), some (.ref (eA E 25)), some (.int (iz x4)), some (.int (iz x5))] [] σ x := by
  refine r_iload (dc D_cX2_holding_0 20 rfl) rfl ?_
  refine r_if_eq (tgt := 63) (dc D_cX2_holding_0 21 rfl) (by decide) rx4 (fun c1 => ?_) (fun c1 => ?_)
  · have h := h.1 c1
    refine r_aloadn (dc D_cX2_holding_0 32 rfl) rfl rfl ?_
    refine r_callV (As := []) (st := []) (dc D_cX2_holding_0 33 rfl) cw_RX2_42 nm_yX9_isAtEnd (CX9_isAtEnd hE  _ hs h) lC_9 rfl rfl (by decide) rfl rfl rfl (fun z2 σ3 rz2 hσ3 h => ?_)
    show RW layC E mi_X2_holding Φ 67 [some (.ref (eA E 10)), some (.ref (eA E 9)), some (.ref (eA E 1)), some (.ref (eA E 25)), some (.int (iz x4)), some (.int (iz x5))] [.int (iz z2)] σ3 x
    refine r_if_eq (tgt := 73) (dc D_cX2_holding_0 34 rfl) (by decide) rz2 (fun c4 => ?_) (fun c4 => ?_)
    · have h := h.1 c4
      refine r_aloadn (dc D_cX2_holding_0 36 rfl) rfl rfl ?_
      refine r_aloadn (dc D_cX2_holding_0 37 rfl) rfl rfl ?_
      refine r_callV (As := [.ref (eA E 9)]) (st := []) (dc D_cX2_holding_0 38 rfl) cw_RX2_46 nm_yX2_takeJoint (CX2_takeJoint hE  _ hσ3 h) lC_10 rfl rfl (by decide) rfl rfl rfl (fun z5 σ6 rz5 hσ6 h => ?_)
      show RW layC E mi_X2_holding Φ 78 [some (.ref (eA E 10)), some (.ref (eA E 9)), some (.ref (eA E 1)), some (.ref (eA E 25)), some (.int (iz x4)), some (.int (iz x5))] [.int (iz z5)] σ6 x
      refine r_istore (lv' := [some (.ref (eA E 10)), some (.ref (eA E 9)), some (.ref (eA E 1)), some (.ref (eA E 25)), some (.int (iz z5)), some (.int (iz x5))]) (dc D_cX2_holding_0 39 rfl) rfl rfl ?_
      exact TX2_holding_80 hE x hK11 _ _ rz5 rx5 _ hσ6 h
    · have h := h.2 c4
      refine r_goto (tgt := 86) (dc D_cX2_holding_0 35 rfl) (by decide) ?_
      refine r_sub (lv' := [some (.ref (eA E 10)), some (.ref (eA E 9)), some (.ref (eA E 1)), none, none, none]) (subL_s (subL_s (subL_s (subL_n (subL_n (subL_n subL_e)))))) ?_
      exact TX2_holding_86 hE x  _ hσ3 h
  · have h := h.2 c1
    refine r_aloadn (dc D_cX2_holding_0 22 rfl) rfl rfl ?_
    refine r_aloadn (dc D_cX2_holding_0 23 rfl) rfl rfl ?_
    refine r_aloadn (dc D_cX2_holding_0 24 rfl) rfl rfl ?_
    refine r_aloadn (dc D_cX2_holding_0 25 rfl) rfl rfl ?_
    refine r_aloadn (dc D_cX2_holding_0 26 rfl) rfl rfl ?_
    refine r_callV (As := [.ref (eA E 9), .ref (eA E 1), .ref (eA E 25)]) (st := [.ref (eA E 10)]) (dc D_cX2_holding_0 27 rfl) cw_RX2_35 nm_yX2_takeComparison (CX2_takeComparison hE  _ hs h) lC_10 rfl rfl (by decide) rfl rfl rfl (fun z7 σ8 rz7 hσ8 h => ?_)
    show RW layC E mi_X2_holding Φ 54 [some (.ref (eA E 10)), some (.ref (eA E 9)), some (.ref (eA E 1)), some (.ref (eA E 25)), some (.int (iz x4)), some (.int (iz x5))] [.int (iz z7), .ref (eA E 10)] σ8 x
    refine r_callV (As := [.int (iz z7)]) (st := []) (dc D_cX2_holding_0 28 rfl) cw_RX2_39 nm_yX2_putPart (CX2_putPart hE _ rz7 _ hσ8 h) lC_10 rfl rfl (by decide) rfl rfl rfl (fun z9 σ10 rz9 hσ10 h => ?_)
    show RW layC E mi_X2_holding Φ 57 [some (.ref (eA E 10)), some (.ref (eA E 9)), some (.ref (eA E 1)), some (.ref (eA E 25)), some (.int (iz x4)), some (.int (iz x5))] [] σ10 x
    refine r_iconst (n := 0) (dc D_cX2_holding_0 29 rfl) ?_
    refine r_istore (lv' := [some (.ref (eA E 10)), some (.ref (eA E 9)), some (.ref (eA E 1)), some (.ref (eA E 25)), some (.int (iz 0)), some (.int (iz x5))]) (dc D_cX2_holding_0 30 rfl) rfl rfl ?_
    refine r_goto (tgt := 80) (dc D_cX2_holding_0 31 rfl) (by decide) ?_
    exact TX2_holding_80 hE x hK11 _ _ (Rl rfl) rx5 _ hσ10 h
set_option maxRecDepth 100000 in
theorem TBX2_holding_11 {E : EV} (hE : eOK layC E) {Φ : Int → PS → Prop} {K11 : Int → Int → PS → Prop} (x : CX) (hK11 : ∀ (x4 x5 : Int) (σ : PS), Rg x4 → Rg x5 → RS σ → K11 x4 x5 σ → RW layC E mi_X2_holding Φ 11 [some (.ref (eA E 10)), some (.ref (eA E 9)), some (.ref (eA E 1)), some (.ref (eA E 25)), some (.int (iz x4)), some (.int (iz x5))] [] σ x) (x4 x5 : Int) (rx4 : Rg x4) (rx5 : Rg x5) (σ : PS) (hs : RS σ) (h : BX2_holding_11 K11 x4 x5 σ Φ) : RW layC E mi_X2_holding Φ 11 [some (.ref (eA E 10)), some (.ref (eA E 9)), some (.ref (eA E 1)), some (.ref (eA E 25)), some (.int (iz x4)), some (.int (iz x5))] [] σ x := by
  refine r_iload (dc D_cX2_holding_0 7 rfl) rfl ?_
  refine r_bipush (n := 90) (dc D_cX2_holding_0 8 rfl) (by decide +kernel) ?_
  refine r_icmp_gt (tgt := 86) (dc D_cX2_holding_0 9 rfl) (by decide) rx5 (Rl rfl) (fun c1 => ?_) (fun c1 => ?_)
  · have h := h.1 c1
    refine r_sub (lv' := [some (.ref (eA E 10)), some (.ref (eA E 9)), some (.ref (eA E 1)), none, none, none]) (subL_s (subL_s (subL_s (subL_n (subL_n (subL_n subL_e)))))) ?_
    exact TX2_holding_86 hE x  _ hs h
  · have h := h.2 c1
    refine r_aloadn (dc D_cX2_holding_0 10 rfl) rfl rfl ?_
    refine r_getI (dc D_cX2_holding_0 11 rfl) fw_RX2_25 lC_9 rfl ?_
    refine r_if_ge (tgt := 86) (dc D_cX2_holding_0 12 rfl) (by decide) (hs _ _) (fun c2 => ?_) (fun c2 => ?_)
    · have h := h.1 c2
      refine r_sub (lv' := [some (.ref (eA E 10)), some (.ref (eA E 9)), some (.ref (eA E 1)), none, none, none]) (subL_s (subL_s (subL_s (subL_n (subL_n (subL_n subL_e)))))) ?_
      exact TX2_holding_86 hE x  _ hs h
    · have h := h.2 c2
      refine r_iload (dc D_cX2_holding_0 13 rfl) rfl ?_
      refine r_if_eq (tgt := 41) (dc D_cX2_holding_0 14 rfl) (by decide) rx4 (fun c3 => ?_) (fun c3 => ?_)
      · have h := h.1 c3
        exact TX2_holding_41 hE x hK11 _ _ rx4 rx5 _ hs h
      · have h := h.2 c3
        refine r_aloadn (dc D_cX2_holding_0 15 rfl) rfl rfl ?_
        refine r_aloadn (dc D_cX2_holding_0 16 rfl) rfl rfl ?_
        refine r_callV (As := [.ref (eA E 9)]) (st := []) (dc D_cX2_holding_0 17 rfl) cw_RX2_31 nm_yX2_takeOpening (CX2_takeOpening hE  _ hs h) lC_10 rfl rfl (by decide) rfl rfl rfl (fun z4 σ5 rz4 hσ5 h => ?_)
        show RW layC E mi_X2_holding Φ 35 [some (.ref (eA E 10)), some (.ref (eA E 9)), some (.ref (eA E 1)), some (.ref (eA E 25)), some (.int (iz x4)), some (.int (iz x5))] [.int (iz z4)] σ5 x
        refine r_if_eq (tgt := 41) (dc D_cX2_holding_0 18 rfl) (by decide) rz4 (fun c6 => ?_) (fun c6 => ?_)
        · have h := h.1 c6
          exact TX2_holding_41 hE x hK11 _ _ rx4 rx5 _ hσ5 h
        · have h := h.2 c6
          refine r_goto (tgt := 80) (dc D_cX2_holding_0 19 rfl) (by decide) ?_
          exact TX2_holding_80 hE x hK11 _ _ rx4 rx5 _ hσ5 h
theorem TX2_holding_11 {E : EV} (hE : eOK layC E) {Φ : Int → PS → Prop} (x : CX) (n : Nat) : ∀ (x4 x5 : Int) (σ : PS), Rg x4 → Rg x5 → RS σ → LX2_holding_11 n x4 x5 σ Φ → RW layC E mi_X2_holding Φ 11 [some (.ref (eA E 10)), some (.ref (eA E 9)), some (.ref (eA E 1)), some (.ref (eA E 25)), some (.int (iz x4)), some (.int (iz x5))] [] σ x := by
  induction n with
  | zero => intro x4 x5 σ _ _ _ h; exact h.elim
  | succ n ih => intro x4 x5 σ rx4 rx5 hs h; exact TBX2_holding_11 hE x ih x4 x5 rx4 rx5 σ hs h
set_option maxRecDepth 100000 in
theorem CX2_holding {E : EV} (hE : eOK layC E) {Φ : Int → PS → Prop} (σ : PS) (hs : RS σ) (h : FX2_holding σ Φ) : CT layC E yX2_holding mi_X2_holding [.ref (eA E 10), .ref (eA E 9), .ref (eA E 1), .ref (eA E 25)] σ Φ := by
  refine ct_of (by decide +kernel) rfl hE rfl rfl hs (fun x => ?_)
  show RW layC E mi_X2_holding Φ 0 [some (.ref (eA E 10)), some (.ref (eA E 9)), some (.ref (eA E 1)), some (.ref (eA E 25)), none, none] [] σ x
  refine r_aloadn (dc D_cX2_holding_0 0 rfl) rfl rfl ?_
  refine r_iconst (n := 0) (dc D_cX2_holding_0 1 rfl) ?_
  refine r_callV (As := [.int (iz 0)]) (st := []) (dc D_cX2_holding_0 2 rfl) cw_RX2_21 nm_yX2_openBracket (CX2_openBracket hE _ (Rl rfl) _ hs h) lC_10 rfl rfl (by decide) rfl rfl rfl (fun z1 σ2 rz1 hσ2 h => ?_)
  show RW layC E mi_X2_holding Φ 5 [some (.ref (eA E 10)), some (.ref (eA E 9)), some (.ref (eA E 1)), some (.ref (eA E 25)), none, none] [] σ2 x
  refine r_iconst (n := 1) (dc D_cX2_holding_0 3 rfl) ?_
  refine r_istore (lv' := [some (.ref (eA E 10)), some (.ref (eA E 9)), some (.ref (eA E 1)), some (.ref (eA E 25)), some (.int (iz 1)), none]) (dc D_cX2_holding_0 4 rfl) rfl rfl ?_
  refine r_iconst (n := 0) (dc D_cX2_holding_0 5 rfl) ?_
  refine r_istore (lv' := [some (.ref (eA E 10)), some (.ref (eA E 9)), some (.ref (eA E 1)), some (.ref (eA E 25)), some (.int (iz 1)), some (.int (iz 0))]) (dc D_cX2_holding_0 6 rfl) rfl rfl ?_
  obtain ⟨n, h⟩ := h
  exact TX2_holding_11 hE x n _ _ _ (Rl rfl) (Rl rfl) hσ2 h
-- end of GateFlow$Condition.holding
def mi_X11_takeCondition : MI := (cX11_takeCondition, RX11, 2, 12, (some .int), 1)
def FX11_takeCondition (σ : PS) (Φ : Int → PS → Prop) : Prop :=
  FX9_begin σ (fun z1 σ2 =>
  FX11_freshWays σ2 (fun z3 σ4 => z3 = 3 ∧ (FX2_holding σ4 (fun z5 σ6 =>
  ∀ σ7 : PS, σ7 = up2 σ6 9 1 0 →
  Φ z5 σ7))))
theorem cw_RX11_352 : CWV RX11 352 yX2_holding mi_X2_holding := tb_r [982, 983, 984, 106, 985] (by decide +kernel)
theorem nm_yX2_holding : ynm yX2_holding 3 := ⟨⟨by decide +kernel, by decide +kernel⟩, by decide +kernel⟩
set_option maxRecDepth 100000 in
theorem CX11_takeCondition {E : EV} (hE : eOK layC E) {Φ : Int → PS → Prop} (σ : PS) (hs : RS σ) (h : FX11_takeCondition σ Φ) : CT layC E yX11_takeCondition mi_X11_takeCondition [.ref (eA E 0)] σ Φ := by
  refine ct_of (by decide +kernel) rfl hE rfl rfl hs (fun x => ?_)
  show RW layC E mi_X11_takeCondition Φ 0 [some (.ref (eA E 0)), none] [] σ x
  refine r_aloadn (dc D_cX11_takeCondition_0 0 rfl) rfl rfl ?_
  refine r_getR (dc D_cX11_takeCondition_0 1 rfl) fw_RX11_57 lC_0 rfl ?_
  refine r_callV (As := []) (st := []) (dc D_cX11_takeCondition_0 2 rfl) cw_RX11_258 nm_yX9_begin (CX9_begin hE  _ hs h) lC_9 rfl rfl (by decide) rfl rfl rfl (fun z1 σ2 rz1 hσ2 h => ?_)
  show RW layC E mi_X11_takeCondition Φ 7 [some (.ref (eA E 0)), none] [] σ2 x
  refine r_aloadn (dc D_cX11_takeCondition_0 3 rfl) rfl rfl ?_
  refine r_getR (dc D_cX11_takeCondition_0 4 rfl) fw_RX11_64 lC_0 rfl ?_
  refine r_aloadn (dc D_cX11_takeCondition_0 5 rfl) rfl rfl ?_
  refine r_getR (dc D_cX11_takeCondition_0 6 rfl) fw_RX11_57 lC_0 rfl ?_
  refine r_aloadn (dc D_cX11_takeCondition_0 7 rfl) rfl rfl ?_
  refine r_getR (dc D_cX11_takeCondition_0 8 rfl) fw_RX11_12 lC_0 rfl ?_
  refine r_aloadn (dc D_cX11_takeCondition_0 9 rfl) rfl rfl ?_
  refine r_callV (As := []) (st := [.ref (eA E 1), .ref (eA E 9), .ref (eA E 10)]) (dc D_cX11_takeCondition_0 10 rfl) cw_RX11_134 nm_yX11_freshWays (CX11_freshWays hE  _ hσ2 h) lC_0 rfl rfl (by decide) rfl rfl rfl (fun z3 σ4 rz3 hσ4 h => ?_)
  obtain ⟨rfl, h⟩ := h
  show RW layC E mi_X11_takeCondition Φ 23 [some (.ref (eA E 0)), none] [.ref (eA E 3), .ref (eA E 1), .ref (eA E 9), .ref (eA E 10)] σ4 x
  refine r_getR (dc D_cX11_takeCondition_0 11 rfl) fw_RX11_141 lC_3 rfl ?_
  refine r_callV (As := [.ref (eA E 9), .ref (eA E 1), .ref (eA E 25)]) (st := []) (dc D_cX11_takeCondition_0 12 rfl) cw_RX11_352 nm_yX2_holding (CX2_holding hE  _ hσ4 h) lC_10 rfl rfl (by decide) rfl rfl rfl (fun z5 σ6 rz5 hσ6 h => ?_)
  show RW layC E mi_X11_takeCondition Φ 29 [some (.ref (eA E 0)), none] [.int (iz z5)] σ6 x
  refine r_istoren (lv' := [some (.ref (eA E 0)), some (.int (iz z5))]) (dc D_cX11_takeCondition_0 13 rfl) rfl rfl rfl ?_
  refine r_aloadn (dc D_cX11_takeCondition_0 14 rfl) rfl rfl ?_
  refine r_getR (dc D_cX11_takeCondition_0 15 rfl) fw_RX11_57 lC_0 rfl ?_
  refine r_iconst (n := 0) (dc D_cX11_takeCondition_0 16 rfl) ?_
  refine r_put (dc D_cX11_takeCondition_0 17 rfl) fw_RX11_255 fp_9_1 lC_9 rfl (nar_int _) (Rl rfl) ?_
  refine r_sig (fun σ7 eσ7 => ?_)
  have h := h σ7 eσ7
  have hσ7 : RS σ7 := RS_eq eσ7 (RS.up hσ6 (Rl rfl) _ _)
  refine r_iloadn (dc D_cX11_takeCondition_0 18 rfl) rfl rfl ?_
  exact r_iret (dc D_cX11_takeCondition_0 19 rfl) rfl rz5 h
-- end of GateFlow.takeCondition
def mi_X11_pick : MI := (cX11_pick, RX11, 2, 13, (some .int), 1)
def FX11_pick (σ : PS) (Φ : Int → PS → Prop) : Prop :=
  FX11_takeCondition σ (fun z1 σ2 =>
  ((σ2 9 3 < 0 →
    Φ z1 σ2) ∧
  (¬ σ2 9 3 < 0 →
    Rg ((-100) - (σ2 9 3)) ∧
    Φ ((-100) - (σ2 9 3)) σ2)))
theorem cw_RX11_268 : CWV RX11 268 yX11_takeCondition mi_X11_takeCondition := tb_r [978, 980, 30, 97, 981] (by decide +kernel)
theorem nm_yX11_takeCondition : ynm yX11_takeCondition 0 := ⟨⟨by decide +kernel, by decide +kernel⟩, by decide +kernel⟩
set_option maxRecDepth 100000 in
theorem CX11_pick {E : EV} (hE : eOK layC E) {Φ : Int → PS → Prop} (σ : PS) (hs : RS σ) (h : FX11_pick σ Φ) : CT layC E yX11_pick mi_X11_pick [.ref (eA E 0)] σ Φ := by
  refine ct_of (by decide +kernel) rfl hE rfl rfl hs (fun x => ?_)
  show RW layC E mi_X11_pick Φ 0 [some (.ref (eA E 0)), none] [] σ x
  refine r_aloadn (dc D_cX11_pick_0 0 rfl) rfl rfl ?_
  refine r_callV (As := []) (st := []) (dc D_cX11_pick_0 1 rfl) cw_RX11_268 nm_yX11_takeCondition (CX11_takeCondition hE  _ hs h) lC_0 rfl rfl (by decide) rfl rfl rfl (fun z1 σ2 rz1 hσ2 h => ?_)
  show RW layC E mi_X11_pick Φ 4 [some (.ref (eA E 0)), none] [.int (iz z1)] σ2 x
  refine r_istoren (lv' := [some (.ref (eA E 0)), some (.int (iz z1))]) (dc D_cX11_pick_0 2 rfl) rfl rfl rfl ?_
  refine r_aloadn (dc D_cX11_pick_0 3 rfl) rfl rfl ?_
  refine r_getR (dc D_cX11_pick_0 4 rfl) fw_RX11_57 lC_0 rfl ?_
  refine r_getI (dc D_cX11_pick_0 5 rfl) fw_RX11_265 lC_9 rfl ?_
  refine r_if_lt (tgt := 28) (dc D_cX11_pick_0 6 rfl) (by decide) (hσ2 _ _) (fun c3 => ?_) (fun c3 => ?_)
  · have h := h.1 c3
    refine r_iloadn (dc D_cX11_pick_0 13 rfl) rfl rfl ?_
    exact r_iret (dc D_cX11_pick_0 14 rfl) rfl rz1 h
  · have h := h.2 c3
    refine r_bipush (n := (-100)) (dc D_cX11_pick_0 7 rfl) (by decide +kernel) ?_
    refine r_aloadn (dc D_cX11_pick_0 8 rfl) rfl rfl ?_
    refine r_getR (dc D_cX11_pick_0 9 rfl) fw_RX11_57 lC_0 rfl ?_
    refine r_getI (dc D_cX11_pick_0 10 rfl) fw_RX11_265 lC_9 rfl ?_
    refine r_isub (dc D_cX11_pick_0 11 rfl) ?_
    obtain ⟨o4, h⟩ := h
    refine r_goto (tgt := 29) (dc D_cX11_pick_0 12 rfl) (by decide) ?_
    exact r_iret (dc D_cX11_pick_0 14 rfl) rfl o4 h
-- end of GateFlow.pick
def mi_X11_many : MI := (cX11_many, RX11, 2, 13, (some .int), 1)
def FX11_many (σ : PS) (Φ : Int → PS → Prop) : Prop :=
  FX11_takeCondition σ (fun z1 σ2 =>
  ((σ2 9 3 < 0 →
    Φ (ibits z1) σ2) ∧
  (¬ σ2 9 3 < 0 →
    Rg ((-100) - (σ2 9 3)) ∧
    Φ ((-100) - (σ2 9 3)) σ2)))
theorem cw_RX11_271 : CWS RX11 271 yJ6_bitCount_0f7a4 mi_bitCount := tb_r [1091, 1092, 117, 1093] (by decide +kernel)
set_option maxRecDepth 100000 in
theorem CX11_many {E : EV} (hE : eOK layC E) {Φ : Int → PS → Prop} (σ : PS) (hs : RS σ) (h : FX11_many σ Φ) : CT layC E yX11_many mi_X11_many [.ref (eA E 0)] σ Φ := by
  refine ct_of (by decide +kernel) rfl hE rfl rfl hs (fun x => ?_)
  show RW layC E mi_X11_many Φ 0 [some (.ref (eA E 0)), none] [] σ x
  refine r_aloadn (dc D_cX11_many_0 0 rfl) rfl rfl ?_
  refine r_callV (As := []) (st := []) (dc D_cX11_many_0 1 rfl) cw_RX11_268 nm_yX11_takeCondition (CX11_takeCondition hE  _ hs h) lC_0 rfl rfl (by decide) rfl rfl rfl (fun z1 σ2 rz1 hσ2 h => ?_)
  show RW layC E mi_X11_many Φ 4 [some (.ref (eA E 0)), none] [.int (iz z1)] σ2 x
  refine r_istoren (lv' := [some (.ref (eA E 0)), some (.int (iz z1))]) (dc D_cX11_many_0 2 rfl) rfl rfl rfl ?_
  refine r_aloadn (dc D_cX11_many_0 3 rfl) rfl rfl ?_
  refine r_getR (dc D_cX11_many_0 4 rfl) fw_RX11_57 lC_0 rfl ?_
  refine r_getI (dc D_cX11_many_0 5 rfl) fw_RX11_265 lC_9 rfl ?_
  refine r_if_lt (tgt := 28) (dc D_cX11_many_0 6 rfl) (by decide) (hσ2 _ _) (fun c3 => ?_) (fun c3 => ?_)
  · have h := h.1 c3
    refine r_iloadn (dc D_cX11_many_0 13 rfl) rfl rfl ?_
    refine r_callS (As := [.int (iz z1)]) (dc D_cX11_many_0 14 rfl) cw_RX11_271 nm_bitCount (C_bitCount hE _ rz1 _ hσ2) rfl (by decide) rfl rfl rfl (fun z σz rz hz qz => ?_)
    obtain ⟨ez, es⟩ := qz
    rw [ez] at rz
    rw [ez, es]
    show RW layC E mi_X11_many Φ 32 [some (.ref (eA E 0)), some (.int (iz z1))] [.int (iz (ibits z1))] σ2 x
    exact r_iret (dc D_cX11_many_0 15 rfl) rfl rz h
  · have h := h.2 c3
    refine r_bipush (n := (-100)) (dc D_cX11_many_0 7 rfl) (by decide +kernel) ?_
    refine r_aloadn (dc D_cX11_many_0 8 rfl) rfl rfl ?_
    refine r_getR (dc D_cX11_many_0 9 rfl) fw_RX11_57 lC_0 rfl ?_
    refine r_getI (dc D_cX11_many_0 10 rfl) fw_RX11_265 lC_9 rfl ?_
    refine r_isub (dc D_cX11_many_0 11 rfl) ?_
    obtain ⟨o4, h⟩ := h
    refine r_goto (tgt := 32) (dc D_cX11_many_0 12 rfl) (by decide) ?_
    exact r_iret (dc D_cX11_many_0 15 rfl) rfl o4 h
-- end of GateFlow.many
def mi_X11_shutAll : MI := (cX11_shutAll, RX11, 5, 13, (some .int), 1)
def LX11_shutAll_89 (K40 : Int → Int → Int → Int → PS → Prop) (x1 x2 x3 x4 : Int) (σ : PS) (Φ : Int → PS → Prop) : Prop :=
  Rg (x4 + 1) ∧
  K40 x1 x2 x3 (x4 + 1) σ
def BX11_shutAll_40 (K40 : Int → Int → Int → Int → PS → Prop) (x1 x2 x3 x4 : Int) (σ : PS) (Φ : Int → PS → Prop) : Prop :=
  ((σ 1 6 ≤ x4 →
    FX11_forget σ (fun z2 σ3 =>
    Φ x3 σ3)) ∧
  (¬ σ 1 6 ≤ x4 →
    FX11_hasBit x2 x4 σ (fun z4 σ5 =>
    ((z4 = 0 →
      LX11_shutAll_89 K40 x1 x2 x3 x4 σ5 Φ) ∧
    (¬ z4 = 0 →
      (0 ≤ x4 ∧ x4 < 30) ∧
      ((σ5 18 x4.toNat = x1 →
        LX11_shutAll_89 K40 x1 x2 x3 x4 σ5 Φ) ∧
      (¬ σ5 18 x4.toNat = x1 →
        (0 ≤ x4 ∧ x4 < 30) ∧
        ∀ σ10 : PS, σ10 = up2 σ5 18 x4.toNat x1 →
        Rg (x3 + 1) ∧
        LX11_shutAll_89 K40 x1 x2 (x3 + 1) x4 σ10 Φ)))))))
def LX11_shutAll_40 : Nat → Int → Int → Int → Int → PS → (Int → PS → Prop) → Prop
  | 0, _, _, _, _, _, _ => False
  | n + 1, x1, x2, x3, x4, σ, Φ => BX11_shutAll_40 (fun x1 x2 x3 x4 σ => LX11_shutAll_40 n x1 x2 x3 x4 σ Φ) x1 x2 x3 x4 σ Φ
def FX11_shutAll (a1 : Int) (σ : PS) (Φ : Int → PS → Prop) : Prop :=
  FX11_isOneOrZero a1 σ (fun z1 σ2 =>
  ((¬ z1 = 0 →
    FX11_takeCondition σ2 (fun z4 σ5 =>
    ((σ5 9 3 < 0 →
      ∃ n, LX11_shutAll_40 n a1 z4 0 0 σ5 Φ) ∧
    (¬ σ5 9 3 < 0 →
      Rg ((-100) - (σ5 9 3)) ∧
      Φ ((-100) - (σ5 9 3)) σ5)))) ∧
  (z1 = 0 →
    Φ (-1) σ2)))
set_option maxRecDepth 100000 in
theorem TX11_shutAll_89 {E : EV} (hE : eOK layC E) {Φ : Int → PS → Prop} {K40 : Int → Int → Int → Int → PS → Prop} (x : CX) (hK40 : ∀ (x1 x2 x3 x4 : Int) (σ : PS), Rg x1 → Rg x2 → Rg x3 → Rg x4 → RS σ → K40 x1 x2 x3 x4 σ → RW layC E mi_X11_shutAll Φ 40 [some (.ref (eA E 0)), some (.int (iz x1)), some (.int (iz x2)), some (.int (iz x3)), some (.int (iz x4))] [] σ x) (x1 x2 x3 x4 : Int) (rx1 : Rg x1) (rx2 : Rg x2) (rx3 : Rg x3) (rx4 : Rg x4) (σ : PS) (hs : RS σ) (h : LX11_shutAll_89 K40 x1 x2 x3 x4 σ Φ) : RW layC E mi_X11_shutAll Φ 89 [some (.ref (eA E 0)), some (.int (iz x1)), some (.int (iz x2)), some (.int (iz x3)), some (.int (iz x4))] [] σ x := by
  obtain ⟨o1, h⟩ := h
  refine r_iinc (lv' := [some (.ref (eA E 0)), some (.int (iz x1)), some (.int (iz x2)), some (.int (iz x3)), some (.int (iz (x4 + 1)))]) (dc D_cX11_shutAll_1 5 rfl) rfl rfl rfl ?_
  refine r_goto (tgt := 40) (dc D_cX11_shutAll_1 6 rfl) (by decide) ?_
  exact hK40 _ _ _ _ _ rx1 rx2 rx3 o1 hs h
set_option maxRecDepth 100000 in
theorem TBX11_shutAll_40 {E : EV} (hE : eOK layC E) {Φ : Int → PS → Prop} {K40 : Int → Int → Int → Int → PS → Prop} (x : CX) (hK40 : ∀ (x1 x2 x3 x4 : Int) (σ : PS), Rg x1 → Rg x2 → Rg x3 → Rg x4 → RS σ → K40 x1 x2 x3 x4 σ → RW layC E mi_X11_shutAll Φ 40 [some (.ref (eA E 0)), some (.int (iz x1)), some (.int (iz x2)), some (.int (iz x3)), some (.int (iz x4))] [] σ x) (x1 x2 x3 x4 : Int) (rx1 : Rg x1) (rx2 : Rg x2) (rx3 : Rg x3) (rx4 : Rg x4) (σ : PS) (hs : RS σ) (h : BX11_shutAll_40 K40 x1 x2 x3 x4 σ Φ) : RW layC E mi_X11_shutAll Φ 40 [some (.ref (eA E 0)), some (.int (iz x1)), some (.int (iz x2)), some (.int (iz x3)), some (.int (iz x4))] [] σ x := by
  refine r_iload (dc D_cX11_shutAll_0 22 rfl) rfl ?_
  refine r_aloadn (dc D_cX11_shutAll_0 23 rfl) rfl rfl ?_
  refine r_getR (dc D_cX11_shutAll_0 24 rfl) fw_RX11_12 lC_0 rfl ?_
  refine r_getI (dc D_cX11_shutAll_0 25 rfl) fw_RX11_92 lC_1 rfl ?_
  refine r_icmp_ge (tgt := 95) (dc D_cX11_shutAll_0 26 rfl) (by decide) rx4 (hs _ _) (fun c1 => ?_) (fun c1 => ?_)
  · have h := h.1 c1
    refine r_aloadn (dc D_cX11_shutAll_1 7 rfl) rfl rfl ?_
    refine r_callV (As := []) (st := []) (dc D_cX11_shutAll_1 8 rfl) cw_RX11_96 nm_yX11_forget (CX11_forget hE  _ hs h) lC_0 rfl rfl (by decide) rfl rfl rfl (fun z2 σ3 rz2 hσ3 h => ?_)
    show RW layC E mi_X11_shutAll Φ 99 [some (.ref (eA E 0)), some (.int (iz x1)), some (.int (iz x2)), some (.int (iz x3)), some (.int (iz x4))] [] σ3 x
    refine r_iloadn (dc D_cX11_shutAll_1 9 rfl) rfl rfl ?_
    exact r_iret (dc D_cX11_shutAll_1 10 rfl) rfl rx3 h
  · have h := h.2 c1
    refine r_iloadn (dc D_cX11_shutAll_0 27 rfl) rfl rfl ?_
    refine r_iload (dc D_cX11_shutAll_0 28 rfl) rfl ?_
    refine r_callS (As := [.int (iz x2), .int (iz x4)]) (st := []) (dc D_cX11_shutAll_0 29 rfl) cw_RX11_177 nm_yX11_hasBit (CX11_hasBit hE _ _ rx2 rx4 _ hs h) rfl (by decide) rfl rfl rfl (fun z4 σ5 rz4 hσ5 h => ?_)
    show RW layC E mi_X11_shutAll Φ 58 [some (.ref (eA E 0)), some (.int (iz x1)), some (.int (iz x2)), some (.int (iz x3)), some (.int (iz x4))] [.int (iz z4)] σ5 x
    refine r_if_eq (tgt := 89) (dc D_cX11_shutAll_0 30 rfl) (by decide) rz4 (fun c6 => ?_) (fun c6 => ?_)
    · have h := h.1 c6
      exact TX11_shutAll_89 hE x hK40 _ _ _ _ rx1 rx2 rx3 rx4 _ hσ5 h
    · have h := h.2 c6
      refine r_aloadn (dc D_cX11_shutAll_0 31 rfl) rfl rfl ?_
      refine r_getR (dc D_cX11_shutAll_0 32 rfl) fw_RX11_12 lC_0 rfl ?_
      refine r_getR (dc D_cX11_shutAll_0 33 rfl) fw_RX11_122 lC_1 rfl ?_
      refine r_iload (dc D_cX11_shutAll_0 34 rfl) rfl ?_
      obtain ⟨o7, h⟩ := h
      refine r_iald (N := 30) (dc D_cX11_shutAll_0 35 rfl) lC_18 rfl rfl o7 ?_
      refine r_iloadn (dc D_cX11_shutAll_0 36 rfl) rfl rfl ?_
      refine r_icmp_eq (tgt := 89) (dc D_cX11_shutAll_0 37 rfl) (by decide) (hσ5 _ _) rx1 (fun c8 => ?_) (fun c8 => ?_)
      · have h := h.1 c8
        exact TX11_shutAll_89 hE x hK40 _ _ _ _ rx1 rx2 rx3 rx4 _ hσ5 h
      · have h := h.2 c8
        refine r_aloadn (dc D_cX11_shutAll_0 38 rfl) rfl rfl ?_
        refine r_getR (dc D_cX11_shutAll_0 39 rfl) fw_RX11_12 lC_0 rfl ?_
        refine r_getR (dc D_cX11_shutAll_1 0 rfl) fw_RX11_122 lC_1 rfl ?_
        refine r_iload (dc D_cX11_shutAll_1 1 rfl) rfl ?_
        refine r_iloadn (dc D_cX11_shutAll_1 2 rfl) rfl rfl ?_
        obtain ⟨o9, h⟩ := h
        refine r_iast (N := 30) (dc D_cX11_shutAll_1 3 rfl) lC_18 rfl rfl o9 rx1 ?_
        refine r_sig (fun σ10 eσ10 => ?_)
        have h := h σ10 eσ10
        have hσ10 : RS σ10 := RS_eq eσ10 (RS.up hσ5 rx1 _ _)
        obtain ⟨o11, h⟩ := h
        refine r_iinc (lv' := [some (.ref (eA E 0)), some (.int (iz x1)), some (.int (iz x2)), some (.int (iz (x3 + 1))), some (.int (iz x4))]) (dc D_cX11_shutAll_1 4 rfl) rfl rfl rfl ?_
        exact TX11_shutAll_89 hE x hK40 _ _ _ _ rx1 rx2 o11 rx4 _ hσ10 h
theorem TX11_shutAll_40 {E : EV} (hE : eOK layC E) {Φ : Int → PS → Prop} (x : CX) (n : Nat) : ∀ (x1 x2 x3 x4 : Int) (σ : PS), Rg x1 → Rg x2 → Rg x3 → Rg x4 → RS σ → LX11_shutAll_40 n x1 x2 x3 x4 σ Φ → RW layC E mi_X11_shutAll Φ 40 [some (.ref (eA E 0)), some (.int (iz x1)), some (.int (iz x2)), some (.int (iz x3)), some (.int (iz x4))] [] σ x := by
  induction n with
  | zero => intro x1 x2 x3 x4 σ _ _ _ _ _ h; exact h.elim
  | succ n ih => intro x1 x2 x3 x4 σ rx1 rx2 rx3 rx4 hs h; exact TBX11_shutAll_40 hE x ih x1 x2 x3 x4 rx1 rx2 rx3 rx4 σ hs h
set_option maxRecDepth 100000 in
theorem CX11_shutAll {E : EV} (hE : eOK layC E) {Φ : Int → PS → Prop} (a1 : Int) (ra1 : Rg a1) (σ : PS) (hs : RS σ) (h : FX11_shutAll a1 σ Φ) : CT layC E yX11_shutAll mi_X11_shutAll [.ref (eA E 0), .int (iz a1)] σ Φ := by
  refine ct_of (by decide +kernel) rfl hE rfl rfl hs (fun x => ?_)
  show RW layC E mi_X11_shutAll Φ 0 [some (.ref (eA E 0)), some (.int (iz a1)), none, none, none] [] σ x
  refine r_iloadn (dc D_cX11_shutAll_0 0 rfl) rfl rfl ?_
  refine r_callS (As := [.int (iz a1)]) (st := []) (dc D_cX11_shutAll_0 1 rfl) cw_RX11_125 nm_yX11_isOneOrZero (CX11_isOneOrZero hE _ ra1 _ hs h) rfl (by decide) rfl rfl rfl (fun z1 σ2 rz1 hσ2 h => ?_)
  show RW layC E mi_X11_shutAll Φ 4 [some (.ref (eA E 0)), some (.int (iz a1)), none, none, none] [.int (iz z1)] σ2 x
  refine r_if_ne (tgt := 9) (dc D_cX11_shutAll_0 2 rfl) (by decide) rz1 (fun c3 => ?_) (fun c3 => ?_)
  · have h := h.1 c3
    refine r_aloadn (dc D_cX11_shutAll_0 5 rfl) rfl rfl ?_
    refine r_callV (As := []) (st := []) (dc D_cX11_shutAll_0 6 rfl) cw_RX11_268 nm_yX11_takeCondition (CX11_takeCondition hE  _ hσ2 h) lC_0 rfl rfl (by decide) rfl rfl rfl (fun z4 σ5 rz4 hσ5 h => ?_)
    show RW layC E mi_X11_shutAll Φ 13 [some (.ref (eA E 0)), some (.int (iz a1)), none, none, none] [.int (iz z4)] σ5 x
    refine r_istoren (lv' := [some (.ref (eA E 0)), some (.int (iz a1)), some (.int (iz z4)), none, none]) (dc D_cX11_shutAll_0 7 rfl) rfl rfl rfl ?_
    refine r_aloadn (dc D_cX11_shutAll_0 8 rfl) rfl rfl ?_
    refine r_getR (dc D_cX11_shutAll_0 9 rfl) fw_RX11_57 lC_0 rfl ?_
    refine r_getI (dc D_cX11_shutAll_0 10 rfl) fw_RX11_265 lC_9 rfl ?_
    refine r_if_lt (tgt := 35) (dc D_cX11_shutAll_0 11 rfl) (by decide) (hσ5 _ _) (fun c6 => ?_) (fun c6 => ?_)
    · have h := h.1 c6
      refine r_iconst (n := 0) (dc D_cX11_shutAll_0 18 rfl) ?_
      refine r_istoren (lv' := [some (.ref (eA E 0)), some (.int (iz a1)), some (.int (iz z4)), some (.int (iz 0)), none]) (dc D_cX11_shutAll_0 19 rfl) rfl rfl rfl ?_
      refine r_iconst (n := 0) (dc D_cX11_shutAll_0 20 rfl) ?_
      refine r_istore (lv' := [some (.ref (eA E 0)), some (.int (iz a1)), some (.int (iz z4)), some (.int (iz 0)), some (.int (iz 0))]) (dc D_cX11_shutAll_0 21 rfl) rfl rfl ?_
      obtain ⟨n, h⟩ := h
      exact TX11_shutAll_40 hE x n _ _ _ _ _ ra1 rz4 (Rl rfl) (Rl rfl) hσ5 h
    · have h := h.2 c6
      refine r_bipush (n := (-100)) (dc D_cX11_shutAll_0 12 rfl) (by decide +kernel) ?_
      refine r_aloadn (dc D_cX11_shutAll_0 13 rfl) rfl rfl ?_
      refine r_getR (dc D_cX11_shutAll_0 14 rfl) fw_RX11_57 lC_0 rfl ?_
      refine r_getI (dc D_cX11_shutAll_0 15 rfl) fw_RX11_265 lC_9 rfl ?_
      refine r_isub (dc D_cX11_shutAll_0 16 rfl) ?_
      obtain ⟨o7, h⟩ := h
      exact r_iret (dc D_cX11_shutAll_0 17 rfl) rfl o7 h
  · have h := h.2 c3
    refine r_iconst (n := (-1)) (dc D_cX11_shutAll_0 3 rfl) ?_
    exact r_iret (dc D_cX11_shutAll_0 4 rfl) rfl (Rl rfl) h
-- end of GateFlow.shutAll
def mi_X7_putSign : MI := (cX7_putSign, RX7, 2, 1, none, 0)
def FX7_putSign (a1 : Int) (σ : PS) (Φ : Int → PS → Prop) : Prop :=
  ((σ 11 1 < 0 →
    Φ 0 σ) ∧
  (¬ σ 11 1 < 0 →
    ((510 ≤ σ 11 1 →
      Φ 0 σ) ∧
    (¬ 510 ≤ σ 11 1 →
      (-128 ≤ a1 ∧ a1 ≤ 127) ∧
      (0 ≤ σ 11 1 ∧ σ 11 1 < 510) ∧
      (-128 ≤ a1 ∧ a1 ≤ 127) ∧
      ∀ σ6 : PS, σ6 = up2 σ 61 (σ 11 1).toNat a1 →
      Rg ((σ6 11 1) + 1) ∧
      ∀ σ8 : PS, σ8 = up2 σ6 11 1 ((σ6 11 1) + 1) →
      Φ 0 σ8))))
theorem fw_RX11_71 : FW RX11 71 11 14 := ⟨RX11, TX11, 16, rfl, by decide, rfl, tb_1 511 (by decide +kernel), uw_11⟩
theorem fw_RX7_19 : FW RX7 19 3 6 := ⟨RX3, TX3, 9, rfl, by decide, rfl, tb_1 168 (by decide +kernel), uw_3⟩
theorem fw_RX7_28 : FW RX7 28 3 0 := ⟨RX3, TX3, 9, rfl, by decide, rfl, tb_1 133 (by decide +kernel), uw_3⟩
theorem fw_RX7_15 : FW RX7 15 7 1 := ⟨RX7, TX7, 2, rfl, by decide, rfl, tb_1 474 (by decide +kernel), uw_7⟩
theorem fw_RX7_9 : FW RX7 9 7 0 := ⟨RX7, TX7, 2, rfl, by decide, rfl, tb_1 472 (by decide +kernel), uw_7⟩
theorem fp_7_1 : FP 7 1 .int := ⟨RX7, TX7, 2, tyX7, rfl, tyX7_ok, nmX7, rfl, by decide +kernel⟩
set_option maxRecDepth 100000 in
theorem CX7_putSign {E : EV} (hE : eOK layC E) {Φ : Int → PS → Prop} (a1 : Int) (ra1 : Rg a1) (σ : PS) (hs : RS σ) (h : FX7_putSign a1 σ Φ) : CT layC E yX7_putSign mi_X7_putSign [.ref (eA E 11), .int (iz a1)] σ Φ := by
  refine ct_of (by decide +kernel) rfl hE rfl rfl hs (fun x => ?_)
  show RW layC E mi_X7_putSign Φ 0 [some (.ref (eA E 11)), some (.int (iz a1))] [] σ x
  refine r_aloadn (dc D_cX7_putSign_0 0 rfl) rfl rfl ?_
  refine r_getI (dc D_cX7_putSign_0 1 rfl) fw_RX7_15 lC_11 rfl ?_
  refine r_if_lt (tgt := 38) (dc D_cX7_putSign_0 2 rfl) (by decide) (hs _ _) (fun c1 => ?_) (fun c1 => ?_)
  · have h := h.1 c1
    exact r_vret (dc D_cX7_putSign_0 20 rfl) rfl h
  · have h := h.2 c1
    refine r_aloadn (dc D_cX7_putSign_0 3 rfl) rfl rfl ?_
    refine r_getI (dc D_cX7_putSign_0 4 rfl) fw_RX7_15 lC_11 rfl ?_
    refine r_sipush (n := 510) (dc D_cX7_putSign_0 5 rfl) (by decide +kernel) ?_
    refine r_icmp_ge (tgt := 38) (dc D_cX7_putSign_0 6 rfl) (by decide) (hs _ _) (Rl rfl) (fun c2 => ?_) (fun c2 => ?_)
    · have h := h.1 c2
      exact r_vret (dc D_cX7_putSign_0 20 rfl) rfl h
    · have h := h.2 c2
      refine r_aloadn (dc D_cX7_putSign_0 7 rfl) rfl rfl ?_
      refine r_getR (dc D_cX7_putSign_0 8 rfl) fw_RX7_9 lC_11 rfl ?_
      refine r_aloadn (dc D_cX7_putSign_0 9 rfl) rfl rfl ?_
      refine r_getI (dc D_cX7_putSign_0 10 rfl) fw_RX7_15 lC_11 rfl ?_
      refine r_iloadn (dc D_cX7_putSign_0 11 rfl) rfl rfl ?_
      obtain ⟨o3, h⟩ := h
      refine r_i2b (dc D_cX7_putSign_0 12 rfl) o3 ?_
      obtain ⟨o4, h⟩ := h
      obtain ⟨o5, h⟩ := h
      refine r_bast (N := 510) (dc D_cX7_putSign_0 13 rfl) lC_61 rfl rfl o4 o5 ?_
      refine r_sig (fun σ6 eσ6 => ?_)
      have h := h σ6 eσ6
      have hσ6 : RS σ6 := RS_eq eσ6 (RS.up hs ra1 _ _)
      refine r_aloadn (dc D_cX7_putSign_0 14 rfl) rfl rfl ?_
      refine r_dup (dc D_cX7_putSign_0 15 rfl) rfl ?_
      refine r_getI (dc D_cX7_putSign_0 16 rfl) fw_RX7_15 lC_11 rfl ?_
      refine r_iconst (n := 1) (dc D_cX7_putSign_0 17 rfl) ?_
      refine r_iadd (dc D_cX7_putSign_0 18 rfl) ?_
      obtain ⟨o7, h⟩ := h
      refine r_put (dc D_cX7_putSign_0 19 rfl) fw_RX7_15 fp_7_1 lC_11 rfl (nar_int _) o7 ?_
      refine r_sig (fun σ8 eσ8 => ?_)
      have h := h σ8 eσ8
      have hσ8 : RS σ8 := RS_eq eσ8 (RS.up hσ6 o7 _ _)
      exact r_vret (dc D_cX7_putSign_0 20 rfl) rfl h
-- end of GateFlow$Paper.putSign
def mi_X7_putNumber : MI := (cX7_putNumber, RX7, 2, 2, none, 0)
def LX7_putNumber_37 (x1 : Int) (σ : PS) (Φ : Int → PS → Prop) : Prop :=
  0 ≤ x1 ∧
  Rg (48 + (x1 % 10)) ∧
  FX7_putSign (48 + (x1 % 10)) σ (fun z3 σ4 =>
  Φ 0 σ4)
def LX7_putNumber_17 (x1 : Int) (σ : PS) (Φ : Int → PS → Prop) : Prop :=
  ((x1 < 10 →
    LX7_putNumber_37 x1 σ Φ) ∧
  (¬ x1 < 10 →
    0 ≤ x1 ∧
    0 ≤ x1 / 10 ∧
    Rg (48 + ((x1 / 10) % 10)) ∧
    FX7_putSign (48 + ((x1 / 10) % 10)) σ (fun z5 σ6 =>
    LX7_putNumber_37 x1 σ6 Φ)))
def FX7_putNumber (a1 : Int) (σ : PS) (Φ : Int → PS → Prop) : Prop :=
  ((a1 < 100 →
    LX7_putNumber_17 a1 σ Φ) ∧
  (¬ a1 < 100 →
    0 ≤ a1 ∧
    Rg (48 + (a1 / 100)) ∧
    FX7_putSign (48 + (a1 / 100)) σ (fun z4 σ5 =>
    LX7_putNumber_17 a1 σ5 Φ)))
theorem cw_RX7_24 : CWV RX7 24 yX7_putSign mi_X7_putSign := tb_r [1109, 1111, 37, 107, 1112] (by decide +kernel)
theorem nm_yX7_putSign : ynm yX7_putSign 1 := ⟨⟨by decide +kernel, by decide +kernel⟩, by decide +kernel⟩
set_option maxRecDepth 100000 in
theorem TX7_putNumber_37 {E : EV} (hE : eOK layC E) {Φ : Int → PS → Prop} (x : CX) (x1 : Int) (rx1 : Rg x1) (σ : PS) (hs : RS σ) (h : LX7_putNumber_37 x1 σ Φ) : RW layC E mi_X7_putNumber Φ 37 [some (.ref (eA E 11)), some (.int (iz x1))] [] σ x := by
  refine r_aloadn (dc D_cX7_putNumber_0 22 rfl) rfl rfl ?_
  refine r_bipush (n := 48) (dc D_cX7_putNumber_0 23 rfl) (by decide +kernel) ?_
  refine r_iloadn (dc D_cX7_putNumber_0 24 rfl) rfl rfl ?_
  refine r_bipush (n := 10) (dc D_cX7_putNumber_0 25 rfl) (by decide +kernel) ?_
  obtain ⟨o1, h⟩ := h
  refine r_irem (dc D_cX7_putNumber_0 26 rfl) rx1 (Rl rfl) o1 (by decide) ?_
  refine r_iadd (dc D_cX7_putNumber_0 27 rfl) ?_
  obtain ⟨o2, h⟩ := h
  refine r_callV (As := [.int (iz (48 + (x1 % 10)))]) (st := []) (dc D_cX7_putNumber_0 28 rfl) cw_RX7_24 nm_yX7_putSign (CX7_putSign hE _ o2 _ hs h) lC_11 rfl rfl (by decide) rfl rfl rfl (fun z3 σ4 rz3 hσ4 h => ?_)
  show RW layC E mi_X7_putNumber Φ 48 [some (.ref (eA E 11)), some (.int (iz x1))] [] σ4 x
  exact r_vret (dc D_cX7_putNumber_0 29 rfl) rfl h
set_option maxRecDepth 100000 in
theorem TX7_putNumber_17 {E : EV} (hE : eOK layC E) {Φ : Int → PS → Prop} (x : CX) (x1 : Int) (rx1 : Rg x1) (σ : PS) (hs : RS σ) (h : LX7_putNumber_17 x1 σ Φ) : RW layC E mi_X7_putNumber Φ 17 [some (.ref (eA E 11)), some (.int (iz x1))] [] σ x := by
  refine r_iloadn (dc D_cX7_putNumber_0 10 rfl) rfl rfl ?_
  refine r_bipush (n := 10) (dc D_cX7_putNumber_0 11 rfl) (by decide +kernel) ?_
  refine r_icmp_lt (tgt := 37) (dc D_cX7_putNumber_0 12 rfl) (by decide) rx1 (Rl rfl) (fun c1 => ?_) (fun c1 => ?_)
  · have h := h.1 c1
    exact TX7_putNumber_37 hE x _ rx1 _ hs h
  · have h := h.2 c1
    refine r_aloadn (dc D_cX7_putNumber_0 13 rfl) rfl rfl ?_
    refine r_bipush (n := 48) (dc D_cX7_putNumber_0 14 rfl) (by decide +kernel) ?_
    refine r_iloadn (dc D_cX7_putNumber_0 15 rfl) rfl rfl ?_
    refine r_bipush (n := 10) (dc D_cX7_putNumber_0 16 rfl) (by decide +kernel) ?_
    obtain ⟨o2, h⟩ := h
    refine r_idiv (dc D_cX7_putNumber_0 17 rfl) rx1 (Rl rfl) o2 (by decide) ?_
    refine r_bipush (n := 10) (dc D_cX7_putNumber_0 18 rfl) (by decide +kernel) ?_
    obtain ⟨o3, h⟩ := h
    refine r_irem (dc D_cX7_putNumber_0 19 rfl) (Rg_div rx1 o2 rfl) (Rl rfl) o3 (by decide) ?_
    refine r_iadd (dc D_cX7_putNumber_0 20 rfl) ?_
    obtain ⟨o4, h⟩ := h
    refine r_callV (As := [.int (iz (48 + ((x1 / 10) % 10)))]) (st := []) (dc D_cX7_putNumber_0 21 rfl) cw_RX7_24 nm_yX7_putSign (CX7_putSign hE _ o4 _ hs h) lC_11 rfl rfl (by decide) rfl rfl rfl (fun z5 σ6 rz5 hσ6 h => ?_)
    show RW layC E mi_X7_putNumber Φ 37 [some (.ref (eA E 11)), some (.int (iz x1))] [] σ6 x
    exact TX7_putNumber_37 hE x _ rx1 _ hσ6 h
set_option maxRecDepth 100000 in
theorem CX7_putNumber {E : EV} (hE : eOK layC E) {Φ : Int → PS → Prop} (a1 : Int) (ra1 : Rg a1) (σ : PS) (hs : RS σ) (h : FX7_putNumber a1 σ Φ) : CT layC E yX7_putNumber mi_X7_putNumber [.ref (eA E 11), .int (iz a1)] σ Φ := by
  refine ct_of (by decide +kernel) rfl hE rfl rfl hs (fun x => ?_)
  show RW layC E mi_X7_putNumber Φ 0 [some (.ref (eA E 11)), some (.int (iz a1))] [] σ x
  refine r_iloadn (dc D_cX7_putNumber_0 0 rfl) rfl rfl ?_
  refine r_bipush (n := 100) (dc D_cX7_putNumber_0 1 rfl) (by decide +kernel) ?_
  refine r_icmp_lt (tgt := 17) (dc D_cX7_putNumber_0 2 rfl) (by decide) ra1 (Rl rfl) (fun c1 => ?_) (fun c1 => ?_)
  · have h := h.1 c1
    exact TX7_putNumber_17 hE x _ ra1 _ hs h
  · have h := h.2 c1
    refine r_aloadn (dc D_cX7_putNumber_0 3 rfl) rfl rfl ?_
    refine r_bipush (n := 48) (dc D_cX7_putNumber_0 4 rfl) (by decide +kernel) ?_
    refine r_iloadn (dc D_cX7_putNumber_0 5 rfl) rfl rfl ?_
    refine r_bipush (n := 100) (dc D_cX7_putNumber_0 6 rfl) (by decide +kernel) ?_
    obtain ⟨o2, h⟩ := h
    refine r_idiv (dc D_cX7_putNumber_0 7 rfl) ra1 (Rl rfl) o2 (by decide) ?_
    refine r_iadd (dc D_cX7_putNumber_0 8 rfl) ?_
    obtain ⟨o3, h⟩ := h
    refine r_callV (As := [.int (iz (48 + (a1 / 100)))]) (st := []) (dc D_cX7_putNumber_0 9 rfl) cw_RX7_24 nm_yX7_putSign (CX7_putSign hE _ o3 _ hs h) lC_11 rfl rfl (by decide) rfl rfl rfl (fun z4 σ5 rz4 hσ5 h => ?_)
    show RW layC E mi_X7_putNumber Φ 17 [some (.ref (eA E 11)), some (.int (iz a1))] [] σ5 x
    exact TX7_putNumber_17 hE x _ ra1 _ hσ5 h
-- end of GateFlow$Paper.putNumber
def mi_X7_putPassage : MI := (cX7_putPassage, RX7, 4, 3, none, 0)
def LX7_putPassage_15 (x2 x3 : Int) (σ : PS) (Φ : Int → PS → Prop) : Prop :=
  FX7_putNumber x2 σ (fun z1 σ2 =>
  ((x3 = 1 →
    Φ 0 σ2) ∧
  (¬ x3 = 1 →
    FX7_putSign 64 σ2 (fun z4 σ5 =>
    FX7_putNumber x3 σ5 (fun z6 σ7 =>
    Φ 0 σ7)))))
def FX7_putPassage (a1 a2 a3 : Int) (σ : PS) (Φ : Int → PS → Prop) : Prop :=
  ((a1 = 0 →
    LX7_putPassage_15 a2 a3 σ Φ) ∧
  (¬ a1 = 0 →
    FX7_putNumber a1 σ (fun z2 σ3 =>
    FX7_putSign 45 σ3 (fun z4 σ5 =>
    LX7_putPassage_15 a2 a3 σ5 Φ))))
theorem fw_RX7_35 : FW RX7 35 3 1 := ⟨RX3, TX3, 9, rfl, by decide, rfl, tb_1 142 (by decide +kernel), uw_3⟩
theorem fw_RX7_38 : FW RX7 38 3 2 := ⟨RX3, TX3, 9, rfl, by decide, rfl, tb_1 151 (by decide +kernel), uw_3⟩
theorem fw_RX7_41 : FW RX7 41 3 3 := ⟨RX3, TX3, 9, rfl, by decide, rfl, tb_1 155 (by decide +kernel), uw_3⟩
theorem fw_RX7_44 : FW RX7 44 3 4 := ⟨RX3, TX3, 9, rfl, by decide, rfl, tb_1 159 (by decide +kernel), uw_3⟩
theorem cw_RX7_32 : CWV RX7 32 yX7_putNumber mi_X7_putNumber := tb_r [1113, 1115, 38, 107, 1116] (by decide +kernel)
theorem nm_yX7_putNumber : ynm yX7_putNumber 1 := ⟨⟨by decide +kernel, by decide +kernel⟩, by decide +kernel⟩
set_option maxRecDepth 100000 in
theorem TX7_putPassage_15 {E : EV} (hE : eOK layC E) {Φ : Int → PS → Prop} (x : CX) (x2 x3 : Int) (rx2 : Rg x2) (rx3 : Rg x3) (σ : PS) (hs : RS σ) (h : LX7_putPassage_15 x2 x3 σ Φ) : RW layC E mi_X7_putPassage Φ 15 [some (.ref (eA E 11)), none, some (.int (iz x2)), some (.int (iz x3))] [] σ x := by
  refine r_aloadn (dc D_cX7_putPassage_0 8 rfl) rfl rfl ?_
  refine r_iloadn (dc D_cX7_putPassage_0 9 rfl) rfl rfl ?_
  refine r_callV (As := [.int (iz x2)]) (st := []) (dc D_cX7_putPassage_0 10 rfl) cw_RX7_32 nm_yX7_putNumber (CX7_putNumber hE _ rx2 _ hs h) lC_11 rfl rfl (by decide) rfl rfl rfl (fun z1 σ2 rz1 hσ2 h => ?_)
  show RW layC E mi_X7_putPassage Φ 20 [some (.ref (eA E 11)), none, some (.int (iz x2)), some (.int (iz x3))] [] σ2 x
  refine r_iloadn (dc D_cX7_putPassage_0 11 rfl) rfl rfl ?_
  refine r_iconst (n := 1) (dc D_cX7_putPassage_0 12 rfl) ?_
  refine r_icmp_eq (tgt := 36) (dc D_cX7_putPassage_0 13 rfl) (by decide) rx3 (Rl rfl) (fun c3 => ?_) (fun c3 => ?_)
  · have h := h.1 c3
    exact r_vret (dc D_cX7_putPassage_0 20 rfl) rfl h
  · have h := h.2 c3
    refine r_aloadn (dc D_cX7_putPassage_0 14 rfl) rfl rfl ?_
    refine r_bipush (n := 64) (dc D_cX7_putPassage_0 15 rfl) (by decide +kernel) ?_
    refine r_callV (As := [.int (iz 64)]) (st := []) (dc D_cX7_putPassage_0 16 rfl) cw_RX7_24 nm_yX7_putSign (CX7_putSign hE _ (Rl rfl) _ hσ2 h) lC_11 rfl rfl (by decide) rfl rfl rfl (fun z4 σ5 rz4 hσ5 h => ?_)
    show RW layC E mi_X7_putPassage Φ 31 [some (.ref (eA E 11)), none, some (.int (iz x2)), some (.int (iz x3))] [] σ5 x
    refine r_aloadn (dc D_cX7_putPassage_0 17 rfl) rfl rfl ?_
    refine r_iloadn (dc D_cX7_putPassage_0 18 rfl) rfl rfl ?_
    refine r_callV (As := [.int (iz x3)]) (st := []) (dc D_cX7_putPassage_0 19 rfl) cw_RX7_32 nm_yX7_putNumber (CX7_putNumber hE _ rx3 _ hσ5 h) lC_11 rfl rfl (by decide) rfl rfl rfl (fun z6 σ7 rz6 hσ7 h => ?_)
    show RW layC E mi_X7_putPassage Φ 36 [some (.ref (eA E 11)), none, some (.int (iz x2)), some (.int (iz x3))] [] σ7 x
    exact r_vret (dc D_cX7_putPassage_0 20 rfl) rfl h
set_option maxRecDepth 100000 in
theorem CX7_putPassage {E : EV} (hE : eOK layC E) {Φ : Int → PS → Prop} (a1 a2 a3 : Int) (ra1 : Rg a1) (ra2 : Rg a2) (ra3 : Rg a3) (σ : PS) (hs : RS σ) (h : FX7_putPassage a1 a2 a3 σ Φ) : CT layC E yX7_putPassage mi_X7_putPassage [.ref (eA E 11), .int (iz a1), .int (iz a2), .int (iz a3)] σ Φ := by
  refine ct_of (by decide +kernel) rfl hE rfl rfl hs (fun x => ?_)
  show RW layC E mi_X7_putPassage Φ 0 [some (.ref (eA E 11)), some (.int (iz a1)), some (.int (iz a2)), some (.int (iz a3))] [] σ x
  refine r_iloadn (dc D_cX7_putPassage_0 0 rfl) rfl rfl ?_
  refine r_if_eq (tgt := 15) (dc D_cX7_putPassage_0 1 rfl) (by decide) ra1 (fun c1 => ?_) (fun c1 => ?_)
  · have h := h.1 c1
    refine r_sub (lv' := [some (.ref (eA E 11)), none, some (.int (iz a2)), some (.int (iz a3))]) (subL_s (subL_n (subL_s (subL_s subL_e)))) ?_
    exact TX7_putPassage_15 hE x _ _ ra2 ra3 _ hs h
  · have h := h.2 c1
    refine r_aloadn (dc D_cX7_putPassage_0 2 rfl) rfl rfl ?_
    refine r_iloadn (dc D_cX7_putPassage_0 3 rfl) rfl rfl ?_
    refine r_callV (As := [.int (iz a1)]) (st := []) (dc D_cX7_putPassage_0 4 rfl) cw_RX7_32 nm_yX7_putNumber (CX7_putNumber hE _ ra1 _ hs h) lC_11 rfl rfl (by decide) rfl rfl rfl (fun z2 σ3 rz2 hσ3 h => ?_)
    show RW layC E mi_X7_putPassage Φ 9 [some (.ref (eA E 11)), some (.int (iz a1)), some (.int (iz a2)), some (.int (iz a3))] [] σ3 x
    refine r_aloadn (dc D_cX7_putPassage_0 5 rfl) rfl rfl ?_
    refine r_bipush (n := 45) (dc D_cX7_putPassage_0 6 rfl) (by decide +kernel) ?_
    refine r_callV (As := [.int (iz 45)]) (st := []) (dc D_cX7_putPassage_0 7 rfl) cw_RX7_24 nm_yX7_putSign (CX7_putSign hE _ (Rl rfl) _ hσ3 h) lC_11 rfl rfl (by decide) rfl rfl rfl (fun z4 σ5 rz4 hσ5 h => ?_)
    show RW layC E mi_X7_putPassage Φ 15 [some (.ref (eA E 11)), some (.int (iz a1)), some (.int (iz a2)), some (.int (iz a3))] [] σ5 x
    refine r_sub (lv' := [some (.ref (eA E 11)), none, some (.int (iz a2)), some (.int (iz a3))]) (subL_s (subL_n (subL_s (subL_s subL_e)))) ?_
    exact TX7_putPassage_15 hE x _ _ ra2 ra3 _ hσ5 h
-- end of GateFlow$Paper.putPassage
def mi_X7_write : MI := (cX7_write, RX7, 3, 4, none, 0)
def LX7_write_94 (K7 : Int → PS → Prop) (x2 : Int) (σ : PS) (Φ : Int → PS → Prop) : Prop :=
  Rg (x2 + 1) ∧
  K7 (x2 + 1) σ
def LX7_write_25 (K7 : Int → PS → Prop) (x2 : Int) (σ : PS) (Φ : Int → PS → Prop) : Prop :=
  (0 ≤ x2 ∧ x2 < 30) ∧
  FX7_putNumber (σ 13 x2.toNat) σ (fun z2 σ3 =>
  FX7_putSign 62 σ3 (fun z4 σ5 =>
  (0 ≤ x2 ∧ x2 < 30) ∧
  FX7_putNumber (σ5 14 x2.toNat) σ5 (fun z7 σ8 =>
  FX7_putSign 58 σ8 (fun z9 σ10 =>
  (0 ≤ x2 ∧ x2 < 30) ∧
  (0 ≤ x2 ∧ x2 < 30) ∧
  (0 ≤ x2 ∧ x2 < 30) ∧
  FX7_putPassage (σ10 15 x2.toNat) (σ10 16 x2.toNat) (σ10 17 x2.toNat) σ10 (fun z14 σ15 =>
  (0 ≤ x2 ∧ x2 < 30) ∧
  ((¬ σ15 18 x2.toNat = 0 →
    LX7_write_94 K7 x2 σ15 Φ) ∧
  (σ15 18 x2.toNat = 0 →
    FX7_putSign 120 σ15 (fun z18 σ19 =>
    LX7_write_94 K7 x2 σ19 Φ))))))))
def BX7_write_7 (K7 : Int → PS → Prop) (x2 : Int) (σ : PS) (Φ : Int → PS → Prop) : Prop :=
  ((σ 1 6 ≤ x2 →
    Φ 0 σ) ∧
  (¬ σ 1 6 ≤ x2 →
    ((x2 ≤ 0 →
      LX7_write_25 K7 x2 σ Φ) ∧
    (¬ x2 ≤ 0 →
      FX7_putSign 59 σ (fun z3 σ4 =>
      LX7_write_25 K7 x2 σ4 Φ)))))
def LX7_write_7 : Nat → Int → PS → (Int → PS → Prop) → Prop
  | 0, _, _, _ => False
  | n + 1, x2, σ, Φ => BX7_write_7 (fun x2 σ => LX7_write_7 n x2 σ Φ) x2 σ Φ
def FX7_write (σ : PS) (Φ : Int → PS → Prop) : Prop :=
  ∀ σ1 : PS, σ1 = up2 σ 11 1 0 →
  ∃ n, LX7_write_7 n 0 σ1 Φ
theorem fw_RX7_51 : FW RX7 51 3 5 := ⟨RX3, TX3, 9, rfl, by decide, rfl, tb_1 164 (by decide +kernel), uw_3⟩
theorem cw_RX7_47 : CWV RX7 47 yX7_putPassage mi_X7_putPassage := tb_r [1117, 1119, 39, 107, 1120] (by decide +kernel)
theorem nm_yX7_putPassage : ynm yX7_putPassage 3 := ⟨⟨by decide +kernel, by decide +kernel⟩, by decide +kernel⟩
set_option maxRecDepth 100000 in
theorem TX7_write_94 {E : EV} (hE : eOK layC E) {Φ : Int → PS → Prop} {K7 : Int → PS → Prop} (x : CX) (hK7 : ∀ (x2 : Int) (σ : PS), Rg x2 → RS σ → K7 x2 σ → RW layC E mi_X7_write Φ 7 [some (.ref (eA E 11)), some (.ref (eA E 1)), some (.int (iz x2))] [] σ x) (x2 : Int) (rx2 : Rg x2) (σ : PS) (hs : RS σ) (h : LX7_write_94 K7 x2 σ Φ) : RW layC E mi_X7_write Φ 94 [some (.ref (eA E 11)), some (.ref (eA E 1)), some (.int (iz x2))] [] σ x := by
  obtain ⟨o1, h⟩ := h
  refine r_iinc (lv' := [some (.ref (eA E 11)), some (.ref (eA E 1)), some (.int (iz (x2 + 1)))]) (dc D_cX7_write_1 14 rfl) rfl rfl rfl ?_
  refine r_goto (tgt := 7) (dc D_cX7_write_1 15 rfl) (by decide) ?_
  exact hK7 _ _ o1 hs h
set_option maxRecDepth 100000 in
theorem TX7_write_25 {E : EV} (hE : eOK layC E) {Φ : Int → PS → Prop} {K7 : Int → PS → Prop} (x : CX) (hK7 : ∀ (x2 : Int) (σ : PS), Rg x2 → RS σ → K7 x2 σ → RW layC E mi_X7_write Φ 7 [some (.ref (eA E 11)), some (.ref (eA E 1)), some (.int (iz x2))] [] σ x) (x2 : Int) (rx2 : Rg x2) (σ : PS) (hs : RS σ) (h : LX7_write_25 K7 x2 σ Φ) : RW layC E mi_X7_write Φ 25 [some (.ref (eA E 11)), some (.ref (eA E 1)), some (.int (iz x2))] [] σ x := by
  refine r_aloadn (dc D_cX7_write_0 14 rfl) rfl rfl ?_
  refine r_aloadn (dc D_cX7_write_0 15 rfl) rfl rfl ?_
  refine r_getR (dc D_cX7_write_0 16 rfl) fw_RX7_28 lC_1 rfl ?_
  refine r_iloadn (dc D_cX7_write_0 17 rfl) rfl rfl ?_
  obtain ⟨o1, h⟩ := h
  refine r_iald (N := 30) (dc D_cX7_write_0 18 rfl) lC_13 rfl rfl o1 ?_
  refine r_callV (As := [.int (iz (σ 13 x2.toNat))]) (st := []) (dc D_cX7_write_0 19 rfl) cw_RX7_32 nm_yX7_putNumber (CX7_putNumber hE _ (hs _ _) _ hs h) lC_11 rfl rfl (by decide) rfl rfl rfl (fun z2 σ3 rz2 hσ3 h => ?_)
  show RW layC E mi_X7_write Φ 35 [some (.ref (eA E 11)), some (.ref (eA E 1)), some (.int (iz x2))] [] σ3 x
  refine r_aloadn (dc D_cX7_write_0 20 rfl) rfl rfl ?_
  refine r_bipush (n := 62) (dc D_cX7_write_0 21 rfl) (by decide +kernel) ?_
  refine r_callV (As := [.int (iz 62)]) (st := []) (dc D_cX7_write_0 22 rfl) cw_RX7_24 nm_yX7_putSign (CX7_putSign hE _ (Rl rfl) _ hσ3 h) lC_11 rfl rfl (by decide) rfl rfl rfl (fun z4 σ5 rz4 hσ5 h => ?_)
  show RW layC E mi_X7_write Φ 41 [some (.ref (eA E 11)), some (.ref (eA E 1)), some (.int (iz x2))] [] σ5 x
  refine r_aloadn (dc D_cX7_write_0 23 rfl) rfl rfl ?_
  refine r_aloadn (dc D_cX7_write_0 24 rfl) rfl rfl ?_
  refine r_getR (dc D_cX7_write_0 25 rfl) fw_RX7_35 lC_1 rfl ?_
  refine r_iloadn (dc D_cX7_write_0 26 rfl) rfl rfl ?_
  obtain ⟨o6, h⟩ := h
  refine r_iald (N := 30) (dc D_cX7_write_0 27 rfl) lC_14 rfl rfl o6 ?_
  refine r_callV (As := [.int (iz (σ5 14 x2.toNat))]) (st := []) (dc D_cX7_write_0 28 rfl) cw_RX7_32 nm_yX7_putNumber (CX7_putNumber hE _ (hσ5 _ _) _ hσ5 h) lC_11 rfl rfl (by decide) rfl rfl rfl (fun z7 σ8 rz7 hσ8 h => ?_)
  show RW layC E mi_X7_write Φ 51 [some (.ref (eA E 11)), some (.ref (eA E 1)), some (.int (iz x2))] [] σ8 x
  refine r_aloadn (dc D_cX7_write_0 29 rfl) rfl rfl ?_
  refine r_bipush (n := 58) (dc D_cX7_write_0 30 rfl) (by decide +kernel) ?_
  refine r_callV (As := [.int (iz 58)]) (st := []) (dc D_cX7_write_0 31 rfl) cw_RX7_24 nm_yX7_putSign (CX7_putSign hE _ (Rl rfl) _ hσ8 h) lC_11 rfl rfl (by decide) rfl rfl rfl (fun z9 σ10 rz9 hσ10 h => ?_)
  show RW layC E mi_X7_write Φ 57 [some (.ref (eA E 11)), some (.ref (eA E 1)), some (.int (iz x2))] [] σ10 x
  refine r_aloadn (dc D_cX7_write_0 32 rfl) rfl rfl ?_
  refine r_aloadn (dc D_cX7_write_0 33 rfl) rfl rfl ?_
  refine r_getR (dc D_cX7_write_0 34 rfl) fw_RX7_38 lC_1 rfl ?_
  refine r_iloadn (dc D_cX7_write_0 35 rfl) rfl rfl ?_
  obtain ⟨o11, h⟩ := h
  refine r_iald (N := 30) (dc D_cX7_write_0 36 rfl) lC_15 rfl rfl o11 ?_
  refine r_aloadn (dc D_cX7_write_0 37 rfl) rfl rfl ?_
  refine r_getR (dc D_cX7_write_0 38 rfl) fw_RX7_41 lC_1 rfl ?_
  refine r_iloadn (dc D_cX7_write_0 39 rfl) rfl rfl ?_
  obtain ⟨o12, h⟩ := h
  refine r_iald (N := 30) (dc D_cX7_write_1 0 rfl) lC_16 rfl rfl o12 ?_
  refine r_aloadn (dc D_cX7_write_1 1 rfl) rfl rfl ?_
  refine r_getR (dc D_cX7_write_1 2 rfl) fw_RX7_44 lC_1 rfl ?_
  refine r_iloadn (dc D_cX7_write_1 3 rfl) rfl rfl ?_
  obtain ⟨o13, h⟩ := h
  refine r_iald (N := 30) (dc D_cX7_write_1 4 rfl) lC_17 rfl rfl o13 ?_
  refine r_callV (As := [.int (iz (σ10 15 x2.toNat)), .int (iz (σ10 16 x2.toNat)), .int (iz (σ10 17 x2.toNat))]) (st := []) (dc D_cX7_write_1 5 rfl) cw_RX7_47 nm_yX7_putPassage (CX7_putPassage hE _ _ _ (hσ10 _ _) (hσ10 _ _) (hσ10 _ _) _ hσ10 h) lC_11 rfl rfl (by decide) rfl rfl rfl (fun z14 σ15 rz14 hσ15 h => ?_)
  show RW layC E mi_X7_write Φ 79 [some (.ref (eA E 11)), some (.ref (eA E 1)), some (.int (iz x2))] [] σ15 x
  refine r_aloadn (dc D_cX7_write_1 6 rfl) rfl rfl ?_
  refine r_getR (dc D_cX7_write_1 7 rfl) fw_RX7_51 lC_1 rfl ?_
  refine r_iloadn (dc D_cX7_write_1 8 rfl) rfl rfl ?_
  obtain ⟨o16, h⟩ := h
  refine r_iald (N := 30) (dc D_cX7_write_1 9 rfl) lC_18 rfl rfl o16 ?_
  refine r_if_ne (tgt := 94) (dc D_cX7_write_1 10 rfl) (by decide) (hσ15 _ _) (fun c17 => ?_) (fun c17 => ?_)
  · have h := h.1 c17
    exact TX7_write_94 hE x hK7 _ rx2 _ hσ15 h
  · have h := h.2 c17
    refine r_aloadn (dc D_cX7_write_1 11 rfl) rfl rfl ?_
    refine r_bipush (n := 120) (dc D_cX7_write_1 12 rfl) (by decide +kernel) ?_
    refine r_callV (As := [.int (iz 120)]) (st := []) (dc D_cX7_write_1 13 rfl) cw_RX7_24 nm_yX7_putSign (CX7_putSign hE _ (Rl rfl) _ hσ15 h) lC_11 rfl rfl (by decide) rfl rfl rfl (fun z18 σ19 rz18 hσ19 h => ?_)
    show RW layC E mi_X7_write Φ 94 [some (.ref (eA E 11)), some (.ref (eA E 1)), some (.int (iz x2))] [] σ19 x
    exact TX7_write_94 hE x hK7 _ rx2 _ hσ19 h
set_option maxRecDepth 100000 in
theorem TBX7_write_7 {E : EV} (hE : eOK layC E) {Φ : Int → PS → Prop} {K7 : Int → PS → Prop} (x : CX) (hK7 : ∀ (x2 : Int) (σ : PS), Rg x2 → RS σ → K7 x2 σ → RW layC E mi_X7_write Φ 7 [some (.ref (eA E 11)), some (.ref (eA E 1)), some (.int (iz x2))] [] σ x) (x2 : Int) (rx2 : Rg x2) (σ : PS) (hs : RS σ) (h : BX7_write_7 K7 x2 σ Φ) : RW layC E mi_X7_write Φ 7 [some (.ref (eA E 11)), some (.ref (eA E 1)), some (.int (iz x2))] [] σ x := by
  refine r_iloadn (dc D_cX7_write_0 5 rfl) rfl rfl ?_
  refine r_aloadn (dc D_cX7_write_0 6 rfl) rfl rfl ?_
  refine r_getI (dc D_cX7_write_0 7 rfl) fw_RX7_19 lC_1 rfl ?_
  refine r_icmp_ge (tgt := 100) (dc D_cX7_write_0 8 rfl) (by decide) rx2 (hs _ _) (fun c1 => ?_) (fun c1 => ?_)
  · have h := h.1 c1
    exact r_vret (dc D_cX7_write_1 16 rfl) rfl h
  · have h := h.2 c1
    refine r_iloadn (dc D_cX7_write_0 9 rfl) rfl rfl ?_
    refine r_if_le (tgt := 25) (dc D_cX7_write_0 10 rfl) (by decide) rx2 (fun c2 => ?_) (fun c2 => ?_)
    · have h := h.1 c2
      exact TX7_write_25 hE x hK7 _ rx2 _ hs h
    · have h := h.2 c2
      refine r_aloadn (dc D_cX7_write_0 11 rfl) rfl rfl ?_
      refine r_bipush (n := 59) (dc D_cX7_write_0 12 rfl) (by decide +kernel) ?_
      refine r_callV (As := [.int (iz 59)]) (st := []) (dc D_cX7_write_0 13 rfl) cw_RX7_24 nm_yX7_putSign (CX7_putSign hE _ (Rl rfl) _ hs h) lC_11 rfl rfl (by decide) rfl rfl rfl (fun z3 σ4 rz3 hσ4 h => ?_)
      show RW layC E mi_X7_write Φ 25 [some (.ref (eA E 11)), some (.ref (eA E 1)), some (.int (iz x2))] [] σ4 x
      exact TX7_write_25 hE x hK7 _ rx2 _ hσ4 h
theorem TX7_write_7 {E : EV} (hE : eOK layC E) {Φ : Int → PS → Prop} (x : CX) (n : Nat) : ∀ (x2 : Int) (σ : PS), Rg x2 → RS σ → LX7_write_7 n x2 σ Φ → RW layC E mi_X7_write Φ 7 [some (.ref (eA E 11)), some (.ref (eA E 1)), some (.int (iz x2))] [] σ x := by
  induction n with
  | zero => intro x2 σ _ _ h; exact h.elim
  | succ n ih => intro x2 σ rx2 hs h; exact TBX7_write_7 hE x ih x2 rx2 σ hs h
set_option maxRecDepth 100000 in
theorem CX7_write {E : EV} (hE : eOK layC E) {Φ : Int → PS → Prop} (σ : PS) (hs : RS σ) (h : FX7_write σ Φ) : CT layC E yX7_write mi_X7_write [.ref (eA E 11), .ref (eA E 1)] σ Φ := by
  refine ct_of (by decide +kernel) rfl hE rfl rfl hs (fun x => ?_)
  show RW layC E mi_X7_write Φ 0 [some (.ref (eA E 11)), some (.ref (eA E 1)), none] [] σ x
  refine r_aloadn (dc D_cX7_write_0 0 rfl) rfl rfl ?_
  refine r_iconst (n := 0) (dc D_cX7_write_0 1 rfl) ?_
  refine r_put (dc D_cX7_write_0 2 rfl) fw_RX7_15 fp_7_1 lC_11 rfl (nar_int _) (Rl rfl) ?_
  refine r_sig (fun σ1 eσ1 => ?_)
  have h := h σ1 eσ1
  have hσ1 : RS σ1 := RS_eq eσ1 (RS.up hs (Rl rfl) _ _)
  refine r_iconst (n := 0) (dc D_cX7_write_0 3 rfl) ?_
  refine r_istoren (lv' := [some (.ref (eA E 11)), some (.ref (eA E 1)), some (.int (iz 0))]) (dc D_cX7_write_0 4 rfl) rfl rfl rfl ?_
  obtain ⟨n, h⟩ := h
  exact TX7_write_7 hE x n _ _ (Rl rfl) hσ1 h
-- end of GateFlow$Paper.write
def mi_X11_spell : MI := (cX11_spell, RX11, 1, 5, (some .int), 1)
def FX11_spell (σ : PS) (Φ : Int → PS → Prop) : Prop :=
  FX7_write σ (fun z1 σ2 =>
  Φ (σ2 11 1) σ2)
theorem fw_RX11_280 : FW RX11 280 7 1 := ⟨RX7, TX7, 2, rfl, by decide, rfl, tb_1 475 (by decide +kernel), uw_7⟩
theorem cw_RX11_276 : CWV RX11 276 yX7_write mi_X7_write := tb_r [1105, 1106, 1107, 107, 1108] (by decide +kernel)
theorem nm_yX7_write : ynm yX7_write 1 := ⟨⟨by decide +kernel, by decide +kernel⟩, by decide +kernel⟩
set_option maxRecDepth 100000 in
theorem CX11_spell {E : EV} (hE : eOK layC E) {Φ : Int → PS → Prop} (σ : PS) (hs : RS σ) (h : FX11_spell σ Φ) : CT layC E yX11_spell mi_X11_spell [.ref (eA E 0)] σ Φ := by
  refine ct_of (by decide +kernel) rfl hE rfl rfl hs (fun x => ?_)
  show RW layC E mi_X11_spell Φ 0 [some (.ref (eA E 0))] [] σ x
  refine r_aloadn (dc D_cX11_spell_0 0 rfl) rfl rfl ?_
  refine r_getR (dc D_cX11_spell_0 1 rfl) fw_RX11_71 lC_0 rfl ?_
  refine r_aloadn (dc D_cX11_spell_0 2 rfl) rfl rfl ?_
  refine r_getR (dc D_cX11_spell_0 3 rfl) fw_RX11_12 lC_0 rfl ?_
  refine r_callV (As := [.ref (eA E 1)]) (st := []) (dc D_cX11_spell_0 4 rfl) cw_RX11_276 nm_yX7_write (CX7_write hE  _ hs h) lC_11 rfl rfl (by decide) rfl rfl rfl (fun z1 σ2 rz1 hσ2 h => ?_)
  show RW layC E mi_X11_spell Φ 11 [some (.ref (eA E 0))] [] σ2 x
  refine r_aloadn (dc D_cX11_spell_0 5 rfl) rfl rfl ?_
  refine r_getR (dc D_cX11_spell_0 6 rfl) fw_RX11_71 lC_0 rfl ?_
  refine r_getI (dc D_cX11_spell_0 7 rfl) fw_RX11_280 lC_11 rfl ?_
  exact r_iret (dc D_cX11_spell_0 8 rfl) rfl (hσ2 _ _) h
-- end of GateFlow.spell
def mi_X11_paper : MI := (cX11_paper, RX11, 2, 1, (some .int), 1)
def FX11_paper (a1 : Int) (σ : PS) (Φ : Int → PS → Prop) : Prop :=
  ((a1 < 0 →
    Φ (-1) σ) ∧
  (¬ a1 < 0 →
    ((σ 11 1 ≤ a1 →
      Φ (-1) σ) ∧
    (¬ σ 11 1 ≤ a1 →
      (0 ≤ a1 ∧ a1 < 510) ∧
      Φ (σ 61 a1.toNat) σ))))
theorem fw_RX11_283 : FW RX11 283 7 0 := ⟨RX7, TX7, 2, rfl, by decide, rfl, tb_1 473 (by decide +kernel), uw_7⟩
set_option maxRecDepth 100000 in
theorem CX11_paper {E : EV} (hE : eOK layC E) {Φ : Int → PS → Prop} (a1 : Int) (ra1 : Rg a1) (σ : PS) (hs : RS σ) (h : FX11_paper a1 σ Φ) : CT layC E yX11_paper mi_X11_paper [.ref (eA E 0), .int (iz a1)] σ Φ := by
  refine ct_of (by decide +kernel) rfl hE rfl rfl hs (fun x => ?_)
  show RW layC E mi_X11_paper Φ 0 [some (.ref (eA E 0)), some (.int (iz a1))] [] σ x
  refine r_iloadn (dc D_cX11_paper_0 0 rfl) rfl rfl ?_
  refine r_if_lt (tgt := 27) (dc D_cX11_paper_0 1 rfl) (by decide) ra1 (fun c1 => ?_) (fun c1 => ?_)
  · have h := h.1 c1
    refine r_iconst (n := (-1)) (dc D_cX11_paper_0 13 rfl) ?_
    exact r_iret (dc D_cX11_paper_0 14 rfl) rfl (Rl rfl) h
  · have h := h.2 c1
    refine r_iloadn (dc D_cX11_paper_0 2 rfl) rfl rfl ?_
    refine r_aloadn (dc D_cX11_paper_0 3 rfl) rfl rfl ?_
    refine r_getR (dc D_cX11_paper_0 4 rfl) fw_RX11_71 lC_0 rfl ?_
    refine r_getI (dc D_cX11_paper_0 5 rfl) fw_RX11_280 lC_11 rfl ?_
    refine r_icmp_ge (tgt := 27) (dc D_cX11_paper_0 6 rfl) (by decide) ra1 (hs _ _) (fun c2 => ?_) (fun c2 => ?_)
    · have h := h.1 c2
      refine r_iconst (n := (-1)) (dc D_cX11_paper_0 13 rfl) ?_
      exact r_iret (dc D_cX11_paper_0 14 rfl) rfl (Rl rfl) h
    · have h := h.2 c2
      refine r_aloadn (dc D_cX11_paper_0 7 rfl) rfl rfl ?_
      refine r_getR (dc D_cX11_paper_0 8 rfl) fw_RX11_71 lC_0 rfl ?_
      refine r_getR (dc D_cX11_paper_0 9 rfl) fw_RX11_283 lC_11 rfl ?_
      refine r_iloadn (dc D_cX11_paper_0 10 rfl) rfl rfl ?_
      obtain ⟨o3, h⟩ := h
      refine r_bald (N := 510) (dc D_cX11_paper_0 11 rfl) lC_61 rfl rfl o3 ?_
      refine r_goto (tgt := 28) (dc D_cX11_paper_0 12 rfl) (by decide) ?_
      exact r_iret (dc D_cX11_paper_0 14 rfl) rfl (hs _ _) h
-- end of GateFlow.paper
def mi_X3_capacityTo : MI := (cX3_capacityTo, RX3, 4, 3, (some .int), 1)
def LX3_capacityTo_32 (K4 : Int → Int → Int → PS → Prop) (x1 x3 s0 s1 : Int) (σ : PS) (Φ : Int → PS → Prop) : Prop :=
  Rg (s0 + s1) ∧
  ∀ v2 : Int, v2 = s0 + s1 →
  Rg (x3 + 1) ∧
  K4 x1 v2 (x3 + 1) σ
def BX3_capacityTo_4 (K4 : Int → Int → Int → PS → Prop) (x1 x2 x3 : Int) (σ : PS) (Φ : Int → PS → Prop) : Prop :=
  ((σ 1 6 ≤ x3 →
    Φ x2 σ) ∧
  (¬ σ 1 6 ≤ x3 →
    (0 ≤ x3 ∧ x3 < 30) ∧
    ((¬ σ 14 x3.toNat = x1 →
      LX3_capacityTo_32 K4 x1 x3 x2 0 σ Φ) ∧
    (σ 14 x3.toNat = x1 →
      FX3_usable x3 σ (fun z4 σ5 =>
      LX3_capacityTo_32 K4 x1 x3 x2 z4 σ5 Φ)))))
def LX3_capacityTo_4 : Nat → Int → Int → Int → PS → (Int → PS → Prop) → Prop
  | 0, _, _, _, _, _ => False
  | n + 1, x1, x2, x3, σ, Φ => BX3_capacityTo_4 (fun x1 x2 x3 σ => LX3_capacityTo_4 n x1 x2 x3 σ Φ) x1 x2 x3 σ Φ
def FX3_capacityTo (a1 : Int) (σ : PS) (Φ : Int → PS → Prop) : Prop :=
  ∃ n, LX3_capacityTo_4 n a1 0 0 σ Φ
theorem fw_RX11_296 : FW RX11 296 8 8 := ⟨RX8, TX8, 9, rfl, by decide, rfl, tb_1 326 (by decide +kernel), uw_8⟩
set_option maxRecDepth 100000 in
theorem TX3_capacityTo_32 {E : EV} (hE : eOK layC E) {Φ : Int → PS → Prop} {K4 : Int → Int → Int → PS → Prop} (x : CX) (hK4 : ∀ (x1 x2 x3 : Int) (σ : PS), Rg x1 → Rg x2 → Rg x3 → RS σ → K4 x1 x2 x3 σ → RW layC E mi_X3_capacityTo Φ 4 [some (.ref (eA E 1)), some (.int (iz x1)), some (.int (iz x2)), some (.int (iz x3))] [] σ x) (x1 x3 s0 s1 : Int) (rx1 : Rg x1) (rx3 : Rg x3) (rs0 : Rg s0) (rs1 : Rg s1) (σ : PS) (hs : RS σ) (h : LX3_capacityTo_32 K4 x1 x3 s0 s1 σ Φ) : RW layC E mi_X3_capacityTo Φ 32 [some (.ref (eA E 1)), some (.int (iz x1)), none, some (.int (iz x3))] [.int (iz s1), .int (iz s0)] σ x := by
  refine r_iadd (dc D_cX3_capacityTo_0 20 rfl) ?_
  obtain ⟨o1, h⟩ := h
  refine r_name (fun v2 ev2 => ?_)
  have h := h v2 ev2
  have rv2 : Rg v2 := Rg_eq ev2 o1
  refine r_istoren (lv' := [some (.ref (eA E 1)), some (.int (iz x1)), some (.int (iz v2)), some (.int (iz x3))]) (dc D_cX3_capacityTo_0 21 rfl) rfl rfl rfl ?_
  obtain ⟨o3, h⟩ := h
  refine r_iinc (lv' := [some (.ref (eA E 1)), some (.int (iz x1)), some (.int (iz v2)), some (.int (iz (x3 + 1)))]) (dc D_cX3_capacityTo_0 22 rfl) rfl rfl rfl ?_
  refine r_goto (tgt := 4) (dc D_cX3_capacityTo_0 23 rfl) (by decide) ?_
  exact hK4 _ _ _ _ rx1 rv2 o3 hs h
set_option maxRecDepth 100000 in
theorem TBX3_capacityTo_4 {E : EV} (hE : eOK layC E) {Φ : Int → PS → Prop} {K4 : Int → Int → Int → PS → Prop} (x : CX) (hK4 : ∀ (x1 x2 x3 : Int) (σ : PS), Rg x1 → Rg x2 → Rg x3 → RS σ → K4 x1 x2 x3 σ → RW layC E mi_X3_capacityTo Φ 4 [some (.ref (eA E 1)), some (.int (iz x1)), some (.int (iz x2)), some (.int (iz x3))] [] σ x) (x1 x2 x3 : Int) (rx1 : Rg x1) (rx2 : Rg x2) (rx3 : Rg x3) (σ : PS) (hs : RS σ) (h : BX3_capacityTo_4 K4 x1 x2 x3 σ Φ) : RW layC E mi_X3_capacityTo Φ 4 [some (.ref (eA E 1)), some (.int (iz x1)), some (.int (iz x2)), some (.int (iz x3))] [] σ x := by
  refine r_iloadn (dc D_cX3_capacityTo_0 4 rfl) rfl rfl ?_
  refine r_aloadn (dc D_cX3_capacityTo_0 5 rfl) rfl rfl ?_
  refine r_getI (dc D_cX3_capacityTo_0 6 rfl) fw_RX3_34 lC_1 rfl ?_
  refine r_icmp_ge (tgt := 40) (dc D_cX3_capacityTo_0 7 rfl) (by decide) rx3 (hs _ _) (fun c1 => ?_) (fun c1 => ?_)
  · have h := h.1 c1
    refine r_iloadn (dc D_cX3_capacityTo_0 24 rfl) rfl rfl ?_
    exact r_iret (dc D_cX3_capacityTo_0 25 rfl) rfl rx2 h
  · have h := h.2 c1
    refine r_iloadn (dc D_cX3_capacityTo_0 8 rfl) rfl rfl ?_
    refine r_aloadn (dc D_cX3_capacityTo_0 9 rfl) rfl rfl ?_
    refine r_getR (dc D_cX3_capacityTo_0 10 rfl) fw_RX3_15 lC_1 rfl ?_
    refine r_iloadn (dc D_cX3_capacityTo_0 11 rfl) rfl rfl ?_
    obtain ⟨o2, h⟩ := h
    refine r_iald (N := 30) (dc D_cX3_capacityTo_0 12 rfl) lC_14 rfl rfl o2 ?_
    refine r_iloadn (dc D_cX3_capacityTo_0 13 rfl) rfl rfl ?_
    refine r_icmp_ne (tgt := 31) (dc D_cX3_capacityTo_0 14 rfl) (by decide) (hs _ _) rx1 (fun c3 => ?_) (fun c3 => ?_)
    · have h := h.1 c3
      refine r_iconst (n := 0) (dc D_cX3_capacityTo_0 19 rfl) ?_
      refine r_sub (lv' := [some (.ref (eA E 1)), some (.int (iz x1)), none, some (.int (iz x3))]) (subL_s (subL_s (subL_n (subL_s subL_e)))) ?_
      exact TX3_capacityTo_32 hE x hK4 _ _ _ _ rx1 rx3 rx2 (Rl rfl) _ hs h
    · have h := h.2 c3
      refine r_aloadn (dc D_cX3_capacityTo_0 15 rfl) rfl rfl ?_
      refine r_iloadn (dc D_cX3_capacityTo_0 16 rfl) rfl rfl ?_
      refine r_callV (As := [.int (iz x3)]) (st := [.int (iz x2)]) (dc D_cX3_capacityTo_0 17 rfl) cw_RX3_50 nm_yX3_usable (CX3_usable hE _ rx3 _ hs h) lC_1 rfl rfl (by decide) rfl rfl rfl (fun z4 σ5 rz4 hσ5 h => ?_)
      show RW layC E mi_X3_capacityTo Φ 28 [some (.ref (eA E 1)), some (.int (iz x1)), some (.int (iz x2)), some (.int (iz x3))] [.int (iz z4), .int (iz x2)] σ5 x
      refine r_goto (tgt := 32) (dc D_cX3_capacityTo_0 18 rfl) (by decide) ?_
      refine r_sub (lv' := [some (.ref (eA E 1)), some (.int (iz x1)), none, some (.int (iz x3))]) (subL_s (subL_s (subL_n (subL_s subL_e)))) ?_
      exact TX3_capacityTo_32 hE x hK4 _ _ _ _ rx1 rx3 rx2 rz4 _ hσ5 h
theorem TX3_capacityTo_4 {E : EV} (hE : eOK layC E) {Φ : Int → PS → Prop} (x : CX) (n : Nat) : ∀ (x1 x2 x3 : Int) (σ : PS), Rg x1 → Rg x2 → Rg x3 → RS σ → LX3_capacityTo_4 n x1 x2 x3 σ Φ → RW layC E mi_X3_capacityTo Φ 4 [some (.ref (eA E 1)), some (.int (iz x1)), some (.int (iz x2)), some (.int (iz x3))] [] σ x := by
  induction n with
  | zero => intro x1 x2 x3 σ _ _ _ _ h; exact h.elim
  | succ n ih => intro x1 x2 x3 σ rx1 rx2 rx3 hs h; exact TBX3_capacityTo_4 hE x ih x1 x2 x3 rx1 rx2 rx3 σ hs h
set_option maxRecDepth 100000 in
theorem CX3_capacityTo {E : EV} (hE : eOK layC E) {Φ : Int → PS → Prop} (a1 : Int) (ra1 : Rg a1) (σ : PS) (hs : RS σ) (h : FX3_capacityTo a1 σ Φ) : CT layC E yX3_capacityTo mi_X3_capacityTo [.ref (eA E 1), .int (iz a1)] σ Φ := by
  refine ct_of (by decide +kernel) rfl hE rfl rfl hs (fun x => ?_)
  show RW layC E mi_X3_capacityTo Φ 0 [some (.ref (eA E 1)), some (.int (iz a1)), none, none] [] σ x
  refine r_iconst (n := 0) (dc D_cX3_capacityTo_0 0 rfl) ?_
  refine r_istoren (lv' := [some (.ref (eA E 1)), some (.int (iz a1)), some (.int (iz 0)), none]) (dc D_cX3_capacityTo_0 1 rfl) rfl rfl rfl ?_
  refine r_iconst (n := 0) (dc D_cX3_capacityTo_0 2 rfl) ?_
  refine r_istoren (lv' := [some (.ref (eA E 1)), some (.int (iz a1)), some (.int (iz 0)), some (.int (iz 0))]) (dc D_cX3_capacityTo_0 3 rfl) rfl rfl rfl ?_
  obtain ⟨n, h⟩ := h
  exact TX3_capacityTo_4 hE x n _ _ _ _ ra1 (Rl rfl) (Rl rfl) hs h
-- end of GateFlow$Gates.capacityTo
def mi_X3_capacityFrom : MI := (cX3_capacityFrom, RX3, 4, 3, (some .int), 1)
def LX3_capacityFrom_32 (K4 : Int → Int → Int → PS → Prop) (x1 x3 s0 s1 : Int) (σ : PS) (Φ : Int → PS → Prop) : Prop :=
  Rg (s0 + s1) ∧
  ∀ v2 : Int, v2 = s0 + s1 →
  Rg (x3 + 1) ∧
  K4 x1 v2 (x3 + 1) σ
def BX3_capacityFrom_4 (K4 : Int → Int → Int → PS → Prop) (x1 x2 x3 : Int) (σ : PS) (Φ : Int → PS → Prop) : Prop :=
  ((σ 1 6 ≤ x3 →
    Φ x2 σ) ∧
  (¬ σ 1 6 ≤ x3 →
    (0 ≤ x3 ∧ x3 < 30) ∧
    ((¬ σ 13 x3.toNat = x1 →
      LX3_capacityFrom_32 K4 x1 x3 x2 0 σ Φ) ∧
    (σ 13 x3.toNat = x1 →
      FX3_usable x3 σ (fun z4 σ5 =>
      LX3_capacityFrom_32 K4 x1 x3 x2 z4 σ5 Φ)))))
def LX3_capacityFrom_4 : Nat → Int → Int → Int → PS → (Int → PS → Prop) → Prop
  | 0, _, _, _, _, _ => False
  | n + 1, x1, x2, x3, σ, Φ => BX3_capacityFrom_4 (fun x1 x2 x3 σ => LX3_capacityFrom_4 n x1 x2 x3 σ Φ) x1 x2 x3 σ Φ
def FX3_capacityFrom (a1 : Int) (σ : PS) (Φ : Int → PS → Prop) : Prop :=
  ∃ n, LX3_capacityFrom_4 n a1 0 0 σ Φ
set_option maxRecDepth 100000 in
theorem TX3_capacityFrom_32 {E : EV} (hE : eOK layC E) {Φ : Int → PS → Prop} {K4 : Int → Int → Int → PS → Prop} (x : CX) (hK4 : ∀ (x1 x2 x3 : Int) (σ : PS), Rg x1 → Rg x2 → Rg x3 → RS σ → K4 x1 x2 x3 σ → RW layC E mi_X3_capacityFrom Φ 4 [some (.ref (eA E 1)), some (.int (iz x1)), some (.int (iz x2)), some (.int (iz x3))] [] σ x) (x1 x3 s0 s1 : Int) (rx1 : Rg x1) (rx3 : Rg x3) (rs0 : Rg s0) (rs1 : Rg s1) (σ : PS) (hs : RS σ) (h : LX3_capacityFrom_32 K4 x1 x3 s0 s1 σ Φ) : RW layC E mi_X3_capacityFrom Φ 32 [some (.ref (eA E 1)), some (.int (iz x1)), none, some (.int (iz x3))] [.int (iz s1), .int (iz s0)] σ x := by
  refine r_iadd (dc D_cX3_capacityFrom_0 20 rfl) ?_
  obtain ⟨o1, h⟩ := h
  refine r_name (fun v2 ev2 => ?_)
  have h := h v2 ev2
  have rv2 : Rg v2 := Rg_eq ev2 o1
  refine r_istoren (lv' := [some (.ref (eA E 1)), some (.int (iz x1)), some (.int (iz v2)), some (.int (iz x3))]) (dc D_cX3_capacityFrom_0 21 rfl) rfl rfl rfl ?_
  obtain ⟨o3, h⟩ := h
  refine r_iinc (lv' := [some (.ref (eA E 1)), some (.int (iz x1)), some (.int (iz v2)), some (.int (iz (x3 + 1)))]) (dc D_cX3_capacityFrom_0 22 rfl) rfl rfl rfl ?_
  refine r_goto (tgt := 4) (dc D_cX3_capacityFrom_0 23 rfl) (by decide) ?_
  exact hK4 _ _ _ _ rx1 rv2 o3 hs h
set_option maxRecDepth 100000 in
theorem TBX3_capacityFrom_4 {E : EV} (hE : eOK layC E) {Φ : Int → PS → Prop} {K4 : Int → Int → Int → PS → Prop} (x : CX) (hK4 : ∀ (x1 x2 x3 : Int) (σ : PS), Rg x1 → Rg x2 → Rg x3 → RS σ → K4 x1 x2 x3 σ → RW layC E mi_X3_capacityFrom Φ 4 [some (.ref (eA E 1)), some (.int (iz x1)), some (.int (iz x2)), some (.int (iz x3))] [] σ x) (x1 x2 x3 : Int) (rx1 : Rg x1) (rx2 : Rg x2) (rx3 : Rg x3) (σ : PS) (hs : RS σ) (h : BX3_capacityFrom_4 K4 x1 x2 x3 σ Φ) : RW layC E mi_X3_capacityFrom Φ 4 [some (.ref (eA E 1)), some (.int (iz x1)), some (.int (iz x2)), some (.int (iz x3))] [] σ x := by
  refine r_iloadn (dc D_cX3_capacityFrom_0 4 rfl) rfl rfl ?_
  refine r_aloadn (dc D_cX3_capacityFrom_0 5 rfl) rfl rfl ?_
  refine r_getI (dc D_cX3_capacityFrom_0 6 rfl) fw_RX3_34 lC_1 rfl ?_
  refine r_icmp_ge (tgt := 40) (dc D_cX3_capacityFrom_0 7 rfl) (by decide) rx3 (hs _ _) (fun c1 => ?_) (fun c1 => ?_)
  · have h := h.1 c1
    refine r_iloadn (dc D_cX3_capacityFrom_0 24 rfl) rfl rfl ?_
    exact r_iret (dc D_cX3_capacityFrom_0 25 rfl) rfl rx2 h
  · have h := h.2 c1
    refine r_iloadn (dc D_cX3_capacityFrom_0 8 rfl) rfl rfl ?_
    refine r_aloadn (dc D_cX3_capacityFrom_0 9 rfl) rfl rfl ?_
    refine r_getR (dc D_cX3_capacityFrom_0 10 rfl) fw_RX3_9 lC_1 rfl ?_
    refine r_iloadn (dc D_cX3_capacityFrom_0 11 rfl) rfl rfl ?_
    obtain ⟨o2, h⟩ := h
    refine r_iald (N := 30) (dc D_cX3_capacityFrom_0 12 rfl) lC_13 rfl rfl o2 ?_
    refine r_iloadn (dc D_cX3_capacityFrom_0 13 rfl) rfl rfl ?_
    refine r_icmp_ne (tgt := 31) (dc D_cX3_capacityFrom_0 14 rfl) (by decide) (hs _ _) rx1 (fun c3 => ?_) (fun c3 => ?_)
    · have h := h.1 c3
      refine r_iconst (n := 0) (dc D_cX3_capacityFrom_0 19 rfl) ?_
      refine r_sub (lv' := [some (.ref (eA E 1)), some (.int (iz x1)), none, some (.int (iz x3))]) (subL_s (subL_s (subL_n (subL_s subL_e)))) ?_
      exact TX3_capacityFrom_32 hE x hK4 _ _ _ _ rx1 rx3 rx2 (Rl rfl) _ hs h
    · have h := h.2 c3
      refine r_aloadn (dc D_cX3_capacityFrom_0 15 rfl) rfl rfl ?_
      refine r_iloadn (dc D_cX3_capacityFrom_0 16 rfl) rfl rfl ?_
      refine r_callV (As := [.int (iz x3)]) (st := [.int (iz x2)]) (dc D_cX3_capacityFrom_0 17 rfl) cw_RX3_50 nm_yX3_usable (CX3_usable hE _ rx3 _ hs h) lC_1 rfl rfl (by decide) rfl rfl rfl (fun z4 σ5 rz4 hσ5 h => ?_)
      show RW layC E mi_X3_capacityFrom Φ 28 [some (.ref (eA E 1)), some (.int (iz x1)), some (.int (iz x2)), some (.int (iz x3))] [.int (iz z4), .int (iz x2)] σ5 x
      refine r_goto (tgt := 32) (dc D_cX3_capacityFrom_0 18 rfl) (by decide) ?_
      refine r_sub (lv' := [some (.ref (eA E 1)), some (.int (iz x1)), none, some (.int (iz x3))]) (subL_s (subL_s (subL_n (subL_s subL_e)))) ?_
      exact TX3_capacityFrom_32 hE x hK4 _ _ _ _ rx1 rx3 rx2 rz4 _ hσ5 h
theorem TX3_capacityFrom_4 {E : EV} (hE : eOK layC E) {Φ : Int → PS → Prop} (x : CX) (n : Nat) : ∀ (x1 x2 x3 : Int) (σ : PS), Rg x1 → Rg x2 → Rg x3 → RS σ → LX3_capacityFrom_4 n x1 x2 x3 σ Φ → RW layC E mi_X3_capacityFrom Φ 4 [some (.ref (eA E 1)), some (.int (iz x1)), some (.int (iz x2)), some (.int (iz x3))] [] σ x := by
  induction n with
  | zero => intro x1 x2 x3 σ _ _ _ _ h; exact h.elim
  | succ n ih => intro x1 x2 x3 σ rx1 rx2 rx3 hs h; exact TBX3_capacityFrom_4 hE x ih x1 x2 x3 rx1 rx2 rx3 σ hs h
set_option maxRecDepth 100000 in
theorem CX3_capacityFrom {E : EV} (hE : eOK layC E) {Φ : Int → PS → Prop} (a1 : Int) (ra1 : Rg a1) (σ : PS) (hs : RS σ) (h : FX3_capacityFrom a1 σ Φ) : CT layC E yX3_capacityFrom mi_X3_capacityFrom [.ref (eA E 1), .int (iz a1)] σ Φ := by
  refine ct_of (by decide +kernel) rfl hE rfl rfl hs (fun x => ?_)
  show RW layC E mi_X3_capacityFrom Φ 0 [some (.ref (eA E 1)), some (.int (iz a1)), none, none] [] σ x
  refine r_iconst (n := 0) (dc D_cX3_capacityFrom_0 0 rfl) ?_
  refine r_istoren (lv' := [some (.ref (eA E 1)), some (.int (iz a1)), some (.int (iz 0)), none]) (dc D_cX3_capacityFrom_0 1 rfl) rfl rfl rfl ?_
  refine r_iconst (n := 0) (dc D_cX3_capacityFrom_0 2 rfl) ?_
  refine r_istoren (lv' := [some (.ref (eA E 1)), some (.int (iz a1)), some (.int (iz 0)), some (.int (iz 0))]) (dc D_cX3_capacityFrom_0 3 rfl) rfl rfl rfl ?_
  obtain ⟨n, h⟩ := h
  exact TX3_capacityFrom_4 hE x n _ _ _ _ ra1 (Rl rfl) (Rl rfl) hs h
-- end of GateFlow$Gates.capacityFrom
def mi_X3_countOpen : MI := (cX3_countOpen, RX3, 3, 1, (some .int), 1)
def BX3_countOpen_4 (K4 : Int → Int → PS → Prop) (x1 x2 : Int) (σ : PS) (Φ : Int → PS → Prop) : Prop :=
  ((σ 1 6 ≤ x2 →
    Φ x1 σ) ∧
  (¬ σ 1 6 ≤ x2 →
    (0 ≤ x2 ∧ x2 < 30) ∧
    Rg (x1 + (σ 18 x2.toNat)) ∧
    ∀ v4 : Int, v4 = x1 + (σ 18 x2.toNat) →
    Rg (x2 + 1) ∧
    K4 v4 (x2 + 1) σ))
def LX3_countOpen_4 : Nat → Int → Int → PS → (Int → PS → Prop) → Prop
  | 0, _, _, _, _ => False
  | n + 1, x1, x2, σ, Φ => BX3_countOpen_4 (fun x1 x2 σ => LX3_countOpen_4 n x1 x2 σ Φ) x1 x2 σ Φ
def FX3_countOpen (σ : PS) (Φ : Int → PS → Prop) : Prop :=
  ∃ n, LX3_countOpen_4 n 0 0 σ Φ
set_option maxRecDepth 100000 in
theorem TBX3_countOpen_4 {E : EV} (hE : eOK layC E) {Φ : Int → PS → Prop} {K4 : Int → Int → PS → Prop} (x : CX) (hK4 : ∀ (x1 x2 : Int) (σ : PS), Rg x1 → Rg x2 → RS σ → K4 x1 x2 σ → RW layC E mi_X3_countOpen Φ 4 [some (.ref (eA E 1)), some (.int (iz x1)), some (.int (iz x2))] [] σ x) (x1 x2 : Int) (rx1 : Rg x1) (rx2 : Rg x2) (σ : PS) (hs : RS σ) (h : BX3_countOpen_4 K4 x1 x2 σ Φ) : RW layC E mi_X3_countOpen Φ 4 [some (.ref (eA E 1)), some (.int (iz x1)), some (.int (iz x2))] [] σ x := by
  refine r_iloadn (dc D_cX3_countOpen_0 4 rfl) rfl rfl ?_
  refine r_aloadn (dc D_cX3_countOpen_0 5 rfl) rfl rfl ?_
  refine r_getI (dc D_cX3_countOpen_0 6 rfl) fw_RX3_34 lC_1 rfl ?_
  refine r_icmp_ge (tgt := 27) (dc D_cX3_countOpen_0 7 rfl) (by decide) rx2 (hs _ _) (fun c1 => ?_) (fun c1 => ?_)
  · have h := h.1 c1
    refine r_iloadn (dc D_cX3_countOpen_0 17 rfl) rfl rfl ?_
    exact r_iret (dc D_cX3_countOpen_0 18 rfl) rfl rx1 h
  · have h := h.2 c1
    refine r_iloadn (dc D_cX3_countOpen_0 8 rfl) rfl rfl ?_
    refine r_aloadn (dc D_cX3_countOpen_0 9 rfl) rfl rfl ?_
    refine r_getR (dc D_cX3_countOpen_0 10 rfl) fw_RX3_27 lC_1 rfl ?_
    refine r_iloadn (dc D_cX3_countOpen_0 11 rfl) rfl rfl ?_
    obtain ⟨o2, h⟩ := h
    refine r_iald (N := 30) (dc D_cX3_countOpen_0 12 rfl) lC_18 rfl rfl o2 ?_
    refine r_iadd (dc D_cX3_countOpen_0 13 rfl) ?_
    obtain ⟨o3, h⟩ := h
    refine r_name (fun v4 ev4 => ?_)
    have h := h v4 ev4
    have rv4 : Rg v4 := Rg_eq ev4 o3
    refine r_istoren (lv' := [some (.ref (eA E 1)), some (.int (iz v4)), some (.int (iz x2))]) (dc D_cX3_countOpen_0 14 rfl) rfl rfl rfl ?_
    obtain ⟨o5, h⟩ := h
    refine r_iinc (lv' := [some (.ref (eA E 1)), some (.int (iz v4)), some (.int (iz (x2 + 1)))]) (dc D_cX3_countOpen_0 15 rfl) rfl rfl rfl ?_
    refine r_goto (tgt := 4) (dc D_cX3_countOpen_0 16 rfl) (by decide) ?_
    exact hK4 _ _ _ rv4 o5 hs h
theorem TX3_countOpen_4 {E : EV} (hE : eOK layC E) {Φ : Int → PS → Prop} (x : CX) (n : Nat) : ∀ (x1 x2 : Int) (σ : PS), Rg x1 → Rg x2 → RS σ → LX3_countOpen_4 n x1 x2 σ Φ → RW layC E mi_X3_countOpen Φ 4 [some (.ref (eA E 1)), some (.int (iz x1)), some (.int (iz x2))] [] σ x := by
  induction n with
  | zero => intro x1 x2 σ _ _ _ h; exact h.elim
  | succ n ih => intro x1 x2 σ rx1 rx2 hs h; exact TBX3_countOpen_4 hE x ih x1 x2 rx1 rx2 σ hs h
set_option maxRecDepth 100000 in
theorem CX3_countOpen {E : EV} (hE : eOK layC E) {Φ : Int → PS → Prop} (σ : PS) (hs : RS σ) (h : FX3_countOpen σ Φ) : CT layC E yX3_countOpen mi_X3_countOpen [.ref (eA E 1)] σ Φ := by
  refine ct_of (by decide +kernel) rfl hE rfl rfl hs (fun x => ?_)
  show RW layC E mi_X3_countOpen Φ 0 [some (.ref (eA E 1)), none, none] [] σ x
  refine r_iconst (n := 0) (dc D_cX3_countOpen_0 0 rfl) ?_
  refine r_istoren (lv' := [some (.ref (eA E 1)), some (.int (iz 0)), none]) (dc D_cX3_countOpen_0 1 rfl) rfl rfl rfl ?_
  refine r_iconst (n := 0) (dc D_cX3_countOpen_0 2 rfl) ?_
  refine r_istoren (lv' := [some (.ref (eA E 1)), some (.int (iz 0)), some (.int (iz 0))]) (dc D_cX3_countOpen_0 3 rfl) rfl rfl rfl ?_
  obtain ⟨n, h⟩ := h
  exact TX3_countOpen_4 hE x n _ _ _ (Rl rfl) (Rl rfl) hs h
-- end of GateFlow$Gates.countOpen
def mi_X11_told : MI := (cX11_told, RX11, 2, 8, (some .int), 1)
def FX11_told (a1 : Int) (σ : PS) (Φ : Int → PS → Prop) : Prop :=
  (a1 = 0 →
    Φ (σ 1 6) σ) ∧
  (a1 = 1 →
    FX3_countOpen σ (fun z2 σ3 =>
    Φ z2 σ3)) ∧
  (a1 = 2 →
    Φ (σ 1 7) σ) ∧
  (a1 = 3 →
    Φ (σ 1 8) σ) ∧
  (a1 = 4 →
    FX3_capacityFrom (σ 1 7) σ (fun z7 σ8 =>
    Φ z7 σ8)) ∧
  (a1 = 5 →
    FX3_capacityTo (σ 1 8) σ (fun z10 σ11 =>
    Φ z10 σ11)) ∧
  (a1 = 6 →
    Φ (σ 9 1) σ) ∧
  (a1 = 7 →
    Φ (σ 11 1) σ) ∧
  (a1 = 8 →
    FX11_freshWays σ (fun z15 σ16 => z15 = 3 ∧ (Φ (σ16 3 7) σ16))) ∧
  (a1 = 9 →
    FX11_freshStrands σ (fun z18 σ19 => z18 = 5 ∧ (FX11_freshStrands σ19 (fun z20 σ21 => z20 = 5 ∧ (Rg ((σ19 5 7) - (σ21 5 8)) ∧
    Φ ((σ19 5 7) - (σ21 5 8)) σ21))))) ∧
  (a1 = 10 →
    FX11_freshStrands σ (fun z24 σ25 => z24 = 5 ∧ (Φ (σ25 5 8) σ25))) ∧
  ((a1 < 0 ∨ 10 < a1) →
    Φ (-1) σ)
theorem cw_RX11_287 : CWV RX11 287 yX3_countOpen mi_X3_countOpen := tb_r [1129, 1130, 1131, 98, 1132] (by decide +kernel)
theorem nm_yX3_countOpen : ynm yX3_countOpen 0 := ⟨⟨by decide +kernel, by decide +kernel⟩, by decide +kernel⟩
theorem cw_RX11_290 : CWV RX11 290 yX3_capacityFrom mi_X3_capacityFrom := tb_r [1133, 1134, 1135, 98, 1136] (by decide +kernel)
theorem nm_yX3_capacityFrom : ynm yX3_capacityFrom 1 := ⟨⟨by decide +kernel, by decide +kernel⟩, by decide +kernel⟩
theorem cw_RX11_293 : CWV RX11 293 yX3_capacityTo mi_X3_capacityTo := tb_r [1137, 1138, 1139, 98, 1140] (by decide +kernel)
theorem nm_yX3_capacityTo : ynm yX3_capacityTo 1 := ⟨⟨by decide +kernel, by decide +kernel⟩, by decide +kernel⟩
set_option maxRecDepth 100000 in
theorem CX11_told {E : EV} (hE : eOK layC E) {Φ : Int → PS → Prop} (a1 : Int) (ra1 : Rg a1) (σ : PS) (hs : RS σ) (h : FX11_told a1 σ Φ) : CT layC E yX11_told mi_X11_told [.ref (eA E 0), .int (iz a1)] σ Φ := by
  refine ct_of (by decide +kernel) rfl hE rfl rfl hs (fun x => ?_)
  show RW layC E mi_X11_told Φ 0 [some (.ref (eA E 0)), some (.int (iz a1))] [] σ x
  refine r_iloadn (dc D_cX11_told_0 0 rfl) rfl rfl ?_
  refine r_by (c := a1 = 0) (fun c1 => ?_) (fun nc1 => ?_)
  · refine r_swIn (tgt := 60) (off := 59) (v := 0) (dc D_cX11_told_0 1 rfl) c1 (by decide) (by decide) ?_
    have h := h.1 c1
    refine r_aloadn (dc D_cX11_told_0 2 rfl) rfl rfl ?_
    refine r_getR (dc D_cX11_told_0 3 rfl) fw_RX11_12 lC_0 rfl ?_
    refine r_getI (dc D_cX11_told_0 4 rfl) fw_RX11_92 lC_1 rfl ?_
    exact r_iret (dc D_cX11_told_0 5 rfl) rfl (hs _ _) h
  replace h := h.2
  refine r_by (c := a1 = 1) (fun c4 => ?_) (fun nc4 => ?_)
  · refine r_swIn (tgt := 68) (off := 67) (v := 1) (dc D_cX11_told_0 1 rfl) c4 (by decide) (by decide) ?_
    have h := h.1 c4
    refine r_aloadn (dc D_cX11_told_0 6 rfl) rfl rfl ?_
    refine r_getR (dc D_cX11_told_0 7 rfl) fw_RX11_12 lC_0 rfl ?_
    refine r_callV (As := []) (st := []) (dc D_cX11_told_0 8 rfl) cw_RX11_287 nm_yX3_countOpen (CX3_countOpen hE  _ hs h) lC_1 rfl rfl (by decide) rfl rfl rfl (fun z2 σ3 rz2 hσ3 h => ?_)
    show RW layC E mi_X11_told Φ 75 [some (.ref (eA E 0)), some (.int (iz a1))] [.int (iz z2)] σ3 x
    exact r_iret (dc D_cX11_told_0 9 rfl) rfl rz2 h
  replace h := h.2
  refine r_by (c := a1 = 2) (fun c5 => ?_) (fun nc5 => ?_)
  · refine r_swIn (tgt := 76) (off := 75) (v := 2) (dc D_cX11_told_0 1 rfl) c5 (by decide) (by decide) ?_
    have h := h.1 c5
    refine r_aloadn (dc D_cX11_told_0 10 rfl) rfl rfl ?_
    refine r_getR (dc D_cX11_told_0 11 rfl) fw_RX11_12 lC_0 rfl ?_
    refine r_getI (dc D_cX11_told_0 12 rfl) fw_RX11_128 lC_1 rfl ?_
    exact r_iret (dc D_cX11_told_0 13 rfl) rfl (hs _ _) h
  replace h := h.2
  refine r_by (c := a1 = 3) (fun c6 => ?_) (fun nc6 => ?_)
  · refine r_swIn (tgt := 84) (off := 83) (v := 3) (dc D_cX11_told_0 1 rfl) c6 (by decide) (by decide) ?_
    have h := h.1 c6
    refine r_aloadn (dc D_cX11_told_0 14 rfl) rfl rfl ?_
    refine r_getR (dc D_cX11_told_0 15 rfl) fw_RX11_12 lC_0 rfl ?_
    refine r_getI (dc D_cX11_told_0 16 rfl) fw_RX11_131 lC_1 rfl ?_
    exact r_iret (dc D_cX11_told_0 17 rfl) rfl (hs _ _) h
  replace h := h.2
  refine r_by (c := a1 = 4) (fun c9 => ?_) (fun nc9 => ?_)
  · refine r_swIn (tgt := 92) (off := 91) (v := 4) (dc D_cX11_told_0 1 rfl) c9 (by decide) (by decide) ?_
    have h := h.1 c9
    refine r_aloadn (dc D_cX11_told_0 18 rfl) rfl rfl ?_
    refine r_getR (dc D_cX11_told_0 19 rfl) fw_RX11_12 lC_0 rfl ?_
    refine r_aloadn (dc D_cX11_told_0 20 rfl) rfl rfl ?_
    refine r_getR (dc D_cX11_told_0 21 rfl) fw_RX11_12 lC_0 rfl ?_
    refine r_getI (dc D_cX11_told_0 22 rfl) fw_RX11_128 lC_1 rfl ?_
    refine r_callV (As := [.int (iz (σ 1 7))]) (st := []) (dc D_cX11_told_0 23 rfl) cw_RX11_290 nm_yX3_capacityFrom (CX3_capacityFrom hE _ (hs _ _) _ hs h) lC_1 rfl rfl (by decide) rfl rfl rfl (fun z7 σ8 rz7 hσ8 h => ?_)
    show RW layC E mi_X11_told Φ 106 [some (.ref (eA E 0)), some (.int (iz a1))] [.int (iz z7)] σ8 x
    exact r_iret (dc D_cX11_told_0 24 rfl) rfl rz7 h
  replace h := h.2
  refine r_by (c := a1 = 5) (fun c12 => ?_) (fun nc12 => ?_)
  · refine r_swIn (tgt := 107) (off := 106) (v := 5) (dc D_cX11_told_0 1 rfl) c12 (by decide) (by decide) ?_
    have h := h.1 c12
    refine r_aloadn (dc D_cX11_told_0 25 rfl) rfl rfl ?_
    refine r_getR (dc D_cX11_told_0 26 rfl) fw_RX11_12 lC_0 rfl ?_
    refine r_aloadn (dc D_cX11_told_0 27 rfl) rfl rfl ?_
    refine r_getR (dc D_cX11_told_0 28 rfl) fw_RX11_12 lC_0 rfl ?_
    refine r_getI (dc D_cX11_told_0 29 rfl) fw_RX11_131 lC_1 rfl ?_
    refine r_callV (As := [.int (iz (σ 1 8))]) (st := []) (dc D_cX11_told_0 30 rfl) cw_RX11_293 nm_yX3_capacityTo (CX3_capacityTo hE _ (hs _ _) _ hs h) lC_1 rfl rfl (by decide) rfl rfl rfl (fun z10 σ11 rz10 hσ11 h => ?_)
    show RW layC E mi_X11_told Φ 121 [some (.ref (eA E 0)), some (.int (iz a1))] [.int (iz z10)] σ11 x
    exact r_iret (dc D_cX11_told_0 31 rfl) rfl rz10 h
  replace h := h.2
  refine r_by (c := a1 = 6) (fun c13 => ?_) (fun nc13 => ?_)
  · refine r_swIn (tgt := 122) (off := 121) (v := 6) (dc D_cX11_told_0 1 rfl) c13 (by decide) (by decide) ?_
    have h := h.1 c13
    refine r_aloadn (dc D_cX11_told_0 32 rfl) rfl rfl ?_
    refine r_getR (dc D_cX11_told_0 33 rfl) fw_RX11_57 lC_0 rfl ?_
    refine r_getI (dc D_cX11_told_0 34 rfl) fw_RX11_255 lC_9 rfl ?_
    exact r_iret (dc D_cX11_told_0 35 rfl) rfl (hs _ _) h
  replace h := h.2
  refine r_by (c := a1 = 7) (fun c14 => ?_) (fun nc14 => ?_)
  · refine r_swIn (tgt := 130) (off := 129) (v := 7) (dc D_cX11_told_0 1 rfl) c14 (by decide) (by decide) ?_
    have h := h.1 c14
    refine r_aloadn (dc D_cX11_told_0 36 rfl) rfl rfl ?_
    refine r_getR (dc D_cX11_told_0 37 rfl) fw_RX11_71 lC_0 rfl ?_
    refine r_getI (dc D_cX11_told_0 38 rfl) fw_RX11_280 lC_11 rfl ?_
    exact r_iret (dc D_cX11_told_0 39 rfl) rfl (hs _ _) h
  replace h := h.2
  refine r_by (c := a1 = 8) (fun c17 => ?_) (fun nc17 => ?_)
  · refine r_swIn (tgt := 138) (off := 137) (v := 8) (dc D_cX11_told_0 1 rfl) c17 (by decide) (by decide) ?_
    have h := h.1 c17
    refine r_aloadn (dc D_cX11_told_1 0 rfl) rfl rfl ?_
    refine r_callV (As := []) (st := []) (dc D_cX11_told_1 1 rfl) cw_RX11_134 nm_yX11_freshWays (CX11_freshWays hE  _ hs h) lC_0 rfl rfl (by decide) rfl rfl rfl (fun z15 σ16 rz15 hσ16 h => ?_)
    obtain ⟨rfl, h⟩ := h
    show RW layC E mi_X11_told Φ 142 [some (.ref (eA E 0)), some (.int (iz a1))] [.ref (eA E 3)] σ16 x
    refine r_getI (dc D_cX11_told_1 2 rfl) fw_RX11_144 lC_3 rfl ?_
    exact r_iret (dc D_cX11_told_1 3 rfl) rfl (hσ16 _ _) h
  replace h := h.2
  refine r_by (c := a1 = 9) (fun c23 => ?_) (fun nc23 => ?_)
  · refine r_swIn (tgt := 146) (off := 145) (v := 9) (dc D_cX11_told_0 1 rfl) c23 (by decide) (by decide) ?_
    have h := h.1 c23
    refine r_aloadn (dc D_cX11_told_1 4 rfl) rfl rfl ?_
    refine r_callV (As := []) (st := []) (dc D_cX11_told_1 5 rfl) cw_RX11_213 nm_yX11_freshStrands (CX11_freshStrands hE  _ hs h) lC_0 rfl rfl (by decide) rfl rfl rfl (fun z18 σ19 rz18 hσ19 h => ?_)
    obtain ⟨rfl, h⟩ := h
    show RW layC E mi_X11_told Φ 150 [some (.ref (eA E 0)), some (.int (iz a1))] [.ref (eA E 5)] σ19 x
    refine r_getI (dc D_cX11_told_1 6 rfl) fw_RX11_217 lC_5 rfl ?_
    refine r_aloadn (dc D_cX11_told_1 7 rfl) rfl rfl ?_
    refine r_callV (As := []) (st := [.int (iz (σ19 5 7))]) (dc D_cX11_told_1 8 rfl) cw_RX11_213 nm_yX11_freshStrands (CX11_freshStrands hE  _ hσ19 h) lC_0 rfl rfl (by decide) rfl rfl rfl (fun z20 σ21 rz20 hσ21 h => ?_)
    obtain ⟨rfl, h⟩ := h
    show RW layC E mi_X11_told Φ 157 [some (.ref (eA E 0)), some (.int (iz a1))] [.ref (eA E 5), .int (iz (σ19 5 7))] σ21 x
    refine r_getI (dc D_cX11_told_1 9 rfl) fw_RX11_296 lC_5 rfl ?_
    refine r_isub (dc D_cX11_told_1 10 rfl) ?_
    obtain ⟨o22, h⟩ := h
    exact r_iret (dc D_cX11_told_1 11 rfl) rfl o22 h
  replace h := h.2
  refine r_by (c := a1 = 10) (fun c26 => ?_) (fun nc26 => ?_)
  · refine r_swIn (tgt := 162) (off := 161) (v := 10) (dc D_cX11_told_0 1 rfl) c26 (by decide) (by decide) ?_
    have h := h.1 c26
    refine r_aloadn (dc D_cX11_told_1 12 rfl) rfl rfl ?_
    refine r_callV (As := []) (st := []) (dc D_cX11_told_1 13 rfl) cw_RX11_213 nm_yX11_freshStrands (CX11_freshStrands hE  _ hs h) lC_0 rfl rfl (by decide) rfl rfl rfl (fun z24 σ25 rz24 hσ25 h => ?_)
    obtain ⟨rfl, h⟩ := h
    show RW layC E mi_X11_told Φ 166 [some (.ref (eA E 0)), some (.int (iz a1))] [.ref (eA E 5)] σ25 x
    refine r_getI (dc D_cX11_told_1 14 rfl) fw_RX11_296 lC_5 rfl ?_
    exact r_iret (dc D_cX11_told_1 15 rfl) rfl (hσ25 _ _) h
  replace h := h.2
  have c27 : a1 < 0 ∨ 10 < a1 := by omega
  have h := h c27
  refine r_swOut (tgt := 170) (dc D_cX11_told_0 1 rfl) (by decide) ra1 c27 ?_
  refine r_iconst (n := (-1)) (dc D_cX11_told_1 16 rfl) ?_
  exact r_iret (dc D_cX11_told_1 17 rfl) rfl (Rl rfl) h
-- end of GateFlow.told
def mi_X11_isList : MI := (cX11_isList, RX11, 1, 1, (some .boolean), 1)
def FX11_isList (a1 : Int) (σ : PS) (Φ : Int → PS → Prop) : Prop :=
  ((a1 < 0 →
    Φ 0 σ) ∧
  (¬ a1 < 0 →
    ((4 ≤ a1 →
      Φ 0 σ) ∧
    (¬ 4 ≤ a1 →
      Φ 1 σ))))
set_option maxRecDepth 100000 in
theorem CX11_isList {E : EV} (hE : eOK layC E) {Φ : Int → PS → Prop} (a1 : Int) (ra1 : Rg a1) (σ : PS) (hs : RS σ) (h : FX11_isList a1 σ Φ) : CT layC E yX11_isList mi_X11_isList [.int (iz a1)] σ Φ := by
  refine ct_of (by decide +kernel) rfl hE rfl rfl hs (fun x => ?_)
  show RW layC E mi_X11_isList Φ 0 [some (.int (iz a1))] [] σ x
  refine r_iloadn (dc D_cX11_isList_0 0 rfl) rfl rfl ?_
  refine r_if_lt (tgt := 13) (dc D_cX11_isList_0 1 rfl) (by decide) ra1 (fun c1 => ?_) (fun c1 => ?_)
  · have h := h.1 c1
    refine r_iconst (n := 0) (dc D_cX11_isList_0 7 rfl) ?_
    exact r_zret (dc D_cX11_isList_0 8 rfl) rfl (by decide) h
  · have h := h.2 c1
    refine r_iloadn (dc D_cX11_isList_0 2 rfl) rfl rfl ?_
    refine r_iconst (n := 4) (dc D_cX11_isList_0 3 rfl) ?_
    refine r_icmp_ge (tgt := 13) (dc D_cX11_isList_0 4 rfl) (by decide) ra1 (Rl rfl) (fun c2 => ?_) (fun c2 => ?_)
    · have h := h.1 c2
      refine r_iconst (n := 0) (dc D_cX11_isList_0 7 rfl) ?_
      exact r_zret (dc D_cX11_isList_0 8 rfl) rfl (by decide) h
    · have h := h.2 c2
      refine r_iconst (n := 1) (dc D_cX11_isList_0 5 rfl) ?_
      refine r_goto (tgt := 14) (dc D_cX11_isList_0 6 rfl) (by decide) ?_
      exact r_zret (dc D_cX11_isList_0 8 rfl) rfl (by decide) h
-- end of GateFlow.isList
def mi_X4_become : MI := (cX4_become, RX4, 3, 4, none, 0)
def FX4_become (a1 a2 : Int) (σ : PS) (Φ : Int → PS → Prop) : Prop :=
  FX11_isList a1 σ (fun z1 σ2 =>
  ((z1 = 0 →
    Φ 0 σ2) ∧
  (¬ z1 = 0 →
    ((a2 < 0 →
      Φ 0 σ2) ∧
    (¬ a2 < 0 →
      ((40 < a2 →
        Φ 0 σ2) ∧
      (¬ 40 < a2 →
        (0 ≤ a1 ∧ a1 < 4) ∧
        ∀ σ7 : PS, σ7 = up2 σ2 63 a1.toNat a2 →
        Rg (a1 * 40) ∧
        Rg (a1 * 40) ∧
        Rg ((a1 * 40) + a2) ∧
        (0 ≤ a1 * 40 ∧ a1 * 40 ≤ (a1 * 40) + a2 ∧ (a1 * 40) + a2 ≤ 160) ∧
        ∀ σ12 : PS, σ12 = fl2 σ7 62 (a1 * 40).toNat ((a1 * 40) + a2).toNat 0 →
        Φ 0 σ12)))))))
theorem fw_RX11_78 : FW RX11 78 11 15 := ⟨RX11, TX11, 16, rfl, by decide, rfl, tb_1 512 (by decide +kernel), uw_11⟩
theorem fw_RX4_15 : FW RX4 15 4 1 := ⟨RX4, TX4, 2, rfl, by decide, rfl, tb_1 491 (by decide +kernel), uw_4⟩
theorem fw_RX4_9 : FW RX4 9 4 0 := ⟨RX4, TX4, 2, rfl, by decide, rfl, tb_1 490 (by decide +kernel), uw_4⟩
theorem cw_RX4_24 : CWN RX4 24 yX11_isList mi_X11_isList := ⟨by decide +kernel, tb_r [1146, 97, 1147] (by decide +kernel)⟩
theorem nm_yX11_isList : ynm yX11_isList 1 := ⟨⟨by decide +kernel, by decide +kernel⟩, by decide +kernel⟩
theorem cw_RX4_28 : CWS RX4 28 yJ7_fill_fda19 mi_fill4 := tb_r [1153, 775, 109, 776] (by decide +kernel)
set_option maxRecDepth 100000 in
theorem CX4_become {E : EV} (hE : eOK layC E) {Φ : Int → PS → Prop} (a1 a2 : Int) (ra1 : Rg a1) (ra2 : Rg a2) (σ : PS) (hs : RS σ) (h : FX4_become a1 a2 σ Φ) : CT layC E yX4_become mi_X4_become [.ref (eA E 12), .int (iz a1), .int (iz a2)] σ Φ := by
  refine ct_of (by decide +kernel) rfl hE rfl rfl hs (fun x => ?_)
  show RW layC E mi_X4_become Φ 0 [some (.ref (eA E 12)), some (.int (iz a1)), some (.int (iz a2))] [] σ x
  refine r_iloadn (dc D_cX4_become_0 0 rfl) rfl rfl ?_
  refine r_callN (As := [.int (iz a1)]) (st := []) (dc D_cX4_become_0 1 rfl) cw_RX4_24 nm_yX11_isList (CX11_isList hE _ ra1 _ hs h) rfl (by decide) rfl rfl rfl (fun z1 σ2 rz1 hσ2 h => ?_)
  show RW layC E mi_X4_become Φ 4 [some (.ref (eA E 12)), some (.int (iz a1)), some (.int (iz a2))] [.int (iz z1)] σ2 x
  refine r_if_eq (tgt := 42) (dc D_cX4_become_0 2 rfl) (by decide) rz1 (fun c3 => ?_) (fun c3 => ?_)
  · have h := h.1 c3
    exact r_vret (dc D_cX4_become_0 25 rfl) rfl h
  · have h := h.2 c3
    refine r_iloadn (dc D_cX4_become_0 3 rfl) rfl rfl ?_
    refine r_if_lt (tgt := 42) (dc D_cX4_become_0 4 rfl) (by decide) ra2 (fun c4 => ?_) (fun c4 => ?_)
    · have h := h.1 c4
      exact r_vret (dc D_cX4_become_0 25 rfl) rfl h
    · have h := h.2 c4
      refine r_iloadn (dc D_cX4_become_0 5 rfl) rfl rfl ?_
      refine r_bipush (n := 40) (dc D_cX4_become_0 6 rfl) (by decide +kernel) ?_
      refine r_icmp_gt (tgt := 42) (dc D_cX4_become_0 7 rfl) (by decide) ra2 (Rl rfl) (fun c5 => ?_) (fun c5 => ?_)
      · have h := h.1 c5
        exact r_vret (dc D_cX4_become_0 25 rfl) rfl h
      · have h := h.2 c5
        refine r_aloadn (dc D_cX4_become_0 8 rfl) rfl rfl ?_
        refine r_getR (dc D_cX4_become_0 9 rfl) fw_RX4_15 lC_12 rfl ?_
        refine r_iloadn (dc D_cX4_become_0 10 rfl) rfl rfl ?_
        refine r_iloadn (dc D_cX4_become_0 11 rfl) rfl rfl ?_
        obtain ⟨o6, h⟩ := h
        refine r_iast (N := 4) (dc D_cX4_become_0 12 rfl) lC_63 rfl rfl o6 ra2 ?_
        refine r_sig (fun σ7 eσ7 => ?_)
        have h := h σ7 eσ7
        have hσ7 : RS σ7 := RS_eq eσ7 (RS.up hσ2 ra2 _ _)
        refine r_aloadn (dc D_cX4_become_0 13 rfl) rfl rfl ?_
        refine r_getR (dc D_cX4_become_0 14 rfl) fw_RX4_9 lC_12 rfl ?_
        refine r_iloadn (dc D_cX4_become_0 15 rfl) rfl rfl ?_
        refine r_bipush (n := 40) (dc D_cX4_become_0 16 rfl) (by decide +kernel) ?_
        refine r_imul (dc D_cX4_become_0 17 rfl) ?_
        obtain ⟨o8, h⟩ := h
        refine r_iloadn (dc D_cX4_become_0 18 rfl) rfl rfl ?_
        refine r_bipush (n := 40) (dc D_cX4_become_0 19 rfl) (by decide +kernel) ?_
        refine r_imul (dc D_cX4_become_0 20 rfl) ?_
        obtain ⟨o9, h⟩ := h
        refine r_iloadn (dc D_cX4_become_0 21 rfl) rfl rfl ?_
        refine r_iadd (dc D_cX4_become_0 22 rfl) ?_
        obtain ⟨o10, h⟩ := h
        refine r_iconst (n := 0) (dc D_cX4_become_0 23 rfl) ?_
        obtain ⟨o11, h⟩ := h
        refine r_fill4 (n := 160) (N := 160) (dc D_cX4_become_0 24 rfl) cw_RX4_28 lC_62 rfl rfl o8 o10 (Rl rfl) o11 (by decide) rfl ?_
        refine r_sig (fun σ12 eσ12 => ?_)
        have h := h σ12 eσ12
        have hσ12 : RS σ12 := RS_eq eσ12 (RS.fl hσ7 (Rl rfl))
        exact r_vret (dc D_cX4_become_0 25 rfl) rfl h
-- end of GateFlow$Lists.become
def mi_X11_list : MI := (cX11_list, RX11, 3, 5, (some .int), 1)
def FX11_list (a1 a2 : Int) (σ : PS) (Φ : Int → PS → Prop) : Prop :=
  FX11_isList a1 σ (fun z1 σ2 =>
  ((¬ z1 = 0 →
    ((a2 ≤ 40 →
      ((0 ≤ a2 →
        FX4_become a1 a2 σ2 (fun z6 σ7 =>
        Φ 1 σ7)) ∧
      (¬ 0 ≤ a2 →
        Φ (-14) σ2))) ∧
    (¬ a2 ≤ 40 →
      Φ (-2) σ2))) ∧
  (z1 = 0 →
    Φ (-1) σ2)))
theorem cw_RX11_299 : CWS RX11 299 yX11_isList mi_X11_isList := tb_r [1145, 1146, 97, 1147] (by decide +kernel)
theorem cw_RX11_302 : CWV RX11 302 yX4_become mi_X4_become := tb_r [1148, 1149, 1150, 108, 1151] (by decide +kernel)
theorem nm_yX4_become : ynm yX4_become 2 := ⟨⟨by decide +kernel, by decide +kernel⟩, by decide +kernel⟩
set_option maxRecDepth 100000 in
theorem CX11_list {E : EV} (hE : eOK layC E) {Φ : Int → PS → Prop} (a1 a2 : Int) (ra1 : Rg a1) (ra2 : Rg a2) (σ : PS) (hs : RS σ) (h : FX11_list a1 a2 σ Φ) : CT layC E yX11_list mi_X11_list [.ref (eA E 0), .int (iz a1), .int (iz a2)] σ Φ := by
  refine ct_of (by decide +kernel) rfl hE rfl rfl hs (fun x => ?_)
  show RW layC E mi_X11_list Φ 0 [some (.ref (eA E 0)), some (.int (iz a1)), some (.int (iz a2))] [] σ x
  refine r_iloadn (dc D_cX11_list_0 0 rfl) rfl rfl ?_
  refine r_callS (As := [.int (iz a1)]) (st := []) (dc D_cX11_list_0 1 rfl) cw_RX11_299 nm_yX11_isList (CX11_isList hE _ ra1 _ hs h) rfl (by decide) rfl rfl rfl (fun z1 σ2 rz1 hσ2 h => ?_)
  show RW layC E mi_X11_list Φ 4 [some (.ref (eA E 0)), some (.int (iz a1)), some (.int (iz a2))] [.int (iz z1)] σ2 x
  refine r_if_ne (tgt := 9) (dc D_cX11_list_0 2 rfl) (by decide) rz1 (fun c3 => ?_) (fun c3 => ?_)
  · have h := h.1 c3
    refine r_iloadn (dc D_cX11_list_0 5 rfl) rfl rfl ?_
    refine r_bipush (n := 40) (dc D_cX11_list_0 6 rfl) (by decide +kernel) ?_
    refine r_icmp_le (tgt := 18) (dc D_cX11_list_0 7 rfl) (by decide) ra2 (Rl rfl) (fun c4 => ?_) (fun c4 => ?_)
    · have h := h.1 c4
      refine r_iloadn (dc D_cX11_list_0 10 rfl) rfl rfl ?_
      refine r_if_ge (tgt := 25) (dc D_cX11_list_0 11 rfl) (by decide) ra2 (fun c5 => ?_) (fun c5 => ?_)
      · have h := h.1 c5
        refine r_aloadn (dc D_cX11_list_0 14 rfl) rfl rfl ?_
        refine r_getR (dc D_cX11_list_0 15 rfl) fw_RX11_78 lC_0 rfl ?_
        refine r_iloadn (dc D_cX11_list_0 16 rfl) rfl rfl ?_
        refine r_iloadn (dc D_cX11_list_0 17 rfl) rfl rfl ?_
        refine r_callV (As := [.int (iz a1), .int (iz a2)]) (st := []) (dc D_cX11_list_0 18 rfl) cw_RX11_302 nm_yX4_become (CX4_become hE _ _ ra1 ra2 _ hσ2 h) lC_12 rfl rfl (by decide) rfl rfl rfl (fun z6 σ7 rz6 hσ7 h => ?_)
        show RW layC E mi_X11_list Φ 34 [some (.ref (eA E 0)), some (.int (iz a1)), some (.int (iz a2))] [] σ7 x
        refine r_iconst (n := 1) (dc D_cX11_list_0 19 rfl) ?_
        exact r_iret (dc D_cX11_list_0 20 rfl) rfl (Rl rfl) h
      · have h := h.2 c5
        refine r_bipush (n := (-14)) (dc D_cX11_list_0 12 rfl) (by decide +kernel) ?_
        exact r_iret (dc D_cX11_list_0 13 rfl) rfl (Rl rfl) h
    · have h := h.2 c4
      refine r_bipush (n := (-2)) (dc D_cX11_list_0 8 rfl) (by decide +kernel) ?_
      exact r_iret (dc D_cX11_list_0 9 rfl) rfl (Rl rfl) h
  · have h := h.2 c3
    refine r_iconst (n := (-1)) (dc D_cX11_list_0 3 rfl) ?_
    exact r_iret (dc D_cX11_list_0 4 rfl) rfl (Rl rfl) h
-- end of GateFlow.list
def mi_X4_holds : MI := (cX4_holds, RX4, 2, 2, (some .boolean), 1)
def FX4_holds (a1 : Int) (σ : PS) (Φ : Int → PS → Prop) : Prop :=
  FX11_isList a1 σ (fun z1 σ2 =>
  ((z1 = 0 →
    Φ 0 σ2) ∧
  (¬ z1 = 0 →
    (0 ≤ a1 ∧ a1 < 4) ∧
    ((σ2 63 a1.toNat < 0 →
      Φ 0 σ2) ∧
    (¬ σ2 63 a1.toNat < 0 →
      Φ 1 σ2)))))
set_option maxRecDepth 100000 in
theorem CX4_holds {E : EV} (hE : eOK layC E) {Φ : Int → PS → Prop} (a1 : Int) (ra1 : Rg a1) (σ : PS) (hs : RS σ) (h : FX4_holds a1 σ Φ) : CT layC E yX4_holds mi_X4_holds [.ref (eA E 12), .int (iz a1)] σ Φ := by
  refine ct_of (by decide +kernel) rfl hE rfl rfl hs (fun x => ?_)
  show RW layC E mi_X4_holds Φ 0 [some (.ref (eA E 12)), some (.int (iz a1))] [] σ x
  refine r_iloadn (dc D_cX4_holds_0 0 rfl) rfl rfl ?_
  refine r_callN (As := [.int (iz a1)]) (st := []) (dc D_cX4_holds_0 1 rfl) cw_RX4_24 nm_yX11_isList (CX11_isList hE _ ra1 _ hs h) rfl (by decide) rfl rfl rfl (fun z1 σ2 rz1 hσ2 h => ?_)
  show RW layC E mi_X4_holds Φ 4 [some (.ref (eA E 12)), some (.int (iz a1))] [.int (iz z1)] σ2 x
  refine r_if_eq (tgt := 20) (dc D_cX4_holds_0 2 rfl) (by decide) rz1 (fun c3 => ?_) (fun c3 => ?_)
  · have h := h.1 c3
    refine r_iconst (n := 0) (dc D_cX4_holds_0 10 rfl) ?_
    exact r_zret (dc D_cX4_holds_0 11 rfl) rfl (by decide) h
  · have h := h.2 c3
    refine r_aloadn (dc D_cX4_holds_0 3 rfl) rfl rfl ?_
    refine r_getR (dc D_cX4_holds_0 4 rfl) fw_RX4_15 lC_12 rfl ?_
    refine r_iloadn (dc D_cX4_holds_0 5 rfl) rfl rfl ?_
    obtain ⟨o4, h⟩ := h
    refine r_iald (N := 4) (dc D_cX4_holds_0 6 rfl) lC_63 rfl rfl o4 ?_
    refine r_if_lt (tgt := 20) (dc D_cX4_holds_0 7 rfl) (by decide) (hσ2 _ _) (fun c5 => ?_) (fun c5 => ?_)
    · have h := h.1 c5
      refine r_iconst (n := 0) (dc D_cX4_holds_0 10 rfl) ?_
      exact r_zret (dc D_cX4_holds_0 11 rfl) rfl (by decide) h
    · have h := h.2 c5
      refine r_iconst (n := 1) (dc D_cX4_holds_0 8 rfl) ?_
      refine r_goto (tgt := 21) (dc D_cX4_holds_0 9 rfl) (by decide) ?_
      exact r_zret (dc D_cX4_holds_0 11 rfl) rfl (by decide) h
-- end of GateFlow$Lists.holds
def mi_X4_hasPlace : MI := (cX4_hasPlace, RX4, 3, 2, (some .boolean), 1)
def FX4_hasPlace (a1 a2 : Int) (σ : PS) (Φ : Int → PS → Prop) : Prop :=
  FX11_isList a1 σ (fun z1 σ2 =>
  ((z1 = 0 →
    Φ 0 σ2) ∧
  (¬ z1 = 0 →
    ((a2 < 0 →
      Φ 0 σ2) ∧
    (¬ a2 < 0 →
      (0 ≤ a1 ∧ a1 < 4) ∧
      ((σ2 63 a1.toNat ≤ a2 →
        Φ 0 σ2) ∧
      (¬ σ2 63 a1.toNat ≤ a2 →
        Φ 1 σ2)))))))
set_option maxRecDepth 100000 in
theorem CX4_hasPlace {E : EV} (hE : eOK layC E) {Φ : Int → PS → Prop} (a1 a2 : Int) (ra1 : Rg a1) (ra2 : Rg a2) (σ : PS) (hs : RS σ) (h : FX4_hasPlace a1 a2 σ Φ) : CT layC E yX4_hasPlace mi_X4_hasPlace [.ref (eA E 12), .int (iz a1), .int (iz a2)] σ Φ := by
  refine ct_of (by decide +kernel) rfl hE rfl rfl hs (fun x => ?_)
  show RW layC E mi_X4_hasPlace Φ 0 [some (.ref (eA E 12)), some (.int (iz a1)), some (.int (iz a2))] [] σ x
  refine r_iloadn (dc D_cX4_hasPlace_0 0 rfl) rfl rfl ?_
  refine r_callN (As := [.int (iz a1)]) (st := []) (dc D_cX4_hasPlace_0 1 rfl) cw_RX4_24 nm_yX11_isList (CX11_isList hE _ ra1 _ hs h) rfl (by decide) rfl rfl rfl (fun z1 σ2 rz1 hσ2 h => ?_)
  show RW layC E mi_X4_hasPlace Φ 4 [some (.ref (eA E 12)), some (.int (iz a1)), some (.int (iz a2))] [.int (iz z1)] σ2 x
  refine r_if_eq (tgt := 25) (dc D_cX4_hasPlace_0 2 rfl) (by decide) rz1 (fun c3 => ?_) (fun c3 => ?_)
  · have h := h.1 c3
    refine r_iconst (n := 0) (dc D_cX4_hasPlace_0 13 rfl) ?_
    exact r_zret (dc D_cX4_hasPlace_0 14 rfl) rfl (by decide) h
  · have h := h.2 c3
    refine r_iloadn (dc D_cX4_hasPlace_0 3 rfl) rfl rfl ?_
    refine r_if_lt (tgt := 25) (dc D_cX4_hasPlace_0 4 rfl) (by decide) ra2 (fun c4 => ?_) (fun c4 => ?_)
    · have h := h.1 c4
      refine r_iconst (n := 0) (dc D_cX4_hasPlace_0 13 rfl) ?_
      exact r_zret (dc D_cX4_hasPlace_0 14 rfl) rfl (by decide) h
    · have h := h.2 c4
      refine r_iloadn (dc D_cX4_hasPlace_0 5 rfl) rfl rfl ?_
      refine r_aloadn (dc D_cX4_hasPlace_0 6 rfl) rfl rfl ?_
      refine r_getR (dc D_cX4_hasPlace_0 7 rfl) fw_RX4_15 lC_12 rfl ?_
      refine r_iloadn (dc D_cX4_hasPlace_0 8 rfl) rfl rfl ?_
      obtain ⟨o5, h⟩ := h
      refine r_iald (N := 4) (dc D_cX4_hasPlace_0 9 rfl) lC_63 rfl rfl o5 ?_
      refine r_icmp_ge (tgt := 25) (dc D_cX4_hasPlace_0 10 rfl) (by decide) ra2 (hσ2 _ _) (fun c6 => ?_) (fun c6 => ?_)
      · have h := h.1 c6
        refine r_iconst (n := 0) (dc D_cX4_hasPlace_0 13 rfl) ?_
        exact r_zret (dc D_cX4_hasPlace_0 14 rfl) rfl (by decide) h
      · have h := h.2 c6
        refine r_iconst (n := 1) (dc D_cX4_hasPlace_0 11 rfl) ?_
        refine r_goto (tgt := 26) (dc D_cX4_hasPlace_0 12 rfl) (by decide) ?_
        exact r_zret (dc D_cX4_hasPlace_0 14 rfl) rfl (by decide) h
-- end of GateFlow$Lists.hasPlace
def mi_X4_put : MI := (cX4_put, RX4, 4, 3, none, 0)
def FX4_put (a1 a2 a3 : Int) (σ : PS) (Φ : Int → PS → Prop) : Prop :=
  FX4_hasPlace a1 a2 σ (fun z1 σ2 =>
  ((z1 = 0 →
    Φ 0 σ2) ∧
  (¬ z1 = 0 →
    Rg (a1 * 40) ∧
    Rg ((a1 * 40) + a2) ∧
    (0 ≤ (a1 * 40) + a2 ∧ (a1 * 40) + a2 < 160) ∧
    ∀ σ7 : PS, σ7 = up2 σ2 62 ((a1 * 40) + a2).toNat a3 →
    Φ 0 σ7)))
theorem cw_RX4_31 : CWV RX4 31 yX4_hasPlace mi_X4_hasPlace := tb_r [1170, 1163, 1164, 108, 1165] (by decide +kernel)
theorem nm_yX4_hasPlace : ynm yX4_hasPlace 2 := ⟨⟨by decide +kernel, by decide +kernel⟩, by decide +kernel⟩
set_option maxRecDepth 100000 in
theorem CX4_put {E : EV} (hE : eOK layC E) {Φ : Int → PS → Prop} (a1 a2 a3 : Int) (ra1 : Rg a1) (ra2 : Rg a2) (ra3 : Rg a3) (σ : PS) (hs : RS σ) (h : FX4_put a1 a2 a3 σ Φ) : CT layC E yX4_put mi_X4_put [.ref (eA E 12), .int (iz a1), .int (iz a2), .int (iz a3)] σ Φ := by
  refine ct_of (by decide +kernel) rfl hE rfl rfl hs (fun x => ?_)
  show RW layC E mi_X4_put Φ 0 [some (.ref (eA E 12)), some (.int (iz a1)), some (.int (iz a2)), some (.int (iz a3))] [] σ x
  refine r_aloadn (dc D_cX4_put_0 0 rfl) rfl rfl ?_
  refine r_iloadn (dc D_cX4_put_0 1 rfl) rfl rfl ?_
  refine r_iloadn (dc D_cX4_put_0 2 rfl) rfl rfl ?_
  refine r_callV (As := [.int (iz a1), .int (iz a2)]) (st := []) (dc D_cX4_put_0 3 rfl) cw_RX4_31 nm_yX4_hasPlace (CX4_hasPlace hE _ _ ra1 ra2 _ hs h) lC_12 rfl rfl (by decide) rfl rfl rfl (fun z1 σ2 rz1 hσ2 h => ?_)
  show RW layC E mi_X4_put Φ 6 [some (.ref (eA E 12)), some (.int (iz a1)), some (.int (iz a2)), some (.int (iz a3))] [.int (iz z1)] σ2 x
  refine r_if_eq (tgt := 21) (dc D_cX4_put_0 4 rfl) (by decide) rz1 (fun c3 => ?_) (fun c3 => ?_)
  · have h := h.1 c3
    exact r_vret (dc D_cX4_put_0 14 rfl) rfl h
  · have h := h.2 c3
    refine r_aloadn (dc D_cX4_put_0 5 rfl) rfl rfl ?_
    refine r_getR (dc D_cX4_put_0 6 rfl) fw_RX4_9 lC_12 rfl ?_
    refine r_iloadn (dc D_cX4_put_0 7 rfl) rfl rfl ?_
    refine r_bipush (n := 40) (dc D_cX4_put_0 8 rfl) (by decide +kernel) ?_
    refine r_imul (dc D_cX4_put_0 9 rfl) ?_
    obtain ⟨o4, h⟩ := h
    refine r_iloadn (dc D_cX4_put_0 10 rfl) rfl rfl ?_
    refine r_iadd (dc D_cX4_put_0 11 rfl) ?_
    obtain ⟨o5, h⟩ := h
    refine r_iloadn (dc D_cX4_put_0 12 rfl) rfl rfl ?_
    obtain ⟨o6, h⟩ := h
    refine r_iast (N := 160) (dc D_cX4_put_0 13 rfl) lC_62 rfl rfl o6 ra3 ?_
    refine r_sig (fun σ7 eσ7 => ?_)
    have h := h σ7 eσ7
    have hσ7 : RS σ7 := RS_eq eσ7 (RS.up hσ2 ra3 _ _)
    exact r_vret (dc D_cX4_put_0 14 rfl) rfl h
-- end of GateFlow$Lists.put
def mi_X11_set : MI := (cX11_set, RX11, 4, 4, (some .int), 1)
def FX11_set (a1 a2 a3 : Int) (σ : PS) (Φ : Int → PS → Prop) : Prop :=
  FX11_isList a1 σ (fun z1 σ2 =>
  ((¬ z1 = 0 →
    FX4_holds a1 σ2 (fun z4 σ5 =>
    ((¬ z4 = 0 →
      FX4_hasPlace a1 a2 σ5 (fun z7 σ8 =>
      ((¬ z7 = 0 →
        FX4_put a1 a2 a3 σ8 (fun z10 σ11 =>
        Φ 1 σ11)) ∧
      (z7 = 0 →
        Φ (-13) σ8)))) ∧
    (z4 = 0 →
      Φ (-11) σ5)))) ∧
  (z1 = 0 →
    Φ (-1) σ2)))
theorem cw_RX11_306 : CWV RX11 306 yX4_holds mi_X4_holds := tb_r [1158, 1159, 1160, 108, 1161] (by decide +kernel)
theorem nm_yX4_holds : ynm yX4_holds 1 := ⟨⟨by decide +kernel, by decide +kernel⟩, by decide +kernel⟩
theorem cw_RX11_309 : CWV RX11 309 yX4_hasPlace mi_X4_hasPlace := tb_r [1162, 1163, 1164, 108, 1165] (by decide +kernel)
theorem cw_RX11_312 : CWV RX11 312 yX4_put mi_X4_put := tb_r [1166, 1167, 1168, 108, 1169] (by decide +kernel)
theorem nm_yX4_put : ynm yX4_put 3 := ⟨⟨by decide +kernel, by decide +kernel⟩, by decide +kernel⟩
set_option maxRecDepth 100000 in
theorem CX11_set {E : EV} (hE : eOK layC E) {Φ : Int → PS → Prop} (a1 a2 a3 : Int) (ra1 : Rg a1) (ra2 : Rg a2) (ra3 : Rg a3) (σ : PS) (hs : RS σ) (h : FX11_set a1 a2 a3 σ Φ) : CT layC E yX11_set mi_X11_set [.ref (eA E 0), .int (iz a1), .int (iz a2), .int (iz a3)] σ Φ := by
  refine ct_of (by decide +kernel) rfl hE rfl rfl hs (fun x => ?_)
  show RW layC E mi_X11_set Φ 0 [some (.ref (eA E 0)), some (.int (iz a1)), some (.int (iz a2)), some (.int (iz a3))] [] σ x
  refine r_iloadn (dc D_cX11_set_0 0 rfl) rfl rfl ?_
  refine r_callS (As := [.int (iz a1)]) (st := []) (dc D_cX11_set_0 1 rfl) cw_RX11_299 nm_yX11_isList (CX11_isList hE _ ra1 _ hs h) rfl (by decide) rfl rfl rfl (fun z1 σ2 rz1 hσ2 h => ?_)
  show RW layC E mi_X11_set Φ 4 [some (.ref (eA E 0)), some (.int (iz a1)), some (.int (iz a2)), some (.int (iz a3))] [.int (iz z1)] σ2 x
  refine r_if_ne (tgt := 9) (dc D_cX11_set_0 2 rfl) (by decide) rz1 (fun c3 => ?_) (fun c3 => ?_)
  · have h := h.1 c3
    refine r_aloadn (dc D_cX11_set_0 5 rfl) rfl rfl ?_
    refine r_getR (dc D_cX11_set_0 6 rfl) fw_RX11_78 lC_0 rfl ?_
    refine r_iloadn (dc D_cX11_set_0 7 rfl) rfl rfl ?_
    refine r_callV (As := [.int (iz a1)]) (st := []) (dc D_cX11_set_0 8 rfl) cw_RX11_306 nm_yX4_holds (CX4_holds hE _ ra1 _ hσ2 h) lC_12 rfl rfl (by decide) rfl rfl rfl (fun z4 σ5 rz4 hσ5 h => ?_)
    show RW layC E mi_X11_set Φ 17 [some (.ref (eA E 0)), some (.int (iz a1)), some (.int (iz a2)), some (.int (iz a3))] [.int (iz z4)] σ5 x
    refine r_if_ne (tgt := 23) (dc D_cX11_set_0 9 rfl) (by decide) rz4 (fun c6 => ?_) (fun c6 => ?_)
    · have h := h.1 c6
      refine r_aloadn (dc D_cX11_set_0 12 rfl) rfl rfl ?_
      refine r_getR (dc D_cX11_set_0 13 rfl) fw_RX11_78 lC_0 rfl ?_
      refine r_iloadn (dc D_cX11_set_0 14 rfl) rfl rfl ?_
      refine r_iloadn (dc D_cX11_set_0 15 rfl) rfl rfl ?_
      refine r_callV (As := [.int (iz a1), .int (iz a2)]) (st := []) (dc D_cX11_set_0 16 rfl) cw_RX11_309 nm_yX4_hasPlace (CX4_hasPlace hE _ _ ra1 ra2 _ hσ5 h) lC_12 rfl rfl (by decide) rfl rfl rfl (fun z7 σ8 rz7 hσ8 h => ?_)
      show RW layC E mi_X11_set Φ 32 [some (.ref (eA E 0)), some (.int (iz a1)), some (.int (iz a2)), some (.int (iz a3))] [.int (iz z7)] σ8 x
      refine r_if_ne (tgt := 38) (dc D_cX11_set_0 17 rfl) (by decide) rz7 (fun c9 => ?_) (fun c9 => ?_)
      · have h := h.1 c9
        refine r_aloadn (dc D_cX11_set_0 20 rfl) rfl rfl ?_
        refine r_getR (dc D_cX11_set_0 21 rfl) fw_RX11_78 lC_0 rfl ?_
        refine r_iloadn (dc D_cX11_set_0 22 rfl) rfl rfl ?_
        refine r_iloadn (dc D_cX11_set_0 23 rfl) rfl rfl ?_
        refine r_iloadn (dc D_cX11_set_0 24 rfl) rfl rfl ?_
        refine r_callV (As := [.int (iz a1), .int (iz a2), .int (iz a3)]) (st := []) (dc D_cX11_set_0 25 rfl) cw_RX11_312 nm_yX4_put (CX4_put hE _ _ _ ra1 ra2 ra3 _ hσ8 h) lC_12 rfl rfl (by decide) rfl rfl rfl (fun z10 σ11 rz10 hσ11 h => ?_)
        show RW layC E mi_X11_set Φ 48 [some (.ref (eA E 0)), some (.int (iz a1)), some (.int (iz a2)), some (.int (iz a3))] [] σ11 x
        refine r_iconst (n := 1) (dc D_cX11_set_0 26 rfl) ?_
        exact r_iret (dc D_cX11_set_0 27 rfl) rfl (Rl rfl) h
      · have h := h.2 c9
        refine r_bipush (n := (-13)) (dc D_cX11_set_0 18 rfl) (by decide +kernel) ?_
        exact r_iret (dc D_cX11_set_0 19 rfl) rfl (Rl rfl) h
    · have h := h.2 c6
      refine r_bipush (n := (-11)) (dc D_cX11_set_0 10 rfl) (by decide +kernel) ?_
      exact r_iret (dc D_cX11_set_0 11 rfl) rfl (Rl rfl) h
  · have h := h.2 c3
    refine r_iconst (n := (-1)) (dc D_cX11_set_0 3 rfl) ?_
    exact r_iret (dc D_cX11_set_0 4 rfl) rfl (Rl rfl) h
-- end of GateFlow.set
def mi_X4_value : MI := (cX4_value, RX4, 3, 3, (some .int), 1)
def FX4_value (a1 a2 : Int) (σ : PS) (Φ : Int → PS → Prop) : Prop :=
  FX4_hasPlace a1 a2 σ (fun z1 σ2 =>
  ((z1 = 0 →
    Φ 0 σ2) ∧
  (¬ z1 = 0 →
    Rg (a1 * 40) ∧
    Rg ((a1 * 40) + a2) ∧
    (0 ≤ (a1 * 40) + a2 ∧ (a1 * 40) + a2 < 160) ∧
    Φ (σ2 62 ((a1 * 40) + a2).toNat) σ2)))
set_option maxRecDepth 100000 in
theorem CX4_value {E : EV} (hE : eOK layC E) {Φ : Int → PS → Prop} (a1 a2 : Int) (ra1 : Rg a1) (ra2 : Rg a2) (σ : PS) (hs : RS σ) (h : FX4_value a1 a2 σ Φ) : CT layC E yX4_value mi_X4_value [.ref (eA E 12), .int (iz a1), .int (iz a2)] σ Φ := by
  refine ct_of (by decide +kernel) rfl hE rfl rfl hs (fun x => ?_)
  show RW layC E mi_X4_value Φ 0 [some (.ref (eA E 12)), some (.int (iz a1)), some (.int (iz a2))] [] σ x
  refine r_aloadn (dc D_cX4_value_0 0 rfl) rfl rfl ?_
  refine r_iloadn (dc D_cX4_value_0 1 rfl) rfl rfl ?_
  refine r_iloadn (dc D_cX4_value_0 2 rfl) rfl rfl ?_
  refine r_callV (As := [.int (iz a1), .int (iz a2)]) (st := []) (dc D_cX4_value_0 3 rfl) cw_RX4_31 nm_yX4_hasPlace (CX4_hasPlace hE _ _ ra1 ra2 _ hs h) lC_12 rfl rfl (by decide) rfl rfl rfl (fun z1 σ2 rz1 hσ2 h => ?_)
  show RW layC E mi_X4_value Φ 6 [some (.ref (eA E 12)), some (.int (iz a1)), some (.int (iz a2))] [.int (iz z1)] σ2 x
  refine r_if_eq (tgt := 23) (dc D_cX4_value_0 4 rfl) (by decide) rz1 (fun c3 => ?_) (fun c3 => ?_)
  · have h := h.1 c3
    refine r_iconst (n := 0) (dc D_cX4_value_0 14 rfl) ?_
    exact r_iret (dc D_cX4_value_0 15 rfl) rfl (Rl rfl) h
  · have h := h.2 c3
    refine r_aloadn (dc D_cX4_value_0 5 rfl) rfl rfl ?_
    refine r_getR (dc D_cX4_value_0 6 rfl) fw_RX4_9 lC_12 rfl ?_
    refine r_iloadn (dc D_cX4_value_0 7 rfl) rfl rfl ?_
    refine r_bipush (n := 40) (dc D_cX4_value_0 8 rfl) (by decide +kernel) ?_
    refine r_imul (dc D_cX4_value_0 9 rfl) ?_
    obtain ⟨o4, h⟩ := h
    refine r_iloadn (dc D_cX4_value_0 10 rfl) rfl rfl ?_
    refine r_iadd (dc D_cX4_value_0 11 rfl) ?_
    obtain ⟨o5, h⟩ := h
    obtain ⟨o6, h⟩ := h
    refine r_iald (N := 160) (dc D_cX4_value_0 12 rfl) lC_62 rfl rfl o6 ?_
    refine r_goto (tgt := 24) (dc D_cX4_value_0 13 rfl) (by decide) ?_
    exact r_iret (dc D_cX4_value_0 15 rfl) rfl (hσ2 _ _) h
-- end of GateFlow$Lists.value
def mi_X11_get : MI := (cX11_get, RX11, 3, 4, (some .int), 1)
def FX11_get (a1 a2 : Int) (σ : PS) (Φ : Int → PS → Prop) : Prop :=
  FX11_isList a1 σ (fun z1 σ2 =>
  ((z1 = 0 →
    Φ (-2000000000) σ2) ∧
  (¬ z1 = 0 →
    FX4_hasPlace a1 a2 σ2 (fun z4 σ5 =>
    ((z4 = 0 →
      Φ (-2000000000) σ5) ∧
    (¬ z4 = 0 →
      FX4_value a1 a2 σ5 (fun z7 σ8 =>
      Φ z7 σ8)))))))
theorem kw_RX11_318 : Cond.constant RX11 318 (iz (-2000000000)) ∈ TB := tb_1 1179 (by decide +kernel)
theorem cw_RX11_316 : CWV RX11 316 yX4_value mi_X4_value := tb_r [1175, 1176, 1177, 108, 1178] (by decide +kernel)
theorem nm_yX4_value : ynm yX4_value 2 := ⟨⟨by decide +kernel, by decide +kernel⟩, by decide +kernel⟩
set_option maxRecDepth 100000 in
theorem CX11_get {E : EV} (hE : eOK layC E) {Φ : Int → PS → Prop} (a1 a2 : Int) (ra1 : Rg a1) (ra2 : Rg a2) (σ : PS) (hs : RS σ) (h : FX11_get a1 a2 σ Φ) : CT layC E yX11_get mi_X11_get [.ref (eA E 0), .int (iz a1), .int (iz a2)] σ Φ := by
  refine ct_of (by decide +kernel) rfl hE rfl rfl hs (fun x => ?_)
  show RW layC E mi_X11_get Φ 0 [some (.ref (eA E 0)), some (.int (iz a1)), some (.int (iz a2))] [] σ x
  refine r_iloadn (dc D_cX11_get_0 0 rfl) rfl rfl ?_
  refine r_callS (As := [.int (iz a1)]) (st := []) (dc D_cX11_get_0 1 rfl) cw_RX11_299 nm_yX11_isList (CX11_isList hE _ ra1 _ hs h) rfl (by decide) rfl rfl rfl (fun z1 σ2 rz1 hσ2 h => ?_)
  show RW layC E mi_X11_get Φ 4 [some (.ref (eA E 0)), some (.int (iz a1)), some (.int (iz a2))] [.int (iz z1)] σ2 x
  refine r_if_eq (tgt := 31) (dc D_cX11_get_0 2 rfl) (by decide) rz1 (fun c3 => ?_) (fun c3 => ?_)
  · have h := h.1 c3
    refine r_ldcw (n := (-2000000000)) (dc D_cX11_get_0 15 rfl) kw_RX11_318 ?_
    exact r_iret (dc D_cX11_get_0 16 rfl) rfl (Rl rfl) h
  · have h := h.2 c3
    refine r_aloadn (dc D_cX11_get_0 3 rfl) rfl rfl ?_
    refine r_getR (dc D_cX11_get_0 4 rfl) fw_RX11_78 lC_0 rfl ?_
    refine r_iloadn (dc D_cX11_get_0 5 rfl) rfl rfl ?_
    refine r_iloadn (dc D_cX11_get_0 6 rfl) rfl rfl ?_
    refine r_callV (As := [.int (iz a1), .int (iz a2)]) (st := []) (dc D_cX11_get_0 7 rfl) cw_RX11_309 nm_yX4_hasPlace (CX4_hasPlace hE _ _ ra1 ra2 _ hσ2 h) lC_12 rfl rfl (by decide) rfl rfl rfl (fun z4 σ5 rz4 hσ5 h => ?_)
    show RW layC E mi_X11_get Φ 16 [some (.ref (eA E 0)), some (.int (iz a1)), some (.int (iz a2))] [.int (iz z4)] σ5 x
    refine r_if_eq (tgt := 31) (dc D_cX11_get_0 8 rfl) (by decide) rz4 (fun c6 => ?_) (fun c6 => ?_)
    · have h := h.1 c6
      refine r_ldcw (n := (-2000000000)) (dc D_cX11_get_0 15 rfl) kw_RX11_318 ?_
      exact r_iret (dc D_cX11_get_0 16 rfl) rfl (Rl rfl) h
    · have h := h.2 c6
      refine r_aloadn (dc D_cX11_get_0 9 rfl) rfl rfl ?_
      refine r_getR (dc D_cX11_get_0 10 rfl) fw_RX11_78 lC_0 rfl ?_
      refine r_iloadn (dc D_cX11_get_0 11 rfl) rfl rfl ?_
      refine r_iloadn (dc D_cX11_get_0 12 rfl) rfl rfl ?_
      refine r_callV (As := [.int (iz a1), .int (iz a2)]) (st := []) (dc D_cX11_get_0 13 rfl) cw_RX11_316 nm_yX4_value (CX4_value hE _ _ ra1 ra2 _ hσ5 h) lC_12 rfl rfl (by decide) rfl rfl rfl (fun z7 σ8 rz7 hσ8 h => ?_)
      show RW layC E mi_X11_get Φ 28 [some (.ref (eA E 0)), some (.int (iz a1)), some (.int (iz a2))] [.int (iz z7)] σ8 x
      refine r_goto (tgt := 34) (dc D_cX11_get_0 14 rfl) (by decide) ?_
      exact r_iret (dc D_cX11_get_0 16 rfl) rfl rz7 h
-- end of GateFlow.get
def mi_X11_lay : MI := (cX11_lay, RX11, 6, 8, (some .int), 1)
def BX11_lay_56 (K56 : Int → Int → Int → Int → PS → Prop) (x1 x2 x4 x5 : Int) (σ : PS) (Φ : Int → PS → Prop) : Prop :=
  ((σ 1 6 ≤ x5 →
    Φ (σ 1 6) σ) ∧
  (¬ σ 1 6 ≤ x5 →
    FX4_hasPlace x1 (iwrap (x2 + x5)) σ (fun z2 σ3 =>
    ((¬ z2 = 0 →
      (x4 = 25 ∨ x4 = 32) ∧
      (0 ≤ x5 ∧ x5 < 30) ∧
      FX4_put x1 (iwrap (x2 + x5)) (σ3 x4.toNat x5.toNat) σ3 (fun z7 σ8 =>
      Rg (x5 + 1) ∧
      K56 x1 x2 x4 (x5 + 1) σ8)) ∧
    (z2 = 0 →
      Φ (-13) σ3)))))
def LX11_lay_56 : Nat → Int → Int → Int → Int → PS → (Int → PS → Prop) → Prop
  | 0, _, _, _, _, _, _ => False
  | n + 1, x1, x2, x4, x5, σ, Φ => BX11_lay_56 (fun x1 x2 x4 x5 σ => LX11_lay_56 n x1 x2 x4 x5 σ Φ) x1 x2 x4 x5 σ Φ
def LX11_lay_51 (x1 x2 s0 : Int) (σ : PS) (Φ : Int → PS → Prop) : Prop :=
  ∃ n, LX11_lay_56 n x1 x2 s0 0 σ Φ
def FX11_lay (a1 a2 a3 : Int) (σ : PS) (Φ : Int → PS → Prop) : Prop :=
  FX11_isList a1 σ (fun z1 σ2 =>
  ((z1 = 0 →
    Φ (-1) σ2) ∧
  (¬ z1 = 0 →
    FX11_isOneOrZero a3 σ2 (fun z4 σ5 =>
    ((¬ z4 = 0 →
      FX4_holds a1 σ5 (fun z7 σ8 =>
      ((¬ z7 = 0 →
        ((¬ a3 = 0 →
          FX11_freshHeights σ8 (fun z11 σ12 => z11 = 4 ∧ (LX11_lay_51 a1 a2 32 σ12 Φ))) ∧
        (a3 = 0 →
          FX11_freshWays σ8 (fun z13 σ14 => z13 = 3 ∧ (LX11_lay_51 a1 a2 25 σ14 Φ))))) ∧
      (z7 = 0 →
        Φ (-11) σ8)))) ∧
    (z4 = 0 →
      Φ (-1) σ5))))))
set_option maxRecDepth 100000 in
theorem TBX11_lay_56 {E : EV} (hE : eOK layC E) {Φ : Int → PS → Prop} {K56 : Int → Int → Int → Int → PS → Prop} (x : CX) (hK56 : ∀ (x1 x2 x4 x5 : Int) (σ : PS), Rg x1 → Rg x2 → Rg x4 → Rg x5 → RS σ → K56 x1 x2 x4 x5 σ → RW layC E mi_X11_lay Φ 56 [some (.ref (eA E 0)), some (.int (iz x1)), some (.int (iz x2)), none, some (.ref (eA E x4.toNat)), some (.int (iz x5))] [] σ x) (x1 x2 x4 x5 : Int) (rx1 : Rg x1) (rx2 : Rg x2) (rx4 : Rg x4) (rx5 : Rg x5) (σ : PS) (hs : RS σ) (h : BX11_lay_56 K56 x1 x2 x4 x5 σ Φ) : RW layC E mi_X11_lay Φ 56 [some (.ref (eA E 0)), some (.int (iz x1)), some (.int (iz x2)), none, some (.ref (eA E x4.toNat)), some (.int (iz x5))] [] σ x := by
  refine r_iload (dc D_cX11_lay_0 27 rfl) rfl ?_
  refine r_aloadn (dc D_cX11_lay_0 28 rfl) rfl rfl ?_
  refine r_getR (dc D_cX11_lay_0 29 rfl) fw_RX11_12 lC_0 rfl ?_
  refine r_getI (dc D_cX11_lay_0 30 rfl) fw_RX11_92 lC_1 rfl ?_
  refine r_icmp_ge (tgt := 109) (dc D_cX11_lay_0 31 rfl) (by decide) rx5 (hs _ _) (fun c1 => ?_) (fun c1 => ?_)
  · have h := h.1 c1
    refine r_aloadn (dc D_cX11_lay_1 14 rfl) rfl rfl ?_
    refine r_getR (dc D_cX11_lay_1 15 rfl) fw_RX11_12 lC_0 rfl ?_
    refine r_getI (dc D_cX11_lay_1 16 rfl) fw_RX11_92 lC_1 rfl ?_
    exact r_iret (dc D_cX11_lay_1 17 rfl) rfl (hs _ _) h
  · have h := h.2 c1
    refine r_aloadn (dc D_cX11_lay_0 32 rfl) rfl rfl ?_
    refine r_getR (dc D_cX11_lay_0 33 rfl) fw_RX11_78 lC_0 rfl ?_
    refine r_iloadn (dc D_cX11_lay_0 34 rfl) rfl rfl ?_
    refine r_iloadn (dc D_cX11_lay_0 35 rfl) rfl rfl ?_
    refine r_iload (dc D_cX11_lay_0 36 rfl) rfl ?_
    refine r_iadd (dc D_cX11_lay_0 37 rfl) ?_
    refine r_wrap ?_
    refine r_callV (As := [.int (iz x1), .int (iz (iwrap (x2 + x5)))]) (st := []) (dc D_cX11_lay_0 38 rfl) cw_RX11_309 nm_yX4_hasPlace (CX4_hasPlace hE _ _ rx1 (Rg_of _) _ hs h) lC_12 rfl rfl (by decide) rfl rfl rfl (fun z2 σ3 rz2 hσ3 h => ?_)
    show RW layC E mi_X11_lay Φ 80 [some (.ref (eA E 0)), some (.int (iz x1)), some (.int (iz x2)), none, some (.ref (eA E x4.toNat)), some (.int (iz x5))] [.int (iz z2)] σ3 x
    refine r_if_ne (tgt := 86) (dc D_cX11_lay_0 39 rfl) (by decide) rz2 (fun c4 => ?_) (fun c4 => ?_)
    · have h := h.1 c4
      refine r_aloadn (dc D_cX11_lay_1 2 rfl) rfl rfl ?_
      refine r_getR (dc D_cX11_lay_1 3 rfl) fw_RX11_78 lC_0 rfl ?_
      refine r_iloadn (dc D_cX11_lay_1 4 rfl) rfl rfl ?_
      refine r_iloadn (dc D_cX11_lay_1 5 rfl) rfl rfl ?_
      refine r_iload (dc D_cX11_lay_1 6 rfl) rfl ?_
      refine r_iadd (dc D_cX11_lay_1 7 rfl) ?_
      refine r_wrap ?_
      refine r_aload (dc D_cX11_lay_1 8 rfl) rfl ?_
      refine r_iload (dc D_cX11_lay_1 9 rfl) rfl ?_
      obtain ⟨o5, h⟩ := h
      obtain ⟨o6, h⟩ := h
      refine r_iald (N := 30) (dc D_cX11_lay_1 10 rfl) (by rcases o5 with e0 | e0 <;> (rw [e0]; rfl)) rfl rfl o6 ?_
      refine r_callV (As := [.int (iz x1), .int (iz (iwrap (x2 + x5))), .int (iz (σ3 x4.toNat x5.toNat))]) (st := []) (dc D_cX11_lay_1 11 rfl) cw_RX11_312 nm_yX4_put (CX4_put hE _ _ _ rx1 (Rg_of _) (hσ3 _ _) _ hσ3 h) lC_12 rfl rfl (by decide) rfl rfl rfl (fun z7 σ8 rz7 hσ8 h => ?_)
      show RW layC E mi_X11_lay Φ 103 [some (.ref (eA E 0)), some (.int (iz x1)), some (.int (iz x2)), none, some (.ref (eA E x4.toNat)), some (.int (iz x5))] [] σ8 x
      obtain ⟨o9, h⟩ := h
      refine r_iinc (lv' := [some (.ref (eA E 0)), some (.int (iz x1)), some (.int (iz x2)), none, some (.ref (eA E x4.toNat)), some (.int (iz (x5 + 1)))]) (dc D_cX11_lay_1 12 rfl) rfl rfl rfl ?_
      refine r_goto (tgt := 56) (dc D_cX11_lay_1 13 rfl) (by decide) ?_
      exact hK56 _ _ _ _ _ rx1 rx2 rx4 o9 hσ8 h
    · have h := h.2 c4
      refine r_bipush (n := (-13)) (dc D_cX11_lay_1 0 rfl) (by decide +kernel) ?_
      exact r_iret (dc D_cX11_lay_1 1 rfl) rfl (Rl rfl) h
theorem TX11_lay_56 {E : EV} (hE : eOK layC E) {Φ : Int → PS → Prop} (x : CX) (n : Nat) : ∀ (x1 x2 x4 x5 : Int) (σ : PS), Rg x1 → Rg x2 → Rg x4 → Rg x5 → RS σ → LX11_lay_56 n x1 x2 x4 x5 σ Φ → RW layC E mi_X11_lay Φ 56 [some (.ref (eA E 0)), some (.int (iz x1)), some (.int (iz x2)), none, some (.ref (eA E x4.toNat)), some (.int (iz x5))] [] σ x := by
  induction n with
  | zero => intro x1 x2 x4 x5 σ _ _ _ _ _ h; exact h.elim
  | succ n ih => intro x1 x2 x4 x5 σ rx1 rx2 rx4 rx5 hs h; exact TBX11_lay_56 hE x ih x1 x2 x4 x5 rx1 rx2 rx4 rx5 σ hs h
set_option maxRecDepth 100000 in
theorem TX11_lay_51 {E : EV} (hE : eOK layC E) {Φ : Int → PS → Prop} (x : CX) (x1 x2 s0 : Int) (rx1 : Rg x1) (rx2 : Rg x2) (rs0 : Rg s0) (σ : PS) (hs : RS σ) (h : LX11_lay_51 x1 x2 s0 σ Φ) : RW layC E mi_X11_lay Φ 51 [some (.ref (eA E 0)), some (.int (iz x1)), some (.int (iz x2)), none, none, none] [.ref (eA E s0.toNat)] σ x := by
  refine r_astore (lv' := [some (.ref (eA E 0)), some (.int (iz x1)), some (.int (iz x2)), none, some (.ref (eA E s0.toNat)), none]) (dc D_cX11_lay_0 24 rfl) rfl rfl ?_
  refine r_iconst (n := 0) (dc D_cX11_lay_0 25 rfl) ?_
  refine r_istore (lv' := [some (.ref (eA E 0)), some (.int (iz x1)), some (.int (iz x2)), none, some (.ref (eA E s0.toNat)), some (.int (iz 0))]) (dc D_cX11_lay_0 26 rfl) rfl rfl ?_
  obtain ⟨n, h⟩ := h
  exact TX11_lay_56 hE x n _ _ _ _ _ rx1 rx2 rs0 (Rl rfl) hs h
set_option maxRecDepth 100000 in
theorem CX11_lay {E : EV} (hE : eOK layC E) {Φ : Int → PS → Prop} (a1 a2 a3 : Int) (ra1 : Rg a1) (ra2 : Rg a2) (ra3 : Rg a3) (σ : PS) (hs : RS σ) (h : FX11_lay a1 a2 a3 σ Φ) : CT layC E yX11_lay mi_X11_lay [.ref (eA E 0), .int (iz a1), .int (iz a2), .int (iz a3)] σ Φ := by
  refine ct_of (by decide +kernel) rfl hE rfl rfl hs (fun x => ?_)
  show RW layC E mi_X11_lay Φ 0 [some (.ref (eA E 0)), some (.int (iz a1)), some (.int (iz a2)), some (.int (iz a3)), none, none] [] σ x
  refine r_iloadn (dc D_cX11_lay_0 0 rfl) rfl rfl ?_
  refine r_callS (As := [.int (iz a1)]) (st := []) (dc D_cX11_lay_0 1 rfl) cw_RX11_299 nm_yX11_isList (CX11_isList hE _ ra1 _ hs h) rfl (by decide) rfl rfl rfl (fun z1 σ2 rz1 hσ2 h => ?_)
  show RW layC E mi_X11_lay Φ 4 [some (.ref (eA E 0)), some (.int (iz a1)), some (.int (iz a2)), some (.int (iz a3)), none, none] [.int (iz z1)] σ2 x
  refine r_if_eq (tgt := 14) (dc D_cX11_lay_0 2 rfl) (by decide) rz1 (fun c3 => ?_) (fun c3 => ?_)
  · have h := h.1 c3
    refine r_iconst (n := (-1)) (dc D_cX11_lay_0 6 rfl) ?_
    exact r_iret (dc D_cX11_lay_0 7 rfl) rfl (Rl rfl) h
  · have h := h.2 c3
    refine r_iloadn (dc D_cX11_lay_0 3 rfl) rfl rfl ?_
    refine r_callS (As := [.int (iz a3)]) (st := []) (dc D_cX11_lay_0 4 rfl) cw_RX11_125 nm_yX11_isOneOrZero (CX11_isOneOrZero hE _ ra3 _ hσ2 h) rfl (by decide) rfl rfl rfl (fun z4 σ5 rz4 hσ5 h => ?_)
    show RW layC E mi_X11_lay Φ 11 [some (.ref (eA E 0)), some (.int (iz a1)), some (.int (iz a2)), some (.int (iz a3)), none, none] [.int (iz z4)] σ5 x
    refine r_if_ne (tgt := 16) (dc D_cX11_lay_0 5 rfl) (by decide) rz4 (fun c6 => ?_) (fun c6 => ?_)
    · have h := h.1 c6
      refine r_aloadn (dc D_cX11_lay_0 8 rfl) rfl rfl ?_
      refine r_getR (dc D_cX11_lay_0 9 rfl) fw_RX11_78 lC_0 rfl ?_
      refine r_iloadn (dc D_cX11_lay_0 10 rfl) rfl rfl ?_
      refine r_callV (As := [.int (iz a1)]) (st := []) (dc D_cX11_lay_0 11 rfl) cw_RX11_306 nm_yX4_holds (CX4_holds hE _ ra1 _ hσ5 h) lC_12 rfl rfl (by decide) rfl rfl rfl (fun z7 σ8 rz7 hσ8 h => ?_)
      show RW layC E mi_X11_lay Φ 24 [some (.ref (eA E 0)), some (.int (iz a1)), some (.int (iz a2)), some (.int (iz a3)), none, none] [.int (iz z7)] σ8 x
      refine r_if_ne (tgt := 30) (dc D_cX11_lay_0 12 rfl) (by decide) rz7 (fun c9 => ?_) (fun c9 => ?_)
      · have h := h.1 c9
        refine r_iloadn (dc D_cX11_lay_0 15 rfl) rfl rfl ?_
        refine r_if_ne (tgt := 44) (dc D_cX11_lay_0 16 rfl) (by decide) ra3 (fun c10 => ?_) (fun c10 => ?_)
        · have h := h.1 c10
          refine r_aloadn (dc D_cX11_lay_0 21 rfl) rfl rfl ?_
          refine r_callV (As := []) (st := []) (dc D_cX11_lay_0 22 rfl) cw_RX11_154 nm_yX11_freshHeights (CX11_freshHeights hE  _ hσ8 h) lC_0 rfl rfl (by decide) rfl rfl rfl (fun z11 σ12 rz11 hσ12 h => ?_)
          obtain ⟨rfl, h⟩ := h
          show RW layC E mi_X11_lay Φ 48 [some (.ref (eA E 0)), some (.int (iz a1)), some (.int (iz a2)), some (.int (iz a3)), none, none] [.ref (eA E 4)] σ12 x
          refine r_getR (dc D_cX11_lay_0 23 rfl) fw_RX11_158 lC_4 rfl ?_
          refine r_sub (lv' := [some (.ref (eA E 0)), some (.int (iz a1)), some (.int (iz a2)), none, none, none]) (subL_s (subL_s (subL_s (subL_n (subL_n (subL_n subL_e)))))) ?_
          exact TX11_lay_51 hE x _ _ _ ra1 ra2 (Rl rfl) _ hσ12 h
        · have h := h.2 c10
          refine r_aloadn (dc D_cX11_lay_0 17 rfl) rfl rfl ?_
          refine r_callV (As := []) (st := []) (dc D_cX11_lay_0 18 rfl) cw_RX11_134 nm_yX11_freshWays (CX11_freshWays hE  _ hσ8 h) lC_0 rfl rfl (by decide) rfl rfl rfl (fun z13 σ14 rz13 hσ14 h => ?_)
          obtain ⟨rfl, h⟩ := h
          show RW layC E mi_X11_lay Φ 38 [some (.ref (eA E 0)), some (.int (iz a1)), some (.int (iz a2)), some (.int (iz a3)), none, none] [.ref (eA E 3)] σ14 x
          refine r_getR (dc D_cX11_lay_0 19 rfl) fw_RX11_141 lC_3 rfl ?_
          refine r_goto (tgt := 51) (dc D_cX11_lay_0 20 rfl) (by decide) ?_
          refine r_sub (lv' := [some (.ref (eA E 0)), some (.int (iz a1)), some (.int (iz a2)), none, none, none]) (subL_s (subL_s (subL_s (subL_n (subL_n (subL_n subL_e)))))) ?_
          exact TX11_lay_51 hE x _ _ _ ra1 ra2 (Rl rfl) _ hσ14 h
      · have h := h.2 c9
        refine r_bipush (n := (-11)) (dc D_cX11_lay_0 13 rfl) (by decide +kernel) ?_
        exact r_iret (dc D_cX11_lay_0 14 rfl) rfl (Rl rfl) h
    · have h := h.2 c6
      refine r_iconst (n := (-1)) (dc D_cX11_lay_0 6 rfl) ?_
      exact r_iret (dc D_cX11_lay_0 7 rfl) rfl (Rl rfl) h
-- end of GateFlow.lay
def mi_X4_goesLessComes : MI := (cX4_goesLessComes, RX4, 8, 4, (some .int), 1)
def LX4_goesLessComes_69 (K6 : Int → Int → Int → Int → Int → PS → Prop) (x1 x2 x4 x6 s0 s1 : Int) (σ : PS) (Φ : Int → PS → Prop) : Prop :=
  Rg (s0 - s1) ∧
  ∀ v2 : Int, v2 = s0 - s1 →
  Rg (x6 + 1) ∧
  K6 x1 x2 x4 v2 (x6 + 1) σ
def LX4_goesLessComes_46 (K6 : Int → Int → Int → Int → Int → PS → Prop) (x1 x2 x4 x6 x7 s0 s1 : Int) (σ : PS) (Φ : Int → PS → Prop) : Prop :=
  Rg (s0 + s1) ∧
  ∀ v2 : Int, v2 = s0 + s1 →
  (0 ≤ x6 ∧ x6 < 30) ∧
  ((¬ σ 14 x6.toNat = x4 →
    LX4_goesLessComes_69 K6 x1 x2 x4 x6 v2 0 σ Φ) ∧
  (σ 14 x6.toNat = x4 →
    LX4_goesLessComes_69 K6 x1 x2 x4 x6 v2 x7 σ Φ))
def BX4_goesLessComes_6 (K6 : Int → Int → Int → Int → Int → PS → Prop) (x1 x2 x4 x5 x6 : Int) (σ : PS) (Φ : Int → PS → Prop) : Prop :=
  ((σ 1 6 ≤ x6 →
    Φ x5 σ) ∧
  (¬ σ 1 6 ≤ x6 →
    Rg (x2 + x6) ∧
    FX4_value x1 (x2 + x6) σ (fun z3 σ4 =>
    (0 ≤ x6 ∧ x6 < 30) ∧
    ((¬ σ4 13 x6.toNat = x4 →
      LX4_goesLessComes_46 K6 x1 x2 x4 x6 z3 x5 0 σ4 Φ) ∧
    (σ4 13 x6.toNat = x4 →
      LX4_goesLessComes_46 K6 x1 x2 x4 x6 z3 x5 z3 σ4 Φ)))))
def LX4_goesLessComes_6 : Nat → Int → Int → Int → Int → Int → PS → (Int → PS → Prop) → Prop
  | 0, _, _, _, _, _, _, _ => False
  | n + 1, x1, x2, x4, x5, x6, σ, Φ => BX4_goesLessComes_6 (fun x1 x2 x4 x5 x6 σ => LX4_goesLessComes_6 n x1 x2 x4 x5 x6 σ Φ) x1 x2 x4 x5 x6 σ Φ
def FX4_goesLessComes (a1 a2 a4 : Int) (σ : PS) (Φ : Int → PS → Prop) : Prop :=
  ∃ n, LX4_goesLessComes_6 n a1 a2 a4 0 0 σ Φ
theorem fw_RX4_35 : FW RX4 35 3 6 := ⟨RX3, TX3, 9, rfl, by decide, rfl, tb_1 175 (by decide +kernel), uw_3⟩
theorem fw_RX4_54 : FW RX4 54 3 7 := ⟨RX3, TX3, 9, rfl, by decide, rfl, tb_1 182 (by decide +kernel), uw_3⟩
theorem fw_RX4_65 : FW RX4 65 3 0 := ⟨RX3, TX3, 9, rfl, by decide, rfl, tb_1 139 (by decide +kernel), uw_3⟩
theorem fw_RX4_68 : FW RX4 68 3 1 := ⟨RX3, TX3, 9, rfl, by decide, rfl, tb_1 148 (by decide +kernel), uw_3⟩
theorem cw_RX4_47 : CWV RX4 47 yX4_value mi_X4_value := tb_r [1193, 1176, 1177, 108, 1178] (by decide +kernel)
set_option maxRecDepth 100000 in
theorem TX4_goesLessComes_69 {E : EV} (hE : eOK layC E) {Φ : Int → PS → Prop} {K6 : Int → Int → Int → Int → Int → PS → Prop} (x : CX) (hK6 : ∀ (x1 x2 x4 x5 x6 : Int) (σ : PS), Rg x1 → Rg x2 → Rg x4 → Rg x5 → Rg x6 → RS σ → K6 x1 x2 x4 x5 x6 σ → RW layC E mi_X4_goesLessComes Φ 6 [some (.ref (eA E 12)), some (.int (iz x1)), some (.int (iz x2)), some (.ref (eA E 1)), some (.int (iz x4)), some (.int (iz x5)), some (.int (iz x6)), none] [] σ x) (x1 x2 x4 x6 s0 s1 : Int) (rx1 : Rg x1) (rx2 : Rg x2) (rx4 : Rg x4) (rx6 : Rg x6) (rs0 : Rg s0) (rs1 : Rg s1) (σ : PS) (hs : RS σ) (h : LX4_goesLessComes_69 K6 x1 x2 x4 x6 s0 s1 σ Φ) : RW layC E mi_X4_goesLessComes Φ 69 [some (.ref (eA E 12)), some (.int (iz x1)), some (.int (iz x2)), some (.ref (eA E 1)), some (.int (iz x4)), none, some (.int (iz x6)), none] [.int (iz s1), .int (iz s0)] σ x := by
  refine r_isub (dc D_cX4_goesLessComes_0 37 rfl) ?_
  obtain ⟨o1, h⟩ := h
  refine r_name (fun v2 ev2 => ?_)
  have h := h v2 ev2
  have rv2 : Rg v2 := Rg_eq ev2 o1
  refine r_istore (lv' := [some (.ref (eA E 12)), some (.int (iz x1)), some (.int (iz x2)), some (.ref (eA E 1)), some (.int (iz x4)), some (.int (iz v2)), some (.int (iz x6)), none]) (dc D_cX4_goesLessComes_0 38 rfl) rfl rfl ?_
  obtain ⟨o3, h⟩ := h
  refine r_iinc (lv' := [some (.ref (eA E 12)), some (.int (iz x1)), some (.int (iz x2)), some (.ref (eA E 1)), some (.int (iz x4)), some (.int (iz v2)), some (.int (iz (x6 + 1))), none]) (dc D_cX4_goesLessComes_0 39 rfl) rfl rfl rfl ?_
  refine r_goto (tgt := 6) (dc D_cX4_goesLessComes_1 0 rfl) (by decide) ?_
  exact hK6 _ _ _ _ _ _ rx1 rx2 rx4 rv2 o3 hs h
set_option maxRecDepth 100000 in
theorem TX4_goesLessComes_46 {E : EV} (hE : eOK layC E) {Φ : Int → PS → Prop} {K6 : Int → Int → Int → Int → Int → PS → Prop} (x : CX) (hK6 : ∀ (x1 x2 x4 x5 x6 : Int) (σ : PS), Rg x1 → Rg x2 → Rg x4 → Rg x5 → Rg x6 → RS σ → K6 x1 x2 x4 x5 x6 σ → RW layC E mi_X4_goesLessComes Φ 6 [some (.ref (eA E 12)), some (.int (iz x1)), some (.int (iz x2)), some (.ref (eA E 1)), some (.int (iz x4)), some (.int (iz x5)), some (.int (iz x6)), none] [] σ x) (x1 x2 x4 x6 x7 s0 s1 : Int) (rx1 : Rg x1) (rx2 : Rg x2) (rx4 : Rg x4) (rx6 : Rg x6) (rx7 : Rg x7) (rs0 : Rg s0) (rs1 : Rg s1) (σ : PS) (hs : RS σ) (h : LX4_goesLessComes_46 K6 x1 x2 x4 x6 x7 s0 s1 σ Φ) : RW layC E mi_X4_goesLessComes Φ 46 [some (.ref (eA E 12)), some (.int (iz x1)), some (.int (iz x2)), some (.ref (eA E 1)), some (.int (iz x4)), none, some (.int (iz x6)), some (.int (iz x7))] [.int (iz s1), .int (iz s0)] σ x := by
  refine r_iadd (dc D_cX4_goesLessComes_0 25 rfl) ?_
  obtain ⟨o1, h⟩ := h
  refine r_name (fun v2 ev2 => ?_)
  have h := h v2 ev2
  have rv2 : Rg v2 := Rg_eq ev2 o1
  refine r_istore (lv' := [some (.ref (eA E 12)), some (.int (iz x1)), some (.int (iz x2)), some (.ref (eA E 1)), some (.int (iz x4)), some (.int (iz v2)), some (.int (iz x6)), some (.int (iz x7))]) (dc D_cX4_goesLessComes_0 26 rfl) rfl rfl ?_
  refine r_iload (dc D_cX4_goesLessComes_0 27 rfl) rfl ?_
  refine r_aloadn (dc D_cX4_goesLessComes_0 28 rfl) rfl rfl ?_
  refine r_getR (dc D_cX4_goesLessComes_0 29 rfl) fw_RX4_68 lC_1 rfl ?_
  refine r_iload (dc D_cX4_goesLessComes_0 30 rfl) rfl ?_
  obtain ⟨o3, h⟩ := h
  refine r_iald (N := 30) (dc D_cX4_goesLessComes_0 31 rfl) lC_14 rfl rfl o3 ?_
  refine r_iload (dc D_cX4_goesLessComes_0 32 rfl) rfl ?_
  refine r_icmp_ne (tgt := 68) (dc D_cX4_goesLessComes_0 33 rfl) (by decide) (hs _ _) rx4 (fun c4 => ?_) (fun c4 => ?_)
  · have h := h.1 c4
    refine r_iconst (n := 0) (dc D_cX4_goesLessComes_0 36 rfl) ?_
    refine r_sub (lv' := [some (.ref (eA E 12)), some (.int (iz x1)), some (.int (iz x2)), some (.ref (eA E 1)), some (.int (iz x4)), none, some (.int (iz x6)), none]) (subL_s (subL_s (subL_s (subL_s (subL_s (subL_n (subL_s (subL_n subL_e)))))))) ?_
    exact TX4_goesLessComes_69 hE x hK6 _ _ _ _ _ _ rx1 rx2 rx4 rx6 rv2 (Rl rfl) _ hs h
  · have h := h.2 c4
    refine r_iload (dc D_cX4_goesLessComes_0 34 rfl) rfl ?_
    refine r_goto (tgt := 69) (dc D_cX4_goesLessComes_0 35 rfl) (by decide) ?_
    refine r_sub (lv' := [some (.ref (eA E 12)), some (.int (iz x1)), some (.int (iz x2)), some (.ref (eA E 1)), some (.int (iz x4)), none, some (.int (iz x6)), none]) (subL_s (subL_s (subL_s (subL_s (subL_s (subL_n (subL_s (subL_n subL_e)))))))) ?_
    exact TX4_goesLessComes_69 hE x hK6 _ _ _ _ _ _ rx1 rx2 rx4 rx6 rv2 rx7 _ hs h
set_option maxRecDepth 100000 in
theorem TBX4_goesLessComes_6 {E : EV} (hE : eOK layC E) {Φ : Int → PS → Prop} {K6 : Int → Int → Int → Int → Int → PS → Prop} (x : CX) (hK6 : ∀ (x1 x2 x4 x5 x6 : Int) (σ : PS), Rg x1 → Rg x2 → Rg x4 → Rg x5 → Rg x6 → RS σ → K6 x1 x2 x4 x5 x6 σ → RW layC E mi_X4_goesLessComes Φ 6 [some (.ref (eA E 12)), some (.int (iz x1)), some (.int (iz x2)), some (.ref (eA E 1)), some (.int (iz x4)), some (.int (iz x5)), some (.int (iz x6)), none] [] σ x) (x1 x2 x4 x5 x6 : Int) (rx1 : Rg x1) (rx2 : Rg x2) (rx4 : Rg x4) (rx5 : Rg x5) (rx6 : Rg x6) (σ : PS) (hs : RS σ) (h : BX4_goesLessComes_6 K6 x1 x2 x4 x5 x6 σ Φ) : RW layC E mi_X4_goesLessComes Φ 6 [some (.ref (eA E 12)), some (.int (iz x1)), some (.int (iz x2)), some (.ref (eA E 1)), some (.int (iz x4)), some (.int (iz x5)), some (.int (iz x6)), none] [] σ x := by
  refine r_iload (dc D_cX4_goesLessComes_0 4 rfl) rfl ?_
  refine r_aloadn (dc D_cX4_goesLessComes_0 5 rfl) rfl rfl ?_
  refine r_getI (dc D_cX4_goesLessComes_0 6 rfl) fw_RX4_35 lC_1 rfl ?_
  refine r_icmp_ge (tgt := 78) (dc D_cX4_goesLessComes_0 7 rfl) (by decide) rx6 (hs _ _) (fun c1 => ?_) (fun c1 => ?_)
  · have h := h.1 c1
    refine r_iload (dc D_cX4_goesLessComes_1 1 rfl) rfl ?_
    exact r_iret (dc D_cX4_goesLessComes_1 2 rfl) rfl rx5 h
  · have h := h.2 c1
    refine r_aloadn (dc D_cX4_goesLessComes_0 8 rfl) rfl rfl ?_
    refine r_iloadn (dc D_cX4_goesLessComes_0 9 rfl) rfl rfl ?_
    refine r_iloadn (dc D_cX4_goesLessComes_0 10 rfl) rfl rfl ?_
    refine r_iload (dc D_cX4_goesLessComes_0 11 rfl) rfl ?_
    refine r_iadd (dc D_cX4_goesLessComes_0 12 rfl) ?_
    obtain ⟨o2, h⟩ := h
    refine r_callV (As := [.int (iz x1), .int (iz (x2 + x6))]) (st := []) (dc D_cX4_goesLessComes_0 13 rfl) cw_RX4_47 nm_yX4_value (CX4_value hE _ _ rx1 o2 _ hs h) lC_12 rfl rfl (by decide) rfl rfl rfl (fun z3 σ4 rz3 hσ4 h => ?_)
    show RW layC E mi_X4_goesLessComes Φ 24 [some (.ref (eA E 12)), some (.int (iz x1)), some (.int (iz x2)), some (.ref (eA E 1)), some (.int (iz x4)), some (.int (iz x5)), some (.int (iz x6)), none] [.int (iz z3)] σ4 x
    refine r_istore (lv' := [some (.ref (eA E 12)), some (.int (iz x1)), some (.int (iz x2)), some (.ref (eA E 1)), some (.int (iz x4)), some (.int (iz x5)), some (.int (iz x6)), some (.int (iz z3))]) (dc D_cX4_goesLessComes_0 14 rfl) rfl rfl ?_
    refine r_iload (dc D_cX4_goesLessComes_0 15 rfl) rfl ?_
    refine r_aloadn (dc D_cX4_goesLessComes_0 16 rfl) rfl rfl ?_
    refine r_getR (dc D_cX4_goesLessComes_0 17 rfl) fw_RX4_65 lC_1 rfl ?_
    refine r_iload (dc D_cX4_goesLessComes_0 18 rfl) rfl ?_
    obtain ⟨o5, h⟩ := h
    refine r_iald (N := 30) (dc D_cX4_goesLessComes_0 19 rfl) lC_13 rfl rfl o5 ?_
    refine r_iload (dc D_cX4_goesLessComes_0 20 rfl) rfl ?_
    refine r_icmp_ne (tgt := 45) (dc D_cX4_goesLessComes_0 21 rfl) (by decide) (hσ4 _ _) rx4 (fun c6 => ?_) (fun c6 => ?_)
    · have h := h.1 c6
      refine r_iconst (n := 0) (dc D_cX4_goesLessComes_0 24 rfl) ?_
      refine r_sub (lv' := [some (.ref (eA E 12)), some (.int (iz x1)), some (.int (iz x2)), some (.ref (eA E 1)), some (.int (iz x4)), none, some (.int (iz x6)), some (.int (iz z3))]) (subL_s (subL_s (subL_s (subL_s (subL_s (subL_n (subL_s (subL_s subL_e)))))))) ?_
      exact TX4_goesLessComes_46 hE x hK6 _ _ _ _ _ _ _ rx1 rx2 rx4 rx6 rz3 rx5 (Rl rfl) _ hσ4 h
    · have h := h.2 c6
      refine r_iload (dc D_cX4_goesLessComes_0 22 rfl) rfl ?_
      refine r_goto (tgt := 46) (dc D_cX4_goesLessComes_0 23 rfl) (by decide) ?_
      refine r_sub (lv' := [some (.ref (eA E 12)), some (.int (iz x1)), some (.int (iz x2)), some (.ref (eA E 1)), some (.int (iz x4)), none, some (.int (iz x6)), some (.int (iz z3))]) (subL_s (subL_s (subL_s (subL_s (subL_s (subL_n (subL_s (subL_s subL_e)))))))) ?_
      exact TX4_goesLessComes_46 hE x hK6 _ _ _ _ _ _ _ rx1 rx2 rx4 rx6 rz3 rx5 rz3 _ hσ4 h
theorem TX4_goesLessComes_6 {E : EV} (hE : eOK layC E) {Φ : Int → PS → Prop} (x : CX) (n : Nat) : ∀ (x1 x2 x4 x5 x6 : Int) (σ : PS), Rg x1 → Rg x2 → Rg x4 → Rg x5 → Rg x6 → RS σ → LX4_goesLessComes_6 n x1 x2 x4 x5 x6 σ Φ → RW layC E mi_X4_goesLessComes Φ 6 [some (.ref (eA E 12)), some (.int (iz x1)), some (.int (iz x2)), some (.ref (eA E 1)), some (.int (iz x4)), some (.int (iz x5)), some (.int (iz x6)), none] [] σ x := by
  induction n with
  | zero => intro x1 x2 x4 x5 x6 σ _ _ _ _ _ _ h; exact h.elim
  | succ n ih => intro x1 x2 x4 x5 x6 σ rx1 rx2 rx4 rx5 rx6 hs h; exact TBX4_goesLessComes_6 hE x ih x1 x2 x4 x5 x6 rx1 rx2 rx4 rx5 rx6 σ hs h
set_option maxRecDepth 100000 in
theorem CX4_goesLessComes {E : EV} (hE : eOK layC E) {Φ : Int → PS → Prop} (a1 a2 a4 : Int) (ra1 : Rg a1) (ra2 : Rg a2) (ra4 : Rg a4) (σ : PS) (hs : RS σ) (h : FX4_goesLessComes a1 a2 a4 σ Φ) : CT layC E yX4_goesLessComes mi_X4_goesLessComes [.ref (eA E 12), .int (iz a1), .int (iz a2), .ref (eA E 1), .int (iz a4)] σ Φ := by
  refine ct_of (by decide +kernel) rfl hE rfl rfl hs (fun x => ?_)
  show RW layC E mi_X4_goesLessComes Φ 0 [some (.ref (eA E 12)), some (.int (iz a1)), some (.int (iz a2)), some (.ref (eA E 1)), some (.int (iz a4)), none, none, none] [] σ x
  refine r_iconst (n := 0) (dc D_cX4_goesLessComes_0 0 rfl) ?_
  refine r_istore (lv' := [some (.ref (eA E 12)), some (.int (iz a1)), some (.int (iz a2)), some (.ref (eA E 1)), some (.int (iz a4)), some (.int (iz 0)), none, none]) (dc D_cX4_goesLessComes_0 1 rfl) rfl rfl ?_
  refine r_iconst (n := 0) (dc D_cX4_goesLessComes_0 2 rfl) ?_
  refine r_istore (lv' := [some (.ref (eA E 12)), some (.int (iz a1)), some (.int (iz a2)), some (.ref (eA E 1)), some (.int (iz a4)), some (.int (iz 0)), some (.int (iz 0)), none]) (dc D_cX4_goesLessComes_0 3 rfl) rfl rfl ?_
  obtain ⟨n, h⟩ := h
  exact TX4_goesLessComes_6 hE x n _ _ _ _ _ _ ra1 ra2 ra4 (Rl rfl) (Rl rfl) hs h
-- end of GateFlow$Lists.goesLessComes
def mi_X4_judged : MI := (cX4_judged, RX4, 6, 5, (some .int), 1)
def LX4_judged_125 (K82 : Int → Int → Int → PS → Prop) (x1 x2 x4 : Int) (σ : PS) (Φ : Int → PS → Prop) : Prop :=
  Rg (x4 + 1) ∧
  K82 x1 x2 (x4 + 1) σ
def BX4_judged_82 (K82 : Int → Int → Int → PS → Prop) (x1 x2 x4 : Int) (σ : PS) (Φ : Int → PS → Prop) : Prop :=
  ((12 ≤ x4 →
    FX4_goesLessComes x1 x2 (σ 1 7) σ (fun z2 σ3 =>
    Rg (100000 + z2) ∧
    Φ (100000 + z2) σ3)) ∧
  (¬ 12 ≤ x4 →
    ((x4 = σ 1 7 →
      LX4_judged_125 K82 x1 x2 x4 σ Φ) ∧
    (¬ x4 = σ 1 7 →
      ((x4 = σ 1 8 →
        LX4_judged_125 K82 x1 x2 x4 σ Φ) ∧
      (¬ x4 = σ 1 8 →
        FX4_goesLessComes x1 x2 x4 σ (fun z7 σ8 =>
        ((z7 = 0 →
          LX4_judged_125 K82 x1 x2 x4 σ8 Φ) ∧
        (¬ z7 = 0 →
          Rg (100 + x4) ∧
          Φ (100 + x4) σ8)))))))))
def LX4_judged_82 : Nat → Int → Int → Int → PS → (Int → PS → Prop) → Prop
  | 0, _, _, _, _, _ => False
  | n + 1, x1, x2, x4, σ, Φ => BX4_judged_82 (fun x1 x2 x4 σ => LX4_judged_82 n x1 x2 x4 σ Φ) x1 x2 x4 σ Φ
def BX4_judged_34 (K34 : Int → Int → Int → PS → Prop) (x1 x2 x4 : Int) (σ : PS) (Φ : Int → PS → Prop) : Prop :=
  ((σ 1 6 ≤ x4 →
    ∃ n, LX4_judged_82 n x1 x2 0 σ Φ) ∧
  (¬ σ 1 6 ≤ x4 →
    Rg (x2 + x4) ∧
    FX4_value x1 (x2 + x4) σ (fun z3 σ4 =>
    ((z3 < 0 →
      Φ x4 σ4) ∧
    (¬ z3 < 0 →
      FX3_usable x4 σ4 (fun z6 σ7 =>
      ((z3 ≤ z6 →
        Rg (x4 + 1) ∧
        K34 x1 x2 (x4 + 1) σ7) ∧
      (¬ z3 ≤ z6 →
        Φ x4 σ7))))))))
def LX4_judged_34 : Nat → Int → Int → Int → PS → (Int → PS → Prop) → Prop
  | 0, _, _, _, _, _ => False
  | n + 1, x1, x2, x4, σ, Φ => BX4_judged_34 (fun x1 x2 x4 σ => LX4_judged_34 n x1 x2 x4 σ Φ) x1 x2 x4 σ Φ
def LX4_judged_31 (x1 x2 : Int) (σ : PS) (Φ : Int → PS → Prop) : Prop :=
  ∃ n, LX4_judged_34 n x1 x2 0 σ Φ
def FX4_judged (a1 a2 : Int) (σ : PS) (Φ : Int → PS → Prop) : Prop :=
  ((σ 1 6 ≤ 0 →
    LX4_judged_31 a1 a2 σ Φ) ∧
  (¬ σ 1 6 ≤ 0 →
    Rg ((min a2 40) + (σ 1 6)) ∧
    Rg (((min a2 40) + (σ 1 6)) - 1) ∧
    FX4_hasPlace a1 (((min a2 40) + (σ 1 6)) - 1) σ (fun z4 σ5 =>
    ((¬ z4 = 0 →
      LX4_judged_31 a1 a2 σ5 Φ) ∧
    (z4 = 0 →
      Φ (-5) σ5)))))
theorem fw_RX4_57 : FW RX4 57 3 8 := ⟨RX3, TX3, 9, rfl, by decide, rfl, tb_1 188 (by decide +kernel), uw_3⟩
theorem kw_RX4_64 : Cond.constant RX4 64 (iz 100000) ∈ TB := tb_1 1199 (by decide +kernel)
theorem cw_RX4_60 : CWV RX4 60 yX4_goesLessComes mi_X4_goesLessComes := tb_r [1195, 1197, 40, 108, 1198] (by decide +kernel)
theorem nm_yX4_goesLessComes : ynm yX4_goesLessComes 4 := ⟨⟨by decide +kernel, by decide +kernel⟩, by decide +kernel⟩
theorem cw_RX4_50 : CWV RX4 50 yX3_usable mi_X3_usable := tb_r [1194, 615, 616, 98, 617] (by decide +kernel)
theorem mw_RX4_41 : MW RX4 41 Lib.Math.min.name Lib.Math.min.code := tb_r [1192, 637, 111, 638] (by decide +kernel)
set_option maxRecDepth 100000 in
theorem TX4_judged_125 {E : EV} (hE : eOK layC E) {Φ : Int → PS → Prop} {K82 : Int → Int → Int → PS → Prop} (x : CX) (hK82 : ∀ (x1 x2 x4 : Int) (σ : PS), Rg x1 → Rg x2 → Rg x4 → RS σ → K82 x1 x2 x4 σ → RW layC E mi_X4_judged Φ 82 [some (.ref (eA E 12)), some (.int (iz x1)), some (.int (iz x2)), some (.ref (eA E 1)), some (.int (iz x4)), none] [] σ x) (x1 x2 x4 : Int) (rx1 : Rg x1) (rx2 : Rg x2) (rx4 : Rg x4) (σ : PS) (hs : RS σ) (h : LX4_judged_125 K82 x1 x2 x4 σ Φ) : RW layC E mi_X4_judged Φ 125 [some (.ref (eA E 12)), some (.int (iz x1)), some (.int (iz x2)), some (.ref (eA E 1)), some (.int (iz x4)), none] [] σ x := by
  obtain ⟨o1, h⟩ := h
  refine r_iinc (lv' := [some (.ref (eA E 12)), some (.int (iz x1)), some (.int (iz x2)), some (.ref (eA E 1)), some (.int (iz (x4 + 1))), none]) (dc D_cX4_judged_1 25 rfl) rfl rfl rfl ?_
  refine r_goto (tgt := 82) (dc D_cX4_judged_1 26 rfl) (by decide) ?_
  exact hK82 _ _ _ _ rx1 rx2 o1 hs h
set_option maxRecDepth 100000 in
theorem TBX4_judged_82 {E : EV} (hE : eOK layC E) {Φ : Int → PS → Prop} {K82 : Int → Int → Int → PS → Prop} (x : CX) (hK82 : ∀ (x1 x2 x4 : Int) (σ : PS), Rg x1 → Rg x2 → Rg x4 → RS σ → K82 x1 x2 x4 σ → RW layC E mi_X4_judged Φ 82 [some (.ref (eA E 12)), some (.int (iz x1)), some (.int (iz x2)), some (.ref (eA E 1)), some (.int (iz x4)), none] [] σ x) (x1 x2 x4 : Int) (rx1 : Rg x1) (rx2 : Rg x2) (rx4 : Rg x4) (σ : PS) (hs : RS σ) (h : BX4_judged_82 K82 x1 x2 x4 σ Φ) : RW layC E mi_X4_judged Φ 82 [some (.ref (eA E 12)), some (.int (iz x1)), some (.int (iz x2)), some (.ref (eA E 1)), some (.int (iz x4)), none] [] σ x := by
  refine r_iload (dc D_cX4_judged_1 3 rfl) rfl ?_
  refine r_bipush (n := 12) (dc D_cX4_judged_1 4 rfl) (by decide +kernel) ?_
  refine r_icmp_ge (tgt := 131) (dc D_cX4_judged_1 5 rfl) (by decide) rx4 (Rl rfl) (fun c1 => ?_) (fun c1 => ?_)
  · have h := h.1 c1
    refine r_ldc (n := (100000)) (dc D_cX4_judged_1 27 rfl) kw_RX4_64 ?_
    refine r_aloadn (dc D_cX4_judged_1 28 rfl) rfl rfl ?_
    refine r_iloadn (dc D_cX4_judged_1 29 rfl) rfl rfl ?_
    refine r_iloadn (dc D_cX4_judged_1 30 rfl) rfl rfl ?_
    refine r_aloadn (dc D_cX4_judged_1 31 rfl) rfl rfl ?_
    refine r_aloadn (dc D_cX4_judged_1 32 rfl) rfl rfl ?_
    refine r_getI (dc D_cX4_judged_1 33 rfl) fw_RX4_54 lC_1 rfl ?_
    refine r_callV (As := [.int (iz x1), .int (iz x2), .ref (eA E 1), .int (iz (σ 1 7))]) (st := [.int (iz 100000)]) (dc D_cX4_judged_1 34 rfl) cw_RX4_60 nm_yX4_goesLessComes (CX4_goesLessComes hE _ _ _ rx1 rx2 (hs _ _) _ hs h) lC_12 rfl rfl (by decide) rfl rfl rfl (fun z2 σ3 rz2 hσ3 h => ?_)
    show RW layC E mi_X4_judged Φ 144 [some (.ref (eA E 12)), some (.int (iz x1)), some (.int (iz x2)), some (.ref (eA E 1)), some (.int (iz x4)), none] [.int (iz z2), .int (iz 100000)] σ3 x
    refine r_iadd (dc D_cX4_judged_1 35 rfl) ?_
    obtain ⟨o4, h⟩ := h
    exact r_iret (dc D_cX4_judged_1 36 rfl) rfl o4 h
  · have h := h.2 c1
    refine r_iload (dc D_cX4_judged_1 6 rfl) rfl ?_
    refine r_aloadn (dc D_cX4_judged_1 7 rfl) rfl rfl ?_
    refine r_getI (dc D_cX4_judged_1 8 rfl) fw_RX4_54 lC_1 rfl ?_
    refine r_icmp_eq (tgt := 125) (dc D_cX4_judged_1 9 rfl) (by decide) rx4 (hs _ _) (fun c5 => ?_) (fun c5 => ?_)
    · have h := h.1 c5
      exact TX4_judged_125 hE x hK82 _ _ _ rx1 rx2 rx4 _ hs h
    · have h := h.2 c5
      refine r_iload (dc D_cX4_judged_1 10 rfl) rfl ?_
      refine r_aloadn (dc D_cX4_judged_1 11 rfl) rfl rfl ?_
      refine r_getI (dc D_cX4_judged_1 12 rfl) fw_RX4_57 lC_1 rfl ?_
      refine r_icmp_eq (tgt := 125) (dc D_cX4_judged_1 13 rfl) (by decide) rx4 (hs _ _) (fun c6 => ?_) (fun c6 => ?_)
      · have h := h.1 c6
        exact TX4_judged_125 hE x hK82 _ _ _ rx1 rx2 rx4 _ hs h
      · have h := h.2 c6
        refine r_aloadn (dc D_cX4_judged_1 14 rfl) rfl rfl ?_
        refine r_iloadn (dc D_cX4_judged_1 15 rfl) rfl rfl ?_
        refine r_iloadn (dc D_cX4_judged_1 16 rfl) rfl rfl ?_
        refine r_aloadn (dc D_cX4_judged_1 17 rfl) rfl rfl ?_
        refine r_iload (dc D_cX4_judged_1 18 rfl) rfl ?_
        refine r_callV (As := [.int (iz x1), .int (iz x2), .ref (eA E 1), .int (iz x4)]) (st := []) (dc D_cX4_judged_1 19 rfl) cw_RX4_60 nm_yX4_goesLessComes (CX4_goesLessComes hE _ _ _ rx1 rx2 rx4 _ hs h) lC_12 rfl rfl (by decide) rfl rfl rfl (fun z7 σ8 rz7 hσ8 h => ?_)
        show RW layC E mi_X4_judged Φ 116 [some (.ref (eA E 12)), some (.int (iz x1)), some (.int (iz x2)), some (.ref (eA E 1)), some (.int (iz x4)), none] [.int (iz z7)] σ8 x
        refine r_if_eq (tgt := 125) (dc D_cX4_judged_1 20 rfl) (by decide) rz7 (fun c9 => ?_) (fun c9 => ?_)
        · have h := h.1 c9
          exact TX4_judged_125 hE x hK82 _ _ _ rx1 rx2 rx4 _ hσ8 h
        · have h := h.2 c9
          refine r_bipush (n := 100) (dc D_cX4_judged_1 21 rfl) (by decide +kernel) ?_
          refine r_iload (dc D_cX4_judged_1 22 rfl) rfl ?_
          refine r_iadd (dc D_cX4_judged_1 23 rfl) ?_
          obtain ⟨o10, h⟩ := h
          exact r_iret (dc D_cX4_judged_1 24 rfl) rfl o10 h
theorem TX4_judged_82 {E : EV} (hE : eOK layC E) {Φ : Int → PS → Prop} (x : CX) (n : Nat) : ∀ (x1 x2 x4 : Int) (σ : PS), Rg x1 → Rg x2 → Rg x4 → RS σ → LX4_judged_82 n x1 x2 x4 σ Φ → RW layC E mi_X4_judged Φ 82 [some (.ref (eA E 12)), some (.int (iz x1)), some (.int (iz x2)), some (.ref (eA E 1)), some (.int (iz x4)), none] [] σ x := by
  induction n with
  | zero => intro x1 x2 x4 σ _ _ _ _ h; exact h.elim
  | succ n ih => intro x1 x2 x4 σ rx1 rx2 rx4 hs h; exact TBX4_judged_82 hE x ih x1 x2 x4 rx1 rx2 rx4 σ hs h
set_option maxRecDepth 100000 in
theorem TBX4_judged_34 {E : EV} (hE : eOK layC E) {Φ : Int → PS → Prop} {K34 : Int → Int → Int → PS → Prop} (x : CX) (hK34 : ∀ (x1 x2 x4 : Int) (σ : PS), Rg x1 → Rg x2 → Rg x4 → RS σ → K34 x1 x2 x4 σ → RW layC E mi_X4_judged Φ 34 [some (.ref (eA E 12)), some (.int (iz x1)), some (.int (iz x2)), some (.ref (eA E 1)), some (.int (iz x4)), none] [] σ x) (x1 x2 x4 : Int) (rx1 : Rg x1) (rx2 : Rg x2) (rx4 : Rg x4) (σ : PS) (hs : RS σ) (h : BX4_judged_34 K34 x1 x2 x4 σ Φ) : RW layC E mi_X4_judged Φ 34 [some (.ref (eA E 12)), some (.int (iz x1)), some (.int (iz x2)), some (.ref (eA E 1)), some (.int (iz x4)), none] [] σ x := by
  refine r_iload (dc D_cX4_judged_0 19 rfl) rfl ?_
  refine r_aloadn (dc D_cX4_judged_0 20 rfl) rfl rfl ?_
  refine r_getI (dc D_cX4_judged_0 21 rfl) fw_RX4_35 lC_1 rfl ?_
  refine r_icmp_ge (tgt := 79) (dc D_cX4_judged_0 22 rfl) (by decide) rx4 (hs _ _) (fun c1 => ?_) (fun c1 => ?_)
  · have h := h.1 c1
    refine r_iconst (n := 0) (dc D_cX4_judged_1 1 rfl) ?_
    refine r_istore (lv' := [some (.ref (eA E 12)), some (.int (iz x1)), some (.int (iz x2)), some (.ref (eA E 1)), some (.int (iz 0)), none]) (dc D_cX4_judged_1 2 rfl) rfl rfl ?_
    obtain ⟨n, h⟩ := h
    exact TX4_judged_82 hE x n _ _ _ _ rx1 rx2 (Rl rfl) hs h
  · have h := h.2 c1
    refine r_aloadn (dc D_cX4_judged_0 23 rfl) rfl rfl ?_
    refine r_iloadn (dc D_cX4_judged_0 24 rfl) rfl rfl ?_
    refine r_iloadn (dc D_cX4_judged_0 25 rfl) rfl rfl ?_
    refine r_iload (dc D_cX4_judged_0 26 rfl) rfl ?_
    refine r_iadd (dc D_cX4_judged_0 27 rfl) ?_
    obtain ⟨o2, h⟩ := h
    refine r_callV (As := [.int (iz x1), .int (iz (x2 + x4))]) (st := []) (dc D_cX4_judged_0 28 rfl) cw_RX4_47 nm_yX4_value (CX4_value hE _ _ rx1 o2 _ hs h) lC_12 rfl rfl (by decide) rfl rfl rfl (fun z3 σ4 rz3 hσ4 h => ?_)
    show RW layC E mi_X4_judged Φ 52 [some (.ref (eA E 12)), some (.int (iz x1)), some (.int (iz x2)), some (.ref (eA E 1)), some (.int (iz x4)), none] [.int (iz z3)] σ4 x
    refine r_istore (lv' := [some (.ref (eA E 12)), some (.int (iz x1)), some (.int (iz x2)), some (.ref (eA E 1)), some (.int (iz x4)), some (.int (iz z3))]) (dc D_cX4_judged_0 29 rfl) rfl rfl ?_
    refine r_iload (dc D_cX4_judged_0 30 rfl) rfl ?_
    refine r_if_lt (tgt := 70) (dc D_cX4_judged_0 31 rfl) (by decide) rz3 (fun c5 => ?_) (fun c5 => ?_)
    · have h := h.1 c5
      refine r_iload (dc D_cX4_judged_0 37 rfl) rfl ?_
      exact r_iret (dc D_cX4_judged_0 38 rfl) rfl rx4 h
    · have h := h.2 c5
      refine r_iload (dc D_cX4_judged_0 32 rfl) rfl ?_
      refine r_aloadn (dc D_cX4_judged_0 33 rfl) rfl rfl ?_
      refine r_iload (dc D_cX4_judged_0 34 rfl) rfl ?_
      refine r_callV (As := [.int (iz x4)]) (st := [.int (iz z3)]) (dc D_cX4_judged_0 35 rfl) cw_RX4_50 nm_yX3_usable (CX3_usable hE _ rx4 _ hσ4 h) lC_1 rfl rfl (by decide) rfl rfl rfl (fun z6 σ7 rz6 hσ7 h => ?_)
      show RW layC E mi_X4_judged Φ 67 [some (.ref (eA E 12)), some (.int (iz x1)), some (.int (iz x2)), some (.ref (eA E 1)), some (.int (iz x4)), some (.int (iz z3))] [.int (iz z6), .int (iz z3)] σ7 x
      refine r_icmp_le (tgt := 73) (dc D_cX4_judged_0 36 rfl) (by decide) rz3 rz6 (fun c8 => ?_) (fun c8 => ?_)
      · have h := h.1 c8
        obtain ⟨o9, h⟩ := h
        refine r_iinc (lv' := [some (.ref (eA E 12)), some (.int (iz x1)), some (.int (iz x2)), some (.ref (eA E 1)), some (.int (iz (x4 + 1))), some (.int (iz z3))]) (dc D_cX4_judged_0 39 rfl) rfl rfl rfl ?_
        refine r_goto (tgt := 34) (dc D_cX4_judged_1 0 rfl) (by decide) ?_
        refine r_sub (lv' := [some (.ref (eA E 12)), some (.int (iz x1)), some (.int (iz x2)), some (.ref (eA E 1)), some (.int (iz (x4 + 1))), none]) (subL_s (subL_s (subL_s (subL_s (subL_s (subL_n subL_e)))))) ?_
        exact hK34 _ _ _ _ rx1 rx2 o9 hσ7 h
      · have h := h.2 c8
        refine r_iload (dc D_cX4_judged_0 37 rfl) rfl ?_
        exact r_iret (dc D_cX4_judged_0 38 rfl) rfl rx4 h
theorem TX4_judged_34 {E : EV} (hE : eOK layC E) {Φ : Int → PS → Prop} (x : CX) (n : Nat) : ∀ (x1 x2 x4 : Int) (σ : PS), Rg x1 → Rg x2 → Rg x4 → RS σ → LX4_judged_34 n x1 x2 x4 σ Φ → RW layC E mi_X4_judged Φ 34 [some (.ref (eA E 12)), some (.int (iz x1)), some (.int (iz x2)), some (.ref (eA E 1)), some (.int (iz x4)), none] [] σ x := by
  induction n with
  | zero => intro x1 x2 x4 σ _ _ _ _ h; exact h.elim
  | succ n ih => intro x1 x2 x4 σ rx1 rx2 rx4 hs h; exact TBX4_judged_34 hE x ih x1 x2 x4 rx1 rx2 rx4 σ hs h
set_option maxRecDepth 100000 in
theorem TX4_judged_31 {E : EV} (hE : eOK layC E) {Φ : Int → PS → Prop} (x : CX) (x1 x2 : Int) (rx1 : Rg x1) (rx2 : Rg x2) (σ : PS) (hs : RS σ) (h : LX4_judged_31 x1 x2 σ Φ) : RW layC E mi_X4_judged Φ 31 [some (.ref (eA E 12)), some (.int (iz x1)), some (.int (iz x2)), some (.ref (eA E 1)), none, none] [] σ x := by
  refine r_iconst (n := 0) (dc D_cX4_judged_0 17 rfl) ?_
  refine r_istore (lv' := [some (.ref (eA E 12)), some (.int (iz x1)), some (.int (iz x2)), some (.ref (eA E 1)), some (.int (iz 0)), none]) (dc D_cX4_judged_0 18 rfl) rfl rfl ?_
  obtain ⟨n, h⟩ := h
  exact TX4_judged_34 hE x n _ _ _ _ rx1 rx2 (Rl rfl) hs h
set_option maxRecDepth 100000 in
theorem CX4_judged {E : EV} (hE : eOK layC E) {Φ : Int → PS → Prop} (a1 a2 : Int) (ra1 : Rg a1) (ra2 : Rg a2) (σ : PS) (hs : RS σ) (h : FX4_judged a1 a2 σ Φ) : CT layC E yX4_judged mi_X4_judged [.ref (eA E 12), .int (iz a1), .int (iz a2), .ref (eA E 1)] σ Φ := by
  refine ct_of (by decide +kernel) rfl hE rfl rfl hs (fun x => ?_)
  show RW layC E mi_X4_judged Φ 0 [some (.ref (eA E 12)), some (.int (iz a1)), some (.int (iz a2)), some (.ref (eA E 1)), none, none] [] σ x
  refine r_aloadn (dc D_cX4_judged_0 0 rfl) rfl rfl ?_
  refine r_getI (dc D_cX4_judged_0 1 rfl) fw_RX4_35 lC_1 rfl ?_
  refine r_if_le (tgt := 31) (dc D_cX4_judged_0 2 rfl) (by decide) (hs _ _) (fun c1 => ?_) (fun c1 => ?_)
  · have h := h.1 c1
    exact TX4_judged_31 hE x _ _ ra1 ra2 _ hs h
  · have h := h.2 c1
    refine r_aloadn (dc D_cX4_judged_0 3 rfl) rfl rfl ?_
    refine r_iloadn (dc D_cX4_judged_0 4 rfl) rfl rfl ?_
    refine r_iloadn (dc D_cX4_judged_0 5 rfl) rfl rfl ?_
    refine r_bipush (n := 40) (dc D_cX4_judged_0 6 rfl) (by decide +kernel) ?_
    refine r_min (dc D_cX4_judged_0 7 rfl) mw_RX4_41 ra2 (Rl rfl) (by decide) rfl ?_
    refine r_aloadn (dc D_cX4_judged_0 8 rfl) rfl rfl ?_
    refine r_getI (dc D_cX4_judged_0 9 rfl) fw_RX4_35 lC_1 rfl ?_
    refine r_iadd (dc D_cX4_judged_0 10 rfl) ?_
    obtain ⟨o2, h⟩ := h
    refine r_iconst (n := 1) (dc D_cX4_judged_0 11 rfl) ?_
    refine r_isub (dc D_cX4_judged_0 12 rfl) ?_
    obtain ⟨o3, h⟩ := h
    refine r_callV (As := [.int (iz a1), .int (iz (((min a2 40) + (σ 1 6)) - 1))]) (st := []) (dc D_cX4_judged_0 13 rfl) cw_RX4_31 nm_yX4_hasPlace (CX4_hasPlace hE _ _ ra1 o3 _ hs h) lC_12 rfl rfl (by decide) rfl rfl rfl (fun z4 σ5 rz4 hσ5 h => ?_)
    show RW layC E mi_X4_judged Φ 25 [some (.ref (eA E 12)), some (.int (iz a1)), some (.int (iz a2)), some (.ref (eA E 1)), none, none] [.int (iz z4)] σ5 x
    refine r_if_ne (tgt := 31) (dc D_cX4_judged_0 14 rfl) (by decide) rz4 (fun c6 => ?_) (fun c6 => ?_)
    · have h := h.1 c6
      exact TX4_judged_31 hE x _ _ ra1 ra2 _ hσ5 h
    · have h := h.2 c6
      refine r_bipush (n := (-5)) (dc D_cX4_judged_0 15 rfl) (by decide +kernel) ?_
      exact r_iret (dc D_cX4_judged_0 16 rfl) rfl (Rl rfl) h
-- end of GateFlow$Lists.judged
def mi_X11_judge : MI := (cX11_judge, RX11, 3, 6, (some .int), 1)
def FX11_judge (a1 a2 : Int) (σ : PS) (Φ : Int → PS → Prop) : Prop :=
  FX11_isList a1 σ (fun z1 σ2 =>
  ((¬ z1 = 0 →
    FX4_holds a1 σ2 (fun z4 σ5 =>
    ((¬ z4 = 0 →
      ((0 ≤ a2 →
        FX4_judged a1 a2 σ5 (fun z8 σ9 =>
        Φ z8 σ9)) ∧
      (¬ 0 ≤ a2 →
        Φ (-13) σ5))) ∧
    (z4 = 0 →
      Φ (-11) σ5)))) ∧
  (z1 = 0 →
    Φ (-1) σ2)))
theorem cw_RX11_319 : CWV RX11 319 yX4_judged mi_X4_judged := tb_r [1188, 1189, 1190, 108, 1191] (by decide +kernel)
theorem nm_yX4_judged : ynm yX4_judged 3 := ⟨⟨by decide +kernel, by decide +kernel⟩, by decide +kernel⟩
set_option maxRecDepth 100000 in
theorem CX11_judge {E : EV} (hE : eOK layC E) {Φ : Int → PS → Prop} (a1 a2 : Int) (ra1 : Rg a1) (ra2 : Rg a2) (σ : PS) (hs : RS σ) (h : FX11_judge a1 a2 σ Φ) : CT layC E yX11_judge mi_X11_judge [.ref (eA E 0), .int (iz a1), .int (iz a2)] σ Φ := by
  refine ct_of (by decide +kernel) rfl hE rfl rfl hs (fun x => ?_)
  show RW layC E mi_X11_judge Φ 0 [some (.ref (eA E 0)), some (.int (iz a1)), some (.int (iz a2))] [] σ x
  refine r_iloadn (dc D_cX11_judge_0 0 rfl) rfl rfl ?_
  refine r_callS (As := [.int (iz a1)]) (st := []) (dc D_cX11_judge_0 1 rfl) cw_RX11_299 nm_yX11_isList (CX11_isList hE _ ra1 _ hs h) rfl (by decide) rfl rfl rfl (fun z1 σ2 rz1 hσ2 h => ?_)
  show RW layC E mi_X11_judge Φ 4 [some (.ref (eA E 0)), some (.int (iz a1)), some (.int (iz a2))] [.int (iz z1)] σ2 x
  refine r_if_ne (tgt := 9) (dc D_cX11_judge_0 2 rfl) (by decide) rz1 (fun c3 => ?_) (fun c3 => ?_)
  · have h := h.1 c3
    refine r_aloadn (dc D_cX11_judge_0 5 rfl) rfl rfl ?_
    refine r_getR (dc D_cX11_judge_0 6 rfl) fw_RX11_78 lC_0 rfl ?_
    refine r_iloadn (dc D_cX11_judge_0 7 rfl) rfl rfl ?_
    refine r_callV (As := [.int (iz a1)]) (st := []) (dc D_cX11_judge_0 8 rfl) cw_RX11_306 nm_yX4_holds (CX4_holds hE _ ra1 _ hσ2 h) lC_12 rfl rfl (by decide) rfl rfl rfl (fun z4 σ5 rz4 hσ5 h => ?_)
    show RW layC E mi_X11_judge Φ 17 [some (.ref (eA E 0)), some (.int (iz a1)), some (.int (iz a2))] [.int (iz z4)] σ5 x
    refine r_if_ne (tgt := 23) (dc D_cX11_judge_0 9 rfl) (by decide) rz4 (fun c6 => ?_) (fun c6 => ?_)
    · have h := h.1 c6
      refine r_iloadn (dc D_cX11_judge_0 12 rfl) rfl rfl ?_
      refine r_if_ge (tgt := 32) (dc D_cX11_judge_0 13 rfl) (by decide) ra2 (fun c7 => ?_) (fun c7 => ?_)
      · have h := h.1 c7
        refine r_aloadn (dc D_cX11_judge_0 16 rfl) rfl rfl ?_
        refine r_getR (dc D_cX11_judge_0 17 rfl) fw_RX11_78 lC_0 rfl ?_
        refine r_iloadn (dc D_cX11_judge_0 18 rfl) rfl rfl ?_
        refine r_iloadn (dc D_cX11_judge_0 19 rfl) rfl rfl ?_
        refine r_aloadn (dc D_cX11_judge_0 20 rfl) rfl rfl ?_
        refine r_getR (dc D_cX11_judge_0 21 rfl) fw_RX11_12 lC_0 rfl ?_
        refine r_callV (As := [.int (iz a1), .int (iz a2), .ref (eA E 1)]) (st := []) (dc D_cX11_judge_0 22 rfl) cw_RX11_319 nm_yX4_judged (CX4_judged hE _ _ ra1 ra2 _ hσ5 h) lC_12 rfl rfl (by decide) rfl rfl rfl (fun z8 σ9 rz8 hσ9 h => ?_)
        show RW layC E mi_X11_judge Φ 45 [some (.ref (eA E 0)), some (.int (iz a1)), some (.int (iz a2))] [.int (iz z8)] σ9 x
        exact r_iret (dc D_cX11_judge_0 23 rfl) rfl rz8 h
      · have h := h.2 c7
        refine r_bipush (n := (-13)) (dc D_cX11_judge_0 14 rfl) (by decide +kernel) ?_
        refine r_goto (tgt := 45) (dc D_cX11_judge_0 15 rfl) (by decide) ?_
        exact r_iret (dc D_cX11_judge_0 23 rfl) rfl (Rl rfl) h
    · have h := h.2 c6
      refine r_bipush (n := (-11)) (dc D_cX11_judge_0 10 rfl) (by decide +kernel) ?_
      exact r_iret (dc D_cX11_judge_0 11 rfl) rfl (Rl rfl) h
  · have h := h.2 c3
    refine r_iconst (n := (-1)) (dc D_cX11_judge_0 3 rfl) ?_
    exact r_iret (dc D_cX11_judge_0 4 rfl) rfl (Rl rfl) h
-- end of GateFlow.judge
def mi_X3_copyFrom : MI := (cX3_copyFrom, RX3, 2, 4, none, 0)
def FX3_copyFrom (σ : PS) (Φ : Int → PS → Prop) : Prop :=
  ∀ σ1 : PS, σ1 = cp2 σ 13 19 0 0 30 →
  ∀ σ2 : PS, σ2 = cp2 σ1 14 20 0 0 30 →
  ∀ σ3 : PS, σ3 = cp2 σ2 15 21 0 0 30 →
  ∀ σ4 : PS, σ4 = cp2 σ3 16 22 0 0 30 →
  ∀ σ5 : PS, σ5 = cp2 σ4 17 23 0 0 30 →
  ∀ σ6 : PS, σ6 = cp2 σ5 18 24 0 0 30 →
  ∀ σ7 : PS, σ7 = up2 σ6 2 6 (σ6 1 6) →
  ∀ σ8 : PS, σ8 = up2 σ7 2 7 (σ7 1 7) →
  ∀ σ9 : PS, σ9 = up2 σ8 2 8 (σ8 1 8) →
  Φ 0 σ9
theorem fw_RX11_16 : FW RX11 16 11 1 := ⟨RX11, TX11, 16, rfl, by decide, rfl, tb_1 498 (by decide +kernel), uw_11⟩
theorem fw_RX3_43 : FW RX3 43 3 7 := ⟨RX3, TX3, 9, rfl, by decide, rfl, tb_1 181 (by decide +kernel), uw_3⟩
theorem fw_RX3_30 : FW RX3 30 3 8 := ⟨RX3, TX3, 9, rfl, by decide, rfl, tb_1 184 (by decide +kernel), uw_3⟩
theorem aw_RX3_37 : AW RX3 37 := tb_r [1208, 786, 785, 112] (by decide +kernel)
set_option maxRecDepth 100000 in
theorem CX3_copyFrom {E : EV} (hE : eOK layC E) {Φ : Int → PS → Prop} (σ : PS) (hs : RS σ) (h : FX3_copyFrom σ Φ) : CT layC E yX3_copyFrom mi_X3_copyFrom [.ref (eA E 2), .ref (eA E 1)] σ Φ := by
  refine ct_of (by decide +kernel) rfl hE rfl rfl hs (fun x => ?_)
  show RW layC E mi_X3_copyFrom Φ 0 [some (.ref (eA E 2)), some (.ref (eA E 1))] [] σ x
  refine r_aloadn (dc D_cX3_copyFrom_0 0 rfl) rfl rfl ?_
  refine r_getR (dc D_cX3_copyFrom_0 1 rfl) fw_RX3_9 lC_1 rfl ?_
  refine r_iconst (n := 0) (dc D_cX3_copyFrom_0 2 rfl) ?_
  refine r_aloadn (dc D_cX3_copyFrom_0 3 rfl) rfl rfl ?_
  refine r_getR (dc D_cX3_copyFrom_0 4 rfl) fw_RX3_9 lC_2 rfl ?_
  refine r_iconst (n := 0) (dc D_cX3_copyFrom_0 5 rfl) ?_
  refine r_bipush (n := 30) (dc D_cX3_copyFrom_0 6 rfl) (by decide +kernel) ?_
  refine r_acopy (Nj := 30) (Nk := 30) (dc D_cX3_copyFrom_0 7 rfl) aw_RX3_37 lC_13 lC_19 rfl rfl rfl rfl (by decide) (by decide) (by decide +kernel) rfl ?_
  refine r_sig (fun σ1 eσ1 => ?_)
  have h := h σ1 eσ1
  have hσ1 : RS σ1 := RS_eq eσ1 (RS.cp hs)
  refine r_aloadn (dc D_cX3_copyFrom_0 8 rfl) rfl rfl ?_
  refine r_getR (dc D_cX3_copyFrom_0 9 rfl) fw_RX3_15 lC_1 rfl ?_
  refine r_iconst (n := 0) (dc D_cX3_copyFrom_0 10 rfl) ?_
  refine r_aloadn (dc D_cX3_copyFrom_0 11 rfl) rfl rfl ?_
  refine r_getR (dc D_cX3_copyFrom_0 12 rfl) fw_RX3_15 lC_2 rfl ?_
  refine r_iconst (n := 0) (dc D_cX3_copyFrom_0 13 rfl) ?_
  refine r_bipush (n := 30) (dc D_cX3_copyFrom_0 14 rfl) (by decide +kernel) ?_
  refine r_acopy (Nj := 30) (Nk := 30) (dc D_cX3_copyFrom_0 15 rfl) aw_RX3_37 lC_14 lC_20 rfl rfl rfl rfl (by decide) (by decide) (by decide +kernel) rfl ?_
  refine r_sig (fun σ2 eσ2 => ?_)
  have h := h σ2 eσ2
  have hσ2 : RS σ2 := RS_eq eσ2 (RS.cp hσ1)
  refine r_aloadn (dc D_cX3_copyFrom_0 16 rfl) rfl rfl ?_
  refine r_getR (dc D_cX3_copyFrom_0 17 rfl) fw_RX3_18 lC_1 rfl ?_
  refine r_iconst (n := 0) (dc D_cX3_copyFrom_0 18 rfl) ?_
  refine r_aloadn (dc D_cX3_copyFrom_0 19 rfl) rfl rfl ?_
  refine r_getR (dc D_cX3_copyFrom_0 20 rfl) fw_RX3_18 lC_2 rfl ?_
  refine r_iconst (n := 0) (dc D_cX3_copyFrom_0 21 rfl) ?_
  refine r_bipush (n := 30) (dc D_cX3_copyFrom_0 22 rfl) (by decide +kernel) ?_
  refine r_acopy (Nj := 30) (Nk := 30) (dc D_cX3_copyFrom_0 23 rfl) aw_RX3_37 lC_15 lC_21 rfl rfl rfl rfl (by decide) (by decide) (by decide +kernel) rfl ?_
  refine r_sig (fun σ3 eσ3 => ?_)
  have h := h σ3 eσ3
  have hσ3 : RS σ3 := RS_eq eσ3 (RS.cp hσ2)
  refine r_aloadn (dc D_cX3_copyFrom_0 24 rfl) rfl rfl ?_
  refine r_getR (dc D_cX3_copyFrom_0 25 rfl) fw_RX3_21 lC_1 rfl ?_
  refine r_iconst (n := 0) (dc D_cX3_copyFrom_0 26 rfl) ?_
  refine r_aloadn (dc D_cX3_copyFrom_0 27 rfl) rfl rfl ?_
  refine r_getR (dc D_cX3_copyFrom_0 28 rfl) fw_RX3_21 lC_2 rfl ?_
  refine r_iconst (n := 0) (dc D_cX3_copyFrom_0 29 rfl) ?_
  refine r_bipush (n := 30) (dc D_cX3_copyFrom_0 30 rfl) (by decide +kernel) ?_
  refine r_acopy (Nj := 30) (Nk := 30) (dc D_cX3_copyFrom_0 31 rfl) aw_RX3_37 lC_16 lC_22 rfl rfl rfl rfl (by decide) (by decide) (by decide +kernel) rfl ?_
  refine r_sig (fun σ4 eσ4 => ?_)
  have h := h σ4 eσ4
  have hσ4 : RS σ4 := RS_eq eσ4 (RS.cp hσ3)
  refine r_aloadn (dc D_cX3_copyFrom_0 32 rfl) rfl rfl ?_
  refine r_getR (dc D_cX3_copyFrom_0 33 rfl) fw_RX3_24 lC_1 rfl ?_
  refine r_iconst (n := 0) (dc D_cX3_copyFrom_0 34 rfl) ?_
  refine r_aloadn (dc D_cX3_copyFrom_0 35 rfl) rfl rfl ?_
  refine r_getR (dc D_cX3_copyFrom_0 36 rfl) fw_RX3_24 lC_2 rfl ?_
  refine r_iconst (n := 0) (dc D_cX3_copyFrom_0 37 rfl) ?_
  refine r_bipush (n := 30) (dc D_cX3_copyFrom_0 38 rfl) (by decide +kernel) ?_
  refine r_acopy (Nj := 30) (Nk := 30) (dc D_cX3_copyFrom_0 39 rfl) aw_RX3_37 lC_17 lC_23 rfl rfl rfl rfl (by decide) (by decide) (by decide +kernel) rfl ?_
  refine r_sig (fun σ5 eσ5 => ?_)
  have h := h σ5 eσ5
  have hσ5 : RS σ5 := RS_eq eσ5 (RS.cp hσ4)
  refine r_aloadn (dc D_cX3_copyFrom_1 0 rfl) rfl rfl ?_
  refine r_getR (dc D_cX3_copyFrom_1 1 rfl) fw_RX3_27 lC_1 rfl ?_
  refine r_iconst (n := 0) (dc D_cX3_copyFrom_1 2 rfl) ?_
  refine r_aloadn (dc D_cX3_copyFrom_1 3 rfl) rfl rfl ?_
  refine r_getR (dc D_cX3_copyFrom_1 4 rfl) fw_RX3_27 lC_2 rfl ?_
  refine r_iconst (n := 0) (dc D_cX3_copyFrom_1 5 rfl) ?_
  refine r_bipush (n := 30) (dc D_cX3_copyFrom_1 6 rfl) (by decide +kernel) ?_
  refine r_acopy (Nj := 30) (Nk := 30) (dc D_cX3_copyFrom_1 7 rfl) aw_RX3_37 lC_18 lC_24 rfl rfl rfl rfl (by decide) (by decide) (by decide +kernel) rfl ?_
  refine r_sig (fun σ6 eσ6 => ?_)
  have h := h σ6 eσ6
  have hσ6 : RS σ6 := RS_eq eσ6 (RS.cp hσ5)
  refine r_aloadn (dc D_cX3_copyFrom_1 8 rfl) rfl rfl ?_
  refine r_aloadn (dc D_cX3_copyFrom_1 9 rfl) rfl rfl ?_
  refine r_getI (dc D_cX3_copyFrom_1 10 rfl) fw_RX3_34 lC_1 rfl ?_
  refine r_put (dc D_cX3_copyFrom_1 11 rfl) fw_RX3_34 fp_3_6 lC_2 rfl (nar_int _) (hσ6 _ _) ?_
  refine r_sig (fun σ7 eσ7 => ?_)
  have h := h σ7 eσ7
  have hσ7 : RS σ7 := RS_eq eσ7 (RS.up hσ6 (hσ6 _ _) _ _)
  refine r_aloadn (dc D_cX3_copyFrom_1 12 rfl) rfl rfl ?_
  refine r_aloadn (dc D_cX3_copyFrom_1 13 rfl) rfl rfl ?_
  refine r_getI (dc D_cX3_copyFrom_1 14 rfl) fw_RX3_43 lC_1 rfl ?_
  refine r_put (dc D_cX3_copyFrom_1 15 rfl) fw_RX3_43 fp_3_7 lC_2 rfl (nar_int _) (hσ7 _ _) ?_
  refine r_sig (fun σ8 eσ8 => ?_)
  have h := h σ8 eσ8
  have hσ8 : RS σ8 := RS_eq eσ8 (RS.up hσ7 (hσ7 _ _) _ _)
  refine r_aloadn (dc D_cX3_copyFrom_1 16 rfl) rfl rfl ?_
  refine r_aloadn (dc D_cX3_copyFrom_1 17 rfl) rfl rfl ?_
  refine r_getI (dc D_cX3_copyFrom_1 18 rfl) fw_RX3_30 lC_1 rfl ?_
  refine r_put (dc D_cX3_copyFrom_1 19 rfl) fw_RX3_30 fp_3_8 lC_2 rfl (nar_int _) (hσ8 _ _) ?_
  refine r_sig (fun σ9 eσ9 => ?_)
  have h := h σ9 eσ9
  have hσ9 : RS σ9 := RS_eq eσ9 (RS.up hσ8 (hσ8 _ _) _ _)
  exact r_vret (dc D_cX3_copyFrom_1 20 rfl) rfl h
-- end of GateFlow$Gates.copyFrom
def mi_X11_image : MI := (cX11_image, RX11, 1, 5, (some .int), 1)
def FX11_image (σ : PS) (Φ : Int → PS → Prop) : Prop :=
  FX3_copyFrom σ (fun z1 σ2 =>
  ∀ σ3 : PS, σ3 = up2 σ2 0 2 1 →
  Φ (σ3 1 6) σ3)
theorem cw_RX11_323 : CWV RX11 323 yX3_copyFrom mi_X3_copyFrom := tb_r [1204, 1205, 1206, 98, 1207] (by decide +kernel)
theorem nm_yX3_copyFrom : ynm yX3_copyFrom 1 := ⟨⟨by decide +kernel, by decide +kernel⟩, by decide +kernel⟩
theorem fw_RX11_326 : FW RX11 326 11 2 := ⟨RX11, TX11, 16, rfl, by decide, rfl, tb_1 499 (by decide +kernel), uw_11⟩
theorem fp_11_2 : FP 11 2 .boolean := ⟨RX11, TX11, 16, tyX11, rfl, tyX11_ok, nmX11, rfl, by decide +kernel⟩
set_option maxRecDepth 100000 in
theorem CX11_image {E : EV} (hE : eOK layC E) {Φ : Int → PS → Prop} (σ : PS) (hs : RS σ) (h : FX11_image σ Φ) : CT layC E yX11_image mi_X11_image [.ref (eA E 0)] σ Φ := by
  refine ct_of (by decide +kernel) rfl hE rfl rfl hs (fun x => ?_)
  show RW layC E mi_X11_image Φ 0 [some (.ref (eA E 0))] [] σ x
  refine r_aloadn (dc D_cX11_image_0 0 rfl) rfl rfl ?_
  refine r_getR (dc D_cX11_image_0 1 rfl) fw_RX11_16 lC_0 rfl ?_
  refine r_aloadn (dc D_cX11_image_0 2 rfl) rfl rfl ?_
  refine r_getR (dc D_cX11_image_0 3 rfl) fw_RX11_12 lC_0 rfl ?_
  refine r_callV (As := [.ref (eA E 1)]) (st := []) (dc D_cX11_image_0 4 rfl) cw_RX11_323 nm_yX3_copyFrom (CX3_copyFrom hE  _ hs h) lC_2 rfl rfl (by decide) rfl rfl rfl (fun z1 σ2 rz1 hσ2 h => ?_)
  show RW layC E mi_X11_image Φ 11 [some (.ref (eA E 0))] [] σ2 x
  refine r_aloadn (dc D_cX11_image_0 5 rfl) rfl rfl ?_
  refine r_iconst (n := 1) (dc D_cX11_image_0 6 rfl) ?_
  refine r_put (dc D_cX11_image_0 7 rfl) fw_RX11_326 fp_11_2 lC_0 rfl (nar_bool (by decide)) (Rl rfl) ?_
  refine r_sig (fun σ3 eσ3 => ?_)
  have h := h σ3 eσ3
  have hσ3 : RS σ3 := RS_eq eσ3 (RS.up hσ2 (Rl rfl) _ _)
  refine r_aloadn (dc D_cX11_image_0 8 rfl) rfl rfl ?_
  refine r_getR (dc D_cX11_image_0 9 rfl) fw_RX11_12 lC_0 rfl ?_
  refine r_getI (dc D_cX11_image_0 10 rfl) fw_RX11_92 lC_1 rfl ?_
  exact r_iret (dc D_cX11_image_0 11 rfl) rfl (hσ3 _ _) h
-- end of GateFlow.image
def mi_X3_copyFrom_v2 : MI := (cX3_copyFrom, RX3, 2, 4, none, 0)
def FX3_copyFrom_v2 (σ : PS) (Φ : Int → PS → Prop) : Prop :=
  ∀ σ1 : PS, σ1 = cp2 σ 19 13 0 0 30 →
  ∀ σ2 : PS, σ2 = cp2 σ1 20 14 0 0 30 →
  ∀ σ3 : PS, σ3 = cp2 σ2 21 15 0 0 30 →
  ∀ σ4 : PS, σ4 = cp2 σ3 22 16 0 0 30 →
  ∀ σ5 : PS, σ5 = cp2 σ4 23 17 0 0 30 →
  ∀ σ6 : PS, σ6 = cp2 σ5 24 18 0 0 30 →
  ∀ σ7 : PS, σ7 = up2 σ6 1 6 (σ6 2 6) →
  ∀ σ8 : PS, σ8 = up2 σ7 1 7 (σ7 2 7) →
  ∀ σ9 : PS, σ9 = up2 σ8 1 8 (σ8 2 8) →
  Φ 0 σ9
set_option maxRecDepth 100000 in
theorem CX3_copyFrom_v2 {E : EV} (hE : eOK layC E) {Φ : Int → PS → Prop} (σ : PS) (hs : RS σ) (h : FX3_copyFrom_v2 σ Φ) : CT layC E yX3_copyFrom mi_X3_copyFrom_v2 [.ref (eA E 1), .ref (eA E 2)] σ Φ := by
  refine ct_of (by decide +kernel) rfl hE rfl rfl hs (fun x => ?_)
  show RW layC E mi_X3_copyFrom_v2 Φ 0 [some (.ref (eA E 1)), some (.ref (eA E 2))] [] σ x
  refine r_aloadn (dc D_cX3_copyFrom_0 0 rfl) rfl rfl ?_
  refine r_getR (dc D_cX3_copyFrom_0 1 rfl) fw_RX3_9 lC_2 rfl ?_
  refine r_iconst (n := 0) (dc D_cX3_copyFrom_0 2 rfl) ?_
  refine r_aloadn (dc D_cX3_copyFrom_0 3 rfl) rfl rfl ?_
  refine r_getR (dc D_cX3_copyFrom_0 4 rfl) fw_RX3_9 lC_1 rfl ?_
  refine r_iconst (n := 0) (dc D_cX3_copyFrom_0 5 rfl) ?_
  refine r_bipush (n := 30) (dc D_cX3_copyFrom_0 6 rfl) (by decide +kernel) ?_
  refine r_acopy (Nj := 30) (Nk := 30) (dc D_cX3_copyFrom_0 7 rfl) aw_RX3_37 lC_19 lC_13 rfl rfl rfl rfl (by decide) (by decide) (by decide +kernel) rfl ?_
  refine r_sig (fun σ1 eσ1 => ?_)
  have h := h σ1 eσ1
  have hσ1 : RS σ1 := RS_eq eσ1 (RS.cp hs)
  refine r_aloadn (dc D_cX3_copyFrom_0 8 rfl) rfl rfl ?_
  refine r_getR (dc D_cX3_copyFrom_0 9 rfl) fw_RX3_15 lC_2 rfl ?_
  refine r_iconst (n := 0) (dc D_cX3_copyFrom_0 10 rfl) ?_
  refine r_aloadn (dc D_cX3_copyFrom_0 11 rfl) rfl rfl ?_
  refine r_getR (dc D_cX3_copyFrom_0 12 rfl) fw_RX3_15 lC_1 rfl ?_
  refine r_iconst (n := 0) (dc D_cX3_copyFrom_0 13 rfl) ?_
  refine r_bipush (n := 30) (dc D_cX3_copyFrom_0 14 rfl) (by decide +kernel) ?_
  refine r_acopy (Nj := 30) (Nk := 30) (dc D_cX3_copyFrom_0 15 rfl) aw_RX3_37 lC_20 lC_14 rfl rfl rfl rfl (by decide) (by decide) (by decide +kernel) rfl ?_
  refine r_sig (fun σ2 eσ2 => ?_)
  have h := h σ2 eσ2
  have hσ2 : RS σ2 := RS_eq eσ2 (RS.cp hσ1)
  refine r_aloadn (dc D_cX3_copyFrom_0 16 rfl) rfl rfl ?_
  refine r_getR (dc D_cX3_copyFrom_0 17 rfl) fw_RX3_18 lC_2 rfl ?_
  refine r_iconst (n := 0) (dc D_cX3_copyFrom_0 18 rfl) ?_
  refine r_aloadn (dc D_cX3_copyFrom_0 19 rfl) rfl rfl ?_
  refine r_getR (dc D_cX3_copyFrom_0 20 rfl) fw_RX3_18 lC_1 rfl ?_
  refine r_iconst (n := 0) (dc D_cX3_copyFrom_0 21 rfl) ?_
  refine r_bipush (n := 30) (dc D_cX3_copyFrom_0 22 rfl) (by decide +kernel) ?_
  refine r_acopy (Nj := 30) (Nk := 30) (dc D_cX3_copyFrom_0 23 rfl) aw_RX3_37 lC_21 lC_15 rfl rfl rfl rfl (by decide) (by decide) (by decide +kernel) rfl ?_
  refine r_sig (fun σ3 eσ3 => ?_)
  have h := h σ3 eσ3
  have hσ3 : RS σ3 := RS_eq eσ3 (RS.cp hσ2)
  refine r_aloadn (dc D_cX3_copyFrom_0 24 rfl) rfl rfl ?_
  refine r_getR (dc D_cX3_copyFrom_0 25 rfl) fw_RX3_21 lC_2 rfl ?_
  refine r_iconst (n := 0) (dc D_cX3_copyFrom_0 26 rfl) ?_
  refine r_aloadn (dc D_cX3_copyFrom_0 27 rfl) rfl rfl ?_
  refine r_getR (dc D_cX3_copyFrom_0 28 rfl) fw_RX3_21 lC_1 rfl ?_
  refine r_iconst (n := 0) (dc D_cX3_copyFrom_0 29 rfl) ?_
  refine r_bipush (n := 30) (dc D_cX3_copyFrom_0 30 rfl) (by decide +kernel) ?_
  refine r_acopy (Nj := 30) (Nk := 30) (dc D_cX3_copyFrom_0 31 rfl) aw_RX3_37 lC_22 lC_16 rfl rfl rfl rfl (by decide) (by decide) (by decide +kernel) rfl ?_
  refine r_sig (fun σ4 eσ4 => ?_)
  have h := h σ4 eσ4
  have hσ4 : RS σ4 := RS_eq eσ4 (RS.cp hσ3)
  refine r_aloadn (dc D_cX3_copyFrom_0 32 rfl) rfl rfl ?_
  refine r_getR (dc D_cX3_copyFrom_0 33 rfl) fw_RX3_24 lC_2 rfl ?_
  refine r_iconst (n := 0) (dc D_cX3_copyFrom_0 34 rfl) ?_
  refine r_aloadn (dc D_cX3_copyFrom_0 35 rfl) rfl rfl ?_
  refine r_getR (dc D_cX3_copyFrom_0 36 rfl) fw_RX3_24 lC_1 rfl ?_
  refine r_iconst (n := 0) (dc D_cX3_copyFrom_0 37 rfl) ?_
  refine r_bipush (n := 30) (dc D_cX3_copyFrom_0 38 rfl) (by decide +kernel) ?_
  refine r_acopy (Nj := 30) (Nk := 30) (dc D_cX3_copyFrom_0 39 rfl) aw_RX3_37 lC_23 lC_17 rfl rfl rfl rfl (by decide) (by decide) (by decide +kernel) rfl ?_
  refine r_sig (fun σ5 eσ5 => ?_)
  have h := h σ5 eσ5
  have hσ5 : RS σ5 := RS_eq eσ5 (RS.cp hσ4)
  refine r_aloadn (dc D_cX3_copyFrom_1 0 rfl) rfl rfl ?_
  refine r_getR (dc D_cX3_copyFrom_1 1 rfl) fw_RX3_27 lC_2 rfl ?_
  refine r_iconst (n := 0) (dc D_cX3_copyFrom_1 2 rfl) ?_
  refine r_aloadn (dc D_cX3_copyFrom_1 3 rfl) rfl rfl ?_
  refine r_getR (dc D_cX3_copyFrom_1 4 rfl) fw_RX3_27 lC_1 rfl ?_
  refine r_iconst (n := 0) (dc D_cX3_copyFrom_1 5 rfl) ?_
  refine r_bipush (n := 30) (dc D_cX3_copyFrom_1 6 rfl) (by decide +kernel) ?_
  refine r_acopy (Nj := 30) (Nk := 30) (dc D_cX3_copyFrom_1 7 rfl) aw_RX3_37 lC_24 lC_18 rfl rfl rfl rfl (by decide) (by decide) (by decide +kernel) rfl ?_
  refine r_sig (fun σ6 eσ6 => ?_)
  have h := h σ6 eσ6
  have hσ6 : RS σ6 := RS_eq eσ6 (RS.cp hσ5)
  refine r_aloadn (dc D_cX3_copyFrom_1 8 rfl) rfl rfl ?_
  refine r_aloadn (dc D_cX3_copyFrom_1 9 rfl) rfl rfl ?_
  refine r_getI (dc D_cX3_copyFrom_1 10 rfl) fw_RX3_34 lC_2 rfl ?_
  refine r_put (dc D_cX3_copyFrom_1 11 rfl) fw_RX3_34 fp_3_6 lC_1 rfl (nar_int _) (hσ6 _ _) ?_
  refine r_sig (fun σ7 eσ7 => ?_)
  have h := h σ7 eσ7
  have hσ7 : RS σ7 := RS_eq eσ7 (RS.up hσ6 (hσ6 _ _) _ _)
  refine r_aloadn (dc D_cX3_copyFrom_1 12 rfl) rfl rfl ?_
  refine r_aloadn (dc D_cX3_copyFrom_1 13 rfl) rfl rfl ?_
  refine r_getI (dc D_cX3_copyFrom_1 14 rfl) fw_RX3_43 lC_2 rfl ?_
  refine r_put (dc D_cX3_copyFrom_1 15 rfl) fw_RX3_43 fp_3_7 lC_1 rfl (nar_int _) (hσ7 _ _) ?_
  refine r_sig (fun σ8 eσ8 => ?_)
  have h := h σ8 eσ8
  have hσ8 : RS σ8 := RS_eq eσ8 (RS.up hσ7 (hσ7 _ _) _ _)
  refine r_aloadn (dc D_cX3_copyFrom_1 16 rfl) rfl rfl ?_
  refine r_aloadn (dc D_cX3_copyFrom_1 17 rfl) rfl rfl ?_
  refine r_getI (dc D_cX3_copyFrom_1 18 rfl) fw_RX3_30 lC_2 rfl ?_
  refine r_put (dc D_cX3_copyFrom_1 19 rfl) fw_RX3_30 fp_3_8 lC_1 rfl (nar_int _) (hσ8 _ _) ?_
  refine r_sig (fun σ9 eσ9 => ?_)
  have h := h σ9 eσ9
  have hσ9 : RS σ9 := RS_eq eσ9 (RS.up hσ8 (hσ8 _ _) _ _)
  exact r_vret (dc D_cX3_copyFrom_1 20 rfl) rfl h
-- end of GateFlow$Gates.copyFrom
def mi_X11_undo : MI := (cX11_undo, RX11, 1, 5, (some .int), 1)
def FX11_undo (σ : PS) (Φ : Int → PS → Prop) : Prop :=
  ((¬ σ 0 2 = 0 →
    FX3_copyFrom_v2 σ (fun z2 σ3 =>
    FX11_forget σ3 (fun z4 σ5 =>
    Φ (σ5 1 6) σ5))) ∧
  (σ 0 2 = 0 →
    Φ (-3) σ))
theorem cw_RX11_323_v2 : CWV RX11 323 yX3_copyFrom mi_X3_copyFrom_v2 := tb_r [1204, 1205, 1206, 98, 1207] (by decide +kernel)
set_option maxRecDepth 100000 in
theorem CX11_undo {E : EV} (hE : eOK layC E) {Φ : Int → PS → Prop} (σ : PS) (hs : RS σ) (h : FX11_undo σ Φ) : CT layC E yX11_undo mi_X11_undo [.ref (eA E 0)] σ Φ := by
  refine ct_of (by decide +kernel) rfl hE rfl rfl hs (fun x => ?_)
  show RW layC E mi_X11_undo Φ 0 [some (.ref (eA E 0))] [] σ x
  refine r_aloadn (dc D_cX11_undo_0 0 rfl) rfl rfl ?_
  refine r_getI (dc D_cX11_undo_0 1 rfl) fw_RX11_326 lC_0 rfl ?_
  refine r_if_ne (tgt := 10) (dc D_cX11_undo_0 2 rfl) (by decide) (hs _ _) (fun c1 => ?_) (fun c1 => ?_)
  · have h := h.1 c1
    refine r_aloadn (dc D_cX11_undo_0 5 rfl) rfl rfl ?_
    refine r_getR (dc D_cX11_undo_0 6 rfl) fw_RX11_12 lC_0 rfl ?_
    refine r_aloadn (dc D_cX11_undo_0 7 rfl) rfl rfl ?_
    refine r_getR (dc D_cX11_undo_0 8 rfl) fw_RX11_16 lC_0 rfl ?_
    refine r_callV (As := [.ref (eA E 2)]) (st := []) (dc D_cX11_undo_0 9 rfl) cw_RX11_323_v2 nm_yX3_copyFrom (CX3_copyFrom_v2 hE  _ hs h) lC_1 rfl rfl (by decide) rfl rfl rfl (fun z2 σ3 rz2 hσ3 h => ?_)
    show RW layC E mi_X11_undo Φ 21 [some (.ref (eA E 0))] [] σ3 x
    refine r_aloadn (dc D_cX11_undo_0 10 rfl) rfl rfl ?_
    refine r_callV (As := []) (st := []) (dc D_cX11_undo_0 11 rfl) cw_RX11_96 nm_yX11_forget (CX11_forget hE  _ hσ3 h) lC_0 rfl rfl (by decide) rfl rfl rfl (fun z4 σ5 rz4 hσ5 h => ?_)
    show RW layC E mi_X11_undo Φ 25 [some (.ref (eA E 0))] [] σ5 x
    refine r_aloadn (dc D_cX11_undo_0 12 rfl) rfl rfl ?_
    refine r_getR (dc D_cX11_undo_0 13 rfl) fw_RX11_12 lC_0 rfl ?_
    refine r_getI (dc D_cX11_undo_0 14 rfl) fw_RX11_92 lC_1 rfl ?_
    exact r_iret (dc D_cX11_undo_0 15 rfl) rfl (hσ5 _ _) h
  · have h := h.2 c1
    refine r_bipush (n := (-3)) (dc D_cX11_undo_0 3 rfl) (by decide +kernel) ?_
    exact r_iret (dc D_cX11_undo_0 4 rfl) rfl (Rl rfl) h
-- end of GateFlow.undo

