def mi_X12_feed : MI := (cX12_feed, RX12, 2, 2, (some .int), 1)
def FX12_feed (a1 : Int) (σ : PS) (Φ : Int → PS → Prop) : Prop :=
  FX12_in a1 1 127 σ (fun z1 σ2 =>
  ((¬ z1 = 0 →
    ((¬ σ2 0 29 = 90 →
      (-128 ≤ a1 ∧ a1 ≤ 127) ∧
      (0 ≤ σ2 0 29 ∧ σ2 0 29 < 90) ∧
      (-128 ≤ a1 ∧ a1 ≤ 127) ∧
      ∀ σ8 : PS, σ8 = up2 σ2 23 (σ2 0 29).toNat a1 →
      Rg ((σ8 0 29) + 1) ∧
      ∀ σ10 : PS, σ10 = up2 σ8 0 29 ((σ8 0 29) + 1) →
      Φ (σ10 0 29) σ10) ∧
    (σ2 0 29 = 90 →
      Φ (-4) σ2))) ∧
  (z1 = 0 →
    Φ (-2) σ2)))
theorem fw_RX12_246 : FW RX12 246 12 29 := ⟨RX12, TX12, 39, rfl, by decide, rfl, tb_1 1248 (by decide +kernel), uw_12⟩
theorem fw_RX12_77 : FW RX12 77 12 28 := ⟨RX12, TX12, 39, rfl, by decide, rfl, tb_1 1247 (by decide +kernel), uw_12⟩
theorem fp_12_29 : FP 12 29 .int := ⟨RX12, TX12, 39, tyX12, rfl, tyX12_ok, nmX12, rfl, by decide +kernel⟩
set_option maxRecDepth 100000 in
theorem CX12_feed {E : EV} (hE : eOK layM E) {Φ : Int → PS → Prop} (a1 : Int) (ra1 : Rg a1) (σ : PS) (hs : RS σ) (h : FX12_feed a1 σ Φ) : CT layM E yX12_feed mi_X12_feed [.ref (eA E 0), .int (iz a1)] σ Φ := by
  refine ct_of (by decide +kernel) rfl hE rfl rfl hs (fun x => ?_)
  show RW layM E mi_X12_feed Φ 0 [some (.ref (eA E 0)), some (.int (iz a1))] [] σ x
  refine r_iloadn (dc D_cX12_feed_0 0 rfl) rfl rfl ?_
  refine r_iconst (n := 1) (dc D_cX12_feed_0 1 rfl) ?_
  refine r_bipush (n := 127) (dc D_cX12_feed_0 2 rfl) (by decide +kernel) ?_
  refine r_callS (As := [.int (iz a1), .int (iz 1), .int (iz 127)]) (st := []) (dc D_cX12_feed_0 3 rfl) cw_RX12_90 nm_yX12_in (CX12_in hE _ _ _ ra1 (Rl rfl) (Rl rfl) _ hs h) rfl (by decide) rfl rfl rfl (fun z1 σ2 rz1 hσ2 h => ?_)
  show RW layM E mi_X12_feed Φ 7 [some (.ref (eA E 0)), some (.int (iz a1))] [.int (iz z1)] σ2 x
  refine r_if_ne (tgt := 13) (dc D_cX12_feed_0 4 rfl) (by decide) rz1 (fun c3 => ?_) (fun c3 => ?_)
  · have h := h.1 c3
    refine r_aloadn (dc D_cX12_feed_0 7 rfl) rfl rfl ?_
    refine r_getI (dc D_cX12_feed_0 8 rfl) fw_RX12_246 lM_0 rfl ?_
    refine r_bipush (n := 90) (dc D_cX12_feed_0 9 rfl) (by decide +kernel) ?_
    refine r_icmp_ne (tgt := 25) (dc D_cX12_feed_0 10 rfl) (by decide) (hσ2 _ _) (Rl rfl) (fun c4 => ?_) (fun c4 => ?_)
    · have h := h.1 c4
      refine r_aloadn (dc D_cX12_feed_0 13 rfl) rfl rfl ?_
      refine r_getR (dc D_cX12_feed_0 14 rfl) fw_RX12_77 lM_0 rfl ?_
      refine r_aloadn (dc D_cX12_feed_0 15 rfl) rfl rfl ?_
      refine r_getI (dc D_cX12_feed_0 16 rfl) fw_RX12_246 lM_0 rfl ?_
      refine r_iloadn (dc D_cX12_feed_0 17 rfl) rfl rfl ?_
      obtain ⟨o5, h⟩ := h
      refine r_i2b (dc D_cX12_feed_0 18 rfl) o5 ?_
      obtain ⟨o6, h⟩ := h
      obtain ⟨o7, h⟩ := h
      refine r_bast (N := 90) (dc D_cX12_feed_0 19 rfl) lM_23 rfl rfl o6 o7 ?_
      refine r_sig (fun σ8 eσ8 => ?_)
      have h := h σ8 eσ8
      have hσ8 : RS σ8 := RS_eq eσ8 (RS.up hσ2 ra1 _ _)
      refine r_aloadn (dc D_cX12_feed_0 20 rfl) rfl rfl ?_
      refine r_dup (dc D_cX12_feed_0 21 rfl) rfl ?_
      refine r_getI (dc D_cX12_feed_0 22 rfl) fw_RX12_246 lM_0 rfl ?_
      refine r_iconst (n := 1) (dc D_cX12_feed_0 23 rfl) ?_
      refine r_iadd (dc D_cX12_feed_0 24 rfl) ?_
      obtain ⟨o9, h⟩ := h
      refine r_put (dc D_cX12_feed_0 25 rfl) fw_RX12_246 fp_12_29 lM_0 rfl (nar_int _) o9 ?_
      refine r_sig (fun σ10 eσ10 => ?_)
      have h := h σ10 eσ10
      have hσ10 : RS σ10 := RS_eq eσ10 (RS.up hσ8 o9 _ _)
      refine r_aloadn (dc D_cX12_feed_0 26 rfl) rfl rfl ?_
      refine r_getI (dc D_cX12_feed_0 27 rfl) fw_RX12_246 lM_0 rfl ?_
      exact r_iret (dc D_cX12_feed_0 28 rfl) rfl (hσ10 _ _) h
    · have h := h.2 c4
      refine r_bipush (n := (-4)) (dc D_cX12_feed_0 11 rfl) (by decide +kernel) ?_
      exact r_iret (dc D_cX12_feed_0 12 rfl) rfl (Rl rfl) h
  · have h := h.2 c3
    refine r_bipush (n := (-2)) (dc D_cX12_feed_0 5 rfl) (by decide +kernel) ?_
    exact r_iret (dc D_cX12_feed_0 6 rfl) rfl (Rl rfl) h
-- end of GateFlowModel.feed
def mi_X12_clear : MI := (cX12_clear, RX12, 2, 1, (some .int), 1)
def FX12_clear (σ : PS) (Φ : Int → PS → Prop) : Prop :=
  ∀ v1 : Int, v1 = σ 0 29 →
  ∀ σ2 : PS, σ2 = up2 σ 0 29 0 →
  Φ v1 σ2
set_option maxRecDepth 100000 in
theorem CX12_clear {E : EV} (hE : eOK layM E) {Φ : Int → PS → Prop} (σ : PS) (hs : RS σ) (h : FX12_clear σ Φ) : CT layM E yX12_clear mi_X12_clear [.ref (eA E 0)] σ Φ := by
  refine ct_of (by decide +kernel) rfl hE rfl rfl hs (fun x => ?_)
  show RW layM E mi_X12_clear Φ 0 [some (.ref (eA E 0)), none] [] σ x
  refine r_aloadn (dc D_cX12_clear_0 0 rfl) rfl rfl ?_
  refine r_getI (dc D_cX12_clear_0 1 rfl) fw_RX12_246 lM_0 rfl ?_
  refine r_name (fun v1 ev1 => ?_)
  have h := h v1 ev1
  have rv1 : Rg v1 := Rg_eq ev1 (hs _ _)
  refine r_istoren (lv' := [some (.ref (eA E 0)), some (.int (iz v1))]) (dc D_cX12_clear_0 2 rfl) rfl rfl rfl ?_
  refine r_aloadn (dc D_cX12_clear_0 3 rfl) rfl rfl ?_
  refine r_iconst (n := 0) (dc D_cX12_clear_0 4 rfl) ?_
  refine r_put (dc D_cX12_clear_0 5 rfl) fw_RX12_246 fp_12_29 lM_0 rfl (nar_int _) (Rl rfl) ?_
  refine r_sig (fun σ2 eσ2 => ?_)
  have h := h σ2 eσ2
  have hσ2 : RS σ2 := RS_eq eσ2 (RS.up hs (Rl rfl) _ _)
  refine r_iloadn (dc D_cX12_clear_0 6 rfl) rfl rfl ?_
  exact r_iret (dc D_cX12_clear_0 7 rfl) rfl rv1 h
-- end of GateFlowModel.clear
def mi_X12_begins : MI := (cX12_begins, RX12, 1, 1, none, 0)
def FX12_begins (σ : PS) (Φ : Int → PS → Prop) : Prop :=
  ∀ σ1 : PS, σ1 = up2 σ 0 30 0 →
  ∀ σ2 : PS, σ2 = up2 σ1 0 31 (-1) →
  Φ 0 σ2
theorem fw_RX12_249 : FW RX12 249 12 30 := ⟨RX12, TX12, 39, rfl, by decide, rfl, tb_1 1249 (by decide +kernel), uw_12⟩
theorem fp_12_30 : FP 12 30 .int := ⟨RX12, TX12, 39, tyX12, rfl, tyX12_ok, nmX12, rfl, by decide +kernel⟩
theorem fw_RX12_252 : FW RX12 252 12 31 := ⟨RX12, TX12, 39, rfl, by decide, rfl, tb_1 1250 (by decide +kernel), uw_12⟩
theorem fp_12_31 : FP 12 31 .int := ⟨RX12, TX12, 39, tyX12, rfl, tyX12_ok, nmX12, rfl, by decide +kernel⟩
set_option maxRecDepth 100000 in
theorem CX12_begins {E : EV} (hE : eOK layM E) {Φ : Int → PS → Prop} (σ : PS) (hs : RS σ) (h : FX12_begins σ Φ) : CT layM E yX12_begins mi_X12_begins [.ref (eA E 0)] σ Φ := by
  refine ct_of (by decide +kernel) rfl hE rfl rfl hs (fun x => ?_)
  show RW layM E mi_X12_begins Φ 0 [some (.ref (eA E 0))] [] σ x
  refine r_aloadn (dc D_cX12_begins_0 0 rfl) rfl rfl ?_
  refine r_iconst (n := 0) (dc D_cX12_begins_0 1 rfl) ?_
  refine r_put (dc D_cX12_begins_0 2 rfl) fw_RX12_249 fp_12_30 lM_0 rfl (nar_int _) (Rl rfl) ?_
  refine r_sig (fun σ1 eσ1 => ?_)
  have h := h σ1 eσ1
  have hσ1 : RS σ1 := RS_eq eσ1 (RS.up hs (Rl rfl) _ _)
  refine r_aloadn (dc D_cX12_begins_0 3 rfl) rfl rfl ?_
  refine r_iconst (n := (-1)) (dc D_cX12_begins_0 4 rfl) ?_
  refine r_put (dc D_cX12_begins_0 5 rfl) fw_RX12_252 fp_12_31 lM_0 rfl (nar_int _) (Rl rfl) ?_
  refine r_sig (fun σ2 eσ2 => ?_)
  have h := h σ2 eσ2
  have hσ2 : RS σ2 := RS_eq eσ2 (RS.up hσ1 (Rl rfl) _ _)
  exact r_vret (dc D_cX12_begins_0 6 rfl) rfl h
-- end of GateFlowModel.begins
def mi_X12_wrong : MI := (cX12_wrong, RX12, 2, 1, none, 0)
def FX12_wrong (a1 : Int) (σ : PS) (Φ : Int → PS → Prop) : Prop :=
  ((0 ≤ σ 0 31 →
    ∀ σ2 : PS, σ2 = up2 σ 0 31 (σ 0 31) →
    Φ 0 σ2) ∧
  (¬ 0 ≤ σ 0 31 →
    ∀ σ3 : PS, σ3 = up2 σ 0 31 a1 →
    Φ 0 σ3))
set_option maxRecDepth 100000 in
theorem CX12_wrong {E : EV} (hE : eOK layM E) {Φ : Int → PS → Prop} (a1 : Int) (ra1 : Rg a1) (σ : PS) (hs : RS σ) (h : FX12_wrong a1 σ Φ) : CT layM E yX12_wrong mi_X12_wrong [.ref (eA E 0), .int (iz a1)] σ Φ := by
  refine ct_of (by decide +kernel) rfl hE rfl rfl hs (fun x => ?_)
  show RW layM E mi_X12_wrong Φ 0 [some (.ref (eA E 0)), some (.int (iz a1))] [] σ x
  refine r_aloadn (dc D_cX12_wrong_0 0 rfl) rfl rfl ?_
  refine r_aloadn (dc D_cX12_wrong_0 1 rfl) rfl rfl ?_
  refine r_getI (dc D_cX12_wrong_0 2 rfl) fw_RX12_252 lM_0 rfl ?_
  refine r_if_ge (tgt := 12) (dc D_cX12_wrong_0 3 rfl) (by decide) (hs _ _) (fun c1 => ?_) (fun c1 => ?_)
  · have h := h.1 c1
    refine r_aloadn (dc D_cX12_wrong_0 6 rfl) rfl rfl ?_
    refine r_getI (dc D_cX12_wrong_0 7 rfl) fw_RX12_252 lM_0 rfl ?_
    refine r_put (dc D_cX12_wrong_0 8 rfl) fw_RX12_252 fp_12_31 lM_0 rfl (nar_int _) (hs _ _) ?_
    refine r_sig (fun σ2 eσ2 => ?_)
    have h := h σ2 eσ2
    have hσ2 : RS σ2 := RS_eq eσ2 (RS.up hs (hs _ _) _ _)
    exact r_vret (dc D_cX12_wrong_0 9 rfl) rfl h
  · have h := h.2 c1
    refine r_iloadn (dc D_cX12_wrong_0 4 rfl) rfl rfl ?_
    refine r_goto (tgt := 16) (dc D_cX12_wrong_0 5 rfl) (by decide) ?_
    refine r_put (dc D_cX12_wrong_0 8 rfl) fw_RX12_252 fp_12_31 lM_0 rfl (nar_int _) ra1 ?_
    refine r_sig (fun σ3 eσ3 => ?_)
    have h := h σ3 eσ3
    have hσ3 : RS σ3 := RS_eq eσ3 (RS.up hs ra1 _ _)
    exact r_vret (dc D_cX12_wrong_0 9 rfl) rfl h
-- end of GateFlowModel.wrong
def mi_X12_here : MI := (cX12_here, RX12, 1, 1, (some .int), 1)
def FX12_here (σ : PS) (Φ : Int → PS → Prop) : Prop :=
  ((σ 0 29 ≤ σ 0 30 →
    Φ (-1) σ) ∧
  (¬ σ 0 29 ≤ σ 0 30 →
    (0 ≤ σ 0 30 ∧ σ 0 30 < 90) ∧
    Φ (σ 23 (σ 0 30).toNat) σ))
set_option maxRecDepth 100000 in
theorem CX12_here {E : EV} (hE : eOK layM E) {Φ : Int → PS → Prop} (σ : PS) (hs : RS σ) (h : FX12_here σ Φ) : CT layM E yX12_here mi_X12_here [.ref (eA E 0)] σ Φ := by
  refine ct_of (by decide +kernel) rfl hE rfl rfl hs (fun x => ?_)
  show RW layM E mi_X12_here Φ 0 [some (.ref (eA E 0))] [] σ x
  refine r_aloadn (dc D_cX12_here_0 0 rfl) rfl rfl ?_
  refine r_getI (dc D_cX12_here_0 1 rfl) fw_RX12_249 lM_0 rfl ?_
  refine r_aloadn (dc D_cX12_here_0 2 rfl) rfl rfl ?_
  refine r_getI (dc D_cX12_here_0 3 rfl) fw_RX12_246 lM_0 rfl ?_
  refine r_icmp_ge (tgt := 23) (dc D_cX12_here_0 4 rfl) (by decide) (hs _ _) (hs _ _) (fun c1 => ?_) (fun c1 => ?_)
  · have h := h.1 c1
    refine r_iconst (n := (-1)) (dc D_cX12_here_0 11 rfl) ?_
    exact r_iret (dc D_cX12_here_0 12 rfl) rfl (Rl rfl) h
  · have h := h.2 c1
    refine r_aloadn (dc D_cX12_here_0 5 rfl) rfl rfl ?_
    refine r_getR (dc D_cX12_here_0 6 rfl) fw_RX12_77 lM_0 rfl ?_
    refine r_aloadn (dc D_cX12_here_0 7 rfl) rfl rfl ?_
    refine r_getI (dc D_cX12_here_0 8 rfl) fw_RX12_249 lM_0 rfl ?_
    obtain ⟨o2, h⟩ := h
    refine r_bald (N := 90) (dc D_cX12_here_0 9 rfl) lM_23 rfl rfl o2 ?_
    refine r_goto (tgt := 24) (dc D_cX12_here_0 10 rfl) (by decide) ?_
    exact r_iret (dc D_cX12_here_0 12 rfl) rfl (hs _ _) h
-- end of GateFlowModel.here
def mi_X12_number : MI := (cX12_number, RX12, 6, 2, (some .int), 1)
def LX12_number_94 (x4 x5 : Int) (σ : PS) (Φ : Int → PS → Prop) : Prop :=
  FX12_wrong x4 σ (fun z1 σ2 =>
  Φ x5 σ2)
def LX12_number_69 (x1 x2 x3 x4 x5 : Int) (σ : PS) (Φ : Int → PS → Prop) : Prop :=
  ((σ 0 30 = x4 →
    LX12_number_94 x4 x5 σ Φ) ∧
  (¬ σ 0 30 = x4 →
    FX12_in x5 x1 x2 σ (fun z2 σ3 =>
    ((z2 = 0 →
      LX12_number_94 x4 x5 σ3 Φ) ∧
    (¬ z2 = 0 →
      ((¬ x5 = x3 →
        Φ x5 σ3) ∧
      (x5 = x3 →
        LX12_number_94 x4 x5 σ3 Φ)))))))
def BX12_number_9 (K9 : Int → Int → Int → Int → Int → PS → Prop) (x1 x2 x3 x4 x5 : Int) (σ : PS) (Φ : Int → PS → Prop) : Prop :=
  ((0 ≤ σ 0 31 →
    LX12_number_69 x1 x2 x3 x4 x5 σ Φ) ∧
  (¬ 0 ≤ σ 0 31 →
    FX12_here σ (fun z2 σ3 =>
    FX12_in z2 48 57 σ3 (fun z4 σ5 =>
    ((z4 = 0 →
      LX12_number_69 x1 x2 x3 x4 x5 σ5 Φ) ∧
    (¬ z4 = 0 →
      Rg ((σ5 0 30) - x4) ∧
      ((3 ≤ (σ5 0 30) - x4 →
        LX12_number_69 x1 x2 x3 x4 x5 σ5 Φ) ∧
      (¬ 3 ≤ (σ5 0 30) - x4 →
        Rg (10 * x5) ∧
        FX12_here σ5 (fun z10 σ11 =>
        Rg ((10 * x5) + z10) ∧
        Rg (((10 * x5) + z10) - 48) ∧
        ∀ v14 : Int, v14 = ((10 * x5) + z10) - 48 →
        Rg ((σ11 0 30) + 1) ∧
        ∀ σ16 : PS, σ16 = up2 σ11 0 30 ((σ11 0 30) + 1) →
        K9 x1 x2 x3 x4 v14 σ16)))))))))
def LX12_number_9 : Nat → Int → Int → Int → Int → Int → PS → (Int → PS → Prop) → Prop
  | 0, _, _, _, _, _, _, _ => False
  | n + 1, x1, x2, x3, x4, x5, σ, Φ => BX12_number_9 (fun x1 x2 x3 x4 x5 σ => LX12_number_9 n x1 x2 x3 x4 x5 σ Φ) x1 x2 x3 x4 x5 σ Φ
def FX12_number (a1 a2 a3 : Int) (σ : PS) (Φ : Int → PS → Prop) : Prop :=
  ∀ v1 : Int, v1 = σ 0 30 →
  ∃ n, LX12_number_9 n a1 a2 a3 v1 0 σ Φ
theorem cw_RX12_260 : CWV RX12 260 yX12_wrong mi_X12_wrong := tb_r [1618, 1620, 79, 110, 1621] (by decide +kernel)
theorem nm_yX12_wrong : ynm yX12_wrong 1 := ⟨⟨by decide +kernel, by decide +kernel⟩, by decide +kernel⟩
theorem cw_RX12_255 : CWV RX12 255 yX12_here mi_X12_here := tb_r [1626, 1628, 81, 110, 1629] (by decide +kernel)
theorem nm_yX12_here : ynm yX12_here 0 := ⟨⟨by decide +kernel, by decide +kernel⟩, by decide +kernel⟩
set_option maxRecDepth 100000 in
theorem TX12_number_94 {E : EV} (hE : eOK layM E) {Φ : Int → PS → Prop} (x : CX) (x4 x5 : Int) (rx4 : Rg x4) (rx5 : Rg x5) (σ : PS) (hs : RS σ) (h : LX12_number_94 x4 x5 σ Φ) : RW layM E mi_X12_number Φ 94 [some (.ref (eA E 0)), none, none, none, some (.int (iz x4)), some (.int (iz x5))] [] σ x := by
  refine r_aloadn (dc D_cX12_number_1 8 rfl) rfl rfl ?_
  refine r_iload (dc D_cX12_number_1 9 rfl) rfl ?_
  refine r_callV (As := [.int (iz x4)]) (st := []) (dc D_cX12_number_1 10 rfl) cw_RX12_260 nm_yX12_wrong (CX12_wrong hE _ rx4 _ hs h) lM_0 rfl rfl (by decide) rfl rfl rfl (fun z1 σ2 rz1 hσ2 h => ?_)
  show RW layM E mi_X12_number Φ 100 [some (.ref (eA E 0)), none, none, none, some (.int (iz x4)), some (.int (iz x5))] [] σ2 x
  refine r_iload (dc D_cX12_number_1 11 rfl) rfl ?_
  exact r_iret (dc D_cX12_number_1 12 rfl) rfl rx5 h
set_option maxRecDepth 100000 in
theorem TX12_number_69 {E : EV} (hE : eOK layM E) {Φ : Int → PS → Prop} (x : CX) (x1 x2 x3 x4 x5 : Int) (rx1 : Rg x1) (rx2 : Rg x2) (rx3 : Rg x3) (rx4 : Rg x4) (rx5 : Rg x5) (σ : PS) (hs : RS σ) (h : LX12_number_69 x1 x2 x3 x4 x5 σ Φ) : RW layM E mi_X12_number Φ 69 [some (.ref (eA E 0)), some (.int (iz x1)), some (.int (iz x2)), some (.int (iz x3)), some (.int (iz x4)), some (.int (iz x5))] [] σ x := by
  refine r_aloadn (dc D_cX12_number_0 36 rfl) rfl rfl ?_
  refine r_getI (dc D_cX12_number_0 37 rfl) fw_RX12_249 lM_0 rfl ?_
  refine r_iload (dc D_cX12_number_0 38 rfl) rfl ?_
  refine r_icmp_eq (tgt := 94) (dc D_cX12_number_0 39 rfl) (by decide) (hs _ _) rx4 (fun c1 => ?_) (fun c1 => ?_)
  · have h := h.1 c1
    refine r_sub (lv' := [some (.ref (eA E 0)), none, none, none, some (.int (iz x4)), some (.int (iz x5))]) (subL_s (subL_n (subL_n (subL_n (subL_s (subL_s subL_e)))))) ?_
    exact TX12_number_94 hE x _ _ rx4 rx5 _ hs h
  · have h := h.2 c1
    refine r_iload (dc D_cX12_number_1 0 rfl) rfl ?_
    refine r_iloadn (dc D_cX12_number_1 1 rfl) rfl rfl ?_
    refine r_iloadn (dc D_cX12_number_1 2 rfl) rfl rfl ?_
    refine r_callS (As := [.int (iz x5), .int (iz x1), .int (iz x2)]) (st := []) (dc D_cX12_number_1 3 rfl) cw_RX12_90 nm_yX12_in (CX12_in hE _ _ _ rx5 rx1 rx2 _ hs h) rfl (by decide) rfl rfl rfl (fun z2 σ3 rz2 hσ3 h => ?_)
    show RW layM E mi_X12_number Φ 85 [some (.ref (eA E 0)), some (.int (iz x1)), some (.int (iz x2)), some (.int (iz x3)), some (.int (iz x4)), some (.int (iz x5))] [.int (iz z2)] σ3 x
    refine r_if_eq (tgt := 94) (dc D_cX12_number_1 4 rfl) (by decide) rz2 (fun c4 => ?_) (fun c4 => ?_)
    · have h := h.1 c4
      refine r_sub (lv' := [some (.ref (eA E 0)), none, none, none, some (.int (iz x4)), some (.int (iz x5))]) (subL_s (subL_n (subL_n (subL_n (subL_s (subL_s subL_e)))))) ?_
      exact TX12_number_94 hE x _ _ rx4 rx5 _ hσ3 h
    · have h := h.2 c4
      refine r_iload (dc D_cX12_number_1 5 rfl) rfl ?_
      refine r_iloadn (dc D_cX12_number_1 6 rfl) rfl rfl ?_
      refine r_icmp_ne (tgt := 100) (dc D_cX12_number_1 7 rfl) (by decide) rx5 rx3 (fun c5 => ?_) (fun c5 => ?_)
      · have h := h.1 c5
        refine r_iload (dc D_cX12_number_1 11 rfl) rfl ?_
        exact r_iret (dc D_cX12_number_1 12 rfl) rfl rx5 h
      · have h := h.2 c5
        refine r_sub (lv' := [some (.ref (eA E 0)), none, none, none, some (.int (iz x4)), some (.int (iz x5))]) (subL_s (subL_n (subL_n (subL_n (subL_s (subL_s subL_e)))))) ?_
        exact TX12_number_94 hE x _ _ rx4 rx5 _ hσ3 h
set_option maxRecDepth 100000 in
theorem TBX12_number_9 {E : EV} (hE : eOK layM E) {Φ : Int → PS → Prop} {K9 : Int → Int → Int → Int → Int → PS → Prop} (x : CX) (hK9 : ∀ (x1 x2 x3 x4 x5 : Int) (σ : PS), Rg x1 → Rg x2 → Rg x3 → Rg x4 → Rg x5 → RS σ → K9 x1 x2 x3 x4 x5 σ → RW layM E mi_X12_number Φ 9 [some (.ref (eA E 0)), some (.int (iz x1)), some (.int (iz x2)), some (.int (iz x3)), some (.int (iz x4)), some (.int (iz x5))] [] σ x) (x1 x2 x3 x4 x5 : Int) (rx1 : Rg x1) (rx2 : Rg x2) (rx3 : Rg x3) (rx4 : Rg x4) (rx5 : Rg x5) (σ : PS) (hs : RS σ) (h : BX12_number_9 K9 x1 x2 x3 x4 x5 σ Φ) : RW layM E mi_X12_number Φ 9 [some (.ref (eA E 0)), some (.int (iz x1)), some (.int (iz x2)), some (.int (iz x3)), some (.int (iz x4)), some (.int (iz x5))] [] σ x := by
  refine r_aloadn (dc D_cX12_number_0 5 rfl) rfl rfl ?_
  refine r_getI (dc D_cX12_number_0 6 rfl) fw_RX12_252 lM_0 rfl ?_
  refine r_if_ge (tgt := 69) (dc D_cX12_number_0 7 rfl) (by decide) (hs _ _) (fun c1 => ?_) (fun c1 => ?_)
  · have h := h.1 c1
    exact TX12_number_69 hE x _ _ _ _ _ rx1 rx2 rx3 rx4 rx5 _ hs h
  · have h := h.2 c1
    refine r_aloadn (dc D_cX12_number_0 8 rfl) rfl rfl ?_
    refine r_callV (As := []) (st := []) (dc D_cX12_number_0 9 rfl) cw_RX12_255 nm_yX12_here (CX12_here hE  _ hs h) lM_0 rfl rfl (by decide) rfl rfl rfl (fun z2 σ3 rz2 hσ3 h => ?_)
    show RW layM E mi_X12_number Φ 20 [some (.ref (eA E 0)), some (.int (iz x1)), some (.int (iz x2)), some (.int (iz x3)), some (.int (iz x4)), some (.int (iz x5))] [.int (iz z2)] σ3 x
    refine r_bipush (n := 48) (dc D_cX12_number_0 10 rfl) (by decide +kernel) ?_
    refine r_bipush (n := 57) (dc D_cX12_number_0 11 rfl) (by decide +kernel) ?_
    refine r_callS (As := [.int (iz z2), .int (iz 48), .int (iz 57)]) (st := []) (dc D_cX12_number_0 12 rfl) cw_RX12_90 nm_yX12_in (CX12_in hE _ _ _ rz2 (Rl rfl) (Rl rfl) _ hσ3 h) rfl (by decide) rfl rfl rfl (fun z4 σ5 rz4 hσ5 h => ?_)
    show RW layM E mi_X12_number Φ 27 [some (.ref (eA E 0)), some (.int (iz x1)), some (.int (iz x2)), some (.int (iz x3)), some (.int (iz x4)), some (.int (iz x5))] [.int (iz z4)] σ5 x
    refine r_if_eq (tgt := 69) (dc D_cX12_number_0 13 rfl) (by decide) rz4 (fun c6 => ?_) (fun c6 => ?_)
    · have h := h.1 c6
      exact TX12_number_69 hE x _ _ _ _ _ rx1 rx2 rx3 rx4 rx5 _ hσ5 h
    · have h := h.2 c6
      refine r_aloadn (dc D_cX12_number_0 14 rfl) rfl rfl ?_
      refine r_getI (dc D_cX12_number_0 15 rfl) fw_RX12_249 lM_0 rfl ?_
      refine r_iload (dc D_cX12_number_0 16 rfl) rfl ?_
      refine r_isub (dc D_cX12_number_0 17 rfl) ?_
      obtain ⟨o7, h⟩ := h
      refine r_iconst (n := 3) (dc D_cX12_number_0 18 rfl) ?_
      refine r_icmp_ge (tgt := 69) (dc D_cX12_number_0 19 rfl) (by decide) o7 (Rl rfl) (fun c8 => ?_) (fun c8 => ?_)
      · have h := h.1 c8
        exact TX12_number_69 hE x _ _ _ _ _ rx1 rx2 rx3 rx4 rx5 _ hσ5 h
      · have h := h.2 c8
        refine r_bipush (n := 10) (dc D_cX12_number_0 20 rfl) (by decide +kernel) ?_
        refine r_iload (dc D_cX12_number_0 21 rfl) rfl ?_
        refine r_imul (dc D_cX12_number_0 22 rfl) ?_
        obtain ⟨o9, h⟩ := h
        refine r_aloadn (dc D_cX12_number_0 23 rfl) rfl rfl ?_
        refine r_callV (As := []) (st := [.int (iz (10 * x5))]) (dc D_cX12_number_0 24 rfl) cw_RX12_255 nm_yX12_here (CX12_here hE  _ hσ5 h) lM_0 rfl rfl (by decide) rfl rfl rfl (fun z10 σ11 rz10 hσ11 h => ?_)
        show RW layM E mi_X12_number Φ 50 [some (.ref (eA E 0)), some (.int (iz x1)), some (.int (iz x2)), some (.int (iz x3)), some (.int (iz x4)), some (.int (iz x5))] [.int (iz z10), .int (iz (10 * x5))] σ11 x
        refine r_iadd (dc D_cX12_number_0 25 rfl) ?_
        obtain ⟨o12, h⟩ := h
        refine r_bipush (n := 48) (dc D_cX12_number_0 26 rfl) (by decide +kernel) ?_
        refine r_isub (dc D_cX12_number_0 27 rfl) ?_
        obtain ⟨o13, h⟩ := h
        refine r_name (fun v14 ev14 => ?_)
        have h := h v14 ev14
        have rv14 : Rg v14 := Rg_eq ev14 o13
        refine r_istore (lv' := [some (.ref (eA E 0)), some (.int (iz x1)), some (.int (iz x2)), some (.int (iz x3)), some (.int (iz x4)), some (.int (iz v14))]) (dc D_cX12_number_0 28 rfl) rfl rfl ?_
        refine r_aloadn (dc D_cX12_number_0 29 rfl) rfl rfl ?_
        refine r_dup (dc D_cX12_number_0 30 rfl) rfl ?_
        refine r_getI (dc D_cX12_number_0 31 rfl) fw_RX12_249 lM_0 rfl ?_
        refine r_iconst (n := 1) (dc D_cX12_number_0 32 rfl) ?_
        refine r_iadd (dc D_cX12_number_0 33 rfl) ?_
        obtain ⟨o15, h⟩ := h
        refine r_put (dc D_cX12_number_0 34 rfl) fw_RX12_249 fp_12_30 lM_0 rfl (nar_int _) o15 ?_
        refine r_sig (fun σ16 eσ16 => ?_)
        have h := h σ16 eσ16
        have hσ16 : RS σ16 := RS_eq eσ16 (RS.up hσ11 o15 _ _)
        refine r_goto (tgt := 9) (dc D_cX12_number_0 35 rfl) (by decide) ?_
        exact hK9 _ _ _ _ _ _ rx1 rx2 rx3 rx4 rv14 hσ16 h
theorem TX12_number_9 {E : EV} (hE : eOK layM E) {Φ : Int → PS → Prop} (x : CX) (n : Nat) : ∀ (x1 x2 x3 x4 x5 : Int) (σ : PS), Rg x1 → Rg x2 → Rg x3 → Rg x4 → Rg x5 → RS σ → LX12_number_9 n x1 x2 x3 x4 x5 σ Φ → RW layM E mi_X12_number Φ 9 [some (.ref (eA E 0)), some (.int (iz x1)), some (.int (iz x2)), some (.int (iz x3)), some (.int (iz x4)), some (.int (iz x5))] [] σ x := by
  induction n with
  | zero => intro x1 x2 x3 x4 x5 σ _ _ _ _ _ _ h; exact h.elim
  | succ n ih => intro x1 x2 x3 x4 x5 σ rx1 rx2 rx3 rx4 rx5 hs h; exact TBX12_number_9 hE x ih x1 x2 x3 x4 x5 rx1 rx2 rx3 rx4 rx5 σ hs h
set_option maxRecDepth 100000 in
theorem CX12_number {E : EV} (hE : eOK layM E) {Φ : Int → PS → Prop} (a1 a2 a3 : Int) (ra1 : Rg a1) (ra2 : Rg a2) (ra3 : Rg a3) (σ : PS) (hs : RS σ) (h : FX12_number a1 a2 a3 σ Φ) : CT layM E yX12_number mi_X12_number [.ref (eA E 0), .int (iz a1), .int (iz a2), .int (iz a3)] σ Φ := by
  refine ct_of (by decide +kernel) rfl hE rfl rfl hs (fun x => ?_)
  show RW layM E mi_X12_number Φ 0 [some (.ref (eA E 0)), some (.int (iz a1)), some (.int (iz a2)), some (.int (iz a3)), none, none] [] σ x
  refine r_aloadn (dc D_cX12_number_0 0 rfl) rfl rfl ?_
  refine r_getI (dc D_cX12_number_0 1 rfl) fw_RX12_249 lM_0 rfl ?_
  refine r_name (fun v1 ev1 => ?_)
  have h := h v1 ev1
  have rv1 : Rg v1 := Rg_eq ev1 (hs _ _)
  refine r_istore (lv' := [some (.ref (eA E 0)), some (.int (iz a1)), some (.int (iz a2)), some (.int (iz a3)), some (.int (iz v1)), none]) (dc D_cX12_number_0 2 rfl) rfl rfl ?_
  refine r_iconst (n := 0) (dc D_cX12_number_0 3 rfl) ?_
  refine r_istore (lv' := [some (.ref (eA E 0)), some (.int (iz a1)), some (.int (iz a2)), some (.int (iz a3)), some (.int (iz v1)), some (.int (iz 0))]) (dc D_cX12_number_0 4 rfl) rfl rfl ?_
  obtain ⟨n, h⟩ := h
  exact TX12_number_9 hE x n _ _ _ _ _ _ ra1 ra2 ra3 rv1 (Rl rfl) hs h
-- end of GateFlowModel.number
def mi_X12_takes_ : MI := (cX12_takes_, RX12, 2, 2, (some .boolean), 1)
def FX12_takes_ (a1 : Int) (σ : PS) (Φ : Int → PS → Prop) : Prop :=
  ((0 ≤ σ 0 31 →
    Φ 0 σ) ∧
  (¬ 0 ≤ σ 0 31 →
    FX12_here σ (fun z2 σ3 =>
    ((z2 = a1 →
      Rg ((σ3 0 30) + 1) ∧
      ∀ σ6 : PS, σ6 = up2 σ3 0 30 ((σ3 0 30) + 1) →
      Φ 1 σ6) ∧
    (¬ z2 = a1 →
      Φ 0 σ3)))))
set_option maxRecDepth 100000 in
theorem CX12_takes_ {E : EV} (hE : eOK layM E) {Φ : Int → PS → Prop} (a1 : Int) (ra1 : Rg a1) (σ : PS) (hs : RS σ) (h : FX12_takes_ a1 σ Φ) : CT layM E yX12_takes_ mi_X12_takes_ [.ref (eA E 0), .int (iz a1)] σ Φ := by
  refine ct_of (by decide +kernel) rfl hE rfl rfl hs (fun x => ?_)
  show RW layM E mi_X12_takes_ Φ 0 [some (.ref (eA E 0)), some (.int (iz a1))] [] σ x
  refine r_aloadn (dc D_cX12_takes__0 0 rfl) rfl rfl ?_
  refine r_getI (dc D_cX12_takes__0 1 rfl) fw_RX12_252 lM_0 rfl ?_
  refine r_if_ge (tgt := 15) (dc D_cX12_takes__0 2 rfl) (by decide) (hs _ _) (fun c1 => ?_) (fun c1 => ?_)
  · have h := h.1 c1
    refine r_iconst (n := 0) (dc D_cX12_takes__0 7 rfl) ?_
    exact r_zret (dc D_cX12_takes__0 8 rfl) rfl (by decide) h
  · have h := h.2 c1
    refine r_aloadn (dc D_cX12_takes__0 3 rfl) rfl rfl ?_
    refine r_callV (As := []) (st := []) (dc D_cX12_takes__0 4 rfl) cw_RX12_255 nm_yX12_here (CX12_here hE  _ hs h) lM_0 rfl rfl (by decide) rfl rfl rfl (fun z2 σ3 rz2 hσ3 h => ?_)
    show RW layM E mi_X12_takes_ Φ 11 [some (.ref (eA E 0)), some (.int (iz a1))] [.int (iz z2)] σ3 x
    refine r_iloadn (dc D_cX12_takes__0 5 rfl) rfl rfl ?_
    refine r_icmp_eq (tgt := 17) (dc D_cX12_takes__0 6 rfl) (by decide) rz2 ra1 (fun c4 => ?_) (fun c4 => ?_)
    · have h := h.1 c4
      refine r_aloadn (dc D_cX12_takes__0 9 rfl) rfl rfl ?_
      refine r_dup (dc D_cX12_takes__0 10 rfl) rfl ?_
      refine r_getI (dc D_cX12_takes__0 11 rfl) fw_RX12_249 lM_0 rfl ?_
      refine r_iconst (n := 1) (dc D_cX12_takes__0 12 rfl) ?_
      refine r_iadd (dc D_cX12_takes__0 13 rfl) ?_
      obtain ⟨o5, h⟩ := h
      refine r_put (dc D_cX12_takes__0 14 rfl) fw_RX12_249 fp_12_30 lM_0 rfl (nar_int _) o5 ?_
      refine r_sig (fun σ6 eσ6 => ?_)
      have h := h σ6 eσ6
      have hσ6 : RS σ6 := RS_eq eσ6 (RS.up hσ3 o5 _ _)
      refine r_iconst (n := 1) (dc D_cX12_takes__0 15 rfl) ?_
      exact r_zret (dc D_cX12_takes__0 16 rfl) rfl (by decide) h
    · have h := h.2 c4
      refine r_iconst (n := 0) (dc D_cX12_takes__0 7 rfl) ?_
      exact r_zret (dc D_cX12_takes__0 8 rfl) rfl (by decide) h
-- end of GateFlowModel.takes
def mi_X12_must : MI := (cX12_must, RX12, 2, 3, none, 0)
def FX12_must (a1 : Int) (σ : PS) (Φ : Int → PS → Prop) : Prop :=
  FX12_takes_ a1 σ (fun z1 σ2 =>
  ((¬ z1 = 0 →
    Φ 0 σ2) ∧
  (z1 = 0 →
    FX12_wrong (σ2 0 30) σ2 (fun z4 σ5 =>
    Φ 0 σ5))))
theorem cw_RX12_258 : CWV RX12 258 yX12_takes_ mi_X12_takes_ := tb_r [1634, 1636, 83, 110, 1637] (by decide +kernel)
theorem nm_yX12_takes_ : ynm yX12_takes_ 1 := ⟨⟨by decide +kernel, by decide +kernel⟩, by decide +kernel⟩
set_option maxRecDepth 100000 in
theorem CX12_must {E : EV} (hE : eOK layM E) {Φ : Int → PS → Prop} (a1 : Int) (ra1 : Rg a1) (σ : PS) (hs : RS σ) (h : FX12_must a1 σ Φ) : CT layM E yX12_must mi_X12_must [.ref (eA E 0), .int (iz a1)] σ Φ := by
  refine ct_of (by decide +kernel) rfl hE rfl rfl hs (fun x => ?_)
  show RW layM E mi_X12_must Φ 0 [some (.ref (eA E 0)), some (.int (iz a1))] [] σ x
  refine r_aloadn (dc D_cX12_must_0 0 rfl) rfl rfl ?_
  refine r_iloadn (dc D_cX12_must_0 1 rfl) rfl rfl ?_
  refine r_callV (As := [.int (iz a1)]) (st := []) (dc D_cX12_must_0 2 rfl) cw_RX12_258 nm_yX12_takes_ (CX12_takes_ hE _ ra1 _ hs h) lM_0 rfl rfl (by decide) rfl rfl rfl (fun z1 σ2 rz1 hσ2 h => ?_)
  show RW layM E mi_X12_must Φ 5 [some (.ref (eA E 0)), some (.int (iz a1))] [.int (iz z1)] σ2 x
  refine r_if_ne (tgt := 16) (dc D_cX12_must_0 3 rfl) (by decide) rz1 (fun c3 => ?_) (fun c3 => ?_)
  · have h := h.1 c3
    exact r_vret (dc D_cX12_must_0 8 rfl) rfl h
  · have h := h.2 c3
    refine r_aloadn (dc D_cX12_must_0 4 rfl) rfl rfl ?_
    refine r_aloadn (dc D_cX12_must_0 5 rfl) rfl rfl ?_
    refine r_getI (dc D_cX12_must_0 6 rfl) fw_RX12_249 lM_0 rfl ?_
    refine r_callV (As := [.int (iz (σ2 0 30))]) (st := []) (dc D_cX12_must_0 7 rfl) cw_RX12_260 nm_yX12_wrong (CX12_wrong hE _ (hσ2 _ _) _ hσ2 h) lM_0 rfl rfl (by decide) rfl rfl rfl (fun z4 σ5 rz4 hσ5 h => ?_)
    show RW layM E mi_X12_must Φ 16 [some (.ref (eA E 0)), some (.int (iz a1))] [] σ5 x
    exact r_vret (dc D_cX12_must_0 8 rfl) rfl h
-- end of GateFlowModel.must
def mi_X12_readGate : MI := (cX12_readGate, RX12, 8, 4, none, 0)
def LX12_readGate_150 (s1 s2 s3 s4 s5 s6 : Int) (σ : PS) (Φ : Int → PS → Prop) : Prop :=
  FX12_comes s1 s2 s3 s4 s5 s6 σ (fun z1 σ2 =>
  Rg ((σ2 0 32) + 1) ∧
  ∀ σ4 : PS, σ4 = up2 σ2 0 32 ((σ2 0 32) + 1) →
  Φ 0 σ4)
def LX12_readGate_117 (x1 x2 x3 x4 x5 s0 : Int) (σ : PS) (Φ : Int → PS → Prop) : Prop :=
  FX12_takes_ 120 σ (fun z1 σ2 =>
  ((x1 = 0 →
    Rg ((σ2 0 32) + 1) ∧
    ∀ σ5 : PS, σ5 = up2 σ2 0 32 ((σ2 0 32) + 1) →
    Φ 0 σ5) ∧
  (¬ x1 = 0 →
    ((z1 = 0 →
      LX12_readGate_150 x2 x3 x4 x5 s0 1 σ2 Φ) ∧
    (¬ z1 = 0 →
      LX12_readGate_150 x2 x3 x4 x5 s0 0 σ2 Φ)))))
def LX12_readGate_97 (x1 x2 x3 x4 x5 : Int) (σ : PS) (Φ : Int → PS → Prop) : Prop :=
  FX12_takes_ 64 σ (fun z1 σ2 =>
  ((z1 = 0 →
    LX12_readGate_117 x1 x2 x3 x4 x5 1 σ2 Φ) ∧
  (¬ z1 = 0 →
    FX12_number 1 3 (-1) σ2 (fun z4 σ5 =>
    LX12_readGate_117 x1 x2 x3 x4 x5 z4 σ5 Φ))))
def LX12_readGate_28 (x1 : Int) (σ : PS) (Φ : Int → PS → Prop) : Prop :=
  FX12_number 0 11 (-1) σ (fun z1 σ2 =>
  FX12_must 62 σ2 (fun z3 σ4 =>
  FX12_number 0 11 z1 σ4 (fun z5 σ6 =>
  FX12_must 58 σ6 (fun z7 σ8 =>
  FX12_number 0 999 (-1) σ8 (fun z9 σ10 =>
  FX12_takes_ 45 σ10 (fun z11 σ12 =>
  ((z11 = 0 →
    LX12_readGate_97 x1 z1 z5 0 z9 σ12 Φ) ∧
  (¬ z11 = 0 →
    FX12_number z9 999 (-1) σ12 (fun z14 σ15 =>
    LX12_readGate_97 x1 z1 z5 z9 z14 σ15 Φ)))))))))
def FX12_readGate (a1 : Int) (σ : PS) (Φ : Int → PS → Prop) : Prop :=
  ((¬ a1 = 0 →
    LX12_readGate_28 a1 σ Φ) ∧
  (a1 = 0 →
    Rg ((σ 0 32) + (σ 1 2)) ∧
    ((¬ (σ 0 32) + (σ 1 2) = 30 →
      LX12_readGate_28 a1 σ Φ) ∧
    ((σ 0 32) + (σ 1 2) = 30 →
      FX12_wrong (σ 0 30) σ (fun z4 σ5 =>
      LX12_readGate_28 a1 σ5 Φ)))))
theorem fw_RX12_263 : FW RX12 263 12 32 := ⟨RX12, TX12, 39, rfl, by decide, rfl, tb_1 1251 (by decide +kernel), uw_12⟩
theorem fp_12_32 : FP 12 32 .int := ⟨RX12, TX12, 39, tyX12, rfl, tyX12_ok, nmX12, rfl, by decide +kernel⟩
theorem cw_RX12_266 : CWV RX12 266 yX12_number mi_X12_number := tb_r [1622, 1624, 80, 110, 1625] (by decide +kernel)
theorem nm_yX12_number : ynm yX12_number 3 := ⟨⟨by decide +kernel, by decide +kernel⟩, by decide +kernel⟩
theorem cw_RX12_268 : CWV RX12 268 yX12_must mi_X12_must := tb_r [1630, 1632, 82, 110, 1633] (by decide +kernel)
theorem nm_yX12_must : ynm yX12_must 1 := ⟨⟨by decide +kernel, by decide +kernel⟩, by decide +kernel⟩
set_option maxRecDepth 100000 in
theorem TX12_readGate_150 {E : EV} (hE : eOK layM E) {Φ : Int → PS → Prop} (x : CX) (s1 s2 s3 s4 s5 s6 : Int) (rs1 : Rg s1) (rs2 : Rg s2) (rs3 : Rg s3) (rs4 : Rg s4) (rs5 : Rg s5) (rs6 : Rg s6) (σ : PS) (hs : RS σ) (h : LX12_readGate_150 s1 s2 s3 s4 s5 s6 σ Φ) : RW layM E mi_X12_readGate Φ 150 [some (.ref (eA E 0)), none, none, none, none, none, none, none] [.int (iz s6), .int (iz s5), .int (iz s4), .int (iz s3), .int (iz s2), .int (iz s1), .ref (eA E 0)] σ x := by
  refine r_callV (As := [.int (iz s1), .int (iz s2), .int (iz s3), .int (iz s4), .int (iz s5), .int (iz s6)]) (st := []) (dc D_cX12_readGate_2 2 rfl) cw_RX12_109 nm_yX12_comes (CX12_comes hE _ _ _ _ _ _ rs1 rs2 rs3 rs4 rs5 rs6 _ hs h) lM_0 rfl rfl (by decide) rfl rfl rfl (fun z1 σ2 rz1 hσ2 h => ?_)
  show RW layM E mi_X12_readGate Φ 153 [some (.ref (eA E 0)), none, none, none, none, none, none, none] [] σ2 x
  refine r_aloadn (dc D_cX12_readGate_2 3 rfl) rfl rfl ?_
  refine r_dup (dc D_cX12_readGate_2 4 rfl) rfl ?_
  refine r_getI (dc D_cX12_readGate_2 5 rfl) fw_RX12_263 lM_0 rfl ?_
  refine r_iconst (n := 1) (dc D_cX12_readGate_2 6 rfl) ?_
  refine r_iadd (dc D_cX12_readGate_2 7 rfl) ?_
  obtain ⟨o3, h⟩ := h
  refine r_put (dc D_cX12_readGate_2 8 rfl) fw_RX12_263 fp_12_32 lM_0 rfl (nar_int _) o3 ?_
  refine r_sig (fun σ4 eσ4 => ?_)
  have h := h σ4 eσ4
  have hσ4 : RS σ4 := RS_eq eσ4 (RS.up hσ2 o3 _ _)
  exact r_vret (dc D_cX12_readGate_2 9 rfl) rfl h
set_option maxRecDepth 100000 in
theorem TX12_readGate_117 {E : EV} (hE : eOK layM E) {Φ : Int → PS → Prop} (x : CX) (x1 x2 x3 x4 x5 s0 : Int) (rx1 : Rg x1) (rx2 : Rg x2) (rx3 : Rg x3) (rx4 : Rg x4) (rx5 : Rg x5) (rs0 : Rg s0) (σ : PS) (hs : RS σ) (h : LX12_readGate_117 x1 x2 x3 x4 x5 s0 σ Φ) : RW layM E mi_X12_readGate Φ 117 [some (.ref (eA E 0)), some (.int (iz x1)), some (.int (iz x2)), some (.int (iz x3)), some (.int (iz x4)), some (.int (iz x5)), none, none] [.int (iz s0)] σ x := by
  refine r_istore (lv' := [some (.ref (eA E 0)), some (.int (iz x1)), some (.int (iz x2)), some (.int (iz x3)), some (.int (iz x4)), some (.int (iz x5)), some (.int (iz s0)), none]) (dc D_cX12_readGate_1 24 rfl) rfl rfl ?_
  refine r_aloadn (dc D_cX12_readGate_1 25 rfl) rfl rfl ?_
  refine r_bipush (n := 120) (dc D_cX12_readGate_1 26 rfl) (by decide +kernel) ?_
  refine r_callV (As := [.int (iz 120)]) (st := []) (dc D_cX12_readGate_1 27 rfl) cw_RX12_258 nm_yX12_takes_ (CX12_takes_ hE _ (Rl rfl) _ hs h) lM_0 rfl rfl (by decide) rfl rfl rfl (fun z1 σ2 rz1 hσ2 h => ?_)
  show RW layM E mi_X12_readGate Φ 125 [some (.ref (eA E 0)), some (.int (iz x1)), some (.int (iz x2)), some (.int (iz x3)), some (.int (iz x4)), some (.int (iz x5)), some (.int (iz s0)), none] [.int (iz z1)] σ2 x
  refine r_istore (lv' := [some (.ref (eA E 0)), some (.int (iz x1)), some (.int (iz x2)), some (.int (iz x3)), some (.int (iz x4)), some (.int (iz x5)), some (.int (iz s0)), some (.int (iz z1))]) (dc D_cX12_readGate_1 28 rfl) rfl rfl ?_
  refine r_iloadn (dc D_cX12_readGate_1 29 rfl) rfl rfl ?_
  refine r_if_eq (tgt := 153) (dc D_cX12_readGate_1 30 rfl) (by decide) rx1 (fun c3 => ?_) (fun c3 => ?_)
  · have h := h.1 c3
    refine r_aloadn (dc D_cX12_readGate_2 3 rfl) rfl rfl ?_
    refine r_dup (dc D_cX12_readGate_2 4 rfl) rfl ?_
    refine r_getI (dc D_cX12_readGate_2 5 rfl) fw_RX12_263 lM_0 rfl ?_
    refine r_iconst (n := 1) (dc D_cX12_readGate_2 6 rfl) ?_
    refine r_iadd (dc D_cX12_readGate_2 7 rfl) ?_
    obtain ⟨o4, h⟩ := h
    refine r_put (dc D_cX12_readGate_2 8 rfl) fw_RX12_263 fp_12_32 lM_0 rfl (nar_int _) o4 ?_
    refine r_sig (fun σ5 eσ5 => ?_)
    have h := h σ5 eσ5
    have hσ5 : RS σ5 := RS_eq eσ5 (RS.up hσ2 o4 _ _)
    exact r_vret (dc D_cX12_readGate_2 9 rfl) rfl h
  · have h := h.2 c3
    refine r_aloadn (dc D_cX12_readGate_1 31 rfl) rfl rfl ?_
    refine r_iloadn (dc D_cX12_readGate_1 32 rfl) rfl rfl ?_
    refine r_iloadn (dc D_cX12_readGate_1 33 rfl) rfl rfl ?_
    refine r_iload (dc D_cX12_readGate_1 34 rfl) rfl ?_
    refine r_iload (dc D_cX12_readGate_1 35 rfl) rfl ?_
    refine r_iload (dc D_cX12_readGate_1 36 rfl) rfl ?_
    refine r_iload (dc D_cX12_readGate_1 37 rfl) rfl ?_
    refine r_if_eq (tgt := 149) (dc D_cX12_readGate_1 38 rfl) (by decide) rz1 (fun c6 => ?_) (fun c6 => ?_)
    · have h := h.1 c6
      refine r_iconst (n := 1) (dc D_cX12_readGate_2 1 rfl) ?_
      refine r_sub (lv' := [some (.ref (eA E 0)), none, none, none, none, none, none, none]) (subL_s (subL_n (subL_n (subL_n (subL_n (subL_n (subL_n (subL_n subL_e)))))))) ?_
      exact TX12_readGate_150 hE x _ _ _ _ _ _ rx2 rx3 rx4 rx5 rs0 (Rl rfl) _ hσ2 h
    · have h := h.2 c6
      refine r_iconst (n := 0) (dc D_cX12_readGate_1 39 rfl) ?_
      refine r_goto (tgt := 150) (dc D_cX12_readGate_2 0 rfl) (by decide) ?_
      refine r_sub (lv' := [some (.ref (eA E 0)), none, none, none, none, none, none, none]) (subL_s (subL_n (subL_n (subL_n (subL_n (subL_n (subL_n (subL_n subL_e)))))))) ?_
      exact TX12_readGate_150 hE x _ _ _ _ _ _ rx2 rx3 rx4 rx5 rs0 (Rl rfl) _ hσ2 h
set_option maxRecDepth 100000 in
theorem TX12_readGate_97 {E : EV} (hE : eOK layM E) {Φ : Int → PS → Prop} (x : CX) (x1 x2 x3 x4 x5 : Int) (rx1 : Rg x1) (rx2 : Rg x2) (rx3 : Rg x3) (rx4 : Rg x4) (rx5 : Rg x5) (σ : PS) (hs : RS σ) (h : LX12_readGate_97 x1 x2 x3 x4 x5 σ Φ) : RW layM E mi_X12_readGate Φ 97 [some (.ref (eA E 0)), some (.int (iz x1)), some (.int (iz x2)), some (.int (iz x3)), some (.int (iz x4)), some (.int (iz x5)), none, none] [] σ x := by
  refine r_aloadn (dc D_cX12_readGate_1 13 rfl) rfl rfl ?_
  refine r_bipush (n := 64) (dc D_cX12_readGate_1 14 rfl) (by decide +kernel) ?_
  refine r_callV (As := [.int (iz 64)]) (st := []) (dc D_cX12_readGate_1 15 rfl) cw_RX12_258 nm_yX12_takes_ (CX12_takes_ hE _ (Rl rfl) _ hs h) lM_0 rfl rfl (by decide) rfl rfl rfl (fun z1 σ2 rz1 hσ2 h => ?_)
  show RW layM E mi_X12_readGate Φ 103 [some (.ref (eA E 0)), some (.int (iz x1)), some (.int (iz x2)), some (.int (iz x3)), some (.int (iz x4)), some (.int (iz x5)), none, none] [.int (iz z1)] σ2 x
  refine r_if_eq (tgt := 116) (dc D_cX12_readGate_1 16 rfl) (by decide) rz1 (fun c3 => ?_) (fun c3 => ?_)
  · have h := h.1 c3
    refine r_iconst (n := 1) (dc D_cX12_readGate_1 23 rfl) ?_
    exact TX12_readGate_117 hE x _ _ _ _ _ _ rx1 rx2 rx3 rx4 rx5 (Rl rfl) _ hσ2 h
  · have h := h.2 c3
    refine r_aloadn (dc D_cX12_readGate_1 17 rfl) rfl rfl ?_
    refine r_iconst (n := 1) (dc D_cX12_readGate_1 18 rfl) ?_
    refine r_iconst (n := 3) (dc D_cX12_readGate_1 19 rfl) ?_
    refine r_iconst (n := (-1)) (dc D_cX12_readGate_1 20 rfl) ?_
    refine r_callV (As := [.int (iz 1), .int (iz 3), .int (iz (-1))]) (st := []) (dc D_cX12_readGate_1 21 rfl) cw_RX12_266 nm_yX12_number (CX12_number hE _ _ _ (Rl rfl) (Rl rfl) (Rl rfl) _ hσ2 h) lM_0 rfl rfl (by decide) rfl rfl rfl (fun z4 σ5 rz4 hσ5 h => ?_)
    show RW layM E mi_X12_readGate Φ 113 [some (.ref (eA E 0)), some (.int (iz x1)), some (.int (iz x2)), some (.int (iz x3)), some (.int (iz x4)), some (.int (iz x5)), none, none] [.int (iz z4)] σ5 x
    refine r_goto (tgt := 117) (dc D_cX12_readGate_1 22 rfl) (by decide) ?_
    exact TX12_readGate_117 hE x _ _ _ _ _ _ rx1 rx2 rx3 rx4 rx5 rz4 _ hσ5 h
set_option maxRecDepth 100000 in
theorem TX12_readGate_28 {E : EV} (hE : eOK layM E) {Φ : Int → PS → Prop} (x : CX) (x1 : Int) (rx1 : Rg x1) (σ : PS) (hs : RS σ) (h : LX12_readGate_28 x1 σ Φ) : RW layM E mi_X12_readGate Φ 28 [some (.ref (eA E 0)), some (.int (iz x1)), none, none, none, none, none, none] [] σ x := by
  refine r_aloadn (dc D_cX12_readGate_0 15 rfl) rfl rfl ?_
  refine r_iconst (n := 0) (dc D_cX12_readGate_0 16 rfl) ?_
  refine r_bipush (n := 11) (dc D_cX12_readGate_0 17 rfl) (by decide +kernel) ?_
  refine r_iconst (n := (-1)) (dc D_cX12_readGate_0 18 rfl) ?_
  refine r_callV (As := [.int (iz 0), .int (iz 11), .int (iz (-1))]) (st := []) (dc D_cX12_readGate_0 19 rfl) cw_RX12_266 nm_yX12_number (CX12_number hE _ _ _ (Rl rfl) (Rl rfl) (Rl rfl) _ hs h) lM_0 rfl rfl (by decide) rfl rfl rfl (fun z1 σ2 rz1 hσ2 h => ?_)
  show RW layM E mi_X12_readGate Φ 36 [some (.ref (eA E 0)), some (.int (iz x1)), none, none, none, none, none, none] [.int (iz z1)] σ2 x
  refine r_istoren (lv' := [some (.ref (eA E 0)), some (.int (iz x1)), some (.int (iz z1)), none, none, none, none, none]) (dc D_cX12_readGate_0 20 rfl) rfl rfl rfl ?_
  refine r_aloadn (dc D_cX12_readGate_0 21 rfl) rfl rfl ?_
  refine r_bipush (n := 62) (dc D_cX12_readGate_0 22 rfl) (by decide +kernel) ?_
  refine r_callV (As := [.int (iz 62)]) (st := []) (dc D_cX12_readGate_0 23 rfl) cw_RX12_268 nm_yX12_must (CX12_must hE _ (Rl rfl) _ hσ2 h) lM_0 rfl rfl (by decide) rfl rfl rfl (fun z3 σ4 rz3 hσ4 h => ?_)
  show RW layM E mi_X12_readGate Φ 43 [some (.ref (eA E 0)), some (.int (iz x1)), some (.int (iz z1)), none, none, none, none, none] [] σ4 x
  refine r_aloadn (dc D_cX12_readGate_0 24 rfl) rfl rfl ?_
  refine r_iconst (n := 0) (dc D_cX12_readGate_0 25 rfl) ?_
  refine r_bipush (n := 11) (dc D_cX12_readGate_0 26 rfl) (by decide +kernel) ?_
  refine r_iloadn (dc D_cX12_readGate_0 27 rfl) rfl rfl ?_
  refine r_callV (As := [.int (iz 0), .int (iz 11), .int (iz z1)]) (st := []) (dc D_cX12_readGate_0 28 rfl) cw_RX12_266 nm_yX12_number (CX12_number hE _ _ _ (Rl rfl) (Rl rfl) rz1 _ hσ4 h) lM_0 rfl rfl (by decide) rfl rfl rfl (fun z5 σ6 rz5 hσ6 h => ?_)
  show RW layM E mi_X12_readGate Φ 51 [some (.ref (eA E 0)), some (.int (iz x1)), some (.int (iz z1)), none, none, none, none, none] [.int (iz z5)] σ6 x
  refine r_istoren (lv' := [some (.ref (eA E 0)), some (.int (iz x1)), some (.int (iz z1)), some (.int (iz z5)), none, none, none, none]) (dc D_cX12_readGate_0 29 rfl) rfl rfl rfl ?_
  refine r_aloadn (dc D_cX12_readGate_0 30 rfl) rfl rfl ?_
  refine r_bipush (n := 58) (dc D_cX12_readGate_0 31 rfl) (by decide +kernel) ?_
  refine r_callV (As := [.int (iz 58)]) (st := []) (dc D_cX12_readGate_0 32 rfl) cw_RX12_268 nm_yX12_must (CX12_must hE _ (Rl rfl) _ hσ6 h) lM_0 rfl rfl (by decide) rfl rfl rfl (fun z7 σ8 rz7 hσ8 h => ?_)
  show RW layM E mi_X12_readGate Φ 58 [some (.ref (eA E 0)), some (.int (iz x1)), some (.int (iz z1)), some (.int (iz z5)), none, none, none, none] [] σ8 x
  refine r_iconst (n := 0) (dc D_cX12_readGate_0 33 rfl) ?_
  refine r_istore (lv' := [some (.ref (eA E 0)), some (.int (iz x1)), some (.int (iz z1)), some (.int (iz z5)), some (.int (iz 0)), none, none, none]) (dc D_cX12_readGate_0 34 rfl) rfl rfl ?_
  refine r_aloadn (dc D_cX12_readGate_0 35 rfl) rfl rfl ?_
  refine r_iconst (n := 0) (dc D_cX12_readGate_0 36 rfl) ?_
  refine r_sipush (n := 999) (dc D_cX12_readGate_0 37 rfl) (by decide +kernel) ?_
  refine r_iconst (n := (-1)) (dc D_cX12_readGate_0 38 rfl) ?_
  refine r_callV (As := [.int (iz 0), .int (iz 999), .int (iz (-1))]) (st := []) (dc D_cX12_readGate_0 39 rfl) cw_RX12_266 nm_yX12_number (CX12_number hE _ _ _ (Rl rfl) (Rl rfl) (Rl rfl) _ hσ8 h) lM_0 rfl rfl (by decide) rfl rfl rfl (fun z9 σ10 rz9 hσ10 h => ?_)
  show RW layM E mi_X12_readGate Φ 70 [some (.ref (eA E 0)), some (.int (iz x1)), some (.int (iz z1)), some (.int (iz z5)), some (.int (iz 0)), none, none, none] [.int (iz z9)] σ10 x
  refine r_istore (lv' := [some (.ref (eA E 0)), some (.int (iz x1)), some (.int (iz z1)), some (.int (iz z5)), some (.int (iz 0)), some (.int (iz z9)), none, none]) (dc D_cX12_readGate_1 0 rfl) rfl rfl ?_
  refine r_aloadn (dc D_cX12_readGate_1 1 rfl) rfl rfl ?_
  refine r_bipush (n := 45) (dc D_cX12_readGate_1 2 rfl) (by decide +kernel) ?_
  refine r_callV (As := [.int (iz 45)]) (st := []) (dc D_cX12_readGate_1 3 rfl) cw_RX12_258 nm_yX12_takes_ (CX12_takes_ hE _ (Rl rfl) _ hσ10 h) lM_0 rfl rfl (by decide) rfl rfl rfl (fun z11 σ12 rz11 hσ12 h => ?_)
  show RW layM E mi_X12_readGate Φ 78 [some (.ref (eA E 0)), some (.int (iz x1)), some (.int (iz z1)), some (.int (iz z5)), some (.int (iz 0)), some (.int (iz z9)), none, none] [.int (iz z11)] σ12 x
  refine r_if_eq (tgt := 97) (dc D_cX12_readGate_1 4 rfl) (by decide) rz11 (fun c13 => ?_) (fun c13 => ?_)
  · have h := h.1 c13
    exact TX12_readGate_97 hE x _ _ _ _ _ rx1 rz1 rz5 (Rl rfl) rz9 _ hσ12 h
  · have h := h.2 c13
    refine r_iload (dc D_cX12_readGate_1 5 rfl) rfl ?_
    refine r_istore (lv' := [some (.ref (eA E 0)), some (.int (iz x1)), some (.int (iz z1)), some (.int (iz z5)), some (.int (iz z9)), some (.int (iz z9)), none, none]) (dc D_cX12_readGate_1 6 rfl) rfl rfl ?_
    refine r_aloadn (dc D_cX12_readGate_1 7 rfl) rfl rfl ?_
    refine r_iload (dc D_cX12_readGate_1 8 rfl) rfl ?_
    refine r_sipush (n := 999) (dc D_cX12_readGate_1 9 rfl) (by decide +kernel) ?_
    refine r_iconst (n := (-1)) (dc D_cX12_readGate_1 10 rfl) ?_
    refine r_callV (As := [.int (iz z9), .int (iz 999), .int (iz (-1))]) (st := []) (dc D_cX12_readGate_1 11 rfl) cw_RX12_266 nm_yX12_number (CX12_number hE _ _ _ rz9 (Rl rfl) (Rl rfl) _ hσ12 h) lM_0 rfl rfl (by decide) rfl rfl rfl (fun z14 σ15 rz14 hσ15 h => ?_)
    show RW layM E mi_X12_readGate Φ 95 [some (.ref (eA E 0)), some (.int (iz x1)), some (.int (iz z1)), some (.int (iz z5)), some (.int (iz z9)), some (.int (iz z9)), none, none] [.int (iz z14)] σ15 x
    refine r_istore (lv' := [some (.ref (eA E 0)), some (.int (iz x1)), some (.int (iz z1)), some (.int (iz z5)), some (.int (iz z9)), some (.int (iz z14)), none, none]) (dc D_cX12_readGate_1 12 rfl) rfl rfl ?_
    exact TX12_readGate_97 hE x _ _ _ _ _ rx1 rz1 rz5 rz9 rz14 _ hσ15 h
set_option maxRecDepth 100000 in
theorem CX12_readGate {E : EV} (hE : eOK layM E) {Φ : Int → PS → Prop} (a1 : Int) (ra1 : Rg a1) (σ : PS) (hs : RS σ) (h : FX12_readGate a1 σ Φ) : CT layM E yX12_readGate mi_X12_readGate [.ref (eA E 0), .int (iz a1)] σ Φ := by
  refine ct_of (by decide +kernel) rfl hE rfl rfl hs (fun x => ?_)
  show RW layM E mi_X12_readGate Φ 0 [some (.ref (eA E 0)), some (.int (iz a1)), none, none, none, none, none, none] [] σ x
  refine r_iloadn (dc D_cX12_readGate_0 0 rfl) rfl rfl ?_
  refine r_if_ne (tgt := 28) (dc D_cX12_readGate_0 1 rfl) (by decide) ra1 (fun c1 => ?_) (fun c1 => ?_)
  · have h := h.1 c1
    exact TX12_readGate_28 hE x _ ra1 _ hs h
  · have h := h.2 c1
    refine r_aloadn (dc D_cX12_readGate_0 2 rfl) rfl rfl ?_
    refine r_getI (dc D_cX12_readGate_0 3 rfl) fw_RX12_263 lM_0 rfl ?_
    refine r_aloadn (dc D_cX12_readGate_0 4 rfl) rfl rfl ?_
    refine r_getR (dc D_cX12_readGate_0 5 rfl) fw_RX12_9 lM_0 rfl ?_
    refine r_iconst (n := 2) (dc D_cX12_readGate_0 6 rfl) ?_
    refine r_iald (N := 183) (dc D_cX12_readGate_0 7 rfl) lM_1 rfl rfl ⟨by decide, by decide⟩ ?_
    refine r_iadd (dc D_cX12_readGate_0 8 rfl) ?_
    obtain ⟨o2, h⟩ := h
    refine r_bipush (n := 30) (dc D_cX12_readGate_0 9 rfl) (by decide +kernel) ?_
    refine r_icmp_ne (tgt := 28) (dc D_cX12_readGate_0 10 rfl) (by decide) o2 (Rl rfl) (fun c3 => ?_) (fun c3 => ?_)
    · have h := h.1 c3
      exact TX12_readGate_28 hE x _ ra1 _ hs h
    · have h := h.2 c3
      refine r_aloadn (dc D_cX12_readGate_0 11 rfl) rfl rfl ?_
      refine r_aloadn (dc D_cX12_readGate_0 12 rfl) rfl rfl ?_
      refine r_getI (dc D_cX12_readGate_0 13 rfl) fw_RX12_249 lM_0 rfl ?_
      refine r_callV (As := [.int (iz (σ 0 30))]) (st := []) (dc D_cX12_readGate_0 14 rfl) cw_RX12_260 nm_yX12_wrong (CX12_wrong hE _ (hs _ _) _ hs h) lM_0 rfl rfl (by decide) rfl rfl rfl (fun z4 σ5 rz4 hσ5 h => ?_)
      show RW layM E mi_X12_readGate Φ 28 [some (.ref (eA E 0)), some (.int (iz a1)), none, none, none, none, none, none] [] σ5 x
      exact TX12_readGate_28 hE x _ ra1 _ hσ5 h
-- end of GateFlowModel.readGate
def mi_X12_readBook : MI := (cX12_readBook, RX12, 2, 5, none, 0)
def BX12_readBook_14 (K14 : Int → PS → Prop) (x1 : Int) (σ : PS) (Φ : Int → PS → Prop) : Prop :=
  FX12_takes_ 59 σ (fun z1 σ2 =>
  ((z1 = 0 →
    ((σ2 0 29 ≤ σ2 0 30 →
      Φ 0 σ2) ∧
    (¬ σ2 0 29 ≤ σ2 0 30 →
      FX12_wrong (σ2 0 30) σ2 (fun z5 σ6 =>
      Φ 0 σ6)))) ∧
  (¬ z1 = 0 →
    FX12_readGate x1 σ2 (fun z7 σ8 =>
    K14 x1 σ8))))
def LX12_readBook_14 : Nat → Int → PS → (Int → PS → Prop) → Prop
  | 0, _, _, _ => False
  | n + 1, x1, σ, Φ => BX12_readBook_14 (fun x1 σ => LX12_readBook_14 n x1 σ Φ) x1 σ Φ
def FX12_readBook (a1 : Int) (σ : PS) (Φ : Int → PS → Prop) : Prop :=
  FX12_begins σ (fun z1 σ2 =>
  ∀ σ3 : PS, σ3 = up2 σ2 0 32 0 →
  FX12_readGate a1 σ3 (fun z4 σ5 =>
  ∃ n, LX12_readBook_14 n a1 σ5 Φ))
theorem cw_RX12_274 : CWV RX12 274 yX12_readGate mi_X12_readGate := tb_r [1614, 1616, 78, 110, 1617] (by decide +kernel)
theorem nm_yX12_readGate : ynm yX12_readGate 1 := ⟨⟨by decide +kernel, by decide +kernel⟩, by decide +kernel⟩
theorem cw_RX12_271 : CWV RX12 271 yX12_begins mi_X12_begins := tb_r [1610, 1612, 77, 110, 1613] (by decide +kernel)
theorem nm_yX12_begins : ynm yX12_begins 0 := ⟨⟨by decide +kernel, by decide +kernel⟩, by decide +kernel⟩
set_option maxRecDepth 100000 in
theorem TBX12_readBook_14 {E : EV} (hE : eOK layM E) {Φ : Int → PS → Prop} {K14 : Int → PS → Prop} (x : CX) (hK14 : ∀ (x1 : Int) (σ : PS), Rg x1 → RS σ → K14 x1 σ → RW layM E mi_X12_readBook Φ 14 [some (.ref (eA E 0)), some (.int (iz x1))] [] σ x) (x1 : Int) (rx1 : Rg x1) (σ : PS) (hs : RS σ) (h : BX12_readBook_14 K14 x1 σ Φ) : RW layM E mi_X12_readBook Φ 14 [some (.ref (eA E 0)), some (.int (iz x1))] [] σ x := by
  refine r_aloadn (dc D_cX12_readBook_0 8 rfl) rfl rfl ?_
  refine r_bipush (n := 59) (dc D_cX12_readBook_0 9 rfl) (by decide +kernel) ?_
  refine r_callV (As := [.int (iz 59)]) (st := []) (dc D_cX12_readBook_0 10 rfl) cw_RX12_258 nm_yX12_takes_ (CX12_takes_ hE _ (Rl rfl) _ hs h) lM_0 rfl rfl (by decide) rfl rfl rfl (fun z1 σ2 rz1 hσ2 h => ?_)
  show RW layM E mi_X12_readBook Φ 20 [some (.ref (eA E 0)), some (.int (iz x1))] [.int (iz z1)] σ2 x
  refine r_if_eq (tgt := 31) (dc D_cX12_readBook_0 11 rfl) (by decide) rz1 (fun c3 => ?_) (fun c3 => ?_)
  · have h := h.1 c3
    refine r_aloadn (dc D_cX12_readBook_0 16 rfl) rfl rfl ?_
    refine r_getI (dc D_cX12_readBook_0 17 rfl) fw_RX12_249 lM_0 rfl ?_
    refine r_aloadn (dc D_cX12_readBook_0 18 rfl) rfl rfl ?_
    refine r_getI (dc D_cX12_readBook_0 19 rfl) fw_RX12_246 lM_0 rfl ?_
    refine r_icmp_ge (tgt := 50) (dc D_cX12_readBook_0 20 rfl) (by decide) (hσ2 _ _) (hσ2 _ _) (fun c4 => ?_) (fun c4 => ?_)
    · have h := h.1 c4
      exact r_vret (dc D_cX12_readBook_0 25 rfl) rfl h
    · have h := h.2 c4
      refine r_aloadn (dc D_cX12_readBook_0 21 rfl) rfl rfl ?_
      refine r_aloadn (dc D_cX12_readBook_0 22 rfl) rfl rfl ?_
      refine r_getI (dc D_cX12_readBook_0 23 rfl) fw_RX12_249 lM_0 rfl ?_
      refine r_callV (As := [.int (iz (σ2 0 30))]) (st := []) (dc D_cX12_readBook_0 24 rfl) cw_RX12_260 nm_yX12_wrong (CX12_wrong hE _ (hσ2 _ _) _ hσ2 h) lM_0 rfl rfl (by decide) rfl rfl rfl (fun z5 σ6 rz5 hσ6 h => ?_)
      show RW layM E mi_X12_readBook Φ 50 [some (.ref (eA E 0)), some (.int (iz x1))] [] σ6 x
      exact r_vret (dc D_cX12_readBook_0 25 rfl) rfl h
  · have h := h.2 c3
    refine r_aloadn (dc D_cX12_readBook_0 12 rfl) rfl rfl ?_
    refine r_iloadn (dc D_cX12_readBook_0 13 rfl) rfl rfl ?_
    refine r_callV (As := [.int (iz x1)]) (st := []) (dc D_cX12_readBook_0 14 rfl) cw_RX12_274 nm_yX12_readGate (CX12_readGate hE _ rx1 _ hσ2 h) lM_0 rfl rfl (by decide) rfl rfl rfl (fun z7 σ8 rz7 hσ8 h => ?_)
    show RW layM E mi_X12_readBook Φ 28 [some (.ref (eA E 0)), some (.int (iz x1))] [] σ8 x
    refine r_goto (tgt := 14) (dc D_cX12_readBook_0 15 rfl) (by decide) ?_
    exact hK14 _ _ rx1 hσ8 h
theorem TX12_readBook_14 {E : EV} (hE : eOK layM E) {Φ : Int → PS → Prop} (x : CX) (n : Nat) : ∀ (x1 : Int) (σ : PS), Rg x1 → RS σ → LX12_readBook_14 n x1 σ Φ → RW layM E mi_X12_readBook Φ 14 [some (.ref (eA E 0)), some (.int (iz x1))] [] σ x := by
  induction n with
  | zero => intro x1 σ _ _ h; exact h.elim
  | succ n ih => intro x1 σ rx1 hs h; exact TBX12_readBook_14 hE x ih x1 rx1 σ hs h
set_option maxRecDepth 100000 in
theorem CX12_readBook {E : EV} (hE : eOK layM E) {Φ : Int → PS → Prop} (a1 : Int) (ra1 : Rg a1) (σ : PS) (hs : RS σ) (h : FX12_readBook a1 σ Φ) : CT layM E yX12_readBook mi_X12_readBook [.ref (eA E 0), .int (iz a1)] σ Φ := by
  refine ct_of (by decide +kernel) rfl hE rfl rfl hs (fun x => ?_)
  show RW layM E mi_X12_readBook Φ 0 [some (.ref (eA E 0)), some (.int (iz a1))] [] σ x
  refine r_aloadn (dc D_cX12_readBook_0 0 rfl) rfl rfl ?_
  refine r_callV (As := []) (st := []) (dc D_cX12_readBook_0 1 rfl) cw_RX12_271 nm_yX12_begins (CX12_begins hE  _ hs h) lM_0 rfl rfl (by decide) rfl rfl rfl (fun z1 σ2 rz1 hσ2 h => ?_)
  show RW layM E mi_X12_readBook Φ 4 [some (.ref (eA E 0)), some (.int (iz a1))] [] σ2 x
  refine r_aloadn (dc D_cX12_readBook_0 2 rfl) rfl rfl ?_
  refine r_iconst (n := 0) (dc D_cX12_readBook_0 3 rfl) ?_
  refine r_put (dc D_cX12_readBook_0 4 rfl) fw_RX12_263 fp_12_32 lM_0 rfl (nar_int _) (Rl rfl) ?_
  refine r_sig (fun σ3 eσ3 => ?_)
  have h := h σ3 eσ3
  have hσ3 : RS σ3 := RS_eq eσ3 (RS.up hσ2 (Rl rfl) _ _)
  refine r_aloadn (dc D_cX12_readBook_0 5 rfl) rfl rfl ?_
  refine r_iloadn (dc D_cX12_readBook_0 6 rfl) rfl rfl ?_
  refine r_callV (As := [.int (iz a1)]) (st := []) (dc D_cX12_readBook_0 7 rfl) cw_RX12_274 nm_yX12_readGate (CX12_readGate hE _ ra1 _ hσ3 h) lM_0 rfl rfl (by decide) rfl rfl rfl (fun z4 σ5 rz4 hσ5 h => ?_)
  show RW layM E mi_X12_readBook Φ 14 [some (.ref (eA E 0)), some (.int (iz a1))] [] σ5 x
  obtain ⟨n, h⟩ := h
  exact TX12_readBook_14 hE x n _ _ ra1 hσ5 h
-- end of GateFlowModel.readBook
def mi_X12_read : MI := (cX12_read, RX12, 2, 6, (some .int), 1)
def LX12_read_27 (x1 : Int) (σ : PS) (Φ : Int → PS → Prop) : Prop :=
  ∀ σ1 : PS, σ1 = up2 σ 0 29 0 →
  ((x1 = 0 →
    Rg ((-100) - (σ1 0 31)) ∧
    Φ ((-100) - (σ1 0 31)) σ1) ∧
  (¬ x1 = 0 →
    Φ (σ1 0 32) σ1))
def LX12_read_17 (s0 : Int) (σ : PS) (Φ : Int → PS → Prop) : Prop :=
  ((s0 = 0 →
    LX12_read_27 s0 σ Φ) ∧
  (¬ s0 = 0 →
    FX12_readBook 1 σ (fun z2 σ3 =>
    LX12_read_27 s0 σ3 Φ)))
def FX12_read (σ : PS) (Φ : Int → PS → Prop) : Prop :=
  FX12_readBook 0 σ (fun z1 σ2 =>
  ((0 ≤ σ2 0 31 →
    LX12_read_17 0 σ2 Φ) ∧
  (¬ 0 ≤ σ2 0 31 →
    LX12_read_17 1 σ2 Φ)))
theorem cw_RX12_278 : CWV RX12 278 yX12_readBook mi_X12_readBook := tb_r [1606, 1608, 76, 110, 1609] (by decide +kernel)
theorem nm_yX12_readBook : ynm yX12_readBook 1 := ⟨⟨by decide +kernel, by decide +kernel⟩, by decide +kernel⟩
set_option maxRecDepth 100000 in
theorem TX12_read_27 {E : EV} (hE : eOK layM E) {Φ : Int → PS → Prop} (x : CX) (x1 : Int) (rx1 : Rg x1) (σ : PS) (hs : RS σ) (h : LX12_read_27 x1 σ Φ) : RW layM E mi_X12_read Φ 27 [some (.ref (eA E 0)), some (.int (iz x1))] [] σ x := by
  refine r_aloadn (dc D_cX12_read_0 15 rfl) rfl rfl ?_
  refine r_iconst (n := 0) (dc D_cX12_read_0 16 rfl) ?_
  refine r_put (dc D_cX12_read_0 17 rfl) fw_RX12_246 fp_12_29 lM_0 rfl (nar_int _) (Rl rfl) ?_
  refine r_sig (fun σ1 eσ1 => ?_)
  have h := h σ1 eσ1
  have hσ1 : RS σ1 := RS_eq eσ1 (RS.up hs (Rl rfl) _ _)
  refine r_iloadn (dc D_cX12_read_0 18 rfl) rfl rfl ?_
  refine r_if_eq (tgt := 43) (dc D_cX12_read_0 19 rfl) (by decide) rx1 (fun c2 => ?_) (fun c2 => ?_)
  · have h := h.1 c2
    refine r_bipush (n := (-100)) (dc D_cX12_read_0 23 rfl) (by decide +kernel) ?_
    refine r_aloadn (dc D_cX12_read_0 24 rfl) rfl rfl ?_
    refine r_getI (dc D_cX12_read_0 25 rfl) fw_RX12_252 lM_0 rfl ?_
    refine r_isub (dc D_cX12_read_0 26 rfl) ?_
    obtain ⟨o3, h⟩ := h
    exact r_iret (dc D_cX12_read_0 27 rfl) rfl o3 h
  · have h := h.2 c2
    refine r_aloadn (dc D_cX12_read_0 20 rfl) rfl rfl ?_
    refine r_getI (dc D_cX12_read_0 21 rfl) fw_RX12_263 lM_0 rfl ?_
    refine r_goto (tgt := 50) (dc D_cX12_read_0 22 rfl) (by decide) ?_
    exact r_iret (dc D_cX12_read_0 27 rfl) rfl (hσ1 _ _) h
set_option maxRecDepth 100000 in
theorem TX12_read_17 {E : EV} (hE : eOK layM E) {Φ : Int → PS → Prop} (x : CX) (s0 : Int) (rs0 : Rg s0) (σ : PS) (hs : RS σ) (h : LX12_read_17 s0 σ Φ) : RW layM E mi_X12_read Φ 17 [some (.ref (eA E 0)), none] [.int (iz s0)] σ x := by
  refine r_istoren (lv' := [some (.ref (eA E 0)), some (.int (iz s0))]) (dc D_cX12_read_0 9 rfl) rfl rfl rfl ?_
  refine r_iloadn (dc D_cX12_read_0 10 rfl) rfl rfl ?_
  refine r_if_eq (tgt := 27) (dc D_cX12_read_0 11 rfl) (by decide) rs0 (fun c1 => ?_) (fun c1 => ?_)
  · have h := h.1 c1
    exact TX12_read_27 hE x _ rs0 _ hs h
  · have h := h.2 c1
    refine r_aloadn (dc D_cX12_read_0 12 rfl) rfl rfl ?_
    refine r_iconst (n := 1) (dc D_cX12_read_0 13 rfl) ?_
    refine r_callV (As := [.int (iz 1)]) (st := []) (dc D_cX12_read_0 14 rfl) cw_RX12_278 nm_yX12_readBook (CX12_readBook hE _ (Rl rfl) _ hs h) lM_0 rfl rfl (by decide) rfl rfl rfl (fun z2 σ3 rz2 hσ3 h => ?_)
    show RW layM E mi_X12_read Φ 27 [some (.ref (eA E 0)), some (.int (iz s0))] [] σ3 x
    exact TX12_read_27 hE x _ rs0 _ hσ3 h
set_option maxRecDepth 100000 in
theorem CX12_read {E : EV} (hE : eOK layM E) {Φ : Int → PS → Prop} (σ : PS) (hs : RS σ) (h : FX12_read σ Φ) : CT layM E yX12_read mi_X12_read [.ref (eA E 0)] σ Φ := by
  refine ct_of (by decide +kernel) rfl hE rfl rfl hs (fun x => ?_)
  show RW layM E mi_X12_read Φ 0 [some (.ref (eA E 0)), none] [] σ x
  refine r_aloadn (dc D_cX12_read_0 0 rfl) rfl rfl ?_
  refine r_iconst (n := 0) (dc D_cX12_read_0 1 rfl) ?_
  refine r_callV (As := [.int (iz 0)]) (st := []) (dc D_cX12_read_0 2 rfl) cw_RX12_278 nm_yX12_readBook (CX12_readBook hE _ (Rl rfl) _ hs h) lM_0 rfl rfl (by decide) rfl rfl rfl (fun z1 σ2 rz1 hσ2 h => ?_)
  show RW layM E mi_X12_read Φ 5 [some (.ref (eA E 0)), none] [] σ2 x
  refine r_aloadn (dc D_cX12_read_0 3 rfl) rfl rfl ?_
  refine r_getI (dc D_cX12_read_0 4 rfl) fw_RX12_252 lM_0 rfl ?_
  refine r_if_ge (tgt := 16) (dc D_cX12_read_0 5 rfl) (by decide) (hσ2 _ _) (fun c3 => ?_) (fun c3 => ?_)
  · have h := h.1 c3
    refine r_iconst (n := 0) (dc D_cX12_read_0 8 rfl) ?_
    exact TX12_read_17 hE x _ (Rl rfl) _ hσ2 h
  · have h := h.2 c3
    refine r_iconst (n := 1) (dc D_cX12_read_0 6 rfl) ?_
    refine r_goto (tgt := 17) (dc D_cX12_read_0 7 rfl) (by decide) ?_
    exact TX12_read_17 hE x _ (Rl rfl) _ hσ2 h
-- end of GateFlowModel.read
def mi_X12_either (d : Nat) : MI := (cX12_either, RX12, 2, 20 + d, (some .boolean), 1)
def mi_X12_both (d : Nat) : MI := (cX12_both, RX12, 2, 20 + d, (some .boolean), 1)
def mi_X12_one (d : Nat) : MI := (cX12_one, RX12, 5, 20 + d, (some .boolean), 1)
def mi_X12_word : MI := (cX12_word, RX12, 5, 8, (some .int), 1)
def LX12_word_154 (K41 : Int → Int → PS → Prop) (x1 x2 x3 : Int) (σ : PS) (Φ : Int → PS → Prop) : Prop :=
  ((x3 = 0 →
    Rg (x2 + 1) ∧
    K41 x1 (x2 + 1) σ) ∧
  (¬ x3 = 0 →
    Φ x2 σ))
def LX12_word_147 (K41 : Int → Int → PS → Prop) (K104 : Int → Int → Int → Int → PS → Prop) (x1 x2 x4 s0 : Int) (σ : PS) (Φ : Int → PS → Prop) : Prop :=
  Rg (x4 + 1) ∧
  K104 x1 x2 s0 (x4 + 1) σ
def BX12_word_104 (K41 : Int → Int → PS → Prop) (K104 : Int → Int → Int → Int → PS → Prop) (x1 x2 x3 x4 : Int) (σ : PS) (Φ : Int → PS → Prop) : Prop :=
  ((σ 0 30 ≤ x4 →
    LX12_word_154 K41 x1 x2 x3 σ Φ) ∧
  (¬ σ 0 30 ≤ x4 →
    ((x3 = 0 →
      LX12_word_154 K41 x1 x2 x3 σ Φ) ∧
    (¬ x3 = 0 →
      Rg (7 * x2) ∧
      Rg ((7 * x2) + x4) ∧
      Rg (((7 * x2) + x4) - x1) ∧
      (8 < 9 ∧ 0 ≤ ((7 * x2) + x4) - x1 ∧ ((7 * x2) + x4) - x1 < slen 8) ∧
      (0 ≤ x4 ∧ x4 < 90) ∧
      ((¬ schr 8 (((7 * x2) + x4) - x1).toNat = σ 23 x4.toNat →
        LX12_word_147 K41 K104 x1 x2 x4 0 σ Φ) ∧
      (schr 8 (((7 * x2) + x4) - x1).toNat = σ 23 x4.toNat →
        LX12_word_147 K41 K104 x1 x2 x4 1 σ Φ))))))
def LX12_word_104 (K41 : Int → Int → PS → Prop) : Nat → Int → Int → Int → Int → PS → (Int → PS → Prop) → Prop
  | 0, _, _, _, _, _, _ => False
  | n + 1, x1, x2, x3, x4, σ, Φ => BX12_word_104 K41 (fun x1 x2 x3 x4 σ => LX12_word_104 K41 n x1 x2 x3 x4 σ Φ) x1 x2 x3 x4 σ Φ
def LX12_word_100 (K41 : Int → Int → PS → Prop) (x1 x2 s0 : Int) (σ : PS) (Φ : Int → PS → Prop) : Prop :=
  ∃ n, LX12_word_104 K41 n x1 x2 s0 x1 σ Φ
def LX12_word_99 (K41 : Int → Int → PS → Prop) (x1 x2 : Int) (σ : PS) (Φ : Int → PS → Prop) : Prop :=
  LX12_word_100 K41 x1 x2 0 σ Φ
def BX12_word_41 (K41 : Int → Int → PS → Prop) (x1 x2 : Int) (σ : PS) (Φ : Int → PS → Prop) : Prop :=
  8 < 9 ∧
  0 ≤ slen 8 ∧
  (((slen 8) / 7 ≤ x2 →
    FX12_wrong x1 σ (fun z4 σ5 =>
    Φ 0 σ5)) ∧
  (¬ (slen 8) / 7 ≤ x2 →
    ((σ 0 30 ≤ x1 →
      LX12_word_99 K41 x1 x2 σ Φ) ∧
    (¬ σ 0 30 ≤ x1 →
      Rg ((σ 0 30) - x1) ∧
      ((7 ≤ (σ 0 30) - x1 →
        LX12_word_99 K41 x1 x2 σ Φ) ∧
      (¬ 7 ≤ (σ 0 30) - x1 →
        Rg (7 * x2) ∧
        Rg ((7 * x2) + (σ 0 30)) ∧
        Rg (((7 * x2) + (σ 0 30)) - x1) ∧
        (8 < 9 ∧ 0 ≤ ((7 * x2) + (σ 0 30)) - x1 ∧ ((7 * x2) + (σ 0 30)) - x1 < slen 8) ∧
        ((¬ schr 8 (((7 * x2) + (σ 0 30)) - x1).toNat = 32 →
          LX12_word_99 K41 x1 x2 σ Φ) ∧
        (schr 8 (((7 * x2) + (σ 0 30)) - x1).toNat = 32 →
          LX12_word_100 K41 x1 x2 1 σ Φ))))))))
def LX12_word_41 : Nat → Int → Int → PS → (Int → PS → Prop) → Prop
  | 0, _, _, _, _ => False
  | n + 1, x1, x2, σ, Φ => BX12_word_41 (fun x1 x2 σ => LX12_word_41 n x1 x2 σ Φ) x1 x2 σ Φ
def LX12_word_39 (x1 : Int) (σ : PS) (Φ : Int → PS → Prop) : Prop :=
  ∃ n, LX12_word_41 n x1 0 σ Φ
def BX12_word_5 (K5 : Int → PS → Prop) (x1 : Int) (σ : PS) (Φ : Int → PS → Prop) : Prop :=
  ((0 ≤ σ 0 31 →
    LX12_word_39 x1 σ Φ) ∧
  (¬ 0 ≤ σ 0 31 →
    FX12_here σ (fun z2 σ3 =>
    FX12_in z2 97 122 σ3 (fun z4 σ5 =>
    ((z4 = 0 →
      LX12_word_39 x1 σ5 Φ) ∧
    (¬ z4 = 0 →
      Rg ((σ5 0 30) + 1) ∧
      ∀ σ8 : PS, σ8 = up2 σ5 0 30 ((σ5 0 30) + 1) →
      K5 x1 σ8))))))
def LX12_word_5 : Nat → Int → PS → (Int → PS → Prop) → Prop
  | 0, _, _, _ => False
  | n + 1, x1, σ, Φ => BX12_word_5 (fun x1 σ => LX12_word_5 n x1 σ Φ) x1 σ Φ
def FX12_word (σ : PS) (Φ : Int → PS → Prop) : Prop :=
  ∀ v1 : Int, v1 = σ 0 30 →
  ∃ n, LX12_word_5 n v1 σ Φ
theorem cw_RX12_310 : CWV RX12 310 yJ0_charAt_5068e mi_ScharAt := tb_r [1668, 1031, 1032, 113, 1033] (by decide +kernel)
theorem cw_RX12_305 : CWV RX12 305 yJ0_length_8abf5 mi_Slength := tb_r [1667, 1021, 1022, 113, 1023] (by decide +kernel)
set_option maxRecDepth 100000 in
theorem TX12_word_154 {E : EV} (hE : eOK layM E) {Φ : Int → PS → Prop} {K41 : Int → Int → PS → Prop} (x : CX) (hK41 : ∀ (x1 x2 : Int) (σ : PS), Rg x1 → Rg x2 → RS σ → K41 x1 x2 σ → RW layM E mi_X12_word Φ 41 [some (.ref (eA E 0)), some (.int (iz x1)), some (.int (iz x2)), none, none] [] σ x) (x1 x2 x3 : Int) (rx1 : Rg x1) (rx2 : Rg x2) (rx3 : Rg x3) (σ : PS) (hs : RS σ) (h : LX12_word_154 K41 x1 x2 x3 σ Φ) : RW layM E mi_X12_word Φ 154 [some (.ref (eA E 0)), some (.int (iz x1)), some (.int (iz x2)), some (.int (iz x3)), none] [] σ x := by
  refine r_iloadn (dc D_cX12_word_2 1 rfl) rfl rfl ?_
  refine r_if_eq (tgt := 160) (dc D_cX12_word_2 2 rfl) (by decide) rx3 (fun c1 => ?_) (fun c1 => ?_)
  · have h := h.1 c1
    obtain ⟨o2, h⟩ := h
    refine r_iinc (lv' := [some (.ref (eA E 0)), some (.int (iz x1)), some (.int (iz (x2 + 1))), some (.int (iz x3)), none]) (dc D_cX12_word_2 5 rfl) rfl rfl rfl ?_
    refine r_goto (tgt := 41) (dc D_cX12_word_2 6 rfl) (by decide) ?_
    refine r_sub (lv' := [some (.ref (eA E 0)), some (.int (iz x1)), some (.int (iz (x2 + 1))), none, none]) (subL_s (subL_s (subL_s (subL_n (subL_n subL_e))))) ?_
    exact hK41 _ _ _ rx1 o2 hs h
  · have h := h.2 c1
    refine r_iloadn (dc D_cX12_word_2 3 rfl) rfl rfl ?_
    exact r_iret (dc D_cX12_word_2 4 rfl) rfl rx2 h
set_option maxRecDepth 100000 in
theorem TX12_word_147 {E : EV} (hE : eOK layM E) {Φ : Int → PS → Prop} {K41 : Int → Int → PS → Prop} {K104 : Int → Int → Int → Int → PS → Prop} (x : CX) (hK41 : ∀ (x1 x2 : Int) (σ : PS), Rg x1 → Rg x2 → RS σ → K41 x1 x2 σ → RW layM E mi_X12_word Φ 41 [some (.ref (eA E 0)), some (.int (iz x1)), some (.int (iz x2)), none, none] [] σ x) (hK104 : ∀ (x1 x2 x3 x4 : Int) (σ : PS), Rg x1 → Rg x2 → Rg x3 → Rg x4 → RS σ → K104 x1 x2 x3 x4 σ → RW layM E mi_X12_word Φ 104 [some (.ref (eA E 0)), some (.int (iz x1)), some (.int (iz x2)), some (.int (iz x3)), some (.int (iz x4))] [] σ x) (x1 x2 x4 s0 : Int) (rx1 : Rg x1) (rx2 : Rg x2) (rx4 : Rg x4) (rs0 : Rg s0) (σ : PS) (hs : RS σ) (h : LX12_word_147 K41 K104 x1 x2 x4 s0 σ Φ) : RW layM E mi_X12_word Φ 147 [some (.ref (eA E 0)), some (.int (iz x1)), some (.int (iz x2)), none, some (.int (iz x4))] [.int (iz s0)] σ x := by
  refine r_istoren (lv' := [some (.ref (eA E 0)), some (.int (iz x1)), some (.int (iz x2)), some (.int (iz s0)), some (.int (iz x4))]) (dc D_cX12_word_1 38 rfl) rfl rfl rfl ?_
  obtain ⟨o1, h⟩ := h
  refine r_iinc (lv' := [some (.ref (eA E 0)), some (.int (iz x1)), some (.int (iz x2)), some (.int (iz s0)), some (.int (iz (x4 + 1)))]) (dc D_cX12_word_1 39 rfl) rfl rfl rfl ?_
  refine r_goto (tgt := 104) (dc D_cX12_word_2 0 rfl) (by decide) ?_
  exact hK104 _ _ _ _ _ rx1 rx2 rs0 o1 hs h
set_option maxRecDepth 100000 in
theorem TBX12_word_104 {E : EV} (hE : eOK layM E) {Φ : Int → PS → Prop} {K41 : Int → Int → PS → Prop} {K104 : Int → Int → Int → Int → PS → Prop} (x : CX) (hK41 : ∀ (x1 x2 : Int) (σ : PS), Rg x1 → Rg x2 → RS σ → K41 x1 x2 σ → RW layM E mi_X12_word Φ 41 [some (.ref (eA E 0)), some (.int (iz x1)), some (.int (iz x2)), none, none] [] σ x) (hK104 : ∀ (x1 x2 x3 x4 : Int) (σ : PS), Rg x1 → Rg x2 → Rg x3 → Rg x4 → RS σ → K104 x1 x2 x3 x4 σ → RW layM E mi_X12_word Φ 104 [some (.ref (eA E 0)), some (.int (iz x1)), some (.int (iz x2)), some (.int (iz x3)), some (.int (iz x4))] [] σ x) (x1 x2 x3 x4 : Int) (rx1 : Rg x1) (rx2 : Rg x2) (rx3 : Rg x3) (rx4 : Rg x4) (σ : PS) (hs : RS σ) (h : BX12_word_104 K41 K104 x1 x2 x3 x4 σ Φ) : RW layM E mi_X12_word Φ 104 [some (.ref (eA E 0)), some (.int (iz x1)), some (.int (iz x2)), some (.int (iz x3)), some (.int (iz x4))] [] σ x := by
  refine r_iload (dc D_cX12_word_1 15 rfl) rfl ?_
  refine r_aloadn (dc D_cX12_word_1 16 rfl) rfl rfl ?_
  refine r_getI (dc D_cX12_word_1 17 rfl) fw_RX12_249 lM_0 rfl ?_
  refine r_icmp_ge (tgt := 154) (dc D_cX12_word_1 18 rfl) (by decide) rx4 (hs _ _) (fun c1 => ?_) (fun c1 => ?_)
  · have h := h.1 c1
    refine r_sub (lv' := [some (.ref (eA E 0)), some (.int (iz x1)), some (.int (iz x2)), some (.int (iz x3)), none]) (subL_s (subL_s (subL_s (subL_s (subL_n subL_e))))) ?_
    exact TX12_word_154 hE x hK41 _ _ _ rx1 rx2 rx3 _ hs h
  · have h := h.2 c1
    refine r_iloadn (dc D_cX12_word_1 19 rfl) rfl rfl ?_
    refine r_if_eq (tgt := 154) (dc D_cX12_word_1 20 rfl) (by decide) rx3 (fun c2 => ?_) (fun c2 => ?_)
    · have h := h.1 c2
      refine r_sub (lv' := [some (.ref (eA E 0)), some (.int (iz x1)), some (.int (iz x2)), some (.int (iz x3)), none]) (subL_s (subL_s (subL_s (subL_s (subL_n subL_e))))) ?_
      exact TX12_word_154 hE x hK41 _ _ _ rx1 rx2 rx3 _ hs h
    · have h := h.2 c2
      refine r_ldcwS (q := 8) (tx := "from   to     least  cap    delay  water  room   shut   ") (dc D_cX12_word_1 21 rfl) (by decide +kernel) ?_
      refine r_bipush (n := 7) (dc D_cX12_word_1 22 rfl) (by decide +kernel) ?_
      refine r_iloadn (dc D_cX12_word_1 23 rfl) rfl rfl ?_
      refine r_imul (dc D_cX12_word_1 24 rfl) ?_
      obtain ⟨o3, h⟩ := h
      refine r_iload (dc D_cX12_word_1 25 rfl) rfl ?_
      refine r_iadd (dc D_cX12_word_1 26 rfl) ?_
      obtain ⟨o4, h⟩ := h
      refine r_iloadn (dc D_cX12_word_1 27 rfl) rfl rfl ?_
      refine r_isub (dc D_cX12_word_1 28 rfl) ?_
      obtain ⟨o5, h⟩ := h
      obtain ⟨o6, h⟩ := h
      refine r_strat (dc D_cX12_word_1 29 rfl) cw_RX12_310 o6 rfl rfl ?_
      refine r_aloadn (dc D_cX12_word_1 30 rfl) rfl rfl ?_
      refine r_getR (dc D_cX12_word_1 31 rfl) fw_RX12_77 lM_0 rfl ?_
      refine r_iload (dc D_cX12_word_1 32 rfl) rfl ?_
      obtain ⟨o7, h⟩ := h
      refine r_bald (N := 90) (dc D_cX12_word_1 33 rfl) lM_23 rfl rfl o7 ?_
      refine r_icmp_ne (tgt := 146) (dc D_cX12_word_1 34 rfl) (by decide) (Rg_schr _ _) (hs _ _) (fun c8 => ?_) (fun c8 => ?_)
      · have h := h.1 c8
        refine r_iconst (n := 0) (dc D_cX12_word_1 37 rfl) ?_
        refine r_sub (lv' := [some (.ref (eA E 0)), some (.int (iz x1)), some (.int (iz x2)), none, some (.int (iz x4))]) (subL_s (subL_s (subL_s (subL_n (subL_s subL_e))))) ?_
        exact TX12_word_147 hE x hK41 hK104 _ _ _ _ rx1 rx2 rx4 (Rl rfl) _ hs h
      · have h := h.2 c8
        refine r_iconst (n := 1) (dc D_cX12_word_1 35 rfl) ?_
        refine r_goto (tgt := 147) (dc D_cX12_word_1 36 rfl) (by decide) ?_
        refine r_sub (lv' := [some (.ref (eA E 0)), some (.int (iz x1)), some (.int (iz x2)), none, some (.int (iz x4))]) (subL_s (subL_s (subL_s (subL_n (subL_s subL_e))))) ?_
        exact TX12_word_147 hE x hK41 hK104 _ _ _ _ rx1 rx2 rx4 (Rl rfl) _ hs h
theorem TX12_word_104 {E : EV} (hE : eOK layM E) {Φ : Int → PS → Prop} {K41 : Int → Int → PS → Prop} (x : CX) (hK41 : ∀ (x1 x2 : Int) (σ : PS), Rg x1 → Rg x2 → RS σ → K41 x1 x2 σ → RW layM E mi_X12_word Φ 41 [some (.ref (eA E 0)), some (.int (iz x1)), some (.int (iz x2)), none, none] [] σ x) (n : Nat) : ∀ (x1 x2 x3 x4 : Int) (σ : PS), Rg x1 → Rg x2 → Rg x3 → Rg x4 → RS σ → LX12_word_104 K41 n x1 x2 x3 x4 σ Φ → RW layM E mi_X12_word Φ 104 [some (.ref (eA E 0)), some (.int (iz x1)), some (.int (iz x2)), some (.int (iz x3)), some (.int (iz x4))] [] σ x := by
  induction n with
  | zero => intro x1 x2 x3 x4 σ _ _ _ _ _ h; exact h.elim
  | succ n ih => intro x1 x2 x3 x4 σ rx1 rx2 rx3 rx4 hs h; exact TBX12_word_104 hE x hK41 ih x1 x2 x3 x4 rx1 rx2 rx3 rx4 σ hs h
set_option maxRecDepth 100000 in
theorem TX12_word_100 {E : EV} (hE : eOK layM E) {Φ : Int → PS → Prop} {K41 : Int → Int → PS → Prop} (x : CX) (hK41 : ∀ (x1 x2 : Int) (σ : PS), Rg x1 → Rg x2 → RS σ → K41 x1 x2 σ → RW layM E mi_X12_word Φ 41 [some (.ref (eA E 0)), some (.int (iz x1)), some (.int (iz x2)), none, none] [] σ x) (x1 x2 s0 : Int) (rx1 : Rg x1) (rx2 : Rg x2) (rs0 : Rg s0) (σ : PS) (hs : RS σ) (h : LX12_word_100 K41 x1 x2 s0 σ Φ) : RW layM E mi_X12_word Φ 100 [some (.ref (eA E 0)), some (.int (iz x1)), some (.int (iz x2)), none, none] [.int (iz s0)] σ x := by
  refine r_istoren (lv' := [some (.ref (eA E 0)), some (.int (iz x1)), some (.int (iz x2)), some (.int (iz s0)), none]) (dc D_cX12_word_1 12 rfl) rfl rfl rfl ?_
  refine r_iloadn (dc D_cX12_word_1 13 rfl) rfl rfl ?_
  refine r_istore (lv' := [some (.ref (eA E 0)), some (.int (iz x1)), some (.int (iz x2)), some (.int (iz s0)), some (.int (iz x1))]) (dc D_cX12_word_1 14 rfl) rfl rfl ?_
  obtain ⟨n, h⟩ := h
  exact TX12_word_104 hE x hK41 n _ _ _ _ _ rx1 rx2 rs0 rx1 hs h
set_option maxRecDepth 100000 in
theorem TX12_word_99 {E : EV} (hE : eOK layM E) {Φ : Int → PS → Prop} {K41 : Int → Int → PS → Prop} (x : CX) (hK41 : ∀ (x1 x2 : Int) (σ : PS), Rg x1 → Rg x2 → RS σ → K41 x1 x2 σ → RW layM E mi_X12_word Φ 41 [some (.ref (eA E 0)), some (.int (iz x1)), some (.int (iz x2)), none, none] [] σ x) (x1 x2 : Int) (rx1 : Rg x1) (rx2 : Rg x2) (σ : PS) (hs : RS σ) (h : LX12_word_99 K41 x1 x2 σ Φ) : RW layM E mi_X12_word Φ 99 [some (.ref (eA E 0)), some (.int (iz x1)), some (.int (iz x2)), none, none] [] σ x := by
  refine r_iconst (n := 0) (dc D_cX12_word_1 11 rfl) ?_
  exact TX12_word_100 hE x hK41 _ _ _ rx1 rx2 (Rl rfl) _ hs h
set_option maxRecDepth 100000 in
theorem TBX12_word_41 {E : EV} (hE : eOK layM E) {Φ : Int → PS → Prop} {K41 : Int → Int → PS → Prop} (x : CX) (hK41 : ∀ (x1 x2 : Int) (σ : PS), Rg x1 → Rg x2 → RS σ → K41 x1 x2 σ → RW layM E mi_X12_word Φ 41 [some (.ref (eA E 0)), some (.int (iz x1)), some (.int (iz x2)), none, none] [] σ x) (x1 x2 : Int) (rx1 : Rg x1) (rx2 : Rg x2) (σ : PS) (hs : RS σ) (h : BX12_word_41 K41 x1 x2 σ Φ) : RW layM E mi_X12_word Φ 41 [some (.ref (eA E 0)), some (.int (iz x1)), some (.int (iz x2)), none, none] [] σ x := by
  refine r_iloadn (dc D_cX12_word_0 21 rfl) rfl rfl ?_
  refine r_ldcwS (q := 8) (tx := "from   to     least  cap    delay  water  room   shut   ") (dc D_cX12_word_0 22 rfl) (by decide +kernel) ?_
  obtain ⟨o1, h⟩ := h
  refine r_strlen (dc D_cX12_word_0 23 rfl) cw_RX12_305 o1 rfl rfl ?_
  refine r_bipush (n := 7) (dc D_cX12_word_0 24 rfl) (by decide +kernel) ?_
  obtain ⟨o2, h⟩ := h
  refine r_idiv (dc D_cX12_word_0 25 rfl) (Rg_slen o1) (Rl rfl) o2 (by decide) ?_
  refine r_icmp_ge (tgt := 166) (dc D_cX12_word_0 26 rfl) (by decide) rx2 (Rg_div (Rg_slen o1) o2 rfl) (fun c3 => ?_) (fun c3 => ?_)
  · have h := h.1 c3
    refine r_aloadn (dc D_cX12_word_2 7 rfl) rfl rfl ?_
    refine r_iloadn (dc D_cX12_word_2 8 rfl) rfl rfl ?_
    refine r_callV (As := [.int (iz x1)]) (st := []) (dc D_cX12_word_2 9 rfl) cw_RX12_260 nm_yX12_wrong (CX12_wrong hE _ rx1 _ hs h) lM_0 rfl rfl (by decide) rfl rfl rfl (fun z4 σ5 rz4 hσ5 h => ?_)
    show RW layM E mi_X12_word Φ 171 [some (.ref (eA E 0)), some (.int (iz x1)), some (.int (iz x2)), none, none] [] σ5 x
    refine r_iconst (n := 0) (dc D_cX12_word_2 10 rfl) ?_
    exact r_iret (dc D_cX12_word_2 11 rfl) rfl (Rl rfl) h
  · have h := h.2 c3
    refine r_aloadn (dc D_cX12_word_0 27 rfl) rfl rfl ?_
    refine r_getI (dc D_cX12_word_0 28 rfl) fw_RX12_249 lM_0 rfl ?_
    refine r_iloadn (dc D_cX12_word_0 29 rfl) rfl rfl ?_
    refine r_icmp_le (tgt := 99) (dc D_cX12_word_0 30 rfl) (by decide) (hs _ _) rx1 (fun c6 => ?_) (fun c6 => ?_)
    · have h := h.1 c6
      exact TX12_word_99 hE x hK41 _ _ rx1 rx2 _ hs h
    · have h := h.2 c6
      refine r_aloadn (dc D_cX12_word_0 31 rfl) rfl rfl ?_
      refine r_getI (dc D_cX12_word_0 32 rfl) fw_RX12_249 lM_0 rfl ?_
      refine r_iloadn (dc D_cX12_word_0 33 rfl) rfl rfl ?_
      refine r_isub (dc D_cX12_word_0 34 rfl) ?_
      obtain ⟨o7, h⟩ := h
      refine r_bipush (n := 7) (dc D_cX12_word_0 35 rfl) (by decide +kernel) ?_
      refine r_icmp_ge (tgt := 99) (dc D_cX12_word_0 36 rfl) (by decide) o7 (Rl rfl) (fun c8 => ?_) (fun c8 => ?_)
      · have h := h.1 c8
        exact TX12_word_99 hE x hK41 _ _ rx1 rx2 _ hs h
      · have h := h.2 c8
        refine r_ldcwS (q := 8) (tx := "from   to     least  cap    delay  water  room   shut   ") (dc D_cX12_word_0 37 rfl) (by decide +kernel) ?_
        refine r_bipush (n := 7) (dc D_cX12_word_0 38 rfl) (by decide +kernel) ?_
        refine r_iloadn (dc D_cX12_word_0 39 rfl) rfl rfl ?_
        refine r_imul (dc D_cX12_word_1 0 rfl) ?_
        obtain ⟨o9, h⟩ := h
        refine r_aloadn (dc D_cX12_word_1 1 rfl) rfl rfl ?_
        refine r_getI (dc D_cX12_word_1 2 rfl) fw_RX12_249 lM_0 rfl ?_
        refine r_iadd (dc D_cX12_word_1 3 rfl) ?_
        obtain ⟨o10, h⟩ := h
        refine r_iloadn (dc D_cX12_word_1 4 rfl) rfl rfl ?_
        refine r_isub (dc D_cX12_word_1 5 rfl) ?_
        obtain ⟨o11, h⟩ := h
        obtain ⟨o12, h⟩ := h
        refine r_strat (dc D_cX12_word_1 6 rfl) cw_RX12_310 o12 rfl rfl ?_
        refine r_bipush (n := 32) (dc D_cX12_word_1 7 rfl) (by decide +kernel) ?_
        refine r_icmp_ne (tgt := 99) (dc D_cX12_word_1 8 rfl) (by decide) (Rg_schr _ _) (Rl rfl) (fun c13 => ?_) (fun c13 => ?_)
        · have h := h.1 c13
          exact TX12_word_99 hE x hK41 _ _ rx1 rx2 _ hs h
        · have h := h.2 c13
          refine r_iconst (n := 1) (dc D_cX12_word_1 9 rfl) ?_
          refine r_goto (tgt := 100) (dc D_cX12_word_1 10 rfl) (by decide) ?_
          exact TX12_word_100 hE x hK41 _ _ _ rx1 rx2 (Rl rfl) _ hs h
theorem TX12_word_41 {E : EV} (hE : eOK layM E) {Φ : Int → PS → Prop} (x : CX) (n : Nat) : ∀ (x1 x2 : Int) (σ : PS), Rg x1 → Rg x2 → RS σ → LX12_word_41 n x1 x2 σ Φ → RW layM E mi_X12_word Φ 41 [some (.ref (eA E 0)), some (.int (iz x1)), some (.int (iz x2)), none, none] [] σ x := by
  induction n with
  | zero => intro x1 x2 σ _ _ _ h; exact h.elim
  | succ n ih => intro x1 x2 σ rx1 rx2 hs h; exact TBX12_word_41 hE x ih x1 x2 rx1 rx2 σ hs h
set_option maxRecDepth 100000 in
theorem TX12_word_39 {E : EV} (hE : eOK layM E) {Φ : Int → PS → Prop} (x : CX) (x1 : Int) (rx1 : Rg x1) (σ : PS) (hs : RS σ) (h : LX12_word_39 x1 σ Φ) : RW layM E mi_X12_word Φ 39 [some (.ref (eA E 0)), some (.int (iz x1)), none, none, none] [] σ x := by
  refine r_iconst (n := 0) (dc D_cX12_word_0 19 rfl) ?_
  refine r_istoren (lv' := [some (.ref (eA E 0)), some (.int (iz x1)), some (.int (iz 0)), none, none]) (dc D_cX12_word_0 20 rfl) rfl rfl rfl ?_
  obtain ⟨n, h⟩ := h
  exact TX12_word_41 hE x n _ _ _ rx1 (Rl rfl) hs h
set_option maxRecDepth 100000 in
theorem TBX12_word_5 {E : EV} (hE : eOK layM E) {Φ : Int → PS → Prop} {K5 : Int → PS → Prop} (x : CX) (hK5 : ∀ (x1 : Int) (σ : PS), Rg x1 → RS σ → K5 x1 σ → RW layM E mi_X12_word Φ 5 [some (.ref (eA E 0)), some (.int (iz x1)), none, none, none] [] σ x) (x1 : Int) (rx1 : Rg x1) (σ : PS) (hs : RS σ) (h : BX12_word_5 K5 x1 σ Φ) : RW layM E mi_X12_word Φ 5 [some (.ref (eA E 0)), some (.int (iz x1)), none, none, none] [] σ x := by
  refine r_aloadn (dc D_cX12_word_0 3 rfl) rfl rfl ?_
  refine r_getI (dc D_cX12_word_0 4 rfl) fw_RX12_252 lM_0 rfl ?_
  refine r_if_ge (tgt := 39) (dc D_cX12_word_0 5 rfl) (by decide) (hs _ _) (fun c1 => ?_) (fun c1 => ?_)
  · have h := h.1 c1
    exact TX12_word_39 hE x _ rx1 _ hs h
  · have h := h.2 c1
    refine r_aloadn (dc D_cX12_word_0 6 rfl) rfl rfl ?_
    refine r_callV (As := []) (st := []) (dc D_cX12_word_0 7 rfl) cw_RX12_255 nm_yX12_here (CX12_here hE  _ hs h) lM_0 rfl rfl (by decide) rfl rfl rfl (fun z2 σ3 rz2 hσ3 h => ?_)
    show RW layM E mi_X12_word Φ 16 [some (.ref (eA E 0)), some (.int (iz x1)), none, none, none] [.int (iz z2)] σ3 x
    refine r_bipush (n := 97) (dc D_cX12_word_0 8 rfl) (by decide +kernel) ?_
    refine r_bipush (n := 122) (dc D_cX12_word_0 9 rfl) (by decide +kernel) ?_
    refine r_callS (As := [.int (iz z2), .int (iz 97), .int (iz 122)]) (st := []) (dc D_cX12_word_0 10 rfl) cw_RX12_90 nm_yX12_in (CX12_in hE _ _ _ rz2 (Rl rfl) (Rl rfl) _ hσ3 h) rfl (by decide) rfl rfl rfl (fun z4 σ5 rz4 hσ5 h => ?_)
    show RW layM E mi_X12_word Φ 23 [some (.ref (eA E 0)), some (.int (iz x1)), none, none, none] [.int (iz z4)] σ5 x
    refine r_if_eq (tgt := 39) (dc D_cX12_word_0 11 rfl) (by decide) rz4 (fun c6 => ?_) (fun c6 => ?_)
    · have h := h.1 c6
      exact TX12_word_39 hE x _ rx1 _ hσ5 h
    · have h := h.2 c6
      refine r_aloadn (dc D_cX12_word_0 12 rfl) rfl rfl ?_
      refine r_dup (dc D_cX12_word_0 13 rfl) rfl ?_
      refine r_getI (dc D_cX12_word_0 14 rfl) fw_RX12_249 lM_0 rfl ?_
      refine r_iconst (n := 1) (dc D_cX12_word_0 15 rfl) ?_
      refine r_iadd (dc D_cX12_word_0 16 rfl) ?_
      obtain ⟨o7, h⟩ := h
      refine r_put (dc D_cX12_word_0 17 rfl) fw_RX12_249 fp_12_30 lM_0 rfl (nar_int _) o7 ?_
      refine r_sig (fun σ8 eσ8 => ?_)
      have h := h σ8 eσ8
      have hσ8 : RS σ8 := RS_eq eσ8 (RS.up hσ5 o7 _ _)
      refine r_goto (tgt := 5) (dc D_cX12_word_0 18 rfl) (by decide) ?_
      exact hK5 _ _ rx1 hσ8 h
theorem TX12_word_5 {E : EV} (hE : eOK layM E) {Φ : Int → PS → Prop} (x : CX) (n : Nat) : ∀ (x1 : Int) (σ : PS), Rg x1 → RS σ → LX12_word_5 n x1 σ Φ → RW layM E mi_X12_word Φ 5 [some (.ref (eA E 0)), some (.int (iz x1)), none, none, none] [] σ x := by
  induction n with
  | zero => intro x1 σ _ _ h; exact h.elim
  | succ n ih => intro x1 σ rx1 hs h; exact TBX12_word_5 hE x ih x1 rx1 σ hs h
set_option maxRecDepth 100000 in
theorem CX12_word {E : EV} (hE : eOK layM E) {Φ : Int → PS → Prop} (σ : PS) (hs : RS σ) (h : FX12_word σ Φ) : CT layM E yX12_word mi_X12_word [.ref (eA E 0)] σ Φ := by
  refine ct_of (by decide +kernel) rfl hE rfl rfl hs (fun x => ?_)
  show RW layM E mi_X12_word Φ 0 [some (.ref (eA E 0)), none, none, none, none] [] σ x
  refine r_aloadn (dc D_cX12_word_0 0 rfl) rfl rfl ?_
  refine r_getI (dc D_cX12_word_0 1 rfl) fw_RX12_249 lM_0 rfl ?_
  refine r_name (fun v1 ev1 => ?_)
  have h := h v1 ev1
  have rv1 : Rg v1 := Rg_eq ev1 (hs _ _)
  refine r_istoren (lv' := [some (.ref (eA E 0)), some (.int (iz v1)), none, none, none]) (dc D_cX12_word_0 2 rfl) rfl rfl rfl ?_
  obtain ⟨n, h⟩ := h
  exact TX12_word_5 hE x n _ _ rv1 hs h
-- end of GateFlowModel.word
def mi_X12_valueOf : MI := (cX12_valueOf, RX12, 3, 3, (some .int), 1)
def FX12_valueOf (a1 a2 : Int) (σ : PS) (Φ : Int → PS → Prop) : Prop :=
  ((5 ≤ a2 →
    ((¬ a2 = 7 →
      ((¬ a2 = 5 →
        FX12_at a1 3 σ (fun z4 σ5 =>
        (0 ≤ a1 ∧ a1 < 30) ∧
        Rg (z4 - (σ5 4 a1.toNat)) ∧
        Φ (z4 - (σ5 4 a1.toNat)) σ5)) ∧
      (a2 = 5 →
        (0 ≤ a1 ∧ a1 < 30) ∧
        Φ (σ 4 a1.toNat) σ))) ∧
    (a2 = 7 →
      FX12_isOpen a1 σ (fun z9 σ10 =>
      ((z9 = 0 →
        Φ 1 σ10) ∧
      (¬ z9 = 0 →
        Φ 0 σ10)))))) ∧
  (¬ 5 ≤ a2 →
    FX12_at a1 a2 σ (fun z12 σ13 =>
    Φ z12 σ13)))
theorem fw_RX12_297 : FW RX12 297 12 33 := ⟨RX12, TX12, 39, rfl, by decide, rfl, tb_1 1252 (by decide +kernel), uw_12⟩
set_option maxRecDepth 100000 in
theorem CX12_valueOf {E : EV} (hE : eOK layM E) {Φ : Int → PS → Prop} (a1 a2 : Int) (ra1 : Rg a1) (ra2 : Rg a2) (σ : PS) (hs : RS σ) (h : FX12_valueOf a1 a2 σ Φ) : CT layM E yX12_valueOf mi_X12_valueOf [.ref (eA E 0), .int (iz a1), .int (iz a2)] σ Φ := by
  refine ct_of (by decide +kernel) rfl hE rfl rfl hs (fun x => ?_)
  show RW layM E mi_X12_valueOf Φ 0 [some (.ref (eA E 0)), some (.int (iz a1)), some (.int (iz a2))] [] σ x
  refine r_iloadn (dc D_cX12_valueOf_0 0 rfl) rfl rfl ?_
  refine r_iconst (n := 5) (dc D_cX12_valueOf_0 1 rfl) ?_
  refine r_icmp_ge (tgt := 12) (dc D_cX12_valueOf_0 2 rfl) (by decide) ra2 (Rl rfl) (fun c1 => ?_) (fun c1 => ?_)
  · have h := h.1 c1
    refine r_iloadn (dc D_cX12_valueOf_0 8 rfl) rfl rfl ?_
    refine r_bipush (n := 7) (dc D_cX12_valueOf_0 9 rfl) (by decide +kernel) ?_
    refine r_icmp_ne (tgt := 32) (dc D_cX12_valueOf_0 10 rfl) (by decide) ra2 (Rl rfl) (fun c2 => ?_) (fun c2 => ?_)
    · have h := h.1 c2
      refine r_iloadn (dc D_cX12_valueOf_0 19 rfl) rfl rfl ?_
      refine r_iconst (n := 5) (dc D_cX12_valueOf_0 20 rfl) ?_
      refine r_icmp_ne (tgt := 46) (dc D_cX12_valueOf_0 21 rfl) (by decide) ra2 (Rl rfl) (fun c3 => ?_) (fun c3 => ?_)
      · have h := h.1 c3
        refine r_aloadn (dc D_cX12_valueOf_0 27 rfl) rfl rfl ?_
        refine r_iloadn (dc D_cX12_valueOf_0 28 rfl) rfl rfl ?_
        refine r_iconst (n := 3) (dc D_cX12_valueOf_0 29 rfl) ?_
        refine r_callV (As := [.int (iz a1), .int (iz 3)]) (st := []) (dc D_cX12_valueOf_0 30 rfl) cw_RX12_94 nm_yX12_at (CX12_at hE _ _ ra1 (Rl rfl) _ hs h) lM_0 rfl rfl (by decide) rfl rfl rfl (fun z4 σ5 rz4 hσ5 h => ?_)
        show RW layM E mi_X12_valueOf Φ 52 [some (.ref (eA E 0)), some (.int (iz a1)), some (.int (iz a2))] [.int (iz z4)] σ5 x
        refine r_aloadn (dc D_cX12_valueOf_0 31 rfl) rfl rfl ?_
        refine r_getR (dc D_cX12_valueOf_0 32 rfl) fw_RX12_19 lM_0 rfl ?_
        refine r_iloadn (dc D_cX12_valueOf_0 33 rfl) rfl rfl ?_
        obtain ⟨o6, h⟩ := h
        refine r_iald (N := 30) (dc D_cX12_valueOf_0 34 rfl) lM_4 rfl rfl o6 ?_
        refine r_isub (dc D_cX12_valueOf_0 35 rfl) ?_
        obtain ⟨o7, h⟩ := h
        exact r_iret (dc D_cX12_valueOf_0 36 rfl) rfl o7 h
      · have h := h.2 c3
        refine r_aloadn (dc D_cX12_valueOf_0 22 rfl) rfl rfl ?_
        refine r_getR (dc D_cX12_valueOf_0 23 rfl) fw_RX12_19 lM_0 rfl ?_
        refine r_iloadn (dc D_cX12_valueOf_0 24 rfl) rfl rfl ?_
        obtain ⟨o8, h⟩ := h
        refine r_iald (N := 30) (dc D_cX12_valueOf_0 25 rfl) lM_4 rfl rfl o8 ?_
        refine r_goto (tgt := 59) (dc D_cX12_valueOf_0 26 rfl) (by decide) ?_
        exact r_iret (dc D_cX12_valueOf_0 36 rfl) rfl (hs _ _) h
    · have h := h.2 c2
      refine r_aloadn (dc D_cX12_valueOf_0 11 rfl) rfl rfl ?_
      refine r_iloadn (dc D_cX12_valueOf_0 12 rfl) rfl rfl ?_
      refine r_callV (As := [.int (iz a1)]) (st := []) (dc D_cX12_valueOf_0 13 rfl) cw_RX12_98 nm_yX12_isOpen (CX12_isOpen hE _ ra1 _ hs h) lM_0 rfl rfl (by decide) rfl rfl rfl (fun z9 σ10 rz9 hσ10 h => ?_)
      show RW layM E mi_X12_valueOf Φ 23 [some (.ref (eA E 0)), some (.int (iz a1)), some (.int (iz a2))] [.int (iz z9)] σ10 x
      refine r_if_eq (tgt := 30) (dc D_cX12_valueOf_0 14 rfl) (by decide) rz9 (fun c11 => ?_) (fun c11 => ?_)
      · have h := h.1 c11
        refine r_iconst (n := 1) (dc D_cX12_valueOf_0 17 rfl) ?_
        exact r_iret (dc D_cX12_valueOf_0 18 rfl) rfl (Rl rfl) h
      · have h := h.2 c11
        refine r_iconst (n := 0) (dc D_cX12_valueOf_0 15 rfl) ?_
        refine r_goto (tgt := 31) (dc D_cX12_valueOf_0 16 rfl) (by decide) ?_
        exact r_iret (dc D_cX12_valueOf_0 18 rfl) rfl (Rl rfl) h
  · have h := h.2 c1
    refine r_aloadn (dc D_cX12_valueOf_0 3 rfl) rfl rfl ?_
    refine r_iloadn (dc D_cX12_valueOf_0 4 rfl) rfl rfl ?_
    refine r_iloadn (dc D_cX12_valueOf_0 5 rfl) rfl rfl ?_
    refine r_callV (As := [.int (iz a1), .int (iz a2)]) (st := []) (dc D_cX12_valueOf_0 6 rfl) cw_RX12_94 nm_yX12_at (CX12_at hE _ _ ra1 ra2 _ hs h) lM_0 rfl rfl (by decide) rfl rfl rfl (fun z12 σ13 rz12 hσ13 h => ?_)
    show RW layM E mi_X12_valueOf Φ 11 [some (.ref (eA E 0)), some (.int (iz a1)), some (.int (iz a2))] [.int (iz z12)] σ13 x
    exact r_iret (dc D_cX12_valueOf_0 7 rfl) rfl rz12 h
-- end of GateFlowModel.valueOf
def PR_rec (E : EV) (d : Nat) (Q : Nat → PS → (Int → PS → Prop) → Prop) : Prop := (∀ (Φ : Int → PS → Prop) (σ : PS), RS σ → Q 0 σ Φ → CT layM E yX12_either (mi_X12_either d) [.ref (eA E 0)] σ Φ) ∧ (∀ (Φ : Int → PS → Prop) (σ : PS), RS σ → Q 1 σ Φ → CT layM E yX12_both (mi_X12_both d) [.ref (eA E 0)] σ Φ) ∧ (∀ (Φ : Int → PS → Prop) (σ : PS), RS σ → Q 2 σ Φ → CT layM E yX12_one (mi_X12_one d) [.ref (eA E 0)] σ Φ)
def LX12_one_164 (Q : Nat → PS → (Int → PS → Prop) → Prop) (x2 x3 s0 : Int) (σ : PS) (Φ : Int → PS → Prop) : Prop :=
  ((¬ x2 = 60 →
    ((¬ x2 = 62 →
      ((¬ s0 = x3 →
        Φ 0 σ) ∧
      (s0 = x3 →
        Φ 1 σ))) ∧
    (x2 = 62 →
      ((s0 ≤ x3 →
        Φ 0 σ) ∧
      (¬ s0 ≤ x3 →
        Φ 1 σ))))) ∧
  (x2 = 60 →
    ((x3 ≤ s0 →
      Φ 0 σ) ∧
    (¬ x3 ≤ s0 →
      Φ 1 σ))))
def LX12_one_151 (Q : Nat → PS → (Int → PS → Prop) → Prop) (x2 x3 : Int) (σ : PS) (Φ : Int → PS → Prop) : Prop :=
  LX12_one_164 Q x2 x3 0 σ Φ
def LX12_one_127 (Q : Nat → PS → (Int → PS → Prop) → Prop) (x1 x2 : Int) (σ : PS) (Φ : Int → PS → Prop) : Prop :=
  FX12_number 0 999 (-1) σ (fun z1 σ2 =>
  ((σ2 0 33 < 0 →
    LX12_one_151 Q x2 z1 σ2 Φ) ∧
  (¬ σ2 0 33 < 0 →
    ((σ2 0 31 < 0 →
      FX12_valueOf (σ2 0 33) x1 σ2 (fun z5 σ6 =>
      LX12_one_164 Q x2 z1 z5 σ6 Φ)) ∧
    (¬ σ2 0 31 < 0 →
      LX12_one_151 Q x2 z1 σ2 Φ)))))
def LX12_one_82 (Q : Nat → PS → (Int → PS → Prop) → Prop) (σ : PS) (Φ : Int → PS → Prop) : Prop :=
  FX12_word σ (fun z1 σ2 =>
  FX12_here σ2 (fun z3 σ4 =>
  FX12_takes_ 60 σ4 (fun z5 σ6 =>
  ((¬ z5 = 0 →
    LX12_one_127 Q z1 z3 σ6 Φ) ∧
  (z5 = 0 →
    FX12_takes_ 61 σ6 (fun z8 σ9 =>
    ((¬ z8 = 0 →
      LX12_one_127 Q z1 z3 σ9 Φ) ∧
    (z8 = 0 →
      FX12_takes_ 62 σ9 (fun z11 σ12 =>
      ((¬ z11 = 0 →
        LX12_one_127 Q z1 z3 σ12 Φ) ∧
      (z11 = 0 →
        FX12_wrong (σ12 0 30) σ12 (fun z14 σ15 =>
        LX12_one_127 Q z1 z3 σ15 Φ))))))))))))
def FX12_one (Q : Nat → PS → (Int → PS → Prop) → Prop) (σ : PS) (Φ : Int → PS → Prop) : Prop :=
  FX12_takes_ 33 σ (fun z1 σ2 =>
  ((z1 = 0 →
    FX12_here σ2 (fun z4 σ5 =>
    ((¬ z4 = 40 →
      LX12_one_82 Q σ5 Φ) ∧
    (z4 = 40 →
      ((5 ≤ σ5 0 34 →
        LX12_one_82 Q σ5 Φ) ∧
      (¬ 5 ≤ σ5 0 34 →
        Rg ((σ5 0 30) + 1) ∧
        ∀ σ9 : PS, σ9 = up2 σ5 0 30 ((σ5 0 30) + 1) →
        Rg ((σ9 0 34) + 1) ∧
        ∀ σ11 : PS, σ11 = up2 σ9 0 34 ((σ9 0 34) + 1) →
        Q 0 σ11 (fun z12 σ13 =>
        FX12_must 41 σ13 (fun z14 σ15 =>
        Rg ((σ15 0 34) - 1) ∧
        ∀ σ17 : PS, σ17 = up2 σ15 0 34 ((σ15 0 34) - 1) →
        (z12 = 0 ∨ z12 = 1) ∧ Φ z12 σ17)))))))) ∧
  (¬ z1 = 0 →
    Q 2 σ2 (fun z18 σ19 =>
    ((¬ z18 = 0 →
      Φ 0 σ19) ∧
    (z18 = 0 →
      Φ 1 σ19))))))
theorem fw_RX12_288 : FW RX12 288 12 34 := ⟨RX12, TX12, 39, rfl, by decide, rfl, tb_1 1253 (by decide +kernel), uw_12⟩
theorem cw_RX12_300 : CWV RX12 300 yX12_valueOf mi_X12_valueOf := tb_r [1669, 1671, 90, 110, 1672] (by decide +kernel)
theorem nm_yX12_valueOf : ynm yX12_valueOf 2 := ⟨⟨by decide +kernel, by decide +kernel⟩, by decide +kernel⟩
theorem cw_RX12_294 : CWV RX12 294 yX12_word mi_X12_word := tb_r [1662, 1664, 89, 110, 1665] (by decide +kernel)
theorem nm_yX12_word : ynm yX12_word 0 := ⟨⟨by decide +kernel, by decide +kernel⟩, by decide +kernel⟩
theorem fp_12_34 : FP 12 34 .int := ⟨RX12, TX12, 39, tyX12, rfl, tyX12_ok, nmX12, rfl, by decide +kernel⟩
theorem cw_RX12_291 : CWV RX12 291 yX12_either (mi_X12_either 0) := tb_r [1650, 1652, 86, 110, 1653] (by decide +kernel)
theorem nm_yX12_either : ynm yX12_either 0 := ⟨⟨by decide +kernel, by decide +kernel⟩, by decide +kernel⟩
theorem cw_RX12_285 : CWV RX12 285 yX12_one (mi_X12_one 0) := tb_r [1658, 1660, 88, 110, 1661] (by decide +kernel)
theorem nm_yX12_one : ynm yX12_one 0 := ⟨⟨by decide +kernel, by decide +kernel⟩, by decide +kernel⟩
set_option maxRecDepth 100000 in
theorem TX12_one_164 {E : EV} (hE : eOK layM E) {Q : Nat → PS → (Int → PS → Prop) → Prop} (d : Nat) (hrec : PR_rec E d Q) {Φ : Int → PS → Prop} (x : CX) (x2 x3 s0 : Int) (rx2 : Rg x2) (rx3 : Rg x3) (rs0 : Rg s0) (σ : PS) (hs : RS σ) (h : LX12_one_164 Q x2 x3 s0 σ Φ) : RW layM E (mi_X12_one (d + 1)) Φ 164 [none, none, some (.int (iz x2)), some (.int (iz x3)), none] [.int (iz s0)] σ x := by
  refine r_istore (lv' := [none, none, some (.int (iz x2)), some (.int (iz x3)), some (.int (iz s0))]) (dc D_cX12_one_2 6 rfl) rfl rfl ?_
  refine r_iloadn (dc D_cX12_one_2 7 rfl) rfl rfl ?_
  refine r_bipush (n := 60) (dc D_cX12_one_2 8 rfl) (by decide +kernel) ?_
  refine r_icmp_ne (tgt := 186) (dc D_cX12_one_2 9 rfl) (by decide) rx2 (Rl rfl) (fun c1 => ?_) (fun c1 => ?_)
  · have h := h.1 c1
    refine r_iloadn (dc D_cX12_one_2 17 rfl) rfl rfl ?_
    refine r_bipush (n := 62) (dc D_cX12_one_2 18 rfl) (by decide +kernel) ?_
    refine r_icmp_ne (tgt := 206) (dc D_cX12_one_2 19 rfl) (by decide) rx2 (Rl rfl) (fun c2 => ?_) (fun c2 => ?_)
    · have h := h.1 c2
      refine r_iload (dc D_cX12_one_2 27 rfl) rfl ?_
      refine r_iloadn (dc D_cX12_one_2 28 rfl) rfl rfl ?_
      refine r_icmp_ne (tgt := 216) (dc D_cX12_one_2 29 rfl) (by decide) rs0 rx3 (fun c3 => ?_) (fun c3 => ?_)
      · have h := h.1 c3
        refine r_iconst (n := 0) (dc D_cX12_one_2 32 rfl) ?_
        exact r_zret (dc D_cX12_one_2 33 rfl) rfl (by decide) h
      · have h := h.2 c3
        refine r_iconst (n := 1) (dc D_cX12_one_2 30 rfl) ?_
        refine r_goto (tgt := 217) (dc D_cX12_one_2 31 rfl) (by decide) ?_
        exact r_zret (dc D_cX12_one_2 33 rfl) rfl (by decide) h
    · have h := h.2 c2
      refine r_iload (dc D_cX12_one_2 20 rfl) rfl ?_
      refine r_iloadn (dc D_cX12_one_2 21 rfl) rfl rfl ?_
      refine r_icmp_le (tgt := 202) (dc D_cX12_one_2 22 rfl) (by decide) rs0 rx3 (fun c4 => ?_) (fun c4 => ?_)
      · have h := h.1 c4
        refine r_iconst (n := 0) (dc D_cX12_one_2 25 rfl) ?_
        refine r_goto (tgt := 217) (dc D_cX12_one_2 26 rfl) (by decide) ?_
        exact r_zret (dc D_cX12_one_2 33 rfl) rfl (by decide) h
      · have h := h.2 c4
        refine r_iconst (n := 1) (dc D_cX12_one_2 23 rfl) ?_
        refine r_goto (tgt := 217) (dc D_cX12_one_2 24 rfl) (by decide) ?_
        exact r_zret (dc D_cX12_one_2 33 rfl) rfl (by decide) h
  · have h := h.2 c1
    refine r_iload (dc D_cX12_one_2 10 rfl) rfl ?_
    refine r_iloadn (dc D_cX12_one_2 11 rfl) rfl rfl ?_
    refine r_icmp_ge (tgt := 182) (dc D_cX12_one_2 12 rfl) (by decide) rs0 rx3 (fun c5 => ?_) (fun c5 => ?_)
    · have h := h.1 c5
      refine r_iconst (n := 0) (dc D_cX12_one_2 15 rfl) ?_
      refine r_goto (tgt := 217) (dc D_cX12_one_2 16 rfl) (by decide) ?_
      exact r_zret (dc D_cX12_one_2 33 rfl) rfl (by decide) h
    · have h := h.2 c5
      refine r_iconst (n := 1) (dc D_cX12_one_2 13 rfl) ?_
      refine r_goto (tgt := 217) (dc D_cX12_one_2 14 rfl) (by decide) ?_
      exact r_zret (dc D_cX12_one_2 33 rfl) rfl (by decide) h
set_option maxRecDepth 100000 in
theorem TX12_one_151 {E : EV} (hE : eOK layM E) {Q : Nat → PS → (Int → PS → Prop) → Prop} (d : Nat) (hrec : PR_rec E d Q) {Φ : Int → PS → Prop} (x : CX) (x2 x3 : Int) (rx2 : Rg x2) (rx3 : Rg x3) (σ : PS) (hs : RS σ) (h : LX12_one_151 Q x2 x3 σ Φ) : RW layM E (mi_X12_one (d + 1)) Φ 151 [none, none, some (.int (iz x2)), some (.int (iz x3)), none] [] σ x := by
  refine r_iconst (n := 0) (dc D_cX12_one_1 39 rfl) ?_
  refine r_goto (tgt := 164) (dc D_cX12_one_2 0 rfl) (by decide) ?_
  exact TX12_one_164 hE d hrec x _ _ _ rx2 rx3 (Rl rfl) _ hs h
set_option maxRecDepth 100000 in
theorem TX12_one_127 {E : EV} (hE : eOK layM E) {Q : Nat → PS → (Int → PS → Prop) → Prop} (d : Nat) (hrec : PR_rec E d Q) {Φ : Int → PS → Prop} (x : CX) (x1 x2 : Int) (rx1 : Rg x1) (rx2 : Rg x2) (σ : PS) (hs : RS σ) (h : LX12_one_127 Q x1 x2 σ Φ) : RW layM E (mi_X12_one (d + 1)) Φ 127 [some (.ref (eA E 0)), some (.int (iz x1)), some (.int (iz x2)), none, none] [] σ x := by
  refine r_aloadn (dc D_cX12_one_1 27 rfl) rfl rfl ?_
  refine r_iconst (n := 0) (dc D_cX12_one_1 28 rfl) ?_
  refine r_sipush (n := 999) (dc D_cX12_one_1 29 rfl) (by decide +kernel) ?_
  refine r_iconst (n := (-1)) (dc D_cX12_one_1 30 rfl) ?_
  refine r_callV (As := [.int (iz 0), .int (iz 999), .int (iz (-1))]) (st := []) (dc D_cX12_one_1 31 rfl) cw_RX12_266 nm_yX12_number (CX12_number hE _ _ _ (Rl rfl) (Rl rfl) (Rl rfl) _ hs h) lM_0 rfl rfl (Nat.le_trans (m := 20) (by decide) (Nat.le_add_right _ _)) rfl rfl rfl (fun z1 σ2 rz1 hσ2 h => ?_)
  show RW layM E (mi_X12_one (d + 1)) Φ 136 [some (.ref (eA E 0)), some (.int (iz x1)), some (.int (iz x2)), none, none] [.int (iz z1)] σ2 x
  refine r_istoren (lv' := [some (.ref (eA E 0)), some (.int (iz x1)), some (.int (iz x2)), some (.int (iz z1)), none]) (dc D_cX12_one_1 32 rfl) rfl rfl rfl ?_
  refine r_aloadn (dc D_cX12_one_1 33 rfl) rfl rfl ?_
  refine r_getI (dc D_cX12_one_1 34 rfl) fw_RX12_297 lM_0 rfl ?_
  refine r_if_lt (tgt := 151) (dc D_cX12_one_1 35 rfl) (by decide) (hσ2 _ _) (fun c3 => ?_) (fun c3 => ?_)
  · have h := h.1 c3
    refine r_sub (lv' := [none, none, some (.int (iz x2)), some (.int (iz z1)), none]) (subL_n (subL_n (subL_s (subL_s (subL_n subL_e))))) ?_
    exact TX12_one_151 hE d hrec x _ _ rx2 rz1 _ hσ2 h
  · have h := h.2 c3
    refine r_aloadn (dc D_cX12_one_1 36 rfl) rfl rfl ?_
    refine r_getI (dc D_cX12_one_1 37 rfl) fw_RX12_252 lM_0 rfl ?_
    refine r_if_lt (tgt := 155) (dc D_cX12_one_1 38 rfl) (by decide) (hσ2 _ _) (fun c4 => ?_) (fun c4 => ?_)
    · have h := h.1 c4
      refine r_aloadn (dc D_cX12_one_2 1 rfl) rfl rfl ?_
      refine r_aloadn (dc D_cX12_one_2 2 rfl) rfl rfl ?_
      refine r_getI (dc D_cX12_one_2 3 rfl) fw_RX12_297 lM_0 rfl ?_
      refine r_iloadn (dc D_cX12_one_2 4 rfl) rfl rfl ?_
      refine r_callV (As := [.int (iz (σ2 0 33)), .int (iz x1)]) (st := []) (dc D_cX12_one_2 5 rfl) cw_RX12_300 nm_yX12_valueOf (CX12_valueOf hE _ _ (hσ2 _ _) rx1 _ hσ2 h) lM_0 rfl rfl (Nat.le_trans (m := 20) (by decide) (Nat.le_add_right _ _)) rfl rfl rfl (fun z5 σ6 rz5 hσ6 h => ?_)
      show RW layM E (mi_X12_one (d + 1)) Φ 164 [some (.ref (eA E 0)), some (.int (iz x1)), some (.int (iz x2)), some (.int (iz z1)), none] [.int (iz z5)] σ6 x
      refine r_sub (lv' := [none, none, some (.int (iz x2)), some (.int (iz z1)), none]) (subL_n (subL_n (subL_s (subL_s (subL_n subL_e))))) ?_
      exact TX12_one_164 hE d hrec x _ _ _ rx2 rz1 rz5 _ hσ6 h
    · have h := h.2 c4
      refine r_sub (lv' := [none, none, some (.int (iz x2)), some (.int (iz z1)), none]) (subL_n (subL_n (subL_s (subL_s (subL_n subL_e))))) ?_
      exact TX12_one_151 hE d hrec x _ _ rx2 rz1 _ hσ2 h
set_option maxRecDepth 100000 in
theorem TX12_one_82 {E : EV} (hE : eOK layM E) {Q : Nat → PS → (Int → PS → Prop) → Prop} (d : Nat) (hrec : PR_rec E d Q) {Φ : Int → PS → Prop} (x : CX) (σ : PS) (hs : RS σ) (h : LX12_one_82 Q σ Φ) : RW layM E (mi_X12_one (d + 1)) Φ 82 [some (.ref (eA E 0)), none, none, none, none] [] σ x := by
  refine r_aloadn (dc D_cX12_one_1 5 rfl) rfl rfl ?_
  refine r_callV (As := []) (st := []) (dc D_cX12_one_1 6 rfl) cw_RX12_294 nm_yX12_word (CX12_word hE  _ hs h) lM_0 rfl rfl (Nat.le_trans (m := 20) (by decide) (Nat.le_add_right _ _)) rfl rfl rfl (fun z1 σ2 rz1 hσ2 h => ?_)
  show RW layM E (mi_X12_one (d + 1)) Φ 86 [some (.ref (eA E 0)), none, none, none, none] [.int (iz z1)] σ2 x
  refine r_istoren (lv' := [some (.ref (eA E 0)), some (.int (iz z1)), none, none, none]) (dc D_cX12_one_1 7 rfl) rfl rfl rfl ?_
  refine r_aloadn (dc D_cX12_one_1 8 rfl) rfl rfl ?_
  refine r_callV (As := []) (st := []) (dc D_cX12_one_1 9 rfl) cw_RX12_255 nm_yX12_here (CX12_here hE  _ hσ2 h) lM_0 rfl rfl (Nat.le_trans (m := 20) (by decide) (Nat.le_add_right _ _)) rfl rfl rfl (fun z3 σ4 rz3 hσ4 h => ?_)
  show RW layM E (mi_X12_one (d + 1)) Φ 91 [some (.ref (eA E 0)), some (.int (iz z1)), none, none, none] [.int (iz z3)] σ4 x
  refine r_istoren (lv' := [some (.ref (eA E 0)), some (.int (iz z1)), some (.int (iz z3)), none, none]) (dc D_cX12_one_1 10 rfl) rfl rfl rfl ?_
  refine r_aloadn (dc D_cX12_one_1 11 rfl) rfl rfl ?_
  refine r_bipush (n := 60) (dc D_cX12_one_1 12 rfl) (by decide +kernel) ?_
  refine r_callV (As := [.int (iz 60)]) (st := []) (dc D_cX12_one_1 13 rfl) cw_RX12_258 nm_yX12_takes_ (CX12_takes_ hE _ (Rl rfl) _ hσ4 h) lM_0 rfl rfl (Nat.le_trans (m := 20) (by decide) (Nat.le_add_right _ _)) rfl rfl rfl (fun z5 σ6 rz5 hσ6 h => ?_)
  show RW layM E (mi_X12_one (d + 1)) Φ 98 [some (.ref (eA E 0)), some (.int (iz z1)), some (.int (iz z3)), none, none] [.int (iz z5)] σ6 x
  refine r_if_ne (tgt := 127) (dc D_cX12_one_1 14 rfl) (by decide) rz5 (fun c7 => ?_) (fun c7 => ?_)
  · have h := h.1 c7
    exact TX12_one_127 hE d hrec x _ _ rz1 rz3 _ hσ6 h
  · have h := h.2 c7
    refine r_aloadn (dc D_cX12_one_1 15 rfl) rfl rfl ?_
    refine r_bipush (n := 61) (dc D_cX12_one_1 16 rfl) (by decide +kernel) ?_
    refine r_callV (As := [.int (iz 61)]) (st := []) (dc D_cX12_one_1 17 rfl) cw_RX12_258 nm_yX12_takes_ (CX12_takes_ hE _ (Rl rfl) _ hσ6 h) lM_0 rfl rfl (Nat.le_trans (m := 20) (by decide) (Nat.le_add_right _ _)) rfl rfl rfl (fun z8 σ9 rz8 hσ9 h => ?_)
    show RW layM E (mi_X12_one (d + 1)) Φ 107 [some (.ref (eA E 0)), some (.int (iz z1)), some (.int (iz z3)), none, none] [.int (iz z8)] σ9 x
    refine r_if_ne (tgt := 127) (dc D_cX12_one_1 18 rfl) (by decide) rz8 (fun c10 => ?_) (fun c10 => ?_)
    · have h := h.1 c10
      exact TX12_one_127 hE d hrec x _ _ rz1 rz3 _ hσ9 h
    · have h := h.2 c10
      refine r_aloadn (dc D_cX12_one_1 19 rfl) rfl rfl ?_
      refine r_bipush (n := 62) (dc D_cX12_one_1 20 rfl) (by decide +kernel) ?_
      refine r_callV (As := [.int (iz 62)]) (st := []) (dc D_cX12_one_1 21 rfl) cw_RX12_258 nm_yX12_takes_ (CX12_takes_ hE _ (Rl rfl) _ hσ9 h) lM_0 rfl rfl (Nat.le_trans (m := 20) (by decide) (Nat.le_add_right _ _)) rfl rfl rfl (fun z11 σ12 rz11 hσ12 h => ?_)
      show RW layM E (mi_X12_one (d + 1)) Φ 116 [some (.ref (eA E 0)), some (.int (iz z1)), some (.int (iz z3)), none, none] [.int (iz z11)] σ12 x
      refine r_if_ne (tgt := 127) (dc D_cX12_one_1 22 rfl) (by decide) rz11 (fun c13 => ?_) (fun c13 => ?_)
      · have h := h.1 c13
        exact TX12_one_127 hE d hrec x _ _ rz1 rz3 _ hσ12 h
      · have h := h.2 c13
        refine r_aloadn (dc D_cX12_one_1 23 rfl) rfl rfl ?_
        refine r_aloadn (dc D_cX12_one_1 24 rfl) rfl rfl ?_
        refine r_getI (dc D_cX12_one_1 25 rfl) fw_RX12_249 lM_0 rfl ?_
        refine r_callV (As := [.int (iz (σ12 0 30))]) (st := []) (dc D_cX12_one_1 26 rfl) cw_RX12_260 nm_yX12_wrong (CX12_wrong hE _ (hσ12 _ _) _ hσ12 h) lM_0 rfl rfl (Nat.le_trans (m := 20) (by decide) (Nat.le_add_right _ _)) rfl rfl rfl (fun z14 σ15 rz14 hσ15 h => ?_)
        show RW layM E (mi_X12_one (d + 1)) Φ 127 [some (.ref (eA E 0)), some (.int (iz z1)), some (.int (iz z3)), none, none] [] σ15 x
        exact TX12_one_127 hE d hrec x _ _ rz1 rz3 _ hσ15 h
set_option maxRecDepth 100000 in
theorem CX12_one {E : EV} (hE : eOK layM E) {Q : Nat → PS → (Int → PS → Prop) → Prop} (d : Nat) (hrec : PR_rec E d Q) (Φ : Int → PS → Prop) (σ : PS) (hs : RS σ) (h : FX12_one Q σ Φ) : CT layM E yX12_one (mi_X12_one (d + 1)) [.ref (eA E 0)] σ Φ := by
  refine ct_of (by decide +kernel) rfl hE rfl rfl hs (fun x => ?_)
  show RW layM E (mi_X12_one (d + 1)) Φ 0 [some (.ref (eA E 0)), none, none, none, none] [] σ x
  refine r_aloadn (dc D_cX12_one_0 0 rfl) rfl rfl ?_
  refine r_bipush (n := 33) (dc D_cX12_one_0 1 rfl) (by decide +kernel) ?_
  refine r_callV (As := [.int (iz 33)]) (st := []) (dc D_cX12_one_0 2 rfl) cw_RX12_258 nm_yX12_takes_ (CX12_takes_ hE _ (Rl rfl) _ hs h) lM_0 rfl rfl (Nat.le_trans (m := 20) (by decide) (Nat.le_add_right _ _)) rfl rfl rfl (fun z1 σ2 rz1 hσ2 h => ?_)
  show RW layM E (mi_X12_one (d + 1)) Φ 6 [some (.ref (eA E 0)), none, none, none, none] [.int (iz z1)] σ2 x
  refine r_if_eq (tgt := 22) (dc D_cX12_one_0 3 rfl) (by decide) rz1 (fun c3 => ?_) (fun c3 => ?_)
  · have h := h.1 c3
    refine r_aloadn (dc D_cX12_one_0 11 rfl) rfl rfl ?_
    refine r_callV (As := []) (st := []) (dc D_cX12_one_0 12 rfl) cw_RX12_255 nm_yX12_here (CX12_here hE  _ hσ2 h) lM_0 rfl rfl (Nat.le_trans (m := 20) (by decide) (Nat.le_add_right _ _)) rfl rfl rfl (fun z4 σ5 rz4 hσ5 h => ?_)
    show RW layM E (mi_X12_one (d + 1)) Φ 26 [some (.ref (eA E 0)), none, none, none, none] [.int (iz z4)] σ5 x
    refine r_bipush (n := 40) (dc D_cX12_one_0 13 rfl) (by decide +kernel) ?_
    refine r_icmp_ne (tgt := 82) (dc D_cX12_one_0 14 rfl) (by decide) rz4 (Rl rfl) (fun c6 => ?_) (fun c6 => ?_)
    · have h := h.1 c6
      exact TX12_one_82 hE d hrec x  _ hσ5 h
    · have h := h.2 c6
      refine r_aloadn (dc D_cX12_one_0 15 rfl) rfl rfl ?_
      refine r_getI (dc D_cX12_one_0 16 rfl) fw_RX12_288 lM_0 rfl ?_
      refine r_iconst (n := 5) (dc D_cX12_one_0 17 rfl) ?_
      refine r_icmp_ge (tgt := 82) (dc D_cX12_one_0 18 rfl) (by decide) (hσ5 _ _) (Rl rfl) (fun c7 => ?_) (fun c7 => ?_)
      · have h := h.1 c7
        exact TX12_one_82 hE d hrec x  _ hσ5 h
      · have h := h.2 c7
        refine r_aloadn (dc D_cX12_one_0 19 rfl) rfl rfl ?_
        refine r_dup (dc D_cX12_one_0 20 rfl) rfl ?_
        refine r_getI (dc D_cX12_one_0 21 rfl) fw_RX12_249 lM_0 rfl ?_
        refine r_iconst (n := 1) (dc D_cX12_one_0 22 rfl) ?_
        refine r_iadd (dc D_cX12_one_0 23 rfl) ?_
        obtain ⟨o8, h⟩ := h
        refine r_put (dc D_cX12_one_0 24 rfl) fw_RX12_249 fp_12_30 lM_0 rfl (nar_int _) o8 ?_
        refine r_sig (fun σ9 eσ9 => ?_)
        have h := h σ9 eσ9
        have hσ9 : RS σ9 := RS_eq eσ9 (RS.up hσ5 o8 _ _)
        refine r_aloadn (dc D_cX12_one_0 25 rfl) rfl rfl ?_
        refine r_dup (dc D_cX12_one_0 26 rfl) rfl ?_
        refine r_getI (dc D_cX12_one_0 27 rfl) fw_RX12_288 lM_0 rfl ?_
        refine r_iconst (n := 1) (dc D_cX12_one_0 28 rfl) ?_
        refine r_iadd (dc D_cX12_one_0 29 rfl) ?_
        obtain ⟨o10, h⟩ := h
        refine r_put (dc D_cX12_one_0 30 rfl) fw_RX12_288 fp_12_34 lM_0 rfl (nar_int _) o10 ?_
        refine r_sig (fun σ11 eσ11 => ?_)
        have h := h σ11 eσ11
        have hσ11 : RS σ11 := RS_eq eσ11 (RS.up hσ9 o10 _ _)
        refine r_aloadn (dc D_cX12_one_0 31 rfl) rfl rfl ?_
        refine r_callV (M2 := mi_X12_either d) (As := []) (st := []) (dc D_cX12_one_0 32 rfl) cw_RX12_291 nm_yX12_either (hrec.1 _ _ hσ11 h) lM_0 rfl rfl (Nat.le_refl _) rfl rfl rfl (fun z12 σ13 rz12 hσ13 h => ?_)
        show RW layM E (mi_X12_one (d + 1)) Φ 63 [some (.ref (eA E 0)), none, none, none, none] [.int (iz z12)] σ13 x
        refine r_istoren (lv' := [some (.ref (eA E 0)), some (.int (iz z12)), none, none, none]) (dc D_cX12_one_0 33 rfl) rfl rfl rfl ?_
        refine r_aloadn (dc D_cX12_one_0 34 rfl) rfl rfl ?_
        refine r_bipush (n := 41) (dc D_cX12_one_0 35 rfl) (by decide +kernel) ?_
        refine r_callV (As := [.int (iz 41)]) (st := []) (dc D_cX12_one_0 36 rfl) cw_RX12_268 nm_yX12_must (CX12_must hE _ (Rl rfl) _ hσ13 h) lM_0 rfl rfl (Nat.le_trans (m := 20) (by decide) (Nat.le_add_right _ _)) rfl rfl rfl (fun z14 σ15 rz14 hσ15 h => ?_)
        show RW layM E (mi_X12_one (d + 1)) Φ 70 [some (.ref (eA E 0)), some (.int (iz z12)), none, none, none] [] σ15 x
        refine r_aloadn (dc D_cX12_one_0 37 rfl) rfl rfl ?_
        refine r_dup (dc D_cX12_one_0 38 rfl) rfl ?_
        refine r_getI (dc D_cX12_one_0 39 rfl) fw_RX12_288 lM_0 rfl ?_
        refine r_iconst (n := 1) (dc D_cX12_one_1 0 rfl) ?_
        refine r_isub (dc D_cX12_one_1 1 rfl) ?_
        obtain ⟨o16, h⟩ := h
        refine r_put (dc D_cX12_one_1 2 rfl) fw_RX12_288 fp_12_34 lM_0 rfl (nar_int _) o16 ?_
        refine r_sig (fun σ17 eσ17 => ?_)
        have h := h σ17 eσ17
        have hσ17 : RS σ17 := RS_eq eσ17 (RS.up hσ15 o16 _ _)
        refine r_iloadn (dc D_cX12_one_1 3 rfl) rfl rfl ?_
        exact r_zret (dc D_cX12_one_1 4 rfl) rfl h.1 h.2
  · have h := h.2 c3
    refine r_aloadn (dc D_cX12_one_0 4 rfl) rfl rfl ?_
    refine r_callV (M2 := mi_X12_one d) (As := []) (st := []) (dc D_cX12_one_0 5 rfl) cw_RX12_285 nm_yX12_one (hrec.2.2 _ _ hσ2 h) lM_0 rfl rfl (Nat.le_refl _) rfl rfl rfl (fun z18 σ19 rz18 hσ19 h => ?_)
    show RW layM E (mi_X12_one (d + 1)) Φ 13 [some (.ref (eA E 0)), none, none, none, none] [.int (iz z18)] σ19 x
    refine r_if_ne (tgt := 20) (dc D_cX12_one_0 6 rfl) (by decide) rz18 (fun c20 => ?_) (fun c20 => ?_)
    · have h := h.1 c20
      refine r_iconst (n := 0) (dc D_cX12_one_0 9 rfl) ?_
      exact r_zret (dc D_cX12_one_0 10 rfl) rfl (by decide) h
    · have h := h.2 c20
      refine r_iconst (n := 1) (dc D_cX12_one_0 7 rfl) ?_
      refine r_goto (tgt := 21) (dc D_cX12_one_0 8 rfl) (by decide) ?_
      exact r_zret (dc D_cX12_one_0 10 rfl) rfl (by decide) h
-- end of GateFlowModel.one
def BX12_both_5 (Q : Nat → PS → (Int → PS → Prop) → Prop) (K5 : Int → PS → Prop) (x1 : Int) (σ : PS) (Φ : Int → PS → Prop) : Prop :=
  FX12_takes_ 38 σ (fun z1 σ2 =>
  ((z1 = 0 →
    (x1 = 0 ∨ x1 = 1) ∧ Φ x1 σ2) ∧
  (¬ z1 = 0 →
    Q 2 σ2 (fun z4 σ5 =>
    ∀ v6 : Int, v6 = iand x1 z4 →
    K5 v6 σ5))))
def LX12_both_5 (Q : Nat → PS → (Int → PS → Prop) → Prop) : Nat → Int → PS → (Int → PS → Prop) → Prop
  | 0, _, _, _ => False
  | n + 1, x1, σ, Φ => BX12_both_5 Q (fun x1 σ => LX12_both_5 Q n x1 σ Φ) x1 σ Φ
def FX12_both (Q : Nat → PS → (Int → PS → Prop) → Prop) (σ : PS) (Φ : Int → PS → Prop) : Prop :=
  Q 2 σ (fun z1 σ2 =>
  ∃ n, LX12_both_5 Q n z1 σ2 Φ)
set_option maxRecDepth 100000 in
theorem TBX12_both_5 {E : EV} (hE : eOK layM E) {Q : Nat → PS → (Int → PS → Prop) → Prop} (d : Nat) (hrec : PR_rec E d Q) {Φ : Int → PS → Prop} {K5 : Int → PS → Prop} (x : CX) (hK5 : ∀ (x1 : Int) (σ : PS), Rg x1 → RS σ → K5 x1 σ → RW layM E (mi_X12_both (d + 1)) Φ 5 [some (.ref (eA E 0)), some (.int (iz x1))] [] σ x) (x1 : Int) (rx1 : Rg x1) (σ : PS) (hs : RS σ) (h : BX12_both_5 Q K5 x1 σ Φ) : RW layM E (mi_X12_both (d + 1)) Φ 5 [some (.ref (eA E 0)), some (.int (iz x1))] [] σ x := by
  refine r_aloadn (dc D_cX12_both_0 3 rfl) rfl rfl ?_
  refine r_bipush (n := 38) (dc D_cX12_both_0 4 rfl) (by decide +kernel) ?_
  refine r_callV (As := [.int (iz 38)]) (st := []) (dc D_cX12_both_0 5 rfl) cw_RX12_258 nm_yX12_takes_ (CX12_takes_ hE _ (Rl rfl) _ hs h) lM_0 rfl rfl (Nat.le_trans (m := 20) (by decide) (Nat.le_add_right _ _)) rfl rfl rfl (fun z1 σ2 rz1 hσ2 h => ?_)
  show RW layM E (mi_X12_both (d + 1)) Φ 11 [some (.ref (eA E 0)), some (.int (iz x1))] [.int (iz z1)] σ2 x
  refine r_if_eq (tgt := 24) (dc D_cX12_both_0 6 rfl) (by decide) rz1 (fun c3 => ?_) (fun c3 => ?_)
  · have h := h.1 c3
    refine r_iloadn (dc D_cX12_both_0 13 rfl) rfl rfl ?_
    exact r_zret (dc D_cX12_both_0 14 rfl) rfl h.1 h.2
  · have h := h.2 c3
    refine r_iloadn (dc D_cX12_both_0 7 rfl) rfl rfl ?_
    refine r_aloadn (dc D_cX12_both_0 8 rfl) rfl rfl ?_
    refine r_callV (M2 := mi_X12_one d) (As := []) (st := [.int (iz x1)]) (dc D_cX12_both_0 9 rfl) cw_RX12_285 nm_yX12_one (hrec.2.2 _ _ hσ2 h) lM_0 rfl rfl (Nat.le_refl _) rfl rfl rfl (fun z4 σ5 rz4 hσ5 h => ?_)
    show RW layM E (mi_X12_both (d + 1)) Φ 19 [some (.ref (eA E 0)), some (.int (iz x1))] [.int (iz z4), .int (iz x1)] σ5 x
    refine r_iand (dc D_cX12_both_0 10 rfl) ?_
    refine r_name (fun v6 ev6 => ?_)
    have h := h v6 ev6
    have rv6 : Rg v6 := Rg_eq ev6 (Rg_of _)
    refine r_istoren (lv' := [some (.ref (eA E 0)), some (.int (iz v6))]) (dc D_cX12_both_0 11 rfl) rfl rfl rfl ?_
    refine r_goto (tgt := 5) (dc D_cX12_both_0 12 rfl) (by decide) ?_
    exact hK5 _ _ rv6 hσ5 h
theorem TX12_both_5 {E : EV} (hE : eOK layM E) {Q : Nat → PS → (Int → PS → Prop) → Prop} (d : Nat) (hrec : PR_rec E d Q) {Φ : Int → PS → Prop} (x : CX) (n : Nat) : ∀ (x1 : Int) (σ : PS), Rg x1 → RS σ → LX12_both_5 Q n x1 σ Φ → RW layM E (mi_X12_both (d + 1)) Φ 5 [some (.ref (eA E 0)), some (.int (iz x1))] [] σ x := by
  induction n with
  | zero => intro x1 σ _ _ h; exact h.elim
  | succ n ih => intro x1 σ rx1 hs h; exact TBX12_both_5 hE d hrec x ih x1 rx1 σ hs h
set_option maxRecDepth 100000 in
theorem CX12_both {E : EV} (hE : eOK layM E) {Q : Nat → PS → (Int → PS → Prop) → Prop} (d : Nat) (hrec : PR_rec E d Q) (Φ : Int → PS → Prop) (σ : PS) (hs : RS σ) (h : FX12_both Q σ Φ) : CT layM E yX12_both (mi_X12_both (d + 1)) [.ref (eA E 0)] σ Φ := by
  refine ct_of (by decide +kernel) rfl hE rfl rfl hs (fun x => ?_)
  show RW layM E (mi_X12_both (d + 1)) Φ 0 [some (.ref (eA E 0)), none] [] σ x
  refine r_aloadn (dc D_cX12_both_0 0 rfl) rfl rfl ?_
  refine r_callV (M2 := mi_X12_one d) (As := []) (st := []) (dc D_cX12_both_0 1 rfl) cw_RX12_285 nm_yX12_one (hrec.2.2 _ _ hs h) lM_0 rfl rfl (Nat.le_refl _) rfl rfl rfl (fun z1 σ2 rz1 hσ2 h => ?_)
  show RW layM E (mi_X12_both (d + 1)) Φ 4 [some (.ref (eA E 0)), none] [.int (iz z1)] σ2 x
  refine r_istoren (lv' := [some (.ref (eA E 0)), some (.int (iz z1))]) (dc D_cX12_both_0 2 rfl) rfl rfl rfl ?_
  obtain ⟨n, h⟩ := h
  exact TX12_both_5 hE d hrec x n _ _ rz1 hσ2 h
-- end of GateFlowModel.both
def BX12_either_5 (Q : Nat → PS → (Int → PS → Prop) → Prop) (K5 : Int → PS → Prop) (x1 : Int) (σ : PS) (Φ : Int → PS → Prop) : Prop :=
  FX12_takes_ 124 σ (fun z1 σ2 =>
  ((z1 = 0 →
    (x1 = 0 ∨ x1 = 1) ∧ Φ x1 σ2) ∧
  (¬ z1 = 0 →
    Q 1 σ2 (fun z4 σ5 =>
    ∀ v6 : Int, v6 = ior x1 z4 →
    K5 v6 σ5))))
def LX12_either_5 (Q : Nat → PS → (Int → PS → Prop) → Prop) : Nat → Int → PS → (Int → PS → Prop) → Prop
  | 0, _, _, _ => False
  | n + 1, x1, σ, Φ => BX12_either_5 Q (fun x1 σ => LX12_either_5 Q n x1 σ Φ) x1 σ Φ
def FX12_either (Q : Nat → PS → (Int → PS → Prop) → Prop) (σ : PS) (Φ : Int → PS → Prop) : Prop :=
  Q 1 σ (fun z1 σ2 =>
  ∃ n, LX12_either_5 Q n z1 σ2 Φ)
theorem cw_RX12_281 : CWV RX12 281 yX12_both (mi_X12_both 0) := tb_r [1654, 1656, 87, 110, 1657] (by decide +kernel)
theorem nm_yX12_both : ynm yX12_both 0 := ⟨⟨by decide +kernel, by decide +kernel⟩, by decide +kernel⟩
set_option maxRecDepth 100000 in
theorem TBX12_either_5 {E : EV} (hE : eOK layM E) {Q : Nat → PS → (Int → PS → Prop) → Prop} (d : Nat) (hrec : PR_rec E d Q) {Φ : Int → PS → Prop} {K5 : Int → PS → Prop} (x : CX) (hK5 : ∀ (x1 : Int) (σ : PS), Rg x1 → RS σ → K5 x1 σ → RW layM E (mi_X12_either (d + 1)) Φ 5 [some (.ref (eA E 0)), some (.int (iz x1))] [] σ x) (x1 : Int) (rx1 : Rg x1) (σ : PS) (hs : RS σ) (h : BX12_either_5 Q K5 x1 σ Φ) : RW layM E (mi_X12_either (d + 1)) Φ 5 [some (.ref (eA E 0)), some (.int (iz x1))] [] σ x := by
  refine r_aloadn (dc D_cX12_either_0 3 rfl) rfl rfl ?_
  refine r_bipush (n := 124) (dc D_cX12_either_0 4 rfl) (by decide +kernel) ?_
  refine r_callV (As := [.int (iz 124)]) (st := []) (dc D_cX12_either_0 5 rfl) cw_RX12_258 nm_yX12_takes_ (CX12_takes_ hE _ (Rl rfl) _ hs h) lM_0 rfl rfl (Nat.le_trans (m := 20) (by decide) (Nat.le_add_right _ _)) rfl rfl rfl (fun z1 σ2 rz1 hσ2 h => ?_)
  show RW layM E (mi_X12_either (d + 1)) Φ 11 [some (.ref (eA E 0)), some (.int (iz x1))] [.int (iz z1)] σ2 x
  refine r_if_eq (tgt := 24) (dc D_cX12_either_0 6 rfl) (by decide) rz1 (fun c3 => ?_) (fun c3 => ?_)
  · have h := h.1 c3
    refine r_iloadn (dc D_cX12_either_0 13 rfl) rfl rfl ?_
    exact r_zret (dc D_cX12_either_0 14 rfl) rfl h.1 h.2
  · have h := h.2 c3
    refine r_iloadn (dc D_cX12_either_0 7 rfl) rfl rfl ?_
    refine r_aloadn (dc D_cX12_either_0 8 rfl) rfl rfl ?_
    refine r_callV (M2 := mi_X12_both d) (As := []) (st := [.int (iz x1)]) (dc D_cX12_either_0 9 rfl) cw_RX12_281 nm_yX12_both (hrec.2.1 _ _ hσ2 h) lM_0 rfl rfl (Nat.le_refl _) rfl rfl rfl (fun z4 σ5 rz4 hσ5 h => ?_)
    show RW layM E (mi_X12_either (d + 1)) Φ 19 [some (.ref (eA E 0)), some (.int (iz x1))] [.int (iz z4), .int (iz x1)] σ5 x
    refine r_ior (dc D_cX12_either_0 10 rfl) ?_
    refine r_name (fun v6 ev6 => ?_)
    have h := h v6 ev6
    have rv6 : Rg v6 := Rg_eq ev6 (Rg_of _)
    refine r_istoren (lv' := [some (.ref (eA E 0)), some (.int (iz v6))]) (dc D_cX12_either_0 11 rfl) rfl rfl rfl ?_
    refine r_goto (tgt := 5) (dc D_cX12_either_0 12 rfl) (by decide) ?_
    exact hK5 _ _ rv6 hσ5 h
theorem TX12_either_5 {E : EV} (hE : eOK layM E) {Q : Nat → PS → (Int → PS → Prop) → Prop} (d : Nat) (hrec : PR_rec E d Q) {Φ : Int → PS → Prop} (x : CX) (n : Nat) : ∀ (x1 : Int) (σ : PS), Rg x1 → RS σ → LX12_either_5 Q n x1 σ Φ → RW layM E (mi_X12_either (d + 1)) Φ 5 [some (.ref (eA E 0)), some (.int (iz x1))] [] σ x := by
  induction n with
  | zero => intro x1 σ _ _ h; exact h.elim
  | succ n ih => intro x1 σ rx1 hs h; exact TBX12_either_5 hE d hrec x ih x1 rx1 σ hs h
set_option maxRecDepth 100000 in
theorem CX12_either {E : EV} (hE : eOK layM E) {Q : Nat → PS → (Int → PS → Prop) → Prop} (d : Nat) (hrec : PR_rec E d Q) (Φ : Int → PS → Prop) (σ : PS) (hs : RS σ) (h : FX12_either Q σ Φ) : CT layM E yX12_either (mi_X12_either (d + 1)) [.ref (eA E 0)] σ Φ := by
  refine ct_of (by decide +kernel) rfl hE rfl rfl hs (fun x => ?_)
  show RW layM E (mi_X12_either (d + 1)) Φ 0 [some (.ref (eA E 0)), none] [] σ x
  refine r_aloadn (dc D_cX12_either_0 0 rfl) rfl rfl ?_
  refine r_callV (M2 := mi_X12_both d) (As := []) (st := []) (dc D_cX12_either_0 1 rfl) cw_RX12_281 nm_yX12_both (hrec.2.1 _ _ hs h) lM_0 rfl rfl (Nat.le_refl _) rfl rfl rfl (fun z1 σ2 rz1 hσ2 h => ?_)
  show RW layM E (mi_X12_either (d + 1)) Φ 4 [some (.ref (eA E 0)), none] [.int (iz z1)] σ2 x
  refine r_istoren (lv' := [some (.ref (eA E 0)), some (.int (iz z1))]) (dc D_cX12_either_0 2 rfl) rfl rfl rfl ?_
  obtain ⟨n, h⟩ := h
  exact TX12_either_5 hE d hrec x n _ _ rz1 hσ2 h
def PR : Nat → Nat → PS → (Int → PS → Prop) → Prop
  | 0, _, _, _ => False
  | d + 1, 0, σ, Φ => FX12_either (PR d) σ Φ
  | d + 1, 1, σ, Φ => FX12_both (PR d) σ Φ
  | d + 1, _, σ, Φ => FX12_one (PR d) σ Φ
theorem PR_all {E : EV} (hE : eOK layM E) (d : Nat) : PR_rec E d (PR d) := by
  induction d with
  | zero => exact ⟨fun Φ σ _ h => h.elim, fun Φ σ _ h => h.elim, fun Φ σ _ h => h.elim⟩
  | succ d ih => exact ⟨fun Φ σ hs h => CX12_either hE d ih Φ σ hs h, fun Φ σ hs h => CX12_both hE d ih Φ σ hs h, fun Φ σ hs h => CX12_one hE d ih Φ σ hs h⟩
-- end of GateFlowModel.either
def mi_X12_isSo : MI := (cX12_isSo, RX12, 3, 421, (some .boolean), 1)
def FX12_isSo (a1 : Int) (σ : PS) (Φ : Int → PS → Prop) : Prop :=
  FX12_begins σ (fun z1 σ2 =>
  ∀ σ3 : PS, σ3 = up2 σ2 0 34 0 →
  ∀ σ4 : PS, σ4 = up2 σ3 0 33 a1 →
  PR 400 0 σ4 (fun z5 σ6 =>
  ((σ6 0 29 ≤ σ6 0 30 →
    (z5 = 0 ∨ z5 = 1) ∧ Φ z5 σ6) ∧
  (¬ σ6 0 29 ≤ σ6 0 30 →
    FX12_wrong (σ6 0 30) σ6 (fun z8 σ9 =>
    (z5 = 0 ∨ z5 = 1) ∧ Φ z5 σ9)))))
theorem fp_12_33 : FP 12 33 .int := ⟨RX12, TX12, 39, tyX12, rfl, tyX12_ok, nmX12, rfl, by decide +kernel⟩
set_option maxRecDepth 100000 in
theorem CX12_isSo {E : EV} (hE : eOK layM E) {Φ : Int → PS → Prop} (a1 : Int) (ra1 : Rg a1) (σ : PS) (hs : RS σ) (h : FX12_isSo a1 σ Φ) : CT layM E yX12_isSo mi_X12_isSo [.ref (eA E 0), .int (iz a1)] σ Φ := by
  refine ct_of (by decide +kernel) rfl hE rfl rfl hs (fun x => ?_)
  show RW layM E mi_X12_isSo Φ 0 [some (.ref (eA E 0)), some (.int (iz a1)), none] [] σ x
  refine r_aloadn (dc D_cX12_isSo_0 0 rfl) rfl rfl ?_
  refine r_callV (As := []) (st := []) (dc D_cX12_isSo_0 1 rfl) cw_RX12_271 nm_yX12_begins (CX12_begins hE  _ hs h) lM_0 rfl rfl (by decide) rfl rfl rfl (fun z1 σ2 rz1 hσ2 h => ?_)
  show RW layM E mi_X12_isSo Φ 4 [some (.ref (eA E 0)), some (.int (iz a1)), none] [] σ2 x
  refine r_aloadn (dc D_cX12_isSo_0 2 rfl) rfl rfl ?_
  refine r_iconst (n := 0) (dc D_cX12_isSo_0 3 rfl) ?_
  refine r_put (dc D_cX12_isSo_0 4 rfl) fw_RX12_288 fp_12_34 lM_0 rfl (nar_int _) (Rl rfl) ?_
  refine r_sig (fun σ3 eσ3 => ?_)
  have h := h σ3 eσ3
  have hσ3 : RS σ3 := RS_eq eσ3 (RS.up hσ2 (Rl rfl) _ _)
  refine r_aloadn (dc D_cX12_isSo_0 5 rfl) rfl rfl ?_
  refine r_iloadn (dc D_cX12_isSo_0 6 rfl) rfl rfl ?_
  refine r_put (dc D_cX12_isSo_0 7 rfl) fw_RX12_297 fp_12_33 lM_0 rfl (nar_int _) ra1 ?_
  refine r_sig (fun σ4 eσ4 => ?_)
  have h := h σ4 eσ4
  have hσ4 : RS σ4 := RS_eq eσ4 (RS.up hσ3 ra1 _ _)
  refine r_aloadn (dc D_cX12_isSo_0 8 rfl) rfl rfl ?_
  refine r_callV (M2 := mi_X12_either 400) (As := []) (st := []) (dc D_cX12_isSo_0 9 rfl) cw_RX12_291 nm_yX12_either ((PR_all hE 400).1 _ _ hσ4 h) lM_0 rfl rfl (by decide) rfl rfl rfl (fun z5 σ6 rz5 hσ6 h => ?_)
  show RW layM E mi_X12_isSo Φ 18 [some (.ref (eA E 0)), some (.int (iz a1)), none] [.int (iz z5)] σ6 x
  refine r_istoren (lv' := [some (.ref (eA E 0)), some (.int (iz a1)), some (.int (iz z5))]) (dc D_cX12_isSo_0 10 rfl) rfl rfl rfl ?_
  refine r_aloadn (dc D_cX12_isSo_0 11 rfl) rfl rfl ?_
  refine r_getI (dc D_cX12_isSo_0 12 rfl) fw_RX12_249 lM_0 rfl ?_
  refine r_aloadn (dc D_cX12_isSo_0 13 rfl) rfl rfl ?_
  refine r_getI (dc D_cX12_isSo_0 14 rfl) fw_RX12_246 lM_0 rfl ?_
  refine r_icmp_ge (tgt := 38) (dc D_cX12_isSo_0 15 rfl) (by decide) (hσ6 _ _) (hσ6 _ _) (fun c7 => ?_) (fun c7 => ?_)
  · have h := h.1 c7
    refine r_iloadn (dc D_cX12_isSo_0 20 rfl) rfl rfl ?_
    exact r_zret (dc D_cX12_isSo_0 21 rfl) rfl h.1 h.2
  · have h := h.2 c7
    refine r_aloadn (dc D_cX12_isSo_0 16 rfl) rfl rfl ?_
    refine r_aloadn (dc D_cX12_isSo_0 17 rfl) rfl rfl ?_
    refine r_getI (dc D_cX12_isSo_0 18 rfl) fw_RX12_249 lM_0 rfl ?_
    refine r_callV (As := [.int (iz (σ6 0 30))]) (st := []) (dc D_cX12_isSo_0 19 rfl) cw_RX12_260 nm_yX12_wrong (CX12_wrong hE _ (hσ6 _ _) _ hσ6 h) lM_0 rfl rfl (by decide) rfl rfl rfl (fun z8 σ9 rz8 hσ9 h => ?_)
    show RW layM E mi_X12_isSo Φ 38 [some (.ref (eA E 0)), some (.int (iz a1)), some (.int (iz z5))] [] σ9 x
    refine r_iloadn (dc D_cX12_isSo_0 20 rfl) rfl rfl ?_
    exact r_zret (dc D_cX12_isSo_0 21 rfl) rfl h.1 h.2
-- end of GateFlowModel.isSo
def mi_X12_meant : MI := (cX12_meant, RX12, 3, 422, (some .int), 1)
def LX12_meant_48 (K22 : Int → Int → PS → Prop) (x2 s0 s1 : Int) (σ : PS) (Φ : Int → PS → Prop) : Prop :=
  ∀ v1 : Int, v1 = ior s0 s1 →
  Rg (x2 + 1) ∧
  K22 v1 (x2 + 1) σ
def BX12_meant_22 (K22 : Int → Int → PS → Prop) (x1 x2 : Int) (σ : PS) (Φ : Int → PS → Prop) : Prop :=
  ((σ 1 2 ≤ x2 →
    ∀ σ2 : PS, σ2 = up2 σ 0 29 0 →
    Φ x1 σ2) ∧
  (¬ σ 1 2 ≤ x2 →
    FX12_isSo x2 σ (fun z3 σ4 =>
    ((z3 = 0 →
      LX12_meant_48 K22 x2 x1 0 σ4 Φ) ∧
    (¬ z3 = 0 →
      LX12_meant_48 K22 x2 x1 (ishl 1 x2) σ4 Φ)))))
def LX12_meant_22 : Nat → Int → Int → PS → (Int → PS → Prop) → Prop
  | 0, _, _, _, _ => False
  | n + 1, x1, x2, σ, Φ => BX12_meant_22 (fun x1 x2 σ => LX12_meant_22 n x1 x2 σ Φ) x1 x2 σ Φ
def FX12_meant (σ : PS) (Φ : Int → PS → Prop) : Prop :=
  FX12_isSo (-1) σ (fun z1 σ2 =>
  ((0 ≤ σ2 0 31 →
    ∀ σ4 : PS, σ4 = up2 σ2 0 29 0 →
    Φ 0 σ4) ∧
  (¬ 0 ≤ σ2 0 31 →
    FX12_flowsNow σ2 (fun z5 σ6 =>
    ∃ n, LX12_meant_22 n 0 0 σ6 Φ))))
theorem cw_RX12_314 : CWV RX12 314 yX12_isSo mi_X12_isSo := tb_r [1646, 1648, 85, 110, 1649] (by decide +kernel)
theorem nm_yX12_isSo : ynm yX12_isSo 1 := ⟨⟨by decide +kernel, by decide +kernel⟩, by decide +kernel⟩
set_option maxRecDepth 100000 in
theorem TX12_meant_48 {E : EV} (hE : eOK layM E) {Φ : Int → PS → Prop} {K22 : Int → Int → PS → Prop} (x : CX) (hK22 : ∀ (x1 x2 : Int) (σ : PS), Rg x1 → Rg x2 → RS σ → K22 x1 x2 σ → RW layM E mi_X12_meant Φ 22 [some (.ref (eA E 0)), some (.int (iz x1)), some (.int (iz x2))] [] σ x) (x2 s0 s1 : Int) (rx2 : Rg x2) (rs0 : Rg s0) (rs1 : Rg s1) (σ : PS) (hs : RS σ) (h : LX12_meant_48 K22 x2 s0 s1 σ Φ) : RW layM E mi_X12_meant Φ 48 [some (.ref (eA E 0)), none, some (.int (iz x2))] [.int (iz s1), .int (iz s0)] σ x := by
  refine r_ior (dc D_cX12_meant_0 30 rfl) ?_
  refine r_name (fun v1 ev1 => ?_)
  have h := h v1 ev1
  have rv1 : Rg v1 := Rg_eq ev1 (Rg_of _)
  refine r_istoren (lv' := [some (.ref (eA E 0)), some (.int (iz v1)), some (.int (iz x2))]) (dc D_cX12_meant_0 31 rfl) rfl rfl rfl ?_
  obtain ⟨o2, h⟩ := h
  refine r_iinc (lv' := [some (.ref (eA E 0)), some (.int (iz v1)), some (.int (iz (x2 + 1)))]) (dc D_cX12_meant_0 32 rfl) rfl rfl rfl ?_
  refine r_goto (tgt := 22) (dc D_cX12_meant_0 33 rfl) (by decide) ?_
  exact hK22 _ _ _ rv1 o2 hs h
set_option maxRecDepth 100000 in
theorem TBX12_meant_22 {E : EV} (hE : eOK layM E) {Φ : Int → PS → Prop} {K22 : Int → Int → PS → Prop} (x : CX) (hK22 : ∀ (x1 x2 : Int) (σ : PS), Rg x1 → Rg x2 → RS σ → K22 x1 x2 σ → RW layM E mi_X12_meant Φ 22 [some (.ref (eA E 0)), some (.int (iz x1)), some (.int (iz x2))] [] σ x) (x1 x2 : Int) (rx1 : Rg x1) (rx2 : Rg x2) (σ : PS) (hs : RS σ) (h : BX12_meant_22 K22 x1 x2 σ Φ) : RW layM E mi_X12_meant Φ 22 [some (.ref (eA E 0)), some (.int (iz x1)), some (.int (iz x2))] [] σ x := by
  refine r_iloadn (dc D_cX12_meant_0 14 rfl) rfl rfl ?_
  refine r_aloadn (dc D_cX12_meant_0 15 rfl) rfl rfl ?_
  refine r_getR (dc D_cX12_meant_0 16 rfl) fw_RX12_9 lM_0 rfl ?_
  refine r_iconst (n := 2) (dc D_cX12_meant_0 17 rfl) ?_
  refine r_iald (N := 183) (dc D_cX12_meant_0 18 rfl) lM_1 rfl rfl ⟨by decide, by decide⟩ ?_
  refine r_icmp_ge (tgt := 56) (dc D_cX12_meant_0 19 rfl) (by decide) rx2 (hs _ _) (fun c1 => ?_) (fun c1 => ?_)
  · have h := h.1 c1
    refine r_aloadn (dc D_cX12_meant_0 34 rfl) rfl rfl ?_
    refine r_iconst (n := 0) (dc D_cX12_meant_0 35 rfl) ?_
    refine r_put (dc D_cX12_meant_0 36 rfl) fw_RX12_246 fp_12_29 lM_0 rfl (nar_int _) (Rl rfl) ?_
    refine r_sig (fun σ2 eσ2 => ?_)
    have h := h σ2 eσ2
    have hσ2 : RS σ2 := RS_eq eσ2 (RS.up hs (Rl rfl) _ _)
    refine r_iloadn (dc D_cX12_meant_0 37 rfl) rfl rfl ?_
    exact r_iret (dc D_cX12_meant_0 38 rfl) rfl rx1 h
  · have h := h.2 c1
    refine r_iloadn (dc D_cX12_meant_0 20 rfl) rfl rfl ?_
    refine r_aloadn (dc D_cX12_meant_0 21 rfl) rfl rfl ?_
    refine r_iloadn (dc D_cX12_meant_0 22 rfl) rfl rfl ?_
    refine r_callV (As := [.int (iz x2)]) (st := [.int (iz x1)]) (dc D_cX12_meant_0 23 rfl) cw_RX12_314 nm_yX12_isSo (CX12_isSo hE _ rx2 _ hs h) lM_0 rfl rfl (by decide) rfl rfl rfl (fun z3 σ4 rz3 hσ4 h => ?_)
    show RW layM E mi_X12_meant Φ 38 [some (.ref (eA E 0)), some (.int (iz x1)), some (.int (iz x2))] [.int (iz z3), .int (iz x1)] σ4 x
    refine r_if_eq (tgt := 47) (dc D_cX12_meant_0 24 rfl) (by decide) rz3 (fun c5 => ?_) (fun c5 => ?_)
    · have h := h.1 c5
      refine r_iconst (n := 0) (dc D_cX12_meant_0 29 rfl) ?_
      refine r_sub (lv' := [some (.ref (eA E 0)), none, some (.int (iz x2))]) (subL_s (subL_n (subL_s subL_e))) ?_
      exact TX12_meant_48 hE x hK22 _ _ _ rx2 rx1 (Rl rfl) _ hσ4 h
    · have h := h.2 c5
      refine r_iconst (n := 1) (dc D_cX12_meant_0 25 rfl) ?_
      refine r_iloadn (dc D_cX12_meant_0 26 rfl) rfl rfl ?_
      refine r_ishl (dc D_cX12_meant_0 27 rfl) ?_
      refine r_goto (tgt := 48) (dc D_cX12_meant_0 28 rfl) (by decide) ?_
      refine r_sub (lv' := [some (.ref (eA E 0)), none, some (.int (iz x2))]) (subL_s (subL_n (subL_s subL_e))) ?_
      exact TX12_meant_48 hE x hK22 _ _ _ rx2 rx1 (Rg_of _) _ hσ4 h
theorem TX12_meant_22 {E : EV} (hE : eOK layM E) {Φ : Int → PS → Prop} (x : CX) (n : Nat) : ∀ (x1 x2 : Int) (σ : PS), Rg x1 → Rg x2 → RS σ → LX12_meant_22 n x1 x2 σ Φ → RW layM E mi_X12_meant Φ 22 [some (.ref (eA E 0)), some (.int (iz x1)), some (.int (iz x2))] [] σ x := by
  induction n with
  | zero => intro x1 x2 σ _ _ _ h; exact h.elim
  | succ n ih => intro x1 x2 σ rx1 rx2 hs h; exact TBX12_meant_22 hE x ih x1 x2 rx1 rx2 σ hs h
set_option maxRecDepth 100000 in
theorem CX12_meant {E : EV} (hE : eOK layM E) {Φ : Int → PS → Prop} (σ : PS) (hs : RS σ) (h : FX12_meant σ Φ) : CT layM E yX12_meant mi_X12_meant [.ref (eA E 0)] σ Φ := by
  refine ct_of (by decide +kernel) rfl hE rfl rfl hs (fun x => ?_)
  show RW layM E mi_X12_meant Φ 0 [some (.ref (eA E 0)), none, none] [] σ x
  refine r_aloadn (dc D_cX12_meant_0 0 rfl) rfl rfl ?_
  refine r_iconst (n := (-1)) (dc D_cX12_meant_0 1 rfl) ?_
  refine r_callV (As := [.int (iz (-1))]) (st := []) (dc D_cX12_meant_0 2 rfl) cw_RX12_314 nm_yX12_isSo (CX12_isSo hE _ (Rl rfl) _ hs h) lM_0 rfl rfl (by decide) rfl rfl rfl (fun z1 σ2 rz1 hσ2 h => ?_)
  show RW layM E mi_X12_meant Φ 5 [some (.ref (eA E 0)), none, none] [.int (iz z1)] σ2 x
  refine r_pop (dc D_cX12_meant_0 3 rfl) rfl ?_
  refine r_iconst (n := 0) (dc D_cX12_meant_0 4 rfl) ?_
  refine r_istoren (lv' := [some (.ref (eA E 0)), some (.int (iz 0)), none]) (dc D_cX12_meant_0 5 rfl) rfl rfl rfl ?_
  refine r_aloadn (dc D_cX12_meant_0 6 rfl) rfl rfl ?_
  refine r_getI (dc D_cX12_meant_0 7 rfl) fw_RX12_252 lM_0 rfl ?_
  refine r_if_ge (tgt := 56) (dc D_cX12_meant_0 8 rfl) (by decide) (hσ2 _ _) (fun c3 => ?_) (fun c3 => ?_)
  · have h := h.1 c3
    refine r_aloadn (dc D_cX12_meant_0 34 rfl) rfl rfl ?_
    refine r_iconst (n := 0) (dc D_cX12_meant_0 35 rfl) ?_
    refine r_put (dc D_cX12_meant_0 36 rfl) fw_RX12_246 fp_12_29 lM_0 rfl (nar_int _) (Rl rfl) ?_
    refine r_sig (fun σ4 eσ4 => ?_)
    have h := h σ4 eσ4
    have hσ4 : RS σ4 := RS_eq eσ4 (RS.up hσ2 (Rl rfl) _ _)
    refine r_iloadn (dc D_cX12_meant_0 37 rfl) rfl rfl ?_
    exact r_iret (dc D_cX12_meant_0 38 rfl) rfl (Rl rfl) h
  · have h := h.2 c3
    refine r_aloadn (dc D_cX12_meant_0 9 rfl) rfl rfl ?_
    refine r_callV (As := []) (st := []) (dc D_cX12_meant_0 10 rfl) cw_RX12_160 nm_yX12_flowsNow (CX12_flowsNow hE  _ hσ2 h) lM_0 rfl rfl (by decide) rfl rfl rfl (fun z5 σ6 rz5 hσ6 h => ?_)
    show RW layM E mi_X12_meant Φ 19 [some (.ref (eA E 0)), some (.int (iz 0)), none] [.int (iz z5)] σ6 x
    refine r_pop (dc D_cX12_meant_0 11 rfl) rfl ?_
    refine r_iconst (n := 0) (dc D_cX12_meant_0 12 rfl) ?_
    refine r_istoren (lv' := [some (.ref (eA E 0)), some (.int (iz 0)), some (.int (iz 0))]) (dc D_cX12_meant_0 13 rfl) rfl rfl rfl ?_
    obtain ⟨n, h⟩ := h
    exact TX12_meant_22 hE x n _ _ _ (Rl rfl) (Rl rfl) hσ6 h
-- end of GateFlowModel.meant
def mi_X12_pick : MI := (cX12_pick, RX12, 2, 423, (some .int), 1)
def FX12_pick (σ : PS) (Φ : Int → PS → Prop) : Prop :=
  FX12_meant σ (fun z1 σ2 =>
  ((σ2 0 31 < 0 →
    Φ z1 σ2) ∧
  (¬ σ2 0 31 < 0 →
    Rg ((-100) - (σ2 0 31)) ∧
    Φ ((-100) - (σ2 0 31)) σ2)))
theorem cw_RX12_317 : CWV RX12 317 yX12_meant mi_X12_meant := tb_r [1642, 1644, 84, 110, 1645] (by decide +kernel)
theorem nm_yX12_meant : ynm yX12_meant 0 := ⟨⟨by decide +kernel, by decide +kernel⟩, by decide +kernel⟩
set_option maxRecDepth 100000 in
theorem CX12_pick {E : EV} (hE : eOK layM E) {Φ : Int → PS → Prop} (σ : PS) (hs : RS σ) (h : FX12_pick σ Φ) : CT layM E yX12_pick mi_X12_pick [.ref (eA E 0)] σ Φ := by
  refine ct_of (by decide +kernel) rfl hE rfl rfl hs (fun x => ?_)
  show RW layM E mi_X12_pick Φ 0 [some (.ref (eA E 0)), none] [] σ x
  refine r_aloadn (dc D_cX12_pick_0 0 rfl) rfl rfl ?_
  refine r_callV (As := []) (st := []) (dc D_cX12_pick_0 1 rfl) cw_RX12_317 nm_yX12_meant (CX12_meant hE  _ hs h) lM_0 rfl rfl (by decide) rfl rfl rfl (fun z1 σ2 rz1 hσ2 h => ?_)
  show RW layM E mi_X12_pick Φ 4 [some (.ref (eA E 0)), none] [.int (iz z1)] σ2 x
  refine r_istoren (lv' := [some (.ref (eA E 0)), some (.int (iz z1))]) (dc D_cX12_pick_0 2 rfl) rfl rfl rfl ?_
  refine r_aloadn (dc D_cX12_pick_0 3 rfl) rfl rfl ?_
  refine r_getI (dc D_cX12_pick_0 4 rfl) fw_RX12_252 lM_0 rfl ?_
  refine r_if_lt (tgt := 22) (dc D_cX12_pick_0 5 rfl) (by decide) (hσ2 _ _) (fun c3 => ?_) (fun c3 => ?_)
  · have h := h.1 c3
    refine r_iloadn (dc D_cX12_pick_0 11 rfl) rfl rfl ?_
    exact r_iret (dc D_cX12_pick_0 12 rfl) rfl rz1 h
  · have h := h.2 c3
    refine r_bipush (n := (-100)) (dc D_cX12_pick_0 6 rfl) (by decide +kernel) ?_
    refine r_aloadn (dc D_cX12_pick_0 7 rfl) rfl rfl ?_
    refine r_getI (dc D_cX12_pick_0 8 rfl) fw_RX12_252 lM_0 rfl ?_
    refine r_isub (dc D_cX12_pick_0 9 rfl) ?_
    obtain ⟨o4, h⟩ := h
    refine r_goto (tgt := 23) (dc D_cX12_pick_0 10 rfl) (by decide) ?_
    exact r_iret (dc D_cX12_pick_0 12 rfl) rfl o4 h
-- end of GateFlowModel.pick
def mi_X12_many : MI := (cX12_many, RX12, 2, 423, (some .int), 1)
def FX12_many (σ : PS) (Φ : Int → PS → Prop) : Prop :=
  FX12_meant σ (fun z1 σ2 =>
  ((σ2 0 31 < 0 →
    Φ (ibits z1) σ2) ∧
  (¬ σ2 0 31 < 0 →
    Rg ((-100) - (σ2 0 31)) ∧
    Φ ((-100) - (σ2 0 31)) σ2)))
theorem cw_RX12_320 : CWS RX12 320 yJ6_bitCount_0f7a4 mi_bitCount := tb_r [1677, 1092, 117, 1093] (by decide +kernel)
set_option maxRecDepth 100000 in
theorem CX12_many {E : EV} (hE : eOK layM E) {Φ : Int → PS → Prop} (σ : PS) (hs : RS σ) (h : FX12_many σ Φ) : CT layM E yX12_many mi_X12_many [.ref (eA E 0)] σ Φ := by
  refine ct_of (by decide +kernel) rfl hE rfl rfl hs (fun x => ?_)
  show RW layM E mi_X12_many Φ 0 [some (.ref (eA E 0)), none] [] σ x
  refine r_aloadn (dc D_cX12_many_0 0 rfl) rfl rfl ?_
  refine r_callV (As := []) (st := []) (dc D_cX12_many_0 1 rfl) cw_RX12_317 nm_yX12_meant (CX12_meant hE  _ hs h) lM_0 rfl rfl (by decide) rfl rfl rfl (fun z1 σ2 rz1 hσ2 h => ?_)
  show RW layM E mi_X12_many Φ 4 [some (.ref (eA E 0)), none] [.int (iz z1)] σ2 x
  refine r_istoren (lv' := [some (.ref (eA E 0)), some (.int (iz z1))]) (dc D_cX12_many_0 2 rfl) rfl rfl rfl ?_
  refine r_aloadn (dc D_cX12_many_0 3 rfl) rfl rfl ?_
  refine r_getI (dc D_cX12_many_0 4 rfl) fw_RX12_252 lM_0 rfl ?_
  refine r_if_lt (tgt := 22) (dc D_cX12_many_0 5 rfl) (by decide) (hσ2 _ _) (fun c3 => ?_) (fun c3 => ?_)
  · have h := h.1 c3
    refine r_iloadn (dc D_cX12_many_0 11 rfl) rfl rfl ?_
    refine r_callS (As := [.int (iz z1)]) (dc D_cX12_many_0 12 rfl) cw_RX12_320 nm_bitCount (C_bitCount hE _ rz1 _ hσ2) rfl (by decide) rfl rfl rfl (fun z σz rz hz qz => ?_)
    obtain ⟨ez, es⟩ := qz
    rw [ez] at rz
    rw [ez, es]
    show RW layM E mi_X12_many Φ 26 [some (.ref (eA E 0)), some (.int (iz z1))] [.int (iz (ibits z1))] σ2 x
    exact r_iret (dc D_cX12_many_0 13 rfl) rfl rz h
  · have h := h.2 c3
    refine r_bipush (n := (-100)) (dc D_cX12_many_0 6 rfl) (by decide +kernel) ?_
    refine r_aloadn (dc D_cX12_many_0 7 rfl) rfl rfl ?_
    refine r_getI (dc D_cX12_many_0 8 rfl) fw_RX12_252 lM_0 rfl ?_
    refine r_isub (dc D_cX12_many_0 9 rfl) ?_
    obtain ⟨o4, h⟩ := h
    refine r_goto (tgt := 26) (dc D_cX12_many_0 10 rfl) (by decide) ?_
    exact r_iret (dc D_cX12_many_0 13 rfl) rfl o4 h
-- end of GateFlowModel.many
def mi_X12_shutAll : MI := (cX12_shutAll, RX12, 5, 423, (some .int), 1)
def LX12_shutAll_77 (K36 : Int → Int → Int → Int → PS → Prop) (x1 x2 x3 x4 : Int) (σ : PS) (Φ : Int → PS → Prop) : Prop :=
  Rg (x4 + 1) ∧
  K36 x1 x2 x3 (x4 + 1) σ
def LX12_shutAll_75 (K36 : Int → Int → Int → Int → PS → Prop) (x1 x2 x4 s0 s1 : Int) (σ : PS) (Φ : Int → PS → Prop) : Prop :=
  Rg (s0 + s1) ∧
  ∀ v2 : Int, v2 = s0 + s1 →
  LX12_shutAll_77 K36 x1 x2 v2 x4 σ Φ
def BX12_shutAll_36 (K36 : Int → Int → Int → Int → PS → Prop) (x1 x2 x3 x4 : Int) (σ : PS) (Φ : Int → PS → Prop) : Prop :=
  ((σ 1 2 ≤ x4 →
    Φ x3 σ) ∧
  (¬ σ 1 2 ≤ x4 →
    ((¬ iand (ishr x2 x4) 1 = 1 →
      LX12_shutAll_77 K36 x1 x2 x3 x4 σ Φ) ∧
    (iand (ishr x2 x4) 1 = 1 →
      FX12_becomes x4 5 x1 σ (fun z3 σ4 =>
      ((¬ z3 = x1 →
        LX12_shutAll_75 K36 x1 x2 x4 x3 1 σ4 Φ) ∧
      (z3 = x1 →
        LX12_shutAll_75 K36 x1 x2 x4 x3 0 σ4 Φ)))))))
def LX12_shutAll_36 : Nat → Int → Int → Int → Int → PS → (Int → PS → Prop) → Prop
  | 0, _, _, _, _, _, _ => False
  | n + 1, x1, x2, x3, x4, σ, Φ => BX12_shutAll_36 (fun x1 x2 x3 x4 σ => LX12_shutAll_36 n x1 x2 x3 x4 σ Φ) x1 x2 x3 x4 σ Φ
def FX12_shutAll (a1 : Int) (σ : PS) (Φ : Int → PS → Prop) : Prop :=
  FX12_in a1 0 1 σ (fun z1 σ2 =>
  ((¬ z1 = 0 →
    FX12_meant σ2 (fun z4 σ5 =>
    ((σ5 0 31 < 0 →
      ∃ n, LX12_shutAll_36 n a1 z4 0 0 σ5 Φ) ∧
    (¬ σ5 0 31 < 0 →
      Rg ((-100) - (σ5 0 31)) ∧
      Φ ((-100) - (σ5 0 31)) σ5)))) ∧
  (z1 = 0 →
    Φ (-1) σ2)))
set_option maxRecDepth 100000 in
theorem TX12_shutAll_77 {E : EV} (hE : eOK layM E) {Φ : Int → PS → Prop} {K36 : Int → Int → Int → Int → PS → Prop} (x : CX) (hK36 : ∀ (x1 x2 x3 x4 : Int) (σ : PS), Rg x1 → Rg x2 → Rg x3 → Rg x4 → RS σ → K36 x1 x2 x3 x4 σ → RW layM E mi_X12_shutAll Φ 36 [some (.ref (eA E 0)), some (.int (iz x1)), some (.int (iz x2)), some (.int (iz x3)), some (.int (iz x4))] [] σ x) (x1 x2 x3 x4 : Int) (rx1 : Rg x1) (rx2 : Rg x2) (rx3 : Rg x3) (rx4 : Rg x4) (σ : PS) (hs : RS σ) (h : LX12_shutAll_77 K36 x1 x2 x3 x4 σ Φ) : RW layM E mi_X12_shutAll Φ 77 [some (.ref (eA E 0)), some (.int (iz x1)), some (.int (iz x2)), some (.int (iz x3)), some (.int (iz x4))] [] σ x := by
  obtain ⟨o1, h⟩ := h
  refine r_iinc (lv' := [some (.ref (eA E 0)), some (.int (iz x1)), some (.int (iz x2)), some (.int (iz x3)), some (.int (iz (x4 + 1)))]) (dc D_cX12_shutAll_1 8 rfl) rfl rfl rfl ?_
  refine r_goto (tgt := 36) (dc D_cX12_shutAll_1 9 rfl) (by decide) ?_
  exact hK36 _ _ _ _ _ rx1 rx2 rx3 o1 hs h
set_option maxRecDepth 100000 in
theorem TX12_shutAll_75 {E : EV} (hE : eOK layM E) {Φ : Int → PS → Prop} {K36 : Int → Int → Int → Int → PS → Prop} (x : CX) (hK36 : ∀ (x1 x2 x3 x4 : Int) (σ : PS), Rg x1 → Rg x2 → Rg x3 → Rg x4 → RS σ → K36 x1 x2 x3 x4 σ → RW layM E mi_X12_shutAll Φ 36 [some (.ref (eA E 0)), some (.int (iz x1)), some (.int (iz x2)), some (.int (iz x3)), some (.int (iz x4))] [] σ x) (x1 x2 x4 s0 s1 : Int) (rx1 : Rg x1) (rx2 : Rg x2) (rx4 : Rg x4) (rs0 : Rg s0) (rs1 : Rg s1) (σ : PS) (hs : RS σ) (h : LX12_shutAll_75 K36 x1 x2 x4 s0 s1 σ Φ) : RW layM E mi_X12_shutAll Φ 75 [some (.ref (eA E 0)), some (.int (iz x1)), some (.int (iz x2)), none, some (.int (iz x4))] [.int (iz s1), .int (iz s0)] σ x := by
  refine r_iadd (dc D_cX12_shutAll_1 6 rfl) ?_
  obtain ⟨o1, h⟩ := h
  refine r_name (fun v2 ev2 => ?_)
  have h := h v2 ev2
  have rv2 : Rg v2 := Rg_eq ev2 o1
  refine r_istoren (lv' := [some (.ref (eA E 0)), some (.int (iz x1)), some (.int (iz x2)), some (.int (iz v2)), some (.int (iz x4))]) (dc D_cX12_shutAll_1 7 rfl) rfl rfl rfl ?_
  exact TX12_shutAll_77 hE x hK36 _ _ _ _ rx1 rx2 rv2 rx4 _ hs h
set_option maxRecDepth 100000 in
theorem TBX12_shutAll_36 {E : EV} (hE : eOK layM E) {Φ : Int → PS → Prop} {K36 : Int → Int → Int → Int → PS → Prop} (x : CX) (hK36 : ∀ (x1 x2 x3 x4 : Int) (σ : PS), Rg x1 → Rg x2 → Rg x3 → Rg x4 → RS σ → K36 x1 x2 x3 x4 σ → RW layM E mi_X12_shutAll Φ 36 [some (.ref (eA E 0)), some (.int (iz x1)), some (.int (iz x2)), some (.int (iz x3)), some (.int (iz x4))] [] σ x) (x1 x2 x3 x4 : Int) (rx1 : Rg x1) (rx2 : Rg x2) (rx3 : Rg x3) (rx4 : Rg x4) (σ : PS) (hs : RS σ) (h : BX12_shutAll_36 K36 x1 x2 x3 x4 σ Φ) : RW layM E mi_X12_shutAll Φ 36 [some (.ref (eA E 0)), some (.int (iz x1)), some (.int (iz x2)), some (.int (iz x3)), some (.int (iz x4))] [] σ x := by
  refine r_iload (dc D_cX12_shutAll_0 22 rfl) rfl ?_
  refine r_aloadn (dc D_cX12_shutAll_0 23 rfl) rfl rfl ?_
  refine r_getR (dc D_cX12_shutAll_0 24 rfl) fw_RX12_9 lM_0 rfl ?_
  refine r_iconst (n := 2) (dc D_cX12_shutAll_0 25 rfl) ?_
  refine r_iald (N := 183) (dc D_cX12_shutAll_0 26 rfl) lM_1 rfl rfl ⟨by decide, by decide⟩ ?_
  refine r_icmp_ge (tgt := 83) (dc D_cX12_shutAll_0 27 rfl) (by decide) rx4 (hs _ _) (fun c1 => ?_) (fun c1 => ?_)
  · have h := h.1 c1
    refine r_iloadn (dc D_cX12_shutAll_1 10 rfl) rfl rfl ?_
    exact r_iret (dc D_cX12_shutAll_1 11 rfl) rfl rx3 h
  · have h := h.2 c1
    refine r_iloadn (dc D_cX12_shutAll_0 28 rfl) rfl rfl ?_
    refine r_iload (dc D_cX12_shutAll_0 29 rfl) rfl ?_
    refine r_ishr (dc D_cX12_shutAll_0 30 rfl) ?_
    refine r_iconst (n := 1) (dc D_cX12_shutAll_0 31 rfl) ?_
    refine r_iand (dc D_cX12_shutAll_0 32 rfl) ?_
    refine r_iconst (n := 1) (dc D_cX12_shutAll_0 33 rfl) ?_
    refine r_icmp_ne (tgt := 77) (dc D_cX12_shutAll_0 34 rfl) (by decide) (Rg_of _) (Rl rfl) (fun c2 => ?_) (fun c2 => ?_)
    · have h := h.1 c2
      exact TX12_shutAll_77 hE x hK36 _ _ _ _ rx1 rx2 rx3 rx4 _ hs h
    · have h := h.2 c2
      refine r_iloadn (dc D_cX12_shutAll_0 35 rfl) rfl rfl ?_
      refine r_aloadn (dc D_cX12_shutAll_0 36 rfl) rfl rfl ?_
      refine r_iload (dc D_cX12_shutAll_0 37 rfl) rfl ?_
      refine r_iconst (n := 5) (dc D_cX12_shutAll_0 38 rfl) ?_
      refine r_iloadn (dc D_cX12_shutAll_0 39 rfl) rfl rfl ?_
      refine r_callV (As := [.int (iz x4), .int (iz 5), .int (iz x1)]) (st := [.int (iz x3)]) (dc D_cX12_shutAll_1 0 rfl) cw_RX12_116 nm_yX12_becomes (CX12_becomes hE _ _ _ rx4 (Rl rfl) rx1 _ hs h) lM_0 rfl rfl (by decide) rfl rfl rfl (fun z3 σ4 rz3 hσ4 h => ?_)
      show RW layM E mi_X12_shutAll Φ 66 [some (.ref (eA E 0)), some (.int (iz x1)), some (.int (iz x2)), some (.int (iz x3)), some (.int (iz x4))] [.int (iz z3), .int (iz x3)] σ4 x
      refine r_iloadn (dc D_cX12_shutAll_1 1 rfl) rfl rfl ?_
      refine r_icmp_ne (tgt := 74) (dc D_cX12_shutAll_1 2 rfl) (by decide) rz3 rx1 (fun c5 => ?_) (fun c5 => ?_)
      · have h := h.1 c5
        refine r_iconst (n := 1) (dc D_cX12_shutAll_1 5 rfl) ?_
        refine r_sub (lv' := [some (.ref (eA E 0)), some (.int (iz x1)), some (.int (iz x2)), none, some (.int (iz x4))]) (subL_s (subL_s (subL_s (subL_n (subL_s subL_e))))) ?_
        exact TX12_shutAll_75 hE x hK36 _ _ _ _ _ rx1 rx2 rx4 rx3 (Rl rfl) _ hσ4 h
      · have h := h.2 c5
        refine r_iconst (n := 0) (dc D_cX12_shutAll_1 3 rfl) ?_
        refine r_goto (tgt := 75) (dc D_cX12_shutAll_1 4 rfl) (by decide) ?_
        refine r_sub (lv' := [some (.ref (eA E 0)), some (.int (iz x1)), some (.int (iz x2)), none, some (.int (iz x4))]) (subL_s (subL_s (subL_s (subL_n (subL_s subL_e))))) ?_
        exact TX12_shutAll_75 hE x hK36 _ _ _ _ _ rx1 rx2 rx4 rx3 (Rl rfl) _ hσ4 h
theorem TX12_shutAll_36 {E : EV} (hE : eOK layM E) {Φ : Int → PS → Prop} (x : CX) (n : Nat) : ∀ (x1 x2 x3 x4 : Int) (σ : PS), Rg x1 → Rg x2 → Rg x3 → Rg x4 → RS σ → LX12_shutAll_36 n x1 x2 x3 x4 σ Φ → RW layM E mi_X12_shutAll Φ 36 [some (.ref (eA E 0)), some (.int (iz x1)), some (.int (iz x2)), some (.int (iz x3)), some (.int (iz x4))] [] σ x := by
  induction n with
  | zero => intro x1 x2 x3 x4 σ _ _ _ _ _ h; exact h.elim
  | succ n ih => intro x1 x2 x3 x4 σ rx1 rx2 rx3 rx4 hs h; exact TBX12_shutAll_36 hE x ih x1 x2 x3 x4 rx1 rx2 rx3 rx4 σ hs h
set_option maxRecDepth 100000 in
theorem CX12_shutAll {E : EV} (hE : eOK layM E) {Φ : Int → PS → Prop} (a1 : Int) (ra1 : Rg a1) (σ : PS) (hs : RS σ) (h : FX12_shutAll a1 σ Φ) : CT layM E yX12_shutAll mi_X12_shutAll [.ref (eA E 0), .int (iz a1)] σ Φ := by
  refine ct_of (by decide +kernel) rfl hE rfl rfl hs (fun x => ?_)
  show RW layM E mi_X12_shutAll Φ 0 [some (.ref (eA E 0)), some (.int (iz a1)), none, none, none] [] σ x
  refine r_iloadn (dc D_cX12_shutAll_0 0 rfl) rfl rfl ?_
  refine r_iconst (n := 0) (dc D_cX12_shutAll_0 1 rfl) ?_
  refine r_iconst (n := 1) (dc D_cX12_shutAll_0 2 rfl) ?_
  refine r_callS (As := [.int (iz a1), .int (iz 0), .int (iz 1)]) (st := []) (dc D_cX12_shutAll_0 3 rfl) cw_RX12_90 nm_yX12_in (CX12_in hE _ _ _ ra1 (Rl rfl) (Rl rfl) _ hs h) rfl (by decide) rfl rfl rfl (fun z1 σ2 rz1 hσ2 h => ?_)
  show RW layM E mi_X12_shutAll Φ 6 [some (.ref (eA E 0)), some (.int (iz a1)), none, none, none] [.int (iz z1)] σ2 x
  refine r_if_ne (tgt := 11) (dc D_cX12_shutAll_0 4 rfl) (by decide) rz1 (fun c3 => ?_) (fun c3 => ?_)
  · have h := h.1 c3
    refine r_aloadn (dc D_cX12_shutAll_0 7 rfl) rfl rfl ?_
    refine r_callV (As := []) (st := []) (dc D_cX12_shutAll_0 8 rfl) cw_RX12_317 nm_yX12_meant (CX12_meant hE  _ hσ2 h) lM_0 rfl rfl (by decide) rfl rfl rfl (fun z4 σ5 rz4 hσ5 h => ?_)
    show RW layM E mi_X12_shutAll Φ 15 [some (.ref (eA E 0)), some (.int (iz a1)), none, none, none] [.int (iz z4)] σ5 x
    refine r_istoren (lv' := [some (.ref (eA E 0)), some (.int (iz a1)), some (.int (iz z4)), none, none]) (dc D_cX12_shutAll_0 9 rfl) rfl rfl rfl ?_
    refine r_aloadn (dc D_cX12_shutAll_0 10 rfl) rfl rfl ?_
    refine r_getI (dc D_cX12_shutAll_0 11 rfl) fw_RX12_252 lM_0 rfl ?_
    refine r_if_lt (tgt := 31) (dc D_cX12_shutAll_0 12 rfl) (by decide) (hσ5 _ _) (fun c6 => ?_) (fun c6 => ?_)
    · have h := h.1 c6
      refine r_iconst (n := 0) (dc D_cX12_shutAll_0 18 rfl) ?_
      refine r_istoren (lv' := [some (.ref (eA E 0)), some (.int (iz a1)), some (.int (iz z4)), some (.int (iz 0)), none]) (dc D_cX12_shutAll_0 19 rfl) rfl rfl rfl ?_
      refine r_iconst (n := 0) (dc D_cX12_shutAll_0 20 rfl) ?_
      refine r_istore (lv' := [some (.ref (eA E 0)), some (.int (iz a1)), some (.int (iz z4)), some (.int (iz 0)), some (.int (iz 0))]) (dc D_cX12_shutAll_0 21 rfl) rfl rfl ?_
      obtain ⟨n, h⟩ := h
      exact TX12_shutAll_36 hE x n _ _ _ _ _ ra1 rz4 (Rl rfl) (Rl rfl) hσ5 h
    · have h := h.2 c6
      refine r_bipush (n := (-100)) (dc D_cX12_shutAll_0 13 rfl) (by decide +kernel) ?_
      refine r_aloadn (dc D_cX12_shutAll_0 14 rfl) rfl rfl ?_
      refine r_getI (dc D_cX12_shutAll_0 15 rfl) fw_RX12_252 lM_0 rfl ?_
      refine r_isub (dc D_cX12_shutAll_0 16 rfl) ?_
      obtain ⟨o7, h⟩ := h
      exact r_iret (dc D_cX12_shutAll_0 17 rfl) rfl o7 h
  · have h := h.2 c3
    refine r_iconst (n := (-1)) (dc D_cX12_shutAll_0 5 rfl) ?_
    exact r_iret (dc D_cX12_shutAll_0 6 rfl) rfl (Rl rfl) h
-- end of GateFlowModel.shutAll
def mi_X12_puts : MI := (cX12_puts, RX12, 2, 1, none, 0)
def FX12_puts (a1 : Int) (σ : PS) (Φ : Int → PS → Prop) : Prop :=
  (0 ≤ σ 0 36 ∧ σ 0 36 < 600) ∧
  ∀ σ2 : PS, σ2 = up2 σ 24 (σ 0 36).toNat a1 →
  Rg ((σ2 0 36) + 1) ∧
  ∀ σ4 : PS, σ4 = up2 σ2 0 36 ((σ2 0 36) + 1) →
  Φ 0 σ4
theorem fw_RX12_325 : FW RX12 325 12 36 := ⟨RX12, TX12, 39, rfl, by decide, rfl, tb_1 1255 (by decide +kernel), uw_12⟩
theorem fw_RX12_81 : FW RX12 81 12 35 := ⟨RX12, TX12, 39, rfl, by decide, rfl, tb_1 1254 (by decide +kernel), uw_12⟩
theorem fp_12_36 : FP 12 36 .int := ⟨RX12, TX12, 39, tyX12, rfl, tyX12_ok, nmX12, rfl, by decide +kernel⟩
set_option maxRecDepth 100000 in
theorem CX12_puts {E : EV} (hE : eOK layM E) {Φ : Int → PS → Prop} (a1 : Int) (ra1 : Rg a1) (σ : PS) (hs : RS σ) (h : FX12_puts a1 σ Φ) : CT layM E yX12_puts mi_X12_puts [.ref (eA E 0), .int (iz a1)] σ Φ := by
  refine ct_of (by decide +kernel) rfl hE rfl rfl hs (fun x => ?_)
  show RW layM E mi_X12_puts Φ 0 [some (.ref (eA E 0)), some (.int (iz a1))] [] σ x
  refine r_aloadn (dc D_cX12_puts_0 0 rfl) rfl rfl ?_
  refine r_getR (dc D_cX12_puts_0 1 rfl) fw_RX12_81 lM_0 rfl ?_
  refine r_aloadn (dc D_cX12_puts_0 2 rfl) rfl rfl ?_
  refine r_getI (dc D_cX12_puts_0 3 rfl) fw_RX12_325 lM_0 rfl ?_
  refine r_iloadn (dc D_cX12_puts_0 4 rfl) rfl rfl ?_
  obtain ⟨o1, h⟩ := h
  refine r_iast (N := 600) (dc D_cX12_puts_0 5 rfl) lM_24 rfl rfl o1 ra1 ?_
  refine r_sig (fun σ2 eσ2 => ?_)
  have h := h σ2 eσ2
  have hσ2 : RS σ2 := RS_eq eσ2 (RS.up hs ra1 _ _)
  refine r_aloadn (dc D_cX12_puts_0 6 rfl) rfl rfl ?_
  refine r_dup (dc D_cX12_puts_0 7 rfl) rfl ?_
  refine r_getI (dc D_cX12_puts_0 8 rfl) fw_RX12_325 lM_0 rfl ?_
  refine r_iconst (n := 1) (dc D_cX12_puts_0 9 rfl) ?_
  refine r_iadd (dc D_cX12_puts_0 10 rfl) ?_
  obtain ⟨o3, h⟩ := h
  refine r_put (dc D_cX12_puts_0 11 rfl) fw_RX12_325 fp_12_36 lM_0 rfl (nar_int _) o3 ?_
  refine r_sig (fun σ4 eσ4 => ?_)
  have h := h σ4 eσ4
  have hσ4 : RS σ4 := RS_eq eσ4 (RS.up hσ2 o3 _ _)
  exact r_vret (dc D_cX12_puts_0 12 rfl) rfl h
-- end of GateFlowModel.puts
def mi_X12_putsNumber : MI := (cX12_putsNumber, RX12, 2, 2, none, 0)
def LX12_putsNumber_37 (x1 : Int) (σ : PS) (Φ : Int → PS → Prop) : Prop :=
  0 ≤ x1 ∧
  Rg (48 + (x1 % 10)) ∧
  FX12_puts (48 + (x1 % 10)) σ (fun z3 σ4 =>
  Φ 0 σ4)
def LX12_putsNumber_17 (x1 : Int) (σ : PS) (Φ : Int → PS → Prop) : Prop :=
  ((x1 ≤ 9 →
    LX12_putsNumber_37 x1 σ Φ) ∧
  (¬ x1 ≤ 9 →
    0 ≤ x1 ∧
    0 ≤ x1 / 10 ∧
    Rg (48 + ((x1 / 10) % 10)) ∧
    FX12_puts (48 + ((x1 / 10) % 10)) σ (fun z5 σ6 =>
    LX12_putsNumber_37 x1 σ6 Φ)))
def FX12_putsNumber (a1 : Int) (σ : PS) (Φ : Int → PS → Prop) : Prop :=
  ((a1 ≤ 99 →
    LX12_putsNumber_17 a1 σ Φ) ∧
  (¬ a1 ≤ 99 →
    0 ≤ a1 ∧
    Rg (48 + (a1 / 100)) ∧
    FX12_puts (48 + (a1 / 100)) σ (fun z4 σ5 =>
    LX12_putsNumber_17 a1 σ5 Φ)))
theorem cw_RX12_328 : CWV RX12 328 yX12_puts mi_X12_puts := tb_r [1686, 1688, 91, 110, 1689] (by decide +kernel)
theorem nm_yX12_puts : ynm yX12_puts 1 := ⟨⟨by decide +kernel, by decide +kernel⟩, by decide +kernel⟩
set_option maxRecDepth 100000 in
theorem TX12_putsNumber_37 {E : EV} (hE : eOK layM E) {Φ : Int → PS → Prop} (x : CX) (x1 : Int) (rx1 : Rg x1) (σ : PS) (hs : RS σ) (h : LX12_putsNumber_37 x1 σ Φ) : RW layM E mi_X12_putsNumber Φ 37 [some (.ref (eA E 0)), some (.int (iz x1))] [] σ x := by
  refine r_aloadn (dc D_cX12_putsNumber_0 22 rfl) rfl rfl ?_
  refine r_bipush (n := 48) (dc D_cX12_putsNumber_0 23 rfl) (by decide +kernel) ?_
  refine r_iloadn (dc D_cX12_putsNumber_0 24 rfl) rfl rfl ?_
  refine r_bipush (n := 10) (dc D_cX12_putsNumber_0 25 rfl) (by decide +kernel) ?_
  obtain ⟨o1, h⟩ := h
  refine r_irem (dc D_cX12_putsNumber_0 26 rfl) rx1 (Rl rfl) o1 (by decide) ?_
  refine r_iadd (dc D_cX12_putsNumber_0 27 rfl) ?_
  obtain ⟨o2, h⟩ := h
  refine r_callV (As := [.int (iz (48 + (x1 % 10)))]) (st := []) (dc D_cX12_putsNumber_0 28 rfl) cw_RX12_328 nm_yX12_puts (CX12_puts hE _ o2 _ hs h) lM_0 rfl rfl (by decide) rfl rfl rfl (fun z3 σ4 rz3 hσ4 h => ?_)
  show RW layM E mi_X12_putsNumber Φ 48 [some (.ref (eA E 0)), some (.int (iz x1))] [] σ4 x
  exact r_vret (dc D_cX12_putsNumber_0 29 rfl) rfl h
set_option maxRecDepth 100000 in
theorem TX12_putsNumber_17 {E : EV} (hE : eOK layM E) {Φ : Int → PS → Prop} (x : CX) (x1 : Int) (rx1 : Rg x1) (σ : PS) (hs : RS σ) (h : LX12_putsNumber_17 x1 σ Φ) : RW layM E mi_X12_putsNumber Φ 17 [some (.ref (eA E 0)), some (.int (iz x1))] [] σ x := by
  refine r_iloadn (dc D_cX12_putsNumber_0 10 rfl) rfl rfl ?_
  refine r_bipush (n := 9) (dc D_cX12_putsNumber_0 11 rfl) (by decide +kernel) ?_
  refine r_icmp_le (tgt := 37) (dc D_cX12_putsNumber_0 12 rfl) (by decide) rx1 (Rl rfl) (fun c1 => ?_) (fun c1 => ?_)
  · have h := h.1 c1
    exact TX12_putsNumber_37 hE x _ rx1 _ hs h
  · have h := h.2 c1
    refine r_aloadn (dc D_cX12_putsNumber_0 13 rfl) rfl rfl ?_
    refine r_bipush (n := 48) (dc D_cX12_putsNumber_0 14 rfl) (by decide +kernel) ?_
    refine r_iloadn (dc D_cX12_putsNumber_0 15 rfl) rfl rfl ?_
    refine r_bipush (n := 10) (dc D_cX12_putsNumber_0 16 rfl) (by decide +kernel) ?_
    obtain ⟨o2, h⟩ := h
    refine r_idiv (dc D_cX12_putsNumber_0 17 rfl) rx1 (Rl rfl) o2 (by decide) ?_
    refine r_bipush (n := 10) (dc D_cX12_putsNumber_0 18 rfl) (by decide +kernel) ?_
    obtain ⟨o3, h⟩ := h
    refine r_irem (dc D_cX12_putsNumber_0 19 rfl) (Rg_div rx1 o2 rfl) (Rl rfl) o3 (by decide) ?_
    refine r_iadd (dc D_cX12_putsNumber_0 20 rfl) ?_
    obtain ⟨o4, h⟩ := h
    refine r_callV (As := [.int (iz (48 + ((x1 / 10) % 10)))]) (st := []) (dc D_cX12_putsNumber_0 21 rfl) cw_RX12_328 nm_yX12_puts (CX12_puts hE _ o4 _ hs h) lM_0 rfl rfl (by decide) rfl rfl rfl (fun z5 σ6 rz5 hσ6 h => ?_)
    show RW layM E mi_X12_putsNumber Φ 37 [some (.ref (eA E 0)), some (.int (iz x1))] [] σ6 x
    exact TX12_putsNumber_37 hE x _ rx1 _ hσ6 h
set_option maxRecDepth 100000 in
theorem CX12_putsNumber {E : EV} (hE : eOK layM E) {Φ : Int → PS → Prop} (a1 : Int) (ra1 : Rg a1) (σ : PS) (hs : RS σ) (h : FX12_putsNumber a1 σ Φ) : CT layM E yX12_putsNumber mi_X12_putsNumber [.ref (eA E 0), .int (iz a1)] σ Φ := by
  refine ct_of (by decide +kernel) rfl hE rfl rfl hs (fun x => ?_)
  show RW layM E mi_X12_putsNumber Φ 0 [some (.ref (eA E 0)), some (.int (iz a1))] [] σ x
  refine r_iloadn (dc D_cX12_putsNumber_0 0 rfl) rfl rfl ?_
  refine r_bipush (n := 99) (dc D_cX12_putsNumber_0 1 rfl) (by decide +kernel) ?_
  refine r_icmp_le (tgt := 17) (dc D_cX12_putsNumber_0 2 rfl) (by decide) ra1 (Rl rfl) (fun c1 => ?_) (fun c1 => ?_)
  · have h := h.1 c1
    exact TX12_putsNumber_17 hE x _ ra1 _ hs h
  · have h := h.2 c1
    refine r_aloadn (dc D_cX12_putsNumber_0 3 rfl) rfl rfl ?_
    refine r_bipush (n := 48) (dc D_cX12_putsNumber_0 4 rfl) (by decide +kernel) ?_
    refine r_iloadn (dc D_cX12_putsNumber_0 5 rfl) rfl rfl ?_
    refine r_bipush (n := 100) (dc D_cX12_putsNumber_0 6 rfl) (by decide +kernel) ?_
    obtain ⟨o2, h⟩ := h
    refine r_idiv (dc D_cX12_putsNumber_0 7 rfl) ra1 (Rl rfl) o2 (by decide) ?_
    refine r_iadd (dc D_cX12_putsNumber_0 8 rfl) ?_
    obtain ⟨o3, h⟩ := h
    refine r_callV (As := [.int (iz (48 + (a1 / 100)))]) (st := []) (dc D_cX12_putsNumber_0 9 rfl) cw_RX12_328 nm_yX12_puts (CX12_puts hE _ o3 _ hs h) lM_0 rfl rfl (by decide) rfl rfl rfl (fun z4 σ5 rz4 hσ5 h => ?_)
    show RW layM E mi_X12_putsNumber Φ 17 [some (.ref (eA E 0)), some (.int (iz a1))] [] σ5 x
    exact TX12_putsNumber_17 hE x _ ra1 _ hσ5 h
-- end of GateFlowModel.putsNumber
def mi_X12_spell : MI := (cX12_spell, RX12, 2, 3, (some .int), 1)
def LX12_spell_134 (K7 : Int → PS → Prop) (x1 : Int) (σ : PS) (Φ : Int → PS → Prop) : Prop :=
  Rg (x1 + 1) ∧
  K7 (x1 + 1) σ
def LX12_spell_120 (K7 : Int → PS → Prop) (x1 : Int) (σ : PS) (Φ : Int → PS → Prop) : Prop :=
  FX12_isOpen x1 σ (fun z1 σ2 =>
  ((¬ z1 = 0 →
    LX12_spell_134 K7 x1 σ2 Φ) ∧
  (z1 = 0 →
    FX12_puts 120 σ2 (fun z4 σ5 =>
    LX12_spell_134 K7 x1 σ5 Φ))))
def LX12_spell_84 (K7 : Int → PS → Prop) (x1 : Int) (σ : PS) (Φ : Int → PS → Prop) : Prop :=
  FX12_at x1 3 σ (fun z1 σ2 =>
  FX12_putsNumber z1 σ2 (fun z3 σ4 =>
  FX12_at x1 4 σ4 (fun z5 σ6 =>
  ((z5 ≤ 1 →
    LX12_spell_120 K7 x1 σ6 Φ) ∧
  (¬ z5 ≤ 1 →
    FX12_puts 64 σ6 (fun z8 σ9 =>
    FX12_at x1 4 σ9 (fun z10 σ11 =>
    FX12_putsNumber z10 σ11 (fun z12 σ13 =>
    LX12_spell_120 K7 x1 σ13 Φ))))))))
def LX12_spell_27 (K7 : Int → PS → Prop) (x1 : Int) (σ : PS) (Φ : Int → PS → Prop) : Prop :=
  FX12_at x1 0 σ (fun z1 σ2 =>
  FX12_putsNumber z1 σ2 (fun z3 σ4 =>
  FX12_puts 62 σ4 (fun z5 σ6 =>
  FX12_at x1 1 σ6 (fun z7 σ8 =>
  FX12_putsNumber z7 σ8 (fun z9 σ10 =>
  FX12_puts 58 σ10 (fun z11 σ12 =>
  FX12_at x1 2 σ12 (fun z13 σ14 =>
  ((z13 ≤ 0 →
    LX12_spell_84 K7 x1 σ14 Φ) ∧
  (¬ z13 ≤ 0 →
    FX12_at x1 2 σ14 (fun z16 σ17 =>
    FX12_putsNumber z16 σ17 (fun z18 σ19 =>
    FX12_puts 45 σ19 (fun z20 σ21 =>
    LX12_spell_84 K7 x1 σ21 Φ))))))))))))
def BX12_spell_7 (K7 : Int → PS → Prop) (x1 : Int) (σ : PS) (Φ : Int → PS → Prop) : Prop :=
  ((σ 1 2 ≤ x1 →
    Φ (σ 0 36) σ) ∧
  (¬ σ 1 2 ≤ x1 →
    ((x1 ≤ 0 →
      LX12_spell_27 K7 x1 σ Φ) ∧
    (¬ x1 ≤ 0 →
      FX12_puts 59 σ (fun z3 σ4 =>
      LX12_spell_27 K7 x1 σ4 Φ)))))
def LX12_spell_7 : Nat → Int → PS → (Int → PS → Prop) → Prop
  | 0, _, _, _ => False
  | n + 1, x1, σ, Φ => BX12_spell_7 (fun x1 σ => LX12_spell_7 n x1 σ Φ) x1 σ Φ
def FX12_spell (σ : PS) (Φ : Int → PS → Prop) : Prop :=
  ∀ σ1 : PS, σ1 = up2 σ 0 36 0 →
  ∃ n, LX12_spell_7 n 0 σ1 Φ
theorem cw_RX12_331 : CWV RX12 331 yX12_putsNumber mi_X12_putsNumber := tb_r [1690, 1692, 92, 110, 1693] (by decide +kernel)
theorem nm_yX12_putsNumber : ynm yX12_putsNumber 1 := ⟨⟨by decide +kernel, by decide +kernel⟩, by decide +kernel⟩
set_option maxRecDepth 100000 in
theorem TX12_spell_134 {E : EV} (hE : eOK layM E) {Φ : Int → PS → Prop} {K7 : Int → PS → Prop} (x : CX) (hK7 : ∀ (x1 : Int) (σ : PS), Rg x1 → RS σ → K7 x1 σ → RW layM E mi_X12_spell Φ 7 [some (.ref (eA E 0)), some (.int (iz x1))] [] σ x) (x1 : Int) (rx1 : Rg x1) (σ : PS) (hs : RS σ) (h : LX12_spell_134 K7 x1 σ Φ) : RW layM E mi_X12_spell Φ 134 [some (.ref (eA E 0)), some (.int (iz x1))] [] σ x := by
  obtain ⟨o1, h⟩ := h
  refine r_iinc (lv' := [some (.ref (eA E 0)), some (.int (iz (x1 + 1)))]) (dc D_cX12_spell_1 36 rfl) rfl rfl rfl ?_
  refine r_goto (tgt := 7) (dc D_cX12_spell_1 37 rfl) (by decide) ?_
  exact hK7 _ _ o1 hs h
set_option maxRecDepth 100000 in
theorem TX12_spell_120 {E : EV} (hE : eOK layM E) {Φ : Int → PS → Prop} {K7 : Int → PS → Prop} (x : CX) (hK7 : ∀ (x1 : Int) (σ : PS), Rg x1 → RS σ → K7 x1 σ → RW layM E mi_X12_spell Φ 7 [some (.ref (eA E 0)), some (.int (iz x1))] [] σ x) (x1 : Int) (rx1 : Rg x1) (σ : PS) (hs : RS σ) (h : LX12_spell_120 K7 x1 σ Φ) : RW layM E mi_X12_spell Φ 120 [some (.ref (eA E 0)), some (.int (iz x1))] [] σ x := by
  refine r_aloadn (dc D_cX12_spell_1 29 rfl) rfl rfl ?_
  refine r_iloadn (dc D_cX12_spell_1 30 rfl) rfl rfl ?_
  refine r_callV (As := [.int (iz x1)]) (st := []) (dc D_cX12_spell_1 31 rfl) cw_RX12_98 nm_yX12_isOpen (CX12_isOpen hE _ rx1 _ hs h) lM_0 rfl rfl (by decide) rfl rfl rfl (fun z1 σ2 rz1 hσ2 h => ?_)
  show RW layM E mi_X12_spell Φ 125 [some (.ref (eA E 0)), some (.int (iz x1))] [.int (iz z1)] σ2 x
  refine r_if_ne (tgt := 134) (dc D_cX12_spell_1 32 rfl) (by decide) rz1 (fun c3 => ?_) (fun c3 => ?_)
  · have h := h.1 c3
    exact TX12_spell_134 hE x hK7 _ rx1 _ hσ2 h
  · have h := h.2 c3
    refine r_aloadn (dc D_cX12_spell_1 33 rfl) rfl rfl ?_
    refine r_bipush (n := 120) (dc D_cX12_spell_1 34 rfl) (by decide +kernel) ?_
    refine r_callV (As := [.int (iz 120)]) (st := []) (dc D_cX12_spell_1 35 rfl) cw_RX12_328 nm_yX12_puts (CX12_puts hE _ (Rl rfl) _ hσ2 h) lM_0 rfl rfl (by decide) rfl rfl rfl (fun z4 σ5 rz4 hσ5 h => ?_)
    show RW layM E mi_X12_spell Φ 134 [some (.ref (eA E 0)), some (.int (iz x1))] [] σ5 x
    exact TX12_spell_134 hE x hK7 _ rx1 _ hσ5 h
set_option maxRecDepth 100000 in
theorem TX12_spell_84 {E : EV} (hE : eOK layM E) {Φ : Int → PS → Prop} {K7 : Int → PS → Prop} (x : CX) (hK7 : ∀ (x1 : Int) (σ : PS), Rg x1 → RS σ → K7 x1 σ → RW layM E mi_X12_spell Φ 7 [some (.ref (eA E 0)), some (.int (iz x1))] [] σ x) (x1 : Int) (rx1 : Rg x1) (σ : PS) (hs : RS σ) (h : LX12_spell_84 K7 x1 σ Φ) : RW layM E mi_X12_spell Φ 84 [some (.ref (eA E 0)), some (.int (iz x1))] [] σ x := by
  refine r_aloadn (dc D_cX12_spell_1 8 rfl) rfl rfl ?_
  refine r_aloadn (dc D_cX12_spell_1 9 rfl) rfl rfl ?_
  refine r_iloadn (dc D_cX12_spell_1 10 rfl) rfl rfl ?_
  refine r_iconst (n := 3) (dc D_cX12_spell_1 11 rfl) ?_
  refine r_callV (As := [.int (iz x1), .int (iz 3)]) (st := [.ref (eA E 0)]) (dc D_cX12_spell_1 12 rfl) cw_RX12_94 nm_yX12_at (CX12_at hE _ _ rx1 (Rl rfl) _ hs h) lM_0 rfl rfl (by decide) rfl rfl rfl (fun z1 σ2 rz1 hσ2 h => ?_)
  show RW layM E mi_X12_spell Φ 91 [some (.ref (eA E 0)), some (.int (iz x1))] [.int (iz z1), .ref (eA E 0)] σ2 x
  refine r_callV (As := [.int (iz z1)]) (st := []) (dc D_cX12_spell_1 13 rfl) cw_RX12_331 nm_yX12_putsNumber (CX12_putsNumber hE _ rz1 _ hσ2 h) lM_0 rfl rfl (by decide) rfl rfl rfl (fun z3 σ4 rz3 hσ4 h => ?_)
  show RW layM E mi_X12_spell Φ 94 [some (.ref (eA E 0)), some (.int (iz x1))] [] σ4 x
  refine r_aloadn (dc D_cX12_spell_1 14 rfl) rfl rfl ?_
  refine r_iloadn (dc D_cX12_spell_1 15 rfl) rfl rfl ?_
  refine r_iconst (n := 4) (dc D_cX12_spell_1 16 rfl) ?_
  refine r_callV (As := [.int (iz x1), .int (iz 4)]) (st := []) (dc D_cX12_spell_1 17 rfl) cw_RX12_94 nm_yX12_at (CX12_at hE _ _ rx1 (Rl rfl) _ hσ4 h) lM_0 rfl rfl (by decide) rfl rfl rfl (fun z5 σ6 rz5 hσ6 h => ?_)
  show RW layM E mi_X12_spell Φ 100 [some (.ref (eA E 0)), some (.int (iz x1))] [.int (iz z5)] σ6 x
  refine r_iconst (n := 1) (dc D_cX12_spell_1 18 rfl) ?_
  refine r_icmp_le (tgt := 120) (dc D_cX12_spell_1 19 rfl) (by decide) rz5 (Rl rfl) (fun c7 => ?_) (fun c7 => ?_)
  · have h := h.1 c7
    exact TX12_spell_120 hE x hK7 _ rx1 _ hσ6 h
  · have h := h.2 c7
    refine r_aloadn (dc D_cX12_spell_1 20 rfl) rfl rfl ?_
    refine r_bipush (n := 64) (dc D_cX12_spell_1 21 rfl) (by decide +kernel) ?_
    refine r_callV (As := [.int (iz 64)]) (st := []) (dc D_cX12_spell_1 22 rfl) cw_RX12_328 nm_yX12_puts (CX12_puts hE _ (Rl rfl) _ hσ6 h) lM_0 rfl rfl (by decide) rfl rfl rfl (fun z8 σ9 rz8 hσ9 h => ?_)
    show RW layM E mi_X12_spell Φ 110 [some (.ref (eA E 0)), some (.int (iz x1))] [] σ9 x
    refine r_aloadn (dc D_cX12_spell_1 23 rfl) rfl rfl ?_
    refine r_aloadn (dc D_cX12_spell_1 24 rfl) rfl rfl ?_
    refine r_iloadn (dc D_cX12_spell_1 25 rfl) rfl rfl ?_
    refine r_iconst (n := 4) (dc D_cX12_spell_1 26 rfl) ?_
    refine r_callV (As := [.int (iz x1), .int (iz 4)]) (st := [.ref (eA E 0)]) (dc D_cX12_spell_1 27 rfl) cw_RX12_94 nm_yX12_at (CX12_at hE _ _ rx1 (Rl rfl) _ hσ9 h) lM_0 rfl rfl (by decide) rfl rfl rfl (fun z10 σ11 rz10 hσ11 h => ?_)
    show RW layM E mi_X12_spell Φ 117 [some (.ref (eA E 0)), some (.int (iz x1))] [.int (iz z10), .ref (eA E 0)] σ11 x
    refine r_callV (As := [.int (iz z10)]) (st := []) (dc D_cX12_spell_1 28 rfl) cw_RX12_331 nm_yX12_putsNumber (CX12_putsNumber hE _ rz10 _ hσ11 h) lM_0 rfl rfl (by decide) rfl rfl rfl (fun z12 σ13 rz12 hσ13 h => ?_)
    show RW layM E mi_X12_spell Φ 120 [some (.ref (eA E 0)), some (.int (iz x1))] [] σ13 x
    exact TX12_spell_120 hE x hK7 _ rx1 _ hσ13 h
set_option maxRecDepth 100000 in
theorem TX12_spell_27 {E : EV} (hE : eOK layM E) {Φ : Int → PS → Prop} {K7 : Int → PS → Prop} (x : CX) (hK7 : ∀ (x1 : Int) (σ : PS), Rg x1 → RS σ → K7 x1 σ → RW layM E mi_X12_spell Φ 7 [some (.ref (eA E 0)), some (.int (iz x1))] [] σ x) (x1 : Int) (rx1 : Rg x1) (σ : PS) (hs : RS σ) (h : LX12_spell_27 K7 x1 σ Φ) : RW layM E mi_X12_spell Φ 27 [some (.ref (eA E 0)), some (.int (iz x1))] [] σ x := by
  refine r_aloadn (dc D_cX12_spell_0 16 rfl) rfl rfl ?_
  refine r_aloadn (dc D_cX12_spell_0 17 rfl) rfl rfl ?_
  refine r_iloadn (dc D_cX12_spell_0 18 rfl) rfl rfl ?_
  refine r_iconst (n := 0) (dc D_cX12_spell_0 19 rfl) ?_
  refine r_callV (As := [.int (iz x1), .int (iz 0)]) (st := [.ref (eA E 0)]) (dc D_cX12_spell_0 20 rfl) cw_RX12_94 nm_yX12_at (CX12_at hE _ _ rx1 (Rl rfl) _ hs h) lM_0 rfl rfl (by decide) rfl rfl rfl (fun z1 σ2 rz1 hσ2 h => ?_)
  show RW layM E mi_X12_spell Φ 34 [some (.ref (eA E 0)), some (.int (iz x1))] [.int (iz z1), .ref (eA E 0)] σ2 x
  refine r_callV (As := [.int (iz z1)]) (st := []) (dc D_cX12_spell_0 21 rfl) cw_RX12_331 nm_yX12_putsNumber (CX12_putsNumber hE _ rz1 _ hσ2 h) lM_0 rfl rfl (by decide) rfl rfl rfl (fun z3 σ4 rz3 hσ4 h => ?_)
  show RW layM E mi_X12_spell Φ 37 [some (.ref (eA E 0)), some (.int (iz x1))] [] σ4 x
  refine r_aloadn (dc D_cX12_spell_0 22 rfl) rfl rfl ?_
  refine r_bipush (n := 62) (dc D_cX12_spell_0 23 rfl) (by decide +kernel) ?_
  refine r_callV (As := [.int (iz 62)]) (st := []) (dc D_cX12_spell_0 24 rfl) cw_RX12_328 nm_yX12_puts (CX12_puts hE _ (Rl rfl) _ hσ4 h) lM_0 rfl rfl (by decide) rfl rfl rfl (fun z5 σ6 rz5 hσ6 h => ?_)
  show RW layM E mi_X12_spell Φ 43 [some (.ref (eA E 0)), some (.int (iz x1))] [] σ6 x
  refine r_aloadn (dc D_cX12_spell_0 25 rfl) rfl rfl ?_
  refine r_aloadn (dc D_cX12_spell_0 26 rfl) rfl rfl ?_
  refine r_iloadn (dc D_cX12_spell_0 27 rfl) rfl rfl ?_
  refine r_iconst (n := 1) (dc D_cX12_spell_0 28 rfl) ?_
  refine r_callV (As := [.int (iz x1), .int (iz 1)]) (st := [.ref (eA E 0)]) (dc D_cX12_spell_0 29 rfl) cw_RX12_94 nm_yX12_at (CX12_at hE _ _ rx1 (Rl rfl) _ hσ6 h) lM_0 rfl rfl (by decide) rfl rfl rfl (fun z7 σ8 rz7 hσ8 h => ?_)
  show RW layM E mi_X12_spell Φ 50 [some (.ref (eA E 0)), some (.int (iz x1))] [.int (iz z7), .ref (eA E 0)] σ8 x
  refine r_callV (As := [.int (iz z7)]) (st := []) (dc D_cX12_spell_0 30 rfl) cw_RX12_331 nm_yX12_putsNumber (CX12_putsNumber hE _ rz7 _ hσ8 h) lM_0 rfl rfl (by decide) rfl rfl rfl (fun z9 σ10 rz9 hσ10 h => ?_)
  show RW layM E mi_X12_spell Φ 53 [some (.ref (eA E 0)), some (.int (iz x1))] [] σ10 x
  refine r_aloadn (dc D_cX12_spell_0 31 rfl) rfl rfl ?_
  refine r_bipush (n := 58) (dc D_cX12_spell_0 32 rfl) (by decide +kernel) ?_
  refine r_callV (As := [.int (iz 58)]) (st := []) (dc D_cX12_spell_0 33 rfl) cw_RX12_328 nm_yX12_puts (CX12_puts hE _ (Rl rfl) _ hσ10 h) lM_0 rfl rfl (by decide) rfl rfl rfl (fun z11 σ12 rz11 hσ12 h => ?_)
  show RW layM E mi_X12_spell Φ 59 [some (.ref (eA E 0)), some (.int (iz x1))] [] σ12 x
  refine r_aloadn (dc D_cX12_spell_0 34 rfl) rfl rfl ?_
  refine r_iloadn (dc D_cX12_spell_0 35 rfl) rfl rfl ?_
  refine r_iconst (n := 2) (dc D_cX12_spell_0 36 rfl) ?_
  refine r_callV (As := [.int (iz x1), .int (iz 2)]) (st := []) (dc D_cX12_spell_0 37 rfl) cw_RX12_94 nm_yX12_at (CX12_at hE _ _ rx1 (Rl rfl) _ hσ12 h) lM_0 rfl rfl (by decide) rfl rfl rfl (fun z13 σ14 rz13 hσ14 h => ?_)
  show RW layM E mi_X12_spell Φ 65 [some (.ref (eA E 0)), some (.int (iz x1))] [.int (iz z13)] σ14 x
  refine r_if_le (tgt := 84) (dc D_cX12_spell_0 38 rfl) (by decide) rz13 (fun c15 => ?_) (fun c15 => ?_)
  · have h := h.1 c15
    exact TX12_spell_84 hE x hK7 _ rx1 _ hσ14 h
  · have h := h.2 c15
    refine r_aloadn (dc D_cX12_spell_0 39 rfl) rfl rfl ?_
    refine r_aloadn (dc D_cX12_spell_1 0 rfl) rfl rfl ?_
    refine r_iloadn (dc D_cX12_spell_1 1 rfl) rfl rfl ?_
    refine r_iconst (n := 2) (dc D_cX12_spell_1 2 rfl) ?_
    refine r_callV (As := [.int (iz x1), .int (iz 2)]) (st := [.ref (eA E 0)]) (dc D_cX12_spell_1 3 rfl) cw_RX12_94 nm_yX12_at (CX12_at hE _ _ rx1 (Rl rfl) _ hσ14 h) lM_0 rfl rfl (by decide) rfl rfl rfl (fun z16 σ17 rz16 hσ17 h => ?_)
    show RW layM E mi_X12_spell Φ 75 [some (.ref (eA E 0)), some (.int (iz x1))] [.int (iz z16), .ref (eA E 0)] σ17 x
    refine r_callV (As := [.int (iz z16)]) (st := []) (dc D_cX12_spell_1 4 rfl) cw_RX12_331 nm_yX12_putsNumber (CX12_putsNumber hE _ rz16 _ hσ17 h) lM_0 rfl rfl (by decide) rfl rfl rfl (fun z18 σ19 rz18 hσ19 h => ?_)
    show RW layM E mi_X12_spell Φ 78 [some (.ref (eA E 0)), some (.int (iz x1))] [] σ19 x
    refine r_aloadn (dc D_cX12_spell_1 5 rfl) rfl rfl ?_
    refine r_bipush (n := 45) (dc D_cX12_spell_1 6 rfl) (by decide +kernel) ?_
    refine r_callV (As := [.int (iz 45)]) (st := []) (dc D_cX12_spell_1 7 rfl) cw_RX12_328 nm_yX12_puts (CX12_puts hE _ (Rl rfl) _ hσ19 h) lM_0 rfl rfl (by decide) rfl rfl rfl (fun z20 σ21 rz20 hσ21 h => ?_)
    show RW layM E mi_X12_spell Φ 84 [some (.ref (eA E 0)), some (.int (iz x1))] [] σ21 x
    exact TX12_spell_84 hE x hK7 _ rx1 _ hσ21 h
set_option maxRecDepth 100000 in
theorem TBX12_spell_7 {E : EV} (hE : eOK layM E) {Φ : Int → PS → Prop} {K7 : Int → PS → Prop} (x : CX) (hK7 : ∀ (x1 : Int) (σ : PS), Rg x1 → RS σ → K7 x1 σ → RW layM E mi_X12_spell Φ 7 [some (.ref (eA E 0)), some (.int (iz x1))] [] σ x) (x1 : Int) (rx1 : Rg x1) (σ : PS) (hs : RS σ) (h : BX12_spell_7 K7 x1 σ Φ) : RW layM E mi_X12_spell Φ 7 [some (.ref (eA E 0)), some (.int (iz x1))] [] σ x := by
  refine r_iloadn (dc D_cX12_spell_0 5 rfl) rfl rfl ?_
  refine r_aloadn (dc D_cX12_spell_0 6 rfl) rfl rfl ?_
  refine r_getR (dc D_cX12_spell_0 7 rfl) fw_RX12_9 lM_0 rfl ?_
  refine r_iconst (n := 2) (dc D_cX12_spell_0 8 rfl) ?_
  refine r_iald (N := 183) (dc D_cX12_spell_0 9 rfl) lM_1 rfl rfl ⟨by decide, by decide⟩ ?_
  refine r_icmp_ge (tgt := 140) (dc D_cX12_spell_0 10 rfl) (by decide) rx1 (hs _ _) (fun c1 => ?_) (fun c1 => ?_)
  · have h := h.1 c1
    refine r_aloadn (dc D_cX12_spell_1 38 rfl) rfl rfl ?_
    refine r_getI (dc D_cX12_spell_1 39 rfl) fw_RX12_325 lM_0 rfl ?_
    exact r_iret (dc D_cX12_spell_2 0 rfl) rfl (hs _ _) h
  · have h := h.2 c1
    refine r_iloadn (dc D_cX12_spell_0 11 rfl) rfl rfl ?_
    refine r_if_le (tgt := 27) (dc D_cX12_spell_0 12 rfl) (by decide) rx1 (fun c2 => ?_) (fun c2 => ?_)
    · have h := h.1 c2
      exact TX12_spell_27 hE x hK7 _ rx1 _ hs h
    · have h := h.2 c2
      refine r_aloadn (dc D_cX12_spell_0 13 rfl) rfl rfl ?_
      refine r_bipush (n := 59) (dc D_cX12_spell_0 14 rfl) (by decide +kernel) ?_
      refine r_callV (As := [.int (iz 59)]) (st := []) (dc D_cX12_spell_0 15 rfl) cw_RX12_328 nm_yX12_puts (CX12_puts hE _ (Rl rfl) _ hs h) lM_0 rfl rfl (by decide) rfl rfl rfl (fun z3 σ4 rz3 hσ4 h => ?_)
      show RW layM E mi_X12_spell Φ 27 [some (.ref (eA E 0)), some (.int (iz x1))] [] σ4 x
      exact TX12_spell_27 hE x hK7 _ rx1 _ hσ4 h
theorem TX12_spell_7 {E : EV} (hE : eOK layM E) {Φ : Int → PS → Prop} (x : CX) (n : Nat) : ∀ (x1 : Int) (σ : PS), Rg x1 → RS σ → LX12_spell_7 n x1 σ Φ → RW layM E mi_X12_spell Φ 7 [some (.ref (eA E 0)), some (.int (iz x1))] [] σ x := by
  induction n with
  | zero => intro x1 σ _ _ h; exact h.elim
  | succ n ih => intro x1 σ rx1 hs h; exact TBX12_spell_7 hE x ih x1 rx1 σ hs h
set_option maxRecDepth 100000 in
theorem CX12_spell {E : EV} (hE : eOK layM E) {Φ : Int → PS → Prop} (σ : PS) (hs : RS σ) (h : FX12_spell σ Φ) : CT layM E yX12_spell mi_X12_spell [.ref (eA E 0)] σ Φ := by
  refine ct_of (by decide +kernel) rfl hE rfl rfl hs (fun x => ?_)
  show RW layM E mi_X12_spell Φ 0 [some (.ref (eA E 0)), none] [] σ x
  refine r_aloadn (dc D_cX12_spell_0 0 rfl) rfl rfl ?_
  refine r_iconst (n := 0) (dc D_cX12_spell_0 1 rfl) ?_
  refine r_put (dc D_cX12_spell_0 2 rfl) fw_RX12_325 fp_12_36 lM_0 rfl (nar_int _) (Rl rfl) ?_
  refine r_sig (fun σ1 eσ1 => ?_)
  have h := h σ1 eσ1
  have hσ1 : RS σ1 := RS_eq eσ1 (RS.up hs (Rl rfl) _ _)
  refine r_iconst (n := 0) (dc D_cX12_spell_0 3 rfl) ?_
  refine r_istoren (lv' := [some (.ref (eA E 0)), some (.int (iz 0))]) (dc D_cX12_spell_0 4 rfl) rfl rfl rfl ?_
  obtain ⟨n, h⟩ := h
  exact TX12_spell_7 hE x n _ _ (Rl rfl) hσ1 h
-- end of GateFlowModel.spell
def mi_X12_paper : MI := (cX12_paper, RX12, 2, 2, (some .int), 1)
def FX12_paper (a1 : Int) (σ : PS) (Φ : Int → PS → Prop) : Prop :=
  Rg ((σ 0 36) - 1) ∧
  FX12_in a1 0 ((σ 0 36) - 1) σ (fun z2 σ3 =>
  ((z2 = 0 →
    Φ (-1) σ3) ∧
  (¬ z2 = 0 →
    (0 ≤ a1 ∧ a1 < 600) ∧
    Φ (σ3 24 a1.toNat) σ3)))
set_option maxRecDepth 100000 in
theorem CX12_paper {E : EV} (hE : eOK layM E) {Φ : Int → PS → Prop} (a1 : Int) (ra1 : Rg a1) (σ : PS) (hs : RS σ) (h : FX12_paper a1 σ Φ) : CT layM E yX12_paper mi_X12_paper [.ref (eA E 0), .int (iz a1)] σ Φ := by
  refine ct_of (by decide +kernel) rfl hE rfl rfl hs (fun x => ?_)
  show RW layM E mi_X12_paper Φ 0 [some (.ref (eA E 0)), some (.int (iz a1))] [] σ x
  refine r_iloadn (dc D_cX12_paper_0 0 rfl) rfl rfl ?_
  refine r_iconst (n := 0) (dc D_cX12_paper_0 1 rfl) ?_
  refine r_aloadn (dc D_cX12_paper_0 2 rfl) rfl rfl ?_
  refine r_getI (dc D_cX12_paper_0 3 rfl) fw_RX12_325 lM_0 rfl ?_
  refine r_iconst (n := 1) (dc D_cX12_paper_0 4 rfl) ?_
  refine r_isub (dc D_cX12_paper_0 5 rfl) ?_
  obtain ⟨o1, h⟩ := h
  refine r_callS (As := [.int (iz a1), .int (iz 0), .int (iz ((σ 0 36) - 1))]) (st := []) (dc D_cX12_paper_0 6 rfl) cw_RX12_90 nm_yX12_in (CX12_in hE _ _ _ ra1 (Rl rfl) o1 _ hs h) rfl (by decide) rfl rfl rfl (fun z2 σ3 rz2 hσ3 h => ?_)
  show RW layM E mi_X12_paper Φ 11 [some (.ref (eA E 0)), some (.int (iz a1))] [.int (iz z2)] σ3 x
  refine r_if_eq (tgt := 23) (dc D_cX12_paper_0 7 rfl) (by decide) rz2 (fun c4 => ?_) (fun c4 => ?_)
  · have h := h.1 c4
    refine r_iconst (n := (-1)) (dc D_cX12_paper_0 13 rfl) ?_
    exact r_iret (dc D_cX12_paper_0 14 rfl) rfl (Rl rfl) h
  · have h := h.2 c4
    refine r_aloadn (dc D_cX12_paper_0 8 rfl) rfl rfl ?_
    refine r_getR (dc D_cX12_paper_0 9 rfl) fw_RX12_81 lM_0 rfl ?_
    refine r_iloadn (dc D_cX12_paper_0 10 rfl) rfl rfl ?_
    obtain ⟨o5, h⟩ := h
    refine r_iald (N := 600) (dc D_cX12_paper_0 11 rfl) lM_24 rfl rfl o5 ?_
    refine r_goto (tgt := 24) (dc D_cX12_paper_0 12 rfl) (by decide) ?_
    exact r_iret (dc D_cX12_paper_0 14 rfl) rfl (hσ3 _ _) h
-- end of GateFlowModel.paper
def mi_X12_linesOf : MI := (cX12_linesOf, RX12, 4, 7, (some .int), 1)
def LX12_linesOf_32 (K8 : Int → Int → Int → PS → Prop) (x1 x3 s0 s1 : Int) (σ : PS) (Φ : Int → PS → Prop) : Prop :=
  Rg (s0 + s1) ∧
  ∀ v2 : Int, v2 = s0 + s1 →
  Rg (x3 + 1) ∧
  K8 x1 v2 (x3 + 1) σ
def BX12_linesOf_8 (K8 : Int → Int → Int → PS → Prop) (x1 x2 x3 : Int) (σ : PS) (Φ : Int → PS → Prop) : Prop :=
  ((σ 0 18 ≤ x3 →
    Φ x2 σ) ∧
  (¬ σ 0 18 ≤ x3 →
    (0 ≤ x3 ∧ x3 < 30) ∧
    ((¬ σ 17 x3.toNat = x1 →
      LX12_linesOf_32 K8 x1 x3 x2 0 σ Φ) ∧
    (σ 17 x3.toNat = x1 →
      LX12_linesOf_32 K8 x1 x3 x2 1 σ Φ))))
def LX12_linesOf_8 : Nat → Int → Int → Int → PS → (Int → PS → Prop) → Prop
  | 0, _, _, _, _, _ => False
  | n + 1, x1, x2, x3, σ, Φ => BX12_linesOf_8 (fun x1 x2 x3 σ => LX12_linesOf_8 n x1 x2 x3 σ Φ) x1 x2 x3 σ Φ
def FX12_linesOf (a1 : Int) (σ : PS) (Φ : Int → PS → Prop) : Prop :=
  FX12_findLines σ (fun z1 σ2 =>
  ∃ n, LX12_linesOf_8 n a1 0 0 σ2 Φ)
set_option maxRecDepth 100000 in
theorem TX12_linesOf_32 {E : EV} (hE : eOK layM E) {Φ : Int → PS → Prop} {K8 : Int → Int → Int → PS → Prop} (x : CX) (hK8 : ∀ (x1 x2 x3 : Int) (σ : PS), Rg x1 → Rg x2 → Rg x3 → RS σ → K8 x1 x2 x3 σ → RW layM E mi_X12_linesOf Φ 8 [some (.ref (eA E 0)), some (.int (iz x1)), some (.int (iz x2)), some (.int (iz x3))] [] σ x) (x1 x3 s0 s1 : Int) (rx1 : Rg x1) (rx3 : Rg x3) (rs0 : Rg s0) (rs1 : Rg s1) (σ : PS) (hs : RS σ) (h : LX12_linesOf_32 K8 x1 x3 s0 s1 σ Φ) : RW layM E mi_X12_linesOf Φ 32 [some (.ref (eA E 0)), some (.int (iz x1)), none, some (.int (iz x3))] [.int (iz s1), .int (iz s0)] σ x := by
  refine r_iadd (dc D_cX12_linesOf_0 20 rfl) ?_
  obtain ⟨o1, h⟩ := h
  refine r_name (fun v2 ev2 => ?_)
  have h := h v2 ev2
  have rv2 : Rg v2 := Rg_eq ev2 o1
  refine r_istoren (lv' := [some (.ref (eA E 0)), some (.int (iz x1)), some (.int (iz v2)), some (.int (iz x3))]) (dc D_cX12_linesOf_0 21 rfl) rfl rfl rfl ?_
  obtain ⟨o3, h⟩ := h
  refine r_iinc (lv' := [some (.ref (eA E 0)), some (.int (iz x1)), some (.int (iz v2)), some (.int (iz (x3 + 1)))]) (dc D_cX12_linesOf_0 22 rfl) rfl rfl rfl ?_
  refine r_goto (tgt := 8) (dc D_cX12_linesOf_0 23 rfl) (by decide) ?_
  exact hK8 _ _ _ _ rx1 rv2 o3 hs h
set_option maxRecDepth 100000 in
theorem TBX12_linesOf_8 {E : EV} (hE : eOK layM E) {Φ : Int → PS → Prop} {K8 : Int → Int → Int → PS → Prop} (x : CX) (hK8 : ∀ (x1 x2 x3 : Int) (σ : PS), Rg x1 → Rg x2 → Rg x3 → RS σ → K8 x1 x2 x3 σ → RW layM E mi_X12_linesOf Φ 8 [some (.ref (eA E 0)), some (.int (iz x1)), some (.int (iz x2)), some (.int (iz x3))] [] σ x) (x1 x2 x3 : Int) (rx1 : Rg x1) (rx2 : Rg x2) (rx3 : Rg x3) (σ : PS) (hs : RS σ) (h : BX12_linesOf_8 K8 x1 x2 x3 σ Φ) : RW layM E mi_X12_linesOf Φ 8 [some (.ref (eA E 0)), some (.int (iz x1)), some (.int (iz x2)), some (.int (iz x3))] [] σ x := by
  refine r_iloadn (dc D_cX12_linesOf_0 6 rfl) rfl rfl ?_
  refine r_aloadn (dc D_cX12_linesOf_0 7 rfl) rfl rfl ?_
  refine r_getI (dc D_cX12_linesOf_0 8 rfl) fw_RX12_206 lM_0 rfl ?_
  refine r_icmp_ge (tgt := 40) (dc D_cX12_linesOf_0 9 rfl) (by decide) rx3 (hs _ _) (fun c1 => ?_) (fun c1 => ?_)
  · have h := h.1 c1
    refine r_iloadn (dc D_cX12_linesOf_0 24 rfl) rfl rfl ?_
    exact r_iret (dc D_cX12_linesOf_0 25 rfl) rfl rx2 h
  · have h := h.2 c1
    refine r_iloadn (dc D_cX12_linesOf_0 10 rfl) rfl rfl ?_
    refine r_aloadn (dc D_cX12_linesOf_0 11 rfl) rfl rfl ?_
    refine r_getR (dc D_cX12_linesOf_0 12 rfl) fw_RX12_58 lM_0 rfl ?_
    refine r_iloadn (dc D_cX12_linesOf_0 13 rfl) rfl rfl ?_
    obtain ⟨o2, h⟩ := h
    refine r_zald (N := 30) (dc D_cX12_linesOf_0 14 rfl) lM_17 rfl rfl o2 ?_
    refine r_iloadn (dc D_cX12_linesOf_0 15 rfl) rfl rfl ?_
    refine r_icmp_ne (tgt := 31) (dc D_cX12_linesOf_0 16 rfl) (by decide) (hs _ _) rx1 (fun c3 => ?_) (fun c3 => ?_)
    · have h := h.1 c3
      refine r_iconst (n := 0) (dc D_cX12_linesOf_0 19 rfl) ?_
      refine r_sub (lv' := [some (.ref (eA E 0)), some (.int (iz x1)), none, some (.int (iz x3))]) (subL_s (subL_s (subL_n (subL_s subL_e)))) ?_
      exact TX12_linesOf_32 hE x hK8 _ _ _ _ rx1 rx3 rx2 (Rl rfl) _ hs h
    · have h := h.2 c3
      refine r_iconst (n := 1) (dc D_cX12_linesOf_0 17 rfl) ?_
      refine r_goto (tgt := 32) (dc D_cX12_linesOf_0 18 rfl) (by decide) ?_
      refine r_sub (lv' := [some (.ref (eA E 0)), some (.int (iz x1)), none, some (.int (iz x3))]) (subL_s (subL_s (subL_n (subL_s subL_e)))) ?_
      exact TX12_linesOf_32 hE x hK8 _ _ _ _ rx1 rx3 rx2 (Rl rfl) _ hs h
theorem TX12_linesOf_8 {E : EV} (hE : eOK layM E) {Φ : Int → PS → Prop} (x : CX) (n : Nat) : ∀ (x1 x2 x3 : Int) (σ : PS), Rg x1 → Rg x2 → Rg x3 → RS σ → LX12_linesOf_8 n x1 x2 x3 σ Φ → RW layM E mi_X12_linesOf Φ 8 [some (.ref (eA E 0)), some (.int (iz x1)), some (.int (iz x2)), some (.int (iz x3))] [] σ x := by
  induction n with
  | zero => intro x1 x2 x3 σ _ _ _ _ h; exact h.elim
  | succ n ih => intro x1 x2 x3 σ rx1 rx2 rx3 hs h; exact TBX12_linesOf_8 hE x ih x1 x2 x3 rx1 rx2 rx3 σ hs h
set_option maxRecDepth 100000 in
theorem CX12_linesOf {E : EV} (hE : eOK layM E) {Φ : Int → PS → Prop} (a1 : Int) (ra1 : Rg a1) (σ : PS) (hs : RS σ) (h : FX12_linesOf a1 σ Φ) : CT layM E yX12_linesOf mi_X12_linesOf [.ref (eA E 0), .int (iz a1)] σ Φ := by
  refine ct_of (by decide +kernel) rfl hE rfl rfl hs (fun x => ?_)
  show RW layM E mi_X12_linesOf Φ 0 [some (.ref (eA E 0)), some (.int (iz a1)), none, none] [] σ x
  refine r_aloadn (dc D_cX12_linesOf_0 0 rfl) rfl rfl ?_
  refine r_callV (As := []) (st := []) (dc D_cX12_linesOf_0 1 rfl) cw_RX12_212 nm_yX12_findLines (CX12_findLines hE  _ hs h) lM_0 rfl rfl (by decide) rfl rfl rfl (fun z1 σ2 rz1 hσ2 h => ?_)
  show RW layM E mi_X12_linesOf Φ 4 [some (.ref (eA E 0)), some (.int (iz a1)), none, none] [] σ2 x
  refine r_iconst (n := 0) (dc D_cX12_linesOf_0 2 rfl) ?_
  refine r_istoren (lv' := [some (.ref (eA E 0)), some (.int (iz a1)), some (.int (iz 0)), none]) (dc D_cX12_linesOf_0 3 rfl) rfl rfl rfl ?_
  refine r_iconst (n := 0) (dc D_cX12_linesOf_0 4 rfl) ?_
  refine r_istoren (lv' := [some (.ref (eA E 0)), some (.int (iz a1)), some (.int (iz 0)), some (.int (iz 0))]) (dc D_cX12_linesOf_0 5 rfl) rfl rfl rfl ?_
  obtain ⟨n, h⟩ := h
  exact TX12_linesOf_8 hE x n _ _ _ _ ra1 (Rl rfl) (Rl rfl) hσ2 h
-- end of GateFlowModel.linesOf
def mi_X12_capacities : MI := (cX12_capacities, RX12, 5, 4, (some .int), 1)
def LX12_capacities_38 (K5 : Int → Int → Int → Int → PS → Prop) (x1 x2 x4 s0 s1 : Int) (σ : PS) (Φ : Int → PS → Prop) : Prop :=
  Rg (s0 + s1) ∧
  ∀ v2 : Int, v2 = s0 + s1 →
  Rg (x4 + 1) ∧
  K5 x1 x2 v2 (x4 + 1) σ
def BX12_capacities_5 (K5 : Int → Int → Int → Int → PS → Prop) (x1 x2 x3 x4 : Int) (σ : PS) (Φ : Int → PS → Prop) : Prop :=
  ((σ 1 2 ≤ x4 →
    Φ x3 σ) ∧
  (¬ σ 1 2 ≤ x4 →
    FX12_at x4 x2 σ (fun z2 σ3 =>
    ((¬ z2 = x1 →
      LX12_capacities_38 K5 x1 x2 x4 x3 0 σ3 Φ) ∧
    (z2 = x1 →
      FX12_capacity x4 σ3 (fun z5 σ6 =>
      LX12_capacities_38 K5 x1 x2 x4 x3 z5 σ6 Φ))))))
def LX12_capacities_5 : Nat → Int → Int → Int → Int → PS → (Int → PS → Prop) → Prop
  | 0, _, _, _, _, _, _ => False
  | n + 1, x1, x2, x3, x4, σ, Φ => BX12_capacities_5 (fun x1 x2 x3 x4 σ => LX12_capacities_5 n x1 x2 x3 x4 σ Φ) x1 x2 x3 x4 σ Φ
def FX12_capacities (a1 a2 : Int) (σ : PS) (Φ : Int → PS → Prop) : Prop :=
  ∃ n, LX12_capacities_5 n a1 a2 0 0 σ Φ
set_option maxRecDepth 100000 in
theorem TX12_capacities_38 {E : EV} (hE : eOK layM E) {Φ : Int → PS → Prop} {K5 : Int → Int → Int → Int → PS → Prop} (x : CX) (hK5 : ∀ (x1 x2 x3 x4 : Int) (σ : PS), Rg x1 → Rg x2 → Rg x3 → Rg x4 → RS σ → K5 x1 x2 x3 x4 σ → RW layM E mi_X12_capacities Φ 5 [some (.ref (eA E 0)), some (.int (iz x1)), some (.int (iz x2)), some (.int (iz x3)), some (.int (iz x4))] [] σ x) (x1 x2 x4 s0 s1 : Int) (rx1 : Rg x1) (rx2 : Rg x2) (rx4 : Rg x4) (rs0 : Rg s0) (rs1 : Rg s1) (σ : PS) (hs : RS σ) (h : LX12_capacities_38 K5 x1 x2 x4 s0 s1 σ Φ) : RW layM E mi_X12_capacities Φ 38 [some (.ref (eA E 0)), some (.int (iz x1)), some (.int (iz x2)), none, some (.int (iz x4))] [.int (iz s1), .int (iz s0)] σ x := by
  refine r_iadd (dc D_cX12_capacities_0 22 rfl) ?_
  obtain ⟨o1, h⟩ := h
  refine r_name (fun v2 ev2 => ?_)
  have h := h v2 ev2
  have rv2 : Rg v2 := Rg_eq ev2 o1
  refine r_istoren (lv' := [some (.ref (eA E 0)), some (.int (iz x1)), some (.int (iz x2)), some (.int (iz v2)), some (.int (iz x4))]) (dc D_cX12_capacities_0 23 rfl) rfl rfl rfl ?_
  obtain ⟨o3, h⟩ := h
  refine r_iinc (lv' := [some (.ref (eA E 0)), some (.int (iz x1)), some (.int (iz x2)), some (.int (iz v2)), some (.int (iz (x4 + 1)))]) (dc D_cX12_capacities_0 24 rfl) rfl rfl rfl ?_
  refine r_goto (tgt := 5) (dc D_cX12_capacities_0 25 rfl) (by decide) ?_
  exact hK5 _ _ _ _ _ rx1 rx2 rv2 o3 hs h
set_option maxRecDepth 100000 in
theorem TBX12_capacities_5 {E : EV} (hE : eOK layM E) {Φ : Int → PS → Prop} {K5 : Int → Int → Int → Int → PS → Prop} (x : CX) (hK5 : ∀ (x1 x2 x3 x4 : Int) (σ : PS), Rg x1 → Rg x2 → Rg x3 → Rg x4 → RS σ → K5 x1 x2 x3 x4 σ → RW layM E mi_X12_capacities Φ 5 [some (.ref (eA E 0)), some (.int (iz x1)), some (.int (iz x2)), some (.int (iz x3)), some (.int (iz x4))] [] σ x) (x1 x2 x3 x4 : Int) (rx1 : Rg x1) (rx2 : Rg x2) (rx3 : Rg x3) (rx4 : Rg x4) (σ : PS) (hs : RS σ) (h : BX12_capacities_5 K5 x1 x2 x3 x4 σ Φ) : RW layM E mi_X12_capacities Φ 5 [some (.ref (eA E 0)), some (.int (iz x1)), some (.int (iz x2)), some (.int (iz x3)), some (.int (iz x4))] [] σ x := by
  refine r_iload (dc D_cX12_capacities_0 4 rfl) rfl ?_
  refine r_aloadn (dc D_cX12_capacities_0 5 rfl) rfl rfl ?_
  refine r_getR (dc D_cX12_capacities_0 6 rfl) fw_RX12_9 lM_0 rfl ?_
  refine r_iconst (n := 2) (dc D_cX12_capacities_0 7 rfl) ?_
  refine r_iald (N := 183) (dc D_cX12_capacities_0 8 rfl) lM_1 rfl rfl ⟨by decide, by decide⟩ ?_
  refine r_icmp_ge (tgt := 46) (dc D_cX12_capacities_0 9 rfl) (by decide) rx4 (hs _ _) (fun c1 => ?_) (fun c1 => ?_)
  · have h := h.1 c1
    refine r_iloadn (dc D_cX12_capacities_0 26 rfl) rfl rfl ?_
    exact r_iret (dc D_cX12_capacities_0 27 rfl) rfl rx3 h
  · have h := h.2 c1
    refine r_iloadn (dc D_cX12_capacities_0 10 rfl) rfl rfl ?_
    refine r_aloadn (dc D_cX12_capacities_0 11 rfl) rfl rfl ?_
    refine r_iload (dc D_cX12_capacities_0 12 rfl) rfl ?_
    refine r_iloadn (dc D_cX12_capacities_0 13 rfl) rfl rfl ?_
    refine r_callV (As := [.int (iz x4), .int (iz x2)]) (st := [.int (iz x3)]) (dc D_cX12_capacities_0 14 rfl) cw_RX12_94 nm_yX12_at (CX12_at hE _ _ rx4 rx2 _ hs h) lM_0 rfl rfl (by decide) rfl rfl rfl (fun z2 σ3 rz2 hσ3 h => ?_)
    show RW layM E mi_X12_capacities Φ 24 [some (.ref (eA E 0)), some (.int (iz x1)), some (.int (iz x2)), some (.int (iz x3)), some (.int (iz x4))] [.int (iz z2), .int (iz x3)] σ3 x
    refine r_iloadn (dc D_cX12_capacities_0 15 rfl) rfl rfl ?_
    refine r_icmp_ne (tgt := 37) (dc D_cX12_capacities_0 16 rfl) (by decide) rz2 rx1 (fun c4 => ?_) (fun c4 => ?_)
    · have h := h.1 c4
      refine r_iconst (n := 0) (dc D_cX12_capacities_0 21 rfl) ?_
      refine r_sub (lv' := [some (.ref (eA E 0)), some (.int (iz x1)), some (.int (iz x2)), none, some (.int (iz x4))]) (subL_s (subL_s (subL_s (subL_n (subL_s subL_e))))) ?_
      exact TX12_capacities_38 hE x hK5 _ _ _ _ _ rx1 rx2 rx4 rx3 (Rl rfl) _ hσ3 h
    · have h := h.2 c4
      refine r_aloadn (dc D_cX12_capacities_0 17 rfl) rfl rfl ?_
      refine r_iload (dc D_cX12_capacities_0 18 rfl) rfl ?_
      refine r_callV (As := [.int (iz x4)]) (st := [.int (iz x3)]) (dc D_cX12_capacities_0 19 rfl) cw_RX12_150 nm_yX12_capacity (CX12_capacity hE _ rx4 _ hσ3 h) lM_0 rfl rfl (by decide) rfl rfl rfl (fun z5 σ6 rz5 hσ6 h => ?_)
      show RW layM E mi_X12_capacities Φ 34 [some (.ref (eA E 0)), some (.int (iz x1)), some (.int (iz x2)), some (.int (iz x3)), some (.int (iz x4))] [.int (iz z5), .int (iz x3)] σ6 x
      refine r_goto (tgt := 38) (dc D_cX12_capacities_0 20 rfl) (by decide) ?_
      refine r_sub (lv' := [some (.ref (eA E 0)), some (.int (iz x1)), some (.int (iz x2)), none, some (.int (iz x4))]) (subL_s (subL_s (subL_s (subL_n (subL_s subL_e))))) ?_
      exact TX12_capacities_38 hE x hK5 _ _ _ _ _ rx1 rx2 rx4 rx3 rz5 _ hσ6 h
theorem TX12_capacities_5 {E : EV} (hE : eOK layM E) {Φ : Int → PS → Prop} (x : CX) (n : Nat) : ∀ (x1 x2 x3 x4 : Int) (σ : PS), Rg x1 → Rg x2 → Rg x3 → Rg x4 → RS σ → LX12_capacities_5 n x1 x2 x3 x4 σ Φ → RW layM E mi_X12_capacities Φ 5 [some (.ref (eA E 0)), some (.int (iz x1)), some (.int (iz x2)), some (.int (iz x3)), some (.int (iz x4))] [] σ x := by
  induction n with
  | zero => intro x1 x2 x3 x4 σ _ _ _ _ _ h; exact h.elim
  | succ n ih => intro x1 x2 x3 x4 σ rx1 rx2 rx3 rx4 hs h; exact TBX12_capacities_5 hE x ih x1 x2 x3 x4 rx1 rx2 rx3 rx4 σ hs h
set_option maxRecDepth 100000 in
theorem CX12_capacities {E : EV} (hE : eOK layM E) {Φ : Int → PS → Prop} (a1 a2 : Int) (ra1 : Rg a1) (ra2 : Rg a2) (σ : PS) (hs : RS σ) (h : FX12_capacities a1 a2 σ Φ) : CT layM E yX12_capacities mi_X12_capacities [.ref (eA E 0), .int (iz a1), .int (iz a2)] σ Φ := by
  refine ct_of (by decide +kernel) rfl hE rfl rfl hs (fun x => ?_)
  show RW layM E mi_X12_capacities Φ 0 [some (.ref (eA E 0)), some (.int (iz a1)), some (.int (iz a2)), none, none] [] σ x
  refine r_iconst (n := 0) (dc D_cX12_capacities_0 0 rfl) ?_
  refine r_istoren (lv' := [some (.ref (eA E 0)), some (.int (iz a1)), some (.int (iz a2)), some (.int (iz 0)), none]) (dc D_cX12_capacities_0 1 rfl) rfl rfl rfl ?_
  refine r_iconst (n := 0) (dc D_cX12_capacities_0 2 rfl) ?_
  refine r_istore (lv' := [some (.ref (eA E 0)), some (.int (iz a1)), some (.int (iz a2)), some (.int (iz 0)), some (.int (iz 0))]) (dc D_cX12_capacities_0 3 rfl) rfl rfl ?_
  obtain ⟨n, h⟩ := h
  exact TX12_capacities_5 hE x n _ _ _ _ _ ra1 ra2 (Rl rfl) (Rl rfl) hs h
-- end of GateFlowModel.capacities
def mi_X12_openMany : MI := (cX12_openMany, RX12, 3, 2, (some .int), 1)
def BX12_openMany_4 (K4 : Int → Int → PS → Prop) (x1 x2 : Int) (σ : PS) (Φ : Int → PS → Prop) : Prop :=
  ((σ 1 2 ≤ x2 →
    Φ x1 σ) ∧
  (¬ σ 1 2 ≤ x2 →
    FX12_at x2 5 σ (fun z2 σ3 =>
    Rg (x1 + z2) ∧
    ∀ v5 : Int, v5 = x1 + z2 →
    Rg (x2 + 1) ∧
    K4 v5 (x2 + 1) σ3)))
def LX12_openMany_4 : Nat → Int → Int → PS → (Int → PS → Prop) → Prop
  | 0, _, _, _, _ => False
  | n + 1, x1, x2, σ, Φ => BX12_openMany_4 (fun x1 x2 σ => LX12_openMany_4 n x1 x2 σ Φ) x1 x2 σ Φ
def FX12_openMany (σ : PS) (Φ : Int → PS → Prop) : Prop :=
  ∃ n, LX12_openMany_4 n 0 0 σ Φ
set_option maxRecDepth 100000 in
theorem TBX12_openMany_4 {E : EV} (hE : eOK layM E) {Φ : Int → PS → Prop} {K4 : Int → Int → PS → Prop} (x : CX) (hK4 : ∀ (x1 x2 : Int) (σ : PS), Rg x1 → Rg x2 → RS σ → K4 x1 x2 σ → RW layM E mi_X12_openMany Φ 4 [some (.ref (eA E 0)), some (.int (iz x1)), some (.int (iz x2))] [] σ x) (x1 x2 : Int) (rx1 : Rg x1) (rx2 : Rg x2) (σ : PS) (hs : RS σ) (h : BX12_openMany_4 K4 x1 x2 σ Φ) : RW layM E mi_X12_openMany Φ 4 [some (.ref (eA E 0)), some (.int (iz x1)), some (.int (iz x2))] [] σ x := by
  refine r_iloadn (dc D_cX12_openMany_0 4 rfl) rfl rfl ?_
  refine r_aloadn (dc D_cX12_openMany_0 5 rfl) rfl rfl ?_
  refine r_getR (dc D_cX12_openMany_0 6 rfl) fw_RX12_9 lM_0 rfl ?_
  refine r_iconst (n := 2) (dc D_cX12_openMany_0 7 rfl) ?_
  refine r_iald (N := 183) (dc D_cX12_openMany_0 8 rfl) lM_1 rfl rfl ⟨by decide, by decide⟩ ?_
  refine r_icmp_ge (tgt := 29) (dc D_cX12_openMany_0 9 rfl) (by decide) rx2 (hs _ _) (fun c1 => ?_) (fun c1 => ?_)
  · have h := h.1 c1
    refine r_iloadn (dc D_cX12_openMany_0 19 rfl) rfl rfl ?_
    exact r_iret (dc D_cX12_openMany_0 20 rfl) rfl rx1 h
  · have h := h.2 c1
    refine r_iloadn (dc D_cX12_openMany_0 10 rfl) rfl rfl ?_
    refine r_aloadn (dc D_cX12_openMany_0 11 rfl) rfl rfl ?_
    refine r_iloadn (dc D_cX12_openMany_0 12 rfl) rfl rfl ?_
    refine r_iconst (n := 5) (dc D_cX12_openMany_0 13 rfl) ?_
    refine r_callV (As := [.int (iz x2), .int (iz 5)]) (st := [.int (iz x1)]) (dc D_cX12_openMany_0 14 rfl) cw_RX12_94 nm_yX12_at (CX12_at hE _ _ rx2 (Rl rfl) _ hs h) lM_0 rfl rfl (by decide) rfl rfl rfl (fun z2 σ3 rz2 hσ3 h => ?_)
    show RW layM E mi_X12_openMany Φ 21 [some (.ref (eA E 0)), some (.int (iz x1)), some (.int (iz x2))] [.int (iz z2), .int (iz x1)] σ3 x
    refine r_iadd (dc D_cX12_openMany_0 15 rfl) ?_
    obtain ⟨o4, h⟩ := h
    refine r_name (fun v5 ev5 => ?_)
    have h := h v5 ev5
    have rv5 : Rg v5 := Rg_eq ev5 o4
    refine r_istoren (lv' := [some (.ref (eA E 0)), some (.int (iz v5)), some (.int (iz x2))]) (dc D_cX12_openMany_0 16 rfl) rfl rfl rfl ?_
    obtain ⟨o6, h⟩ := h
    refine r_iinc (lv' := [some (.ref (eA E 0)), some (.int (iz v5)), some (.int (iz (x2 + 1)))]) (dc D_cX12_openMany_0 17 rfl) rfl rfl rfl ?_
    refine r_goto (tgt := 4) (dc D_cX12_openMany_0 18 rfl) (by decide) ?_
    exact hK4 _ _ _ rv5 o6 hσ3 h
theorem TX12_openMany_4 {E : EV} (hE : eOK layM E) {Φ : Int → PS → Prop} (x : CX) (n : Nat) : ∀ (x1 x2 : Int) (σ : PS), Rg x1 → Rg x2 → RS σ → LX12_openMany_4 n x1 x2 σ Φ → RW layM E mi_X12_openMany Φ 4 [some (.ref (eA E 0)), some (.int (iz x1)), some (.int (iz x2))] [] σ x := by
  induction n with
  | zero => intro x1 x2 σ _ _ _ h; exact h.elim
  | succ n ih => intro x1 x2 σ rx1 rx2 hs h; exact TBX12_openMany_4 hE x ih x1 x2 rx1 rx2 σ hs h
set_option maxRecDepth 100000 in
theorem CX12_openMany {E : EV} (hE : eOK layM E) {Φ : Int → PS → Prop} (σ : PS) (hs : RS σ) (h : FX12_openMany σ Φ) : CT layM E yX12_openMany mi_X12_openMany [.ref (eA E 0)] σ Φ := by
  refine ct_of (by decide +kernel) rfl hE rfl rfl hs (fun x => ?_)
  show RW layM E mi_X12_openMany Φ 0 [some (.ref (eA E 0)), none, none] [] σ x
  refine r_iconst (n := 0) (dc D_cX12_openMany_0 0 rfl) ?_
  refine r_istoren (lv' := [some (.ref (eA E 0)), some (.int (iz 0)), none]) (dc D_cX12_openMany_0 1 rfl) rfl rfl rfl ?_
  refine r_iconst (n := 0) (dc D_cX12_openMany_0 2 rfl) ?_
  refine r_istoren (lv' := [some (.ref (eA E 0)), some (.int (iz 0)), some (.int (iz 0))]) (dc D_cX12_openMany_0 3 rfl) rfl rfl rfl ?_
  obtain ⟨n, h⟩ := h
  exact TX12_openMany_4 hE x n _ _ _ (Rl rfl) (Rl rfl) hs h
-- end of GateFlowModel.openMany
def mi_X12_told : MI := (cX12_told, RX12, 2, 8, (some .int), 1)
def FX12_told (a1 : Int) (σ : PS) (Φ : Int → PS → Prop) : Prop :=
  (a1 = 0 →
    Φ (σ 1 2) σ) ∧
  (a1 = 1 →
    FX12_openMany σ (fun z2 σ3 =>
    Φ z2 σ3)) ∧
  (a1 = 2 →
    Φ (σ 1 0) σ) ∧
  (a1 = 3 →
    Φ (σ 1 1) σ) ∧
  (a1 = 4 →
    FX12_capacities (σ 1 0) 0 σ (fun z7 σ8 =>
    Φ z7 σ8)) ∧
  (a1 = 5 →
    FX12_capacities (σ 1 1) 1 σ (fun z10 σ11 =>
    Φ z10 σ11)) ∧
  (a1 = 6 →
    Φ (σ 0 29) σ) ∧
  (a1 = 7 →
    Φ (σ 0 36) σ) ∧
  (a1 = 8 →
    FX12_ways (-1) 0 σ (fun z15 σ16 =>
    Φ z15 σ16)) ∧
  (a1 = 9 →
    FX12_linesOf 0 σ (fun z18 σ19 =>
    Φ z18 σ19)) ∧
  (a1 = 10 →
    FX12_linesOf 1 σ (fun z21 σ22 =>
    Φ z21 σ22)) ∧
  ((a1 < 0 ∨ 10 < a1) →
    Φ (-1) σ)
theorem cw_RX12_334 : CWV RX12 334 yX12_openMany mi_X12_openMany := tb_r [1702, 1704, 93, 110, 1705] (by decide +kernel)
theorem nm_yX12_openMany : ynm yX12_openMany 0 := ⟨⟨by decide +kernel, by decide +kernel⟩, by decide +kernel⟩
theorem cw_RX12_337 : CWV RX12 337 yX12_capacities mi_X12_capacities := tb_r [1706, 1708, 94, 110, 1709] (by decide +kernel)
theorem nm_yX12_capacities : ynm yX12_capacities 2 := ⟨⟨by decide +kernel, by decide +kernel⟩, by decide +kernel⟩
theorem cw_RX12_340 : CWV RX12 340 yX12_ways mi_X12_ways := tb_r [1710, 1447, 1448, 110, 1449] (by decide +kernel)
theorem nm_yX12_ways : ynm yX12_ways 2 := ⟨⟨by decide +kernel, by decide +kernel⟩, by decide +kernel⟩
theorem cw_RX12_343 : CWV RX12 343 yX12_linesOf mi_X12_linesOf := tb_r [1711, 1713, 95, 110, 1714] (by decide +kernel)
theorem nm_yX12_linesOf : ynm yX12_linesOf 1 := ⟨⟨by decide +kernel, by decide +kernel⟩, by decide +kernel⟩
set_option maxRecDepth 100000 in
theorem CX12_told {E : EV} (hE : eOK layM E) {Φ : Int → PS → Prop} (a1 : Int) (ra1 : Rg a1) (σ : PS) (hs : RS σ) (h : FX12_told a1 σ Φ) : CT layM E yX12_told mi_X12_told [.ref (eA E 0), .int (iz a1)] σ Φ := by
  refine ct_of (by decide +kernel) rfl hE rfl rfl hs (fun x => ?_)
  show RW layM E mi_X12_told Φ 0 [some (.ref (eA E 0)), some (.int (iz a1))] [] σ x
  refine r_iloadn (dc D_cX12_told_0 0 rfl) rfl rfl ?_
  refine r_by (c := a1 = 0) (fun c1 => ?_) (fun nc1 => ?_)
  · refine r_swIn (tgt := 60) (off := 59) (v := 0) (dc D_cX12_told_0 1 rfl) c1 (by decide) (by decide) ?_
    have h := h.1 c1
    refine r_aloadn (dc D_cX12_told_0 2 rfl) rfl rfl ?_
    refine r_getR (dc D_cX12_told_0 3 rfl) fw_RX12_9 lM_0 rfl ?_
    refine r_iconst (n := 2) (dc D_cX12_told_0 4 rfl) ?_
    refine r_iald (N := 183) (dc D_cX12_told_0 5 rfl) lM_1 rfl rfl ⟨by decide, by decide⟩ ?_
    exact r_iret (dc D_cX12_told_0 6 rfl) rfl (hs _ _) h
  replace h := h.2
  refine r_by (c := a1 = 1) (fun c4 => ?_) (fun nc4 => ?_)
  · refine r_swIn (tgt := 67) (off := 66) (v := 1) (dc D_cX12_told_0 1 rfl) c4 (by decide) (by decide) ?_
    have h := h.1 c4
    refine r_aloadn (dc D_cX12_told_0 7 rfl) rfl rfl ?_
    refine r_callV (As := []) (st := []) (dc D_cX12_told_0 8 rfl) cw_RX12_334 nm_yX12_openMany (CX12_openMany hE  _ hs h) lM_0 rfl rfl (by decide) rfl rfl rfl (fun z2 σ3 rz2 hσ3 h => ?_)
    show RW layM E mi_X12_told Φ 71 [some (.ref (eA E 0)), some (.int (iz a1))] [.int (iz z2)] σ3 x
    exact r_iret (dc D_cX12_told_0 9 rfl) rfl rz2 h
  replace h := h.2
  refine r_by (c := a1 = 2) (fun c5 => ?_) (fun nc5 => ?_)
  · refine r_swIn (tgt := 72) (off := 71) (v := 2) (dc D_cX12_told_0 1 rfl) c5 (by decide) (by decide) ?_
    have h := h.1 c5
    refine r_aloadn (dc D_cX12_told_0 10 rfl) rfl rfl ?_
    refine r_getR (dc D_cX12_told_0 11 rfl) fw_RX12_9 lM_0 rfl ?_
    refine r_iconst (n := 0) (dc D_cX12_told_0 12 rfl) ?_
    refine r_iald (N := 183) (dc D_cX12_told_0 13 rfl) lM_1 rfl rfl ⟨by decide, by decide⟩ ?_
    exact r_iret (dc D_cX12_told_0 14 rfl) rfl (hs _ _) h
  replace h := h.2
  refine r_by (c := a1 = 3) (fun c6 => ?_) (fun nc6 => ?_)
  · refine r_swIn (tgt := 79) (off := 78) (v := 3) (dc D_cX12_told_0 1 rfl) c6 (by decide) (by decide) ?_
    have h := h.1 c6
    refine r_aloadn (dc D_cX12_told_0 15 rfl) rfl rfl ?_
    refine r_getR (dc D_cX12_told_0 16 rfl) fw_RX12_9 lM_0 rfl ?_
    refine r_iconst (n := 1) (dc D_cX12_told_0 17 rfl) ?_
    refine r_iald (N := 183) (dc D_cX12_told_0 18 rfl) lM_1 rfl rfl ⟨by decide, by decide⟩ ?_
    exact r_iret (dc D_cX12_told_0 19 rfl) rfl (hs _ _) h
  replace h := h.2
  refine r_by (c := a1 = 4) (fun c9 => ?_) (fun nc9 => ?_)
  · refine r_swIn (tgt := 86) (off := 85) (v := 4) (dc D_cX12_told_0 1 rfl) c9 (by decide) (by decide) ?_
    have h := h.1 c9
    refine r_aloadn (dc D_cX12_told_0 20 rfl) rfl rfl ?_
    refine r_aloadn (dc D_cX12_told_0 21 rfl) rfl rfl ?_
    refine r_getR (dc D_cX12_told_0 22 rfl) fw_RX12_9 lM_0 rfl ?_
    refine r_iconst (n := 0) (dc D_cX12_told_0 23 rfl) ?_
    refine r_iald (N := 183) (dc D_cX12_told_0 24 rfl) lM_1 rfl rfl ⟨by decide, by decide⟩ ?_
    refine r_iconst (n := 0) (dc D_cX12_told_0 25 rfl) ?_
    refine r_callV (As := [.int (iz (σ 1 0)), .int (iz 0)]) (st := []) (dc D_cX12_told_0 26 rfl) cw_RX12_337 nm_yX12_capacities (CX12_capacities hE _ _ (hs _ _) (Rl rfl) _ hs h) lM_0 rfl rfl (by decide) rfl rfl rfl (fun z7 σ8 rz7 hσ8 h => ?_)
    show RW layM E mi_X12_told Φ 97 [some (.ref (eA E 0)), some (.int (iz a1))] [.int (iz z7)] σ8 x
    exact r_iret (dc D_cX12_told_0 27 rfl) rfl rz7 h
  replace h := h.2
  refine r_by (c := a1 = 5) (fun c12 => ?_) (fun nc12 => ?_)
  · refine r_swIn (tgt := 98) (off := 97) (v := 5) (dc D_cX12_told_0 1 rfl) c12 (by decide) (by decide) ?_
    have h := h.1 c12
    refine r_aloadn (dc D_cX12_told_0 28 rfl) rfl rfl ?_
    refine r_aloadn (dc D_cX12_told_0 29 rfl) rfl rfl ?_
    refine r_getR (dc D_cX12_told_0 30 rfl) fw_RX12_9 lM_0 rfl ?_
    refine r_iconst (n := 1) (dc D_cX12_told_0 31 rfl) ?_
    refine r_iald (N := 183) (dc D_cX12_told_0 32 rfl) lM_1 rfl rfl ⟨by decide, by decide⟩ ?_
    refine r_iconst (n := 1) (dc D_cX12_told_0 33 rfl) ?_
    refine r_callV (As := [.int (iz (σ 1 1)), .int (iz 1)]) (st := []) (dc D_cX12_told_0 34 rfl) cw_RX12_337 nm_yX12_capacities (CX12_capacities hE _ _ (hs _ _) (Rl rfl) _ hs h) lM_0 rfl rfl (by decide) rfl rfl rfl (fun z10 σ11 rz10 hσ11 h => ?_)
    show RW layM E mi_X12_told Φ 109 [some (.ref (eA E 0)), some (.int (iz a1))] [.int (iz z10)] σ11 x
    exact r_iret (dc D_cX12_told_0 35 rfl) rfl rz10 h
  replace h := h.2
  refine r_by (c := a1 = 6) (fun c13 => ?_) (fun nc13 => ?_)
  · refine r_swIn (tgt := 110) (off := 109) (v := 6) (dc D_cX12_told_0 1 rfl) c13 (by decide) (by decide) ?_
    have h := h.1 c13
    refine r_aloadn (dc D_cX12_told_0 36 rfl) rfl rfl ?_
    refine r_getI (dc D_cX12_told_0 37 rfl) fw_RX12_246 lM_0 rfl ?_
    exact r_iret (dc D_cX12_told_0 38 rfl) rfl (hs _ _) h
  replace h := h.2
  refine r_by (c := a1 = 7) (fun c14 => ?_) (fun nc14 => ?_)
  · refine r_swIn (tgt := 115) (off := 114) (v := 7) (dc D_cX12_told_0 1 rfl) c14 (by decide) (by decide) ?_
    have h := h.1 c14
    refine r_aloadn (dc D_cX12_told_0 39 rfl) rfl rfl ?_
    refine r_getI (dc D_cX12_told_1 0 rfl) fw_RX12_325 lM_0 rfl ?_
    exact r_iret (dc D_cX12_told_1 1 rfl) rfl (hs _ _) h
  replace h := h.2
  refine r_by (c := a1 = 8) (fun c17 => ?_) (fun nc17 => ?_)
  · refine r_swIn (tgt := 120) (off := 119) (v := 8) (dc D_cX12_told_0 1 rfl) c17 (by decide) (by decide) ?_
    have h := h.1 c17
    refine r_aloadn (dc D_cX12_told_1 2 rfl) rfl rfl ?_
    refine r_iconst (n := (-1)) (dc D_cX12_told_1 3 rfl) ?_
    refine r_iconst (n := 0) (dc D_cX12_told_1 4 rfl) ?_
    refine r_callV (As := [.int (iz (-1)), .int (iz 0)]) (st := []) (dc D_cX12_told_1 5 rfl) cw_RX12_340 nm_yX12_ways (CX12_ways hE _ _ (Rl rfl) (Rl rfl) _ hs h) lM_0 rfl rfl (by decide) rfl rfl rfl (fun z15 σ16 rz15 hσ16 h => ?_)
    show RW layM E mi_X12_told Φ 126 [some (.ref (eA E 0)), some (.int (iz a1))] [.int (iz z15)] σ16 x
    exact r_iret (dc D_cX12_told_1 6 rfl) rfl rz15 h
  replace h := h.2
  refine r_by (c := a1 = 9) (fun c20 => ?_) (fun nc20 => ?_)
  · refine r_swIn (tgt := 127) (off := 126) (v := 9) (dc D_cX12_told_0 1 rfl) c20 (by decide) (by decide) ?_
    have h := h.1 c20
    refine r_aloadn (dc D_cX12_told_1 7 rfl) rfl rfl ?_
    refine r_iconst (n := 0) (dc D_cX12_told_1 8 rfl) ?_
    refine r_callV (As := [.int (iz 0)]) (st := []) (dc D_cX12_told_1 9 rfl) cw_RX12_343 nm_yX12_linesOf (CX12_linesOf hE _ (Rl rfl) _ hs h) lM_0 rfl rfl (by decide) rfl rfl rfl (fun z18 σ19 rz18 hσ19 h => ?_)
    show RW layM E mi_X12_told Φ 132 [some (.ref (eA E 0)), some (.int (iz a1))] [.int (iz z18)] σ19 x
    exact r_iret (dc D_cX12_told_1 10 rfl) rfl rz18 h
  replace h := h.2
  refine r_by (c := a1 = 10) (fun c23 => ?_) (fun nc23 => ?_)
  · refine r_swIn (tgt := 133) (off := 132) (v := 10) (dc D_cX12_told_0 1 rfl) c23 (by decide) (by decide) ?_
    have h := h.1 c23
    refine r_aloadn (dc D_cX12_told_1 11 rfl) rfl rfl ?_
    refine r_iconst (n := 1) (dc D_cX12_told_1 12 rfl) ?_
    refine r_callV (As := [.int (iz 1)]) (st := []) (dc D_cX12_told_1 13 rfl) cw_RX12_343 nm_yX12_linesOf (CX12_linesOf hE _ (Rl rfl) _ hs h) lM_0 rfl rfl (by decide) rfl rfl rfl (fun z21 σ22 rz21 hσ22 h => ?_)
    show RW layM E mi_X12_told Φ 138 [some (.ref (eA E 0)), some (.int (iz a1))] [.int (iz z21)] σ22 x
    exact r_iret (dc D_cX12_told_1 14 rfl) rfl rz21 h
  replace h := h.2
  have c24 : a1 < 0 ∨ 10 < a1 := by omega
  have h := h c24
  refine r_swOut (tgt := 139) (dc D_cX12_told_0 1 rfl) (by decide) ra1 c24 ?_
  refine r_iconst (n := (-1)) (dc D_cX12_told_1 15 rfl) ?_
  exact r_iret (dc D_cX12_told_1 16 rfl) rfl (Rl rfl) h
-- end of GateFlowModel.told
def mi_X12_isList : MI := (cX12_isList, RX12, 1, 2, (some .boolean), 1)
def FX12_isList (a1 : Int) (σ : PS) (Φ : Int → PS → Prop) : Prop :=
  FX12_in a1 0 3 σ (fun z1 σ2 =>
  (z1 = 0 ∨ z1 = 1) ∧ Φ z1 σ2)
set_option maxRecDepth 100000 in
theorem CX12_isList {E : EV} (hE : eOK layM E) {Φ : Int → PS → Prop} (a1 : Int) (ra1 : Rg a1) (σ : PS) (hs : RS σ) (h : FX12_isList a1 σ Φ) : CT layM E yX12_isList mi_X12_isList [.int (iz a1)] σ Φ := by
  refine ct_of (by decide +kernel) rfl hE rfl rfl hs (fun x => ?_)
  show RW layM E mi_X12_isList Φ 0 [some (.int (iz a1))] [] σ x
  refine r_iloadn (dc D_cX12_isList_0 0 rfl) rfl rfl ?_
  refine r_iconst (n := 0) (dc D_cX12_isList_0 1 rfl) ?_
  refine r_iconst (n := 3) (dc D_cX12_isList_0 2 rfl) ?_
  refine r_callS (As := [.int (iz a1), .int (iz 0), .int (iz 3)]) (st := []) (dc D_cX12_isList_0 3 rfl) cw_RX12_90 nm_yX12_in (CX12_in hE _ _ _ ra1 (Rl rfl) (Rl rfl) _ hs h) rfl (by decide) rfl rfl rfl (fun z1 σ2 rz1 hσ2 h => ?_)
  show RW layM E mi_X12_isList Φ 6 [some (.int (iz a1))] [.int (iz z1)] σ2 x
  exact r_zret (dc D_cX12_isList_0 4 rfl) rfl h.1 h.2
-- end of GateFlowModel.isList
def mi_X12_list : MI := (cX12_list, RX12, 4, 3, (some .int), 1)
def BX12_list_34 (K34 : Int → Int → Int → PS → Prop) (x1 x2 x3 : Int) (σ : PS) (Φ : Int → PS → Prop) : Prop :=
  ((x2 ≤ x3 →
    Φ 1 σ) ∧
  (¬ x2 ≤ x3 →
    Rg (40 * x1) ∧
    Rg ((40 * x1) + x3) ∧
    (0 ≤ (40 * x1) + x3 ∧ (40 * x1) + x3 < 160) ∧
    ∀ σ5 : PS, σ5 = up2 σ 26 ((40 * x1) + x3).toNat 0 →
    Rg (x3 + 1) ∧
    K34 x1 x2 (x3 + 1) σ5))
def LX12_list_34 : Nat → Int → Int → Int → PS → (Int → PS → Prop) → Prop
  | 0, _, _, _, _, _ => False
  | n + 1, x1, x2, x3, σ, Φ => BX12_list_34 (fun x1 x2 x3 σ => LX12_list_34 n x1 x2 x3 σ Φ) x1 x2 x3 σ Φ
def FX12_list (a1 a2 : Int) (σ : PS) (Φ : Int → PS → Prop) : Prop :=
  FX12_isList a1 σ (fun z1 σ2 =>
  ((¬ z1 = 0 →
    ((a2 ≤ 40 →
      ((0 ≤ a2 →
        (0 ≤ a1 ∧ a1 < 4) ∧
        ∀ σ7 : PS, σ7 = up2 σ2 25 a1.toNat a2 →
        ∃ n, LX12_list_34 n a1 a2 0 σ7 Φ) ∧
      (¬ 0 ≤ a2 →
        Φ (-14) σ2))) ∧
    (¬ a2 ≤ 40 →
      Φ (-2) σ2))) ∧
  (z1 = 0 →
    Φ (-1) σ2)))
theorem fw_RX12_84 : FW RX12 84 12 37 := ⟨RX12, TX12, 39, rfl, by decide, rfl, tb_1 1256 (by decide +kernel), uw_12⟩
theorem fw_RX12_87 : FW RX12 87 12 38 := ⟨RX12, TX12, 39, rfl, by decide, rfl, tb_1 1257 (by decide +kernel), uw_12⟩
theorem cw_RX12_347 : CWS RX12 347 yX12_isList mi_X12_isList := tb_r [1719, 1720, 110, 1721] (by decide +kernel)
theorem nm_yX12_isList : ynm yX12_isList 1 := ⟨⟨by decide +kernel, by decide +kernel⟩, by decide +kernel⟩
set_option maxRecDepth 100000 in
theorem TBX12_list_34 {E : EV} (hE : eOK layM E) {Φ : Int → PS → Prop} {K34 : Int → Int → Int → PS → Prop} (x : CX) (hK34 : ∀ (x1 x2 x3 : Int) (σ : PS), Rg x1 → Rg x2 → Rg x3 → RS σ → K34 x1 x2 x3 σ → RW layM E mi_X12_list Φ 34 [some (.ref (eA E 0)), some (.int (iz x1)), some (.int (iz x2)), some (.int (iz x3))] [] σ x) (x1 x2 x3 : Int) (rx1 : Rg x1) (rx2 : Rg x2) (rx3 : Rg x3) (σ : PS) (hs : RS σ) (h : BX12_list_34 K34 x1 x2 x3 σ Φ) : RW layM E mi_X12_list Φ 34 [some (.ref (eA E 0)), some (.int (iz x1)), some (.int (iz x2)), some (.int (iz x3))] [] σ x := by
  refine r_iloadn (dc D_cX12_list_0 21 rfl) rfl rfl ?_
  refine r_iloadn (dc D_cX12_list_0 22 rfl) rfl rfl ?_
  refine r_icmp_ge (tgt := 57) (dc D_cX12_list_0 23 rfl) (by decide) rx3 rx2 (fun c1 => ?_) (fun c1 => ?_)
  · have h := h.1 c1
    refine r_iconst (n := 1) (dc D_cX12_list_0 35 rfl) ?_
    exact r_iret (dc D_cX12_list_0 36 rfl) rfl (Rl rfl) h
  · have h := h.2 c1
    refine r_aloadn (dc D_cX12_list_0 24 rfl) rfl rfl ?_
    refine r_getR (dc D_cX12_list_0 25 rfl) fw_RX12_87 lM_0 rfl ?_
    refine r_bipush (n := 40) (dc D_cX12_list_0 26 rfl) (by decide +kernel) ?_
    refine r_iloadn (dc D_cX12_list_0 27 rfl) rfl rfl ?_
    refine r_imul (dc D_cX12_list_0 28 rfl) ?_
    obtain ⟨o2, h⟩ := h
    refine r_iloadn (dc D_cX12_list_0 29 rfl) rfl rfl ?_
    refine r_iadd (dc D_cX12_list_0 30 rfl) ?_
    obtain ⟨o3, h⟩ := h
    refine r_iconst (n := 0) (dc D_cX12_list_0 31 rfl) ?_
    obtain ⟨o4, h⟩ := h
    refine r_iast (N := 160) (dc D_cX12_list_0 32 rfl) lM_26 rfl rfl o4 (Rl rfl) ?_
    refine r_sig (fun σ5 eσ5 => ?_)
    have h := h σ5 eσ5
    have hσ5 : RS σ5 := RS_eq eσ5 (RS.up hs (Rl rfl) _ _)
    obtain ⟨o6, h⟩ := h
    refine r_iinc (lv' := [some (.ref (eA E 0)), some (.int (iz x1)), some (.int (iz x2)), some (.int (iz (x3 + 1)))]) (dc D_cX12_list_0 33 rfl) rfl rfl rfl ?_
    refine r_goto (tgt := 34) (dc D_cX12_list_0 34 rfl) (by decide) ?_
    exact hK34 _ _ _ _ rx1 rx2 o6 hσ5 h
theorem TX12_list_34 {E : EV} (hE : eOK layM E) {Φ : Int → PS → Prop} (x : CX) (n : Nat) : ∀ (x1 x2 x3 : Int) (σ : PS), Rg x1 → Rg x2 → Rg x3 → RS σ → LX12_list_34 n x1 x2 x3 σ Φ → RW layM E mi_X12_list Φ 34 [some (.ref (eA E 0)), some (.int (iz x1)), some (.int (iz x2)), some (.int (iz x3))] [] σ x := by
  induction n with
  | zero => intro x1 x2 x3 σ _ _ _ _ h; exact h.elim
  | succ n ih => intro x1 x2 x3 σ rx1 rx2 rx3 hs h; exact TBX12_list_34 hE x ih x1 x2 x3 rx1 rx2 rx3 σ hs h
set_option maxRecDepth 100000 in
theorem CX12_list {E : EV} (hE : eOK layM E) {Φ : Int → PS → Prop} (a1 a2 : Int) (ra1 : Rg a1) (ra2 : Rg a2) (σ : PS) (hs : RS σ) (h : FX12_list a1 a2 σ Φ) : CT layM E yX12_list mi_X12_list [.ref (eA E 0), .int (iz a1), .int (iz a2)] σ Φ := by
  refine ct_of (by decide +kernel) rfl hE rfl rfl hs (fun x => ?_)
  show RW layM E mi_X12_list Φ 0 [some (.ref (eA E 0)), some (.int (iz a1)), some (.int (iz a2)), none] [] σ x
  refine r_iloadn (dc D_cX12_list_0 0 rfl) rfl rfl ?_
  refine r_callS (As := [.int (iz a1)]) (st := []) (dc D_cX12_list_0 1 rfl) cw_RX12_347 nm_yX12_isList (CX12_isList hE _ ra1 _ hs h) rfl (by decide) rfl rfl rfl (fun z1 σ2 rz1 hσ2 h => ?_)
  show RW layM E mi_X12_list Φ 4 [some (.ref (eA E 0)), some (.int (iz a1)), some (.int (iz a2)), none] [.int (iz z1)] σ2 x
  refine r_if_ne (tgt := 9) (dc D_cX12_list_0 2 rfl) (by decide) rz1 (fun c3 => ?_) (fun c3 => ?_)
  · have h := h.1 c3
    refine r_iloadn (dc D_cX12_list_0 5 rfl) rfl rfl ?_
    refine r_bipush (n := 40) (dc D_cX12_list_0 6 rfl) (by decide +kernel) ?_
    refine r_icmp_le (tgt := 18) (dc D_cX12_list_0 7 rfl) (by decide) ra2 (Rl rfl) (fun c4 => ?_) (fun c4 => ?_)
    · have h := h.1 c4
      refine r_iloadn (dc D_cX12_list_0 10 rfl) rfl rfl ?_
      refine r_if_ge (tgt := 25) (dc D_cX12_list_0 11 rfl) (by decide) ra2 (fun c5 => ?_) (fun c5 => ?_)
      · have h := h.1 c5
        refine r_aloadn (dc D_cX12_list_0 14 rfl) rfl rfl ?_
        refine r_getR (dc D_cX12_list_0 15 rfl) fw_RX12_84 lM_0 rfl ?_
        refine r_iloadn (dc D_cX12_list_0 16 rfl) rfl rfl ?_
        refine r_iloadn (dc D_cX12_list_0 17 rfl) rfl rfl ?_
        obtain ⟨o6, h⟩ := h
        refine r_iast (N := 4) (dc D_cX12_list_0 18 rfl) lM_25 rfl rfl o6 ra2 ?_
        refine r_sig (fun σ7 eσ7 => ?_)
        have h := h σ7 eσ7
        have hσ7 : RS σ7 := RS_eq eσ7 (RS.up hσ2 ra2 _ _)
        refine r_iconst (n := 0) (dc D_cX12_list_0 19 rfl) ?_
        refine r_istoren (lv' := [some (.ref (eA E 0)), some (.int (iz a1)), some (.int (iz a2)), some (.int (iz 0))]) (dc D_cX12_list_0 20 rfl) rfl rfl rfl ?_
        obtain ⟨n, h⟩ := h
        exact TX12_list_34 hE x n _ _ _ _ ra1 ra2 (Rl rfl) hσ7 h
      · have h := h.2 c5
        refine r_bipush (n := (-14)) (dc D_cX12_list_0 12 rfl) (by decide +kernel) ?_
        exact r_iret (dc D_cX12_list_0 13 rfl) rfl (Rl rfl) h
    · have h := h.2 c4
      refine r_bipush (n := (-2)) (dc D_cX12_list_0 8 rfl) (by decide +kernel) ?_
      exact r_iret (dc D_cX12_list_0 9 rfl) rfl (Rl rfl) h
  · have h := h.2 c3
    refine r_iconst (n := (-1)) (dc D_cX12_list_0 3 rfl) ?_
    exact r_iret (dc D_cX12_list_0 4 rfl) rfl (Rl rfl) h
-- end of GateFlowModel.list
def mi_X12_set : MI := (cX12_set, RX12, 4, 3, (some .int), 1)
def FX12_set (a1 a2 a3 : Int) (σ : PS) (Φ : Int → PS → Prop) : Prop :=
  FX12_isList a1 σ (fun z1 σ2 =>
  ((¬ z1 = 0 →
    (0 ≤ a1 ∧ a1 < 4) ∧
    ((0 ≤ σ2 25 a1.toNat →
      (0 ≤ a1 ∧ a1 < 4) ∧
      Rg ((σ2 25 a1.toNat) - 1) ∧
      FX12_in a2 0 ((σ2 25 a1.toNat) - 1) σ2 (fun z8 σ9 =>
      ((¬ z8 = 0 →
        Rg (40 * a1) ∧
        Rg ((40 * a1) + a2) ∧
        (0 ≤ (40 * a1) + a2 ∧ (40 * a1) + a2 < 160) ∧
        ∀ σ14 : PS, σ14 = up2 σ9 26 ((40 * a1) + a2).toNat a3 →
        Φ 1 σ14) ∧
      (z8 = 0 →
        Φ (-13) σ9)))) ∧
    (¬ 0 ≤ σ2 25 a1.toNat →
      Φ (-11) σ2))) ∧
  (z1 = 0 →
    Φ (-1) σ2)))
set_option maxRecDepth 100000 in
theorem CX12_set {E : EV} (hE : eOK layM E) {Φ : Int → PS → Prop} (a1 a2 a3 : Int) (ra1 : Rg a1) (ra2 : Rg a2) (ra3 : Rg a3) (σ : PS) (hs : RS σ) (h : FX12_set a1 a2 a3 σ Φ) : CT layM E yX12_set mi_X12_set [.ref (eA E 0), .int (iz a1), .int (iz a2), .int (iz a3)] σ Φ := by
  refine ct_of (by decide +kernel) rfl hE rfl rfl hs (fun x => ?_)
  show RW layM E mi_X12_set Φ 0 [some (.ref (eA E 0)), some (.int (iz a1)), some (.int (iz a2)), some (.int (iz a3))] [] σ x
  refine r_iloadn (dc D_cX12_set_0 0 rfl) rfl rfl ?_
  refine r_callS (As := [.int (iz a1)]) (st := []) (dc D_cX12_set_0 1 rfl) cw_RX12_347 nm_yX12_isList (CX12_isList hE _ ra1 _ hs h) rfl (by decide) rfl rfl rfl (fun z1 σ2 rz1 hσ2 h => ?_)
  show RW layM E mi_X12_set Φ 4 [some (.ref (eA E 0)), some (.int (iz a1)), some (.int (iz a2)), some (.int (iz a3))] [.int (iz z1)] σ2 x
  refine r_if_ne (tgt := 9) (dc D_cX12_set_0 2 rfl) (by decide) rz1 (fun c3 => ?_) (fun c3 => ?_)
  · have h := h.1 c3
    refine r_aloadn (dc D_cX12_set_0 5 rfl) rfl rfl ?_
    refine r_getR (dc D_cX12_set_0 6 rfl) fw_RX12_84 lM_0 rfl ?_
    refine r_iloadn (dc D_cX12_set_0 7 rfl) rfl rfl ?_
    obtain ⟨o4, h⟩ := h
    refine r_iald (N := 4) (dc D_cX12_set_0 8 rfl) lM_25 rfl rfl o4 ?_
    refine r_if_ge (tgt := 21) (dc D_cX12_set_0 9 rfl) (by decide) (hσ2 _ _) (fun c5 => ?_) (fun c5 => ?_)
    · have h := h.1 c5
      refine r_iloadn (dc D_cX12_set_0 12 rfl) rfl rfl ?_
      refine r_iconst (n := 0) (dc D_cX12_set_0 13 rfl) ?_
      refine r_aloadn (dc D_cX12_set_0 14 rfl) rfl rfl ?_
      refine r_getR (dc D_cX12_set_0 15 rfl) fw_RX12_84 lM_0 rfl ?_
      refine r_iloadn (dc D_cX12_set_0 16 rfl) rfl rfl ?_
      obtain ⟨o6, h⟩ := h
      refine r_iald (N := 4) (dc D_cX12_set_0 17 rfl) lM_25 rfl rfl o6 ?_
      refine r_iconst (n := 1) (dc D_cX12_set_0 18 rfl) ?_
      refine r_isub (dc D_cX12_set_0 19 rfl) ?_
      obtain ⟨o7, h⟩ := h
      refine r_callS (As := [.int (iz a2), .int (iz 0), .int (iz ((σ2 25 a1.toNat) - 1))]) (st := []) (dc D_cX12_set_0 20 rfl) cw_RX12_90 nm_yX12_in (CX12_in hE _ _ _ ra2 (Rl rfl) o7 _ hσ2 h) rfl (by decide) rfl rfl rfl (fun z8 σ9 rz8 hσ9 h => ?_)
      show RW layM E mi_X12_set Φ 34 [some (.ref (eA E 0)), some (.int (iz a1)), some (.int (iz a2)), some (.int (iz a3))] [.int (iz z8)] σ9 x
      refine r_if_ne (tgt := 40) (dc D_cX12_set_0 21 rfl) (by decide) rz8 (fun c10 => ?_) (fun c10 => ?_)
      · have h := h.1 c10
        refine r_aloadn (dc D_cX12_set_0 24 rfl) rfl rfl ?_
        refine r_getR (dc D_cX12_set_0 25 rfl) fw_RX12_87 lM_0 rfl ?_
        refine r_bipush (n := 40) (dc D_cX12_set_0 26 rfl) (by decide +kernel) ?_
        refine r_iloadn (dc D_cX12_set_0 27 rfl) rfl rfl ?_
        refine r_imul (dc D_cX12_set_0 28 rfl) ?_
        obtain ⟨o11, h⟩ := h
        refine r_iloadn (dc D_cX12_set_0 29 rfl) rfl rfl ?_
        refine r_iadd (dc D_cX12_set_0 30 rfl) ?_
        obtain ⟨o12, h⟩ := h
        refine r_iloadn (dc D_cX12_set_0 31 rfl) rfl rfl ?_
        obtain ⟨o13, h⟩ := h
        refine r_iast (N := 160) (dc D_cX12_set_0 32 rfl) lM_26 rfl rfl o13 ra3 ?_
        refine r_sig (fun σ14 eσ14 => ?_)
        have h := h σ14 eσ14
        have hσ14 : RS σ14 := RS_eq eσ14 (RS.up hσ9 ra3 _ _)
        refine r_iconst (n := 1) (dc D_cX12_set_0 33 rfl) ?_
        exact r_iret (dc D_cX12_set_0 34 rfl) rfl (Rl rfl) h
      · have h := h.2 c10
        refine r_bipush (n := (-13)) (dc D_cX12_set_0 22 rfl) (by decide +kernel) ?_
        exact r_iret (dc D_cX12_set_0 23 rfl) rfl (Rl rfl) h
    · have h := h.2 c5
      refine r_bipush (n := (-11)) (dc D_cX12_set_0 10 rfl) (by decide +kernel) ?_
      exact r_iret (dc D_cX12_set_0 11 rfl) rfl (Rl rfl) h
  · have h := h.2 c3
    refine r_iconst (n := (-1)) (dc D_cX12_set_0 3 rfl) ?_
    exact r_iret (dc D_cX12_set_0 4 rfl) rfl (Rl rfl) h
-- end of GateFlowModel.set
def mi_X12_get : MI := (cX12_get, RX12, 3, 3, (some .int), 1)
def FX12_get (a1 a2 : Int) (σ : PS) (Φ : Int → PS → Prop) : Prop :=
  FX12_isList a1 σ (fun z1 σ2 =>
  ((z1 = 0 →
    Φ (-2000000000) σ2) ∧
  (¬ z1 = 0 →
    (0 ≤ a1 ∧ a1 < 4) ∧
    Rg ((σ2 25 a1.toNat) - 1) ∧
    FX12_in a2 0 ((σ2 25 a1.toNat) - 1) σ2 (fun z6 σ7 =>
    ((z6 = 0 →
      Φ (-2000000000) σ7) ∧
    (¬ z6 = 0 →
      Rg (40 * a1) ∧
      Rg ((40 * a1) + a2) ∧
      (0 ≤ (40 * a1) + a2 ∧ (40 * a1) + a2 < 160) ∧
      Φ (σ7 26 ((40 * a1) + a2).toNat) σ7))))))
theorem kw_RX12_350 : Cond.constant RX12 350 (iz (-2000000000)) ∈ TB := tb_1 1730 (by decide +kernel)
set_option maxRecDepth 100000 in
theorem CX12_get {E : EV} (hE : eOK layM E) {Φ : Int → PS → Prop} (a1 a2 : Int) (ra1 : Rg a1) (ra2 : Rg a2) (σ : PS) (hs : RS σ) (h : FX12_get a1 a2 σ Φ) : CT layM E yX12_get mi_X12_get [.ref (eA E 0), .int (iz a1), .int (iz a2)] σ Φ := by
  refine ct_of (by decide +kernel) rfl hE rfl rfl hs (fun x => ?_)
  show RW layM E mi_X12_get Φ 0 [some (.ref (eA E 0)), some (.int (iz a1)), some (.int (iz a2))] [] σ x
  refine r_iloadn (dc D_cX12_get_0 0 rfl) rfl rfl ?_
  refine r_callS (As := [.int (iz a1)]) (st := []) (dc D_cX12_get_0 1 rfl) cw_RX12_347 nm_yX12_isList (CX12_isList hE _ ra1 _ hs h) rfl (by decide) rfl rfl rfl (fun z1 σ2 rz1 hσ2 h => ?_)
  show RW layM E mi_X12_get Φ 4 [some (.ref (eA E 0)), some (.int (iz a1)), some (.int (iz a2))] [.int (iz z1)] σ2 x
  refine r_if_eq (tgt := 37) (dc D_cX12_get_0 2 rfl) (by decide) rz1 (fun c3 => ?_) (fun c3 => ?_)
  · have h := h.1 c3
    refine r_ldcw (n := (-2000000000)) (dc D_cX12_get_0 22 rfl) kw_RX12_350 ?_
    exact r_iret (dc D_cX12_get_0 23 rfl) rfl (Rl rfl) h
  · have h := h.2 c3
    refine r_iloadn (dc D_cX12_get_0 3 rfl) rfl rfl ?_
    refine r_iconst (n := 0) (dc D_cX12_get_0 4 rfl) ?_
    refine r_aloadn (dc D_cX12_get_0 5 rfl) rfl rfl ?_
    refine r_getR (dc D_cX12_get_0 6 rfl) fw_RX12_84 lM_0 rfl ?_
    refine r_iloadn (dc D_cX12_get_0 7 rfl) rfl rfl ?_
    obtain ⟨o4, h⟩ := h
    refine r_iald (N := 4) (dc D_cX12_get_0 8 rfl) lM_25 rfl rfl o4 ?_
    refine r_iconst (n := 1) (dc D_cX12_get_0 9 rfl) ?_
    refine r_isub (dc D_cX12_get_0 10 rfl) ?_
    obtain ⟨o5, h⟩ := h
    refine r_callS (As := [.int (iz a2), .int (iz 0), .int (iz ((σ2 25 a1.toNat) - 1))]) (st := []) (dc D_cX12_get_0 11 rfl) cw_RX12_90 nm_yX12_in (CX12_in hE _ _ _ ra2 (Rl rfl) o5 _ hσ2 h) rfl (by decide) rfl rfl rfl (fun z6 σ7 rz6 hσ7 h => ?_)
    show RW layM E mi_X12_get Φ 20 [some (.ref (eA E 0)), some (.int (iz a1)), some (.int (iz a2))] [.int (iz z6)] σ7 x
    refine r_if_eq (tgt := 37) (dc D_cX12_get_0 12 rfl) (by decide) rz6 (fun c8 => ?_) (fun c8 => ?_)
    · have h := h.1 c8
      refine r_ldcw (n := (-2000000000)) (dc D_cX12_get_0 22 rfl) kw_RX12_350 ?_
      exact r_iret (dc D_cX12_get_0 23 rfl) rfl (Rl rfl) h
    · have h := h.2 c8
      refine r_aloadn (dc D_cX12_get_0 13 rfl) rfl rfl ?_
      refine r_getR (dc D_cX12_get_0 14 rfl) fw_RX12_87 lM_0 rfl ?_
      refine r_bipush (n := 40) (dc D_cX12_get_0 15 rfl) (by decide +kernel) ?_
      refine r_iloadn (dc D_cX12_get_0 16 rfl) rfl rfl ?_
      refine r_imul (dc D_cX12_get_0 17 rfl) ?_
      obtain ⟨o9, h⟩ := h
      refine r_iloadn (dc D_cX12_get_0 18 rfl) rfl rfl ?_
      refine r_iadd (dc D_cX12_get_0 19 rfl) ?_
      obtain ⟨o10, h⟩ := h
      obtain ⟨o11, h⟩ := h
      refine r_iald (N := 160) (dc D_cX12_get_0 20 rfl) lM_26 rfl rfl o11 ?_
      refine r_goto (tgt := 40) (dc D_cX12_get_0 21 rfl) (by decide) ?_
      exact r_iret (dc D_cX12_get_0 23 rfl) rfl (hσ7 _ _) h
-- end of GateFlowModel.get
def mi_X12_lay : MI := (cX12_lay, RX12, 5, 7, (some .int), 1)
def LX12_lay_120 (x4 : Int) (σ : PS) (Φ : Int → PS → Prop) : Prop :=
  ((σ 1 2 ≤ x4 →
    Φ x4 σ) ∧
  (¬ σ 1 2 ≤ x4 →
    Φ (-13) σ))
def BX12_lay_69 (K69 : Int → Int → Int → PS → Prop) (x1 x2 x4 : Int) (σ : PS) (Φ : Int → PS → Prop) : Prop :=
  ((σ 1 2 ≤ x4 →
    LX12_lay_120 x4 σ Φ) ∧
  (¬ σ 1 2 ≤ x4 →
    (0 ≤ x1 ∧ x1 < 4) ∧
    Rg ((σ 25 x1.toNat) - x4) ∧
    (((σ 25 x1.toNat) - x4 ≤ x2 →
      LX12_lay_120 x4 σ Φ) ∧
    (¬ (σ 25 x1.toNat) - x4 ≤ x2 →
      Rg (40 * x1) ∧
      Rg ((40 * x1) + x2) ∧
      Rg (((40 * x1) + x2) + x4) ∧
      (0 ≤ x4 ∧ x4 < 30) ∧
      (0 ≤ ((40 * x1) + x2) + x4 ∧ ((40 * x1) + x2) + x4 < 160) ∧
      ∀ σ10 : PS, σ10 = up2 σ 26 (((40 * x1) + x2) + x4).toNat (σ 4 x4.toNat) →
      Rg (x4 + 1) ∧
      K69 x1 x2 (x4 + 1) σ10))))
def LX12_lay_69 : Nat → Int → Int → Int → PS → (Int → PS → Prop) → Prop
  | 0, _, _, _, _, _ => False
  | n + 1, x1, x2, x4, σ, Φ => BX12_lay_69 (fun x1 x2 x4 σ => LX12_lay_69 n x1 x2 x4 σ Φ) x1 x2 x4 σ Φ
def LX12_lay_66 (x1 x2 : Int) (σ : PS) (Φ : Int → PS → Prop) : Prop :=
  ∃ n, LX12_lay_69 n x1 x2 0 σ Φ
def FX12_lay (a1 a2 a3 : Int) (σ : PS) (Φ : Int → PS → Prop) : Prop :=
  FX12_isList a1 σ (fun z1 σ2 =>
  ((z1 = 0 →
    Φ (-1) σ2) ∧
  (¬ z1 = 0 →
    FX12_in a3 0 1 σ2 (fun z4 σ5 =>
    ((¬ z4 = 0 →
      (0 ≤ a1 ∧ a1 < 4) ∧
      ((0 ≤ σ5 25 a1.toNat →
        ((0 ≤ a2 →
          ((¬ a3 = 0 →
            FX12_flowsByHeights σ5 (fun z11 σ12 =>
            LX12_lay_66 a1 a2 σ12 Φ)) ∧
          (a3 = 0 →
            FX12_flowsNow σ5 (fun z13 σ14 =>
            LX12_lay_66 a1 a2 σ14 Φ)))) ∧
        (¬ 0 ≤ a2 →
          ((¬ σ5 1 2 = 0 →
            Φ (-13) σ5) ∧
          (σ5 1 2 = 0 →
            Φ 0 σ5))))) ∧
      (¬ 0 ≤ σ5 25 a1.toNat →
        Φ (-11) σ5))) ∧
    (z4 = 0 →
      Φ (-1) σ5))))))
set_option maxRecDepth 100000 in
theorem TX12_lay_120 {E : EV} (hE : eOK layM E) {Φ : Int → PS → Prop} (x : CX) (x4 : Int) (rx4 : Rg x4) (σ : PS) (hs : RS σ) (h : LX12_lay_120 x4 σ Φ) : RW layM E mi_X12_lay Φ 120 [some (.ref (eA E 0)), none, none, none, some (.int (iz x4))] [] σ x := by
  refine r_iload (dc D_cX12_lay_1 28 rfl) rfl ?_
  refine r_aloadn (dc D_cX12_lay_1 29 rfl) rfl rfl ?_
  refine r_getR (dc D_cX12_lay_1 30 rfl) fw_RX12_9 lM_0 rfl ?_
  refine r_iconst (n := 2) (dc D_cX12_lay_1 31 rfl) ?_
  refine r_iald (N := 183) (dc D_cX12_lay_1 32 rfl) lM_1 rfl rfl ⟨by decide, by decide⟩ ?_
  refine r_icmp_ge (tgt := 136) (dc D_cX12_lay_1 33 rfl) (by decide) rx4 (hs _ _) (fun c1 => ?_) (fun c1 => ?_)
  · have h := h.1 c1
    refine r_iload (dc D_cX12_lay_1 36 rfl) rfl ?_
    exact r_iret (dc D_cX12_lay_1 37 rfl) rfl rx4 h
  · have h := h.2 c1
    refine r_bipush (n := (-13)) (dc D_cX12_lay_1 34 rfl) (by decide +kernel) ?_
    refine r_goto (tgt := 138) (dc D_cX12_lay_1 35 rfl) (by decide) ?_
    exact r_iret (dc D_cX12_lay_1 37 rfl) rfl (Rl rfl) h
set_option maxRecDepth 100000 in
theorem TBX12_lay_69 {E : EV} (hE : eOK layM E) {Φ : Int → PS → Prop} {K69 : Int → Int → Int → PS → Prop} (x : CX) (hK69 : ∀ (x1 x2 x4 : Int) (σ : PS), Rg x1 → Rg x2 → Rg x4 → RS σ → K69 x1 x2 x4 σ → RW layM E mi_X12_lay Φ 69 [some (.ref (eA E 0)), some (.int (iz x1)), some (.int (iz x2)), none, some (.int (iz x4))] [] σ x) (x1 x2 x4 : Int) (rx1 : Rg x1) (rx2 : Rg x2) (rx4 : Rg x4) (σ : PS) (hs : RS σ) (h : BX12_lay_69 K69 x1 x2 x4 σ Φ) : RW layM E mi_X12_lay Φ 69 [some (.ref (eA E 0)), some (.int (iz x1)), some (.int (iz x2)), none, some (.int (iz x4))] [] σ x := by
  refine r_iload (dc D_cX12_lay_0 38 rfl) rfl ?_
  refine r_aloadn (dc D_cX12_lay_0 39 rfl) rfl rfl ?_
  refine r_getR (dc D_cX12_lay_1 0 rfl) fw_RX12_9 lM_0 rfl ?_
  refine r_iconst (n := 2) (dc D_cX12_lay_1 1 rfl) ?_
  refine r_iald (N := 183) (dc D_cX12_lay_1 2 rfl) lM_1 rfl rfl ⟨by decide, by decide⟩ ?_
  refine r_icmp_ge (tgt := 120) (dc D_cX12_lay_1 3 rfl) (by decide) rx4 (hs _ _) (fun c1 => ?_) (fun c1 => ?_)
  · have h := h.1 c1
    refine r_sub (lv' := [some (.ref (eA E 0)), none, none, none, some (.int (iz x4))]) (subL_s (subL_n (subL_n (subL_n (subL_s subL_e))))) ?_
    exact TX12_lay_120 hE x _ rx4 _ hs h
  · have h := h.2 c1
    refine r_iloadn (dc D_cX12_lay_1 4 rfl) rfl rfl ?_
    refine r_aloadn (dc D_cX12_lay_1 5 rfl) rfl rfl ?_
    refine r_getR (dc D_cX12_lay_1 6 rfl) fw_RX12_84 lM_0 rfl ?_
    refine r_iloadn (dc D_cX12_lay_1 7 rfl) rfl rfl ?_
    obtain ⟨o2, h⟩ := h
    refine r_iald (N := 4) (dc D_cX12_lay_1 8 rfl) lM_25 rfl rfl o2 ?_
    refine r_iload (dc D_cX12_lay_1 9 rfl) rfl ?_
    refine r_isub (dc D_cX12_lay_1 10 rfl) ?_
    obtain ⟨o3, h⟩ := h
    refine r_icmp_ge (tgt := 120) (dc D_cX12_lay_1 11 rfl) (by decide) rx2 o3 (fun c4 => ?_) (fun c4 => ?_)
    · have h := h.1 c4
      refine r_sub (lv' := [some (.ref (eA E 0)), none, none, none, some (.int (iz x4))]) (subL_s (subL_n (subL_n (subL_n (subL_s subL_e))))) ?_
      exact TX12_lay_120 hE x _ rx4 _ hs h
    · have h := h.2 c4
      refine r_aloadn (dc D_cX12_lay_1 12 rfl) rfl rfl ?_
      refine r_getR (dc D_cX12_lay_1 13 rfl) fw_RX12_87 lM_0 rfl ?_
      refine r_bipush (n := 40) (dc D_cX12_lay_1 14 rfl) (by decide +kernel) ?_
      refine r_iloadn (dc D_cX12_lay_1 15 rfl) rfl rfl ?_
      refine r_imul (dc D_cX12_lay_1 16 rfl) ?_
      obtain ⟨o5, h⟩ := h
      refine r_iloadn (dc D_cX12_lay_1 17 rfl) rfl rfl ?_
      refine r_iadd (dc D_cX12_lay_1 18 rfl) ?_
      obtain ⟨o6, h⟩ := h
      refine r_iload (dc D_cX12_lay_1 19 rfl) rfl ?_
      refine r_iadd (dc D_cX12_lay_1 20 rfl) ?_
      obtain ⟨o7, h⟩ := h
      refine r_aloadn (dc D_cX12_lay_1 21 rfl) rfl rfl ?_
      refine r_getR (dc D_cX12_lay_1 22 rfl) fw_RX12_19 lM_0 rfl ?_
      refine r_iload (dc D_cX12_lay_1 23 rfl) rfl ?_
      obtain ⟨o8, h⟩ := h
      refine r_iald (N := 30) (dc D_cX12_lay_1 24 rfl) lM_4 rfl rfl o8 ?_
      obtain ⟨o9, h⟩ := h
      refine r_iast (N := 160) (dc D_cX12_lay_1 25 rfl) lM_26 rfl rfl o9 (hs _ _) ?_
      refine r_sig (fun σ10 eσ10 => ?_)
      have h := h σ10 eσ10
      have hσ10 : RS σ10 := RS_eq eσ10 (RS.up hs (hs _ _) _ _)
      obtain ⟨o11, h⟩ := h
      refine r_iinc (lv' := [some (.ref (eA E 0)), some (.int (iz x1)), some (.int (iz x2)), none, some (.int (iz (x4 + 1)))]) (dc D_cX12_lay_1 26 rfl) rfl rfl rfl ?_
      refine r_goto (tgt := 69) (dc D_cX12_lay_1 27 rfl) (by decide) ?_
      exact hK69 _ _ _ _ rx1 rx2 o11 hσ10 h
theorem TX12_lay_69 {E : EV} (hE : eOK layM E) {Φ : Int → PS → Prop} (x : CX) (n : Nat) : ∀ (x1 x2 x4 : Int) (σ : PS), Rg x1 → Rg x2 → Rg x4 → RS σ → LX12_lay_69 n x1 x2 x4 σ Φ → RW layM E mi_X12_lay Φ 69 [some (.ref (eA E 0)), some (.int (iz x1)), some (.int (iz x2)), none, some (.int (iz x4))] [] σ x := by
  induction n with
  | zero => intro x1 x2 x4 σ _ _ _ _ h; exact h.elim
  | succ n ih => intro x1 x2 x4 σ rx1 rx2 rx4 hs h; exact TBX12_lay_69 hE x ih x1 x2 x4 rx1 rx2 rx4 σ hs h
set_option maxRecDepth 100000 in
theorem TX12_lay_66 {E : EV} (hE : eOK layM E) {Φ : Int → PS → Prop} (x : CX) (x1 x2 : Int) (rx1 : Rg x1) (rx2 : Rg x2) (σ : PS) (hs : RS σ) (h : LX12_lay_66 x1 x2 σ Φ) : RW layM E mi_X12_lay Φ 66 [some (.ref (eA E 0)), some (.int (iz x1)), some (.int (iz x2)), none, none] [] σ x := by
  refine r_iconst (n := 0) (dc D_cX12_lay_0 36 rfl) ?_
  refine r_istore (lv' := [some (.ref (eA E 0)), some (.int (iz x1)), some (.int (iz x2)), none, some (.int (iz 0))]) (dc D_cX12_lay_0 37 rfl) rfl rfl ?_
  obtain ⟨n, h⟩ := h
  exact TX12_lay_69 hE x n _ _ _ _ rx1 rx2 (Rl rfl) hs h
set_option maxRecDepth 100000 in
theorem CX12_lay {E : EV} (hE : eOK layM E) {Φ : Int → PS → Prop} (a1 a2 a3 : Int) (ra1 : Rg a1) (ra2 : Rg a2) (ra3 : Rg a3) (σ : PS) (hs : RS σ) (h : FX12_lay a1 a2 a3 σ Φ) : CT layM E yX12_lay mi_X12_lay [.ref (eA E 0), .int (iz a1), .int (iz a2), .int (iz a3)] σ Φ := by
  refine ct_of (by decide +kernel) rfl hE rfl rfl hs (fun x => ?_)
  show RW layM E mi_X12_lay Φ 0 [some (.ref (eA E 0)), some (.int (iz a1)), some (.int (iz a2)), some (.int (iz a3)), none] [] σ x
  refine r_iloadn (dc D_cX12_lay_0 0 rfl) rfl rfl ?_
  refine r_callS (As := [.int (iz a1)]) (st := []) (dc D_cX12_lay_0 1 rfl) cw_RX12_347 nm_yX12_isList (CX12_isList hE _ ra1 _ hs h) rfl (by decide) rfl rfl rfl (fun z1 σ2 rz1 hσ2 h => ?_)
  show RW layM E mi_X12_lay Φ 4 [some (.ref (eA E 0)), some (.int (iz a1)), some (.int (iz a2)), some (.int (iz a3)), none] [.int (iz z1)] σ2 x
  refine r_if_eq (tgt := 16) (dc D_cX12_lay_0 2 rfl) (by decide) rz1 (fun c3 => ?_) (fun c3 => ?_)
  · have h := h.1 c3
    refine r_iconst (n := (-1)) (dc D_cX12_lay_0 8 rfl) ?_
    exact r_iret (dc D_cX12_lay_0 9 rfl) rfl (Rl rfl) h
  · have h := h.2 c3
    refine r_iloadn (dc D_cX12_lay_0 3 rfl) rfl rfl ?_
    refine r_iconst (n := 0) (dc D_cX12_lay_0 4 rfl) ?_
    refine r_iconst (n := 1) (dc D_cX12_lay_0 5 rfl) ?_
    refine r_callS (As := [.int (iz a3), .int (iz 0), .int (iz 1)]) (st := []) (dc D_cX12_lay_0 6 rfl) cw_RX12_90 nm_yX12_in (CX12_in hE _ _ _ ra3 (Rl rfl) (Rl rfl) _ hσ2 h) rfl (by decide) rfl rfl rfl (fun z4 σ5 rz4 hσ5 h => ?_)
    show RW layM E mi_X12_lay Φ 13 [some (.ref (eA E 0)), some (.int (iz a1)), some (.int (iz a2)), some (.int (iz a3)), none] [.int (iz z4)] σ5 x
    refine r_if_ne (tgt := 18) (dc D_cX12_lay_0 7 rfl) (by decide) rz4 (fun c6 => ?_) (fun c6 => ?_)
    · have h := h.1 c6
      refine r_aloadn (dc D_cX12_lay_0 10 rfl) rfl rfl ?_
      refine r_getR (dc D_cX12_lay_0 11 rfl) fw_RX12_84 lM_0 rfl ?_
      refine r_iloadn (dc D_cX12_lay_0 12 rfl) rfl rfl ?_
      obtain ⟨o7, h⟩ := h
      refine r_iald (N := 4) (dc D_cX12_lay_0 13 rfl) lM_25 rfl rfl o7 ?_
      refine r_if_ge (tgt := 30) (dc D_cX12_lay_0 14 rfl) (by decide) (hσ5 _ _) (fun c8 => ?_) (fun c8 => ?_)
      · have h := h.1 c8
        refine r_iloadn (dc D_cX12_lay_0 17 rfl) rfl rfl ?_
        refine r_if_ge (tgt := 50) (dc D_cX12_lay_0 18 rfl) (by decide) ra2 (fun c9 => ?_) (fun c9 => ?_)
        · have h := h.1 c9
          refine r_iloadn (dc D_cX12_lay_0 28 rfl) rfl rfl ?_
          refine r_if_ne (tgt := 62) (dc D_cX12_lay_0 29 rfl) (by decide) ra3 (fun c10 => ?_) (fun c10 => ?_)
          · have h := h.1 c10
            refine r_aloadn (dc D_cX12_lay_0 34 rfl) rfl rfl ?_
            refine r_callV (As := []) (st := []) (dc D_cX12_lay_0 35 rfl) cw_RX12_183 nm_yX12_flowsByHeights (CX12_flowsByHeights hE  _ hσ5 h) lM_0 rfl rfl (by decide) rfl rfl rfl (fun z11 σ12 rz11 hσ12 h => ?_)
            show RW layM E mi_X12_lay Φ 66 [some (.ref (eA E 0)), some (.int (iz a1)), some (.int (iz a2)), some (.int (iz a3)), none] [] σ12 x
            refine r_sub (lv' := [some (.ref (eA E 0)), some (.int (iz a1)), some (.int (iz a2)), none, none]) (subL_s (subL_s (subL_s (subL_n (subL_n subL_e))))) ?_
            exact TX12_lay_66 hE x _ _ ra1 ra2 _ hσ12 h
          · have h := h.2 c10
            refine r_aloadn (dc D_cX12_lay_0 30 rfl) rfl rfl ?_
            refine r_callV (As := []) (st := []) (dc D_cX12_lay_0 31 rfl) cw_RX12_160 nm_yX12_flowsNow (CX12_flowsNow hE  _ hσ5 h) lM_0 rfl rfl (by decide) rfl rfl rfl (fun z13 σ14 rz13 hσ14 h => ?_)
            show RW layM E mi_X12_lay Φ 58 [some (.ref (eA E 0)), some (.int (iz a1)), some (.int (iz a2)), some (.int (iz a3)), none] [.int (iz z13)] σ14 x
            refine r_pop (dc D_cX12_lay_0 32 rfl) rfl ?_
            refine r_goto (tgt := 66) (dc D_cX12_lay_0 33 rfl) (by decide) ?_
            refine r_sub (lv' := [some (.ref (eA E 0)), some (.int (iz a1)), some (.int (iz a2)), none, none]) (subL_s (subL_s (subL_s (subL_n (subL_n subL_e))))) ?_
            exact TX12_lay_66 hE x _ _ ra1 ra2 _ hσ14 h
        · have h := h.2 c9
          refine r_aloadn (dc D_cX12_lay_0 19 rfl) rfl rfl ?_
          refine r_getR (dc D_cX12_lay_0 20 rfl) fw_RX12_9 lM_0 rfl ?_
          refine r_iconst (n := 2) (dc D_cX12_lay_0 21 rfl) ?_
          refine r_iald (N := 183) (dc D_cX12_lay_0 22 rfl) lM_1 rfl rfl ⟨by decide, by decide⟩ ?_
          refine r_if_ne (tgt := 47) (dc D_cX12_lay_0 23 rfl) (by decide) (hσ5 _ _) (fun c15 => ?_) (fun c15 => ?_)
          · have h := h.1 c15
            refine r_bipush (n := (-13)) (dc D_cX12_lay_0 26 rfl) (by decide +kernel) ?_
            exact r_iret (dc D_cX12_lay_0 27 rfl) rfl (Rl rfl) h
          · have h := h.2 c15
            refine r_iconst (n := 0) (dc D_cX12_lay_0 24 rfl) ?_
            refine r_goto (tgt := 49) (dc D_cX12_lay_0 25 rfl) (by decide) ?_
            exact r_iret (dc D_cX12_lay_0 27 rfl) rfl (Rl rfl) h
      · have h := h.2 c8
        refine r_bipush (n := (-11)) (dc D_cX12_lay_0 15 rfl) (by decide +kernel) ?_
        exact r_iret (dc D_cX12_lay_0 16 rfl) rfl (Rl rfl) h
    · have h := h.2 c6
      refine r_iconst (n := (-1)) (dc D_cX12_lay_0 8 rfl) ?_
      exact r_iret (dc D_cX12_lay_0 9 rfl) rfl (Rl rfl) h
-- end of GateFlowModel.lay
def mi_X12_judge : MI := (cX12_judge, RX12, 9, 4, (some .int), 1)
def LX12_judge_256 (K119 : Int → Int → Int → Int → PS → Prop) (x3 x4 x6 s0 : Int) (σ : PS) (Φ : Int → PS → Prop) : Prop :=
  Rg (x6 + (-1)) ∧
  K119 x3 x4 s0 (x6 + (-1)) σ
def LX12_judge_254 (K119 : Int → Int → Int → Int → PS → Prop) (x3 x4 x5 x6 : Int) (σ : PS) (Φ : Int → PS → Prop) : Prop :=
  LX12_judge_256 K119 x3 x4 x6 x5 σ Φ
def LX12_judge_220 (K119 : Int → Int → Int → Int → PS → Prop) (x3 x5 x6 x7 s0 : Int) (σ : PS) (Φ : Int → PS → Prop) : Prop :=
  ((x6 = σ 1 0 →
    LX12_judge_254 K119 x3 s0 x5 x6 σ Φ) ∧
  (¬ x6 = σ 1 0 →
    ((x6 = σ 1 1 →
      LX12_judge_254 K119 x3 s0 x5 x6 σ Φ) ∧
    (¬ x6 = σ 1 1 →
      ((x7 = 0 →
        LX12_judge_254 K119 x3 s0 x5 x6 σ Φ) ∧
      (¬ x7 = 0 →
        LX12_judge_256 K119 x3 s0 x6 x6 σ Φ))))))
def LX12_judge_193 (K119 : Int → Int → Int → Int → PS → Prop) (K130 : Int → Int → Int → Int → Int → Int → PS → Prop) (x3 x4 x5 x6 x8 s0 s1 : Int) (σ : PS) (Φ : Int → PS → Prop) : Prop :=
  Rg (s0 + s1) ∧
  ∀ v2 : Int, v2 = s0 + s1 →
  Rg (x8 + 1) ∧
  K130 x3 x4 x5 x6 v2 (x8 + 1) σ
def BX12_judge_130 (K119 : Int → Int → Int → Int → PS → Prop) (K130 : Int → Int → Int → Int → Int → Int → PS → Prop) (x3 x4 x5 x6 x7 x8 : Int) (σ : PS) (Φ : Int → PS → Prop) : Prop :=
  ((σ 1 2 ≤ x8 →
    ((¬ x6 = σ 1 0 →
      LX12_judge_220 K119 x3 x5 x6 x7 x4 σ Φ) ∧
    (x6 = σ 1 0 →
      LX12_judge_220 K119 x3 x5 x6 x7 x7 σ Φ))) ∧
  (¬ σ 1 2 ≤ x8 →
    FX12_at x8 0 σ (fun z3 σ4 =>
    ((¬ z3 = x6 →
      FX12_at x8 1 σ4 (fun z6 σ7 =>
      ((¬ z6 = x6 →
        LX12_judge_193 K119 K130 x3 x4 x5 x6 x8 x7 0 σ7 Φ) ∧
      (z6 = x6 →
        Rg (x3 + x8) ∧
        (0 ≤ x3 + x8 ∧ x3 + x8 < 160) ∧
        Rg (-(σ7 26 (x3 + x8).toNat)) ∧
        LX12_judge_193 K119 K130 x3 x4 x5 x6 x8 x7 (-(σ7 26 (x3 + x8).toNat)) σ7 Φ)))) ∧
    (z3 = x6 →
      Rg (x3 + x8) ∧
      (0 ≤ x3 + x8 ∧ x3 + x8 < 160) ∧
      LX12_judge_193 K119 K130 x3 x4 x5 x6 x8 x7 (σ4 26 (x3 + x8).toNat) σ4 Φ)))))
def LX12_judge_130 (K119 : Int → Int → Int → Int → PS → Prop) : Nat → Int → Int → Int → Int → Int → Int → PS → (Int → PS → Prop) → Prop
  | 0, _, _, _, _, _, _, _, _ => False
  | n + 1, x3, x4, x5, x6, x7, x8, σ, Φ => BX12_judge_130 K119 (fun x3 x4 x5 x6 x7 x8 σ => LX12_judge_130 K119 n x3 x4 x5 x6 x7 x8 σ Φ) x3 x4 x5 x6 x7 x8 σ Φ
def BX12_judge_119 (K119 : Int → Int → Int → Int → PS → Prop) (x3 x4 x5 x6 : Int) (σ : PS) (Φ : Int → PS → Prop) : Prop :=
  ((x6 < 0 →
    ((x5 < 0 →
      Rg (100000 + x4) ∧
      Φ (100000 + x4) σ) ∧
    (¬ x5 < 0 →
      Rg (100 + x5) ∧
      Φ (100 + x5) σ))) ∧
  (¬ x6 < 0 →
    ∃ n, LX12_judge_130 K119 n x3 x4 x5 x6 0 0 σ Φ))
def LX12_judge_119 : Nat → Int → Int → Int → Int → PS → (Int → PS → Prop) → Prop
  | 0, _, _, _, _, _, _ => False
  | n + 1, x3, x4, x5, x6, σ, Φ => BX12_judge_119 (fun x3 x4 x5 x6 σ => LX12_judge_119 n x3 x4 x5 x6 σ Φ) x3 x4 x5 x6 σ Φ
def BX12_judge_67 (K67 : Int → Int → PS → Prop) (x3 x4 : Int) (σ : PS) (Φ : Int → PS → Prop) : Prop :=
  ((σ 1 2 ≤ x4 →
    ∃ n, LX12_judge_119 n x3 0 (-1) 11 σ Φ) ∧
  (¬ σ 1 2 ≤ x4 →
    Rg (x3 + x4) ∧
    (0 ≤ x3 + x4 ∧ x3 + x4 < 160) ∧
    FX12_capacity x4 σ (fun z4 σ5 =>
    FX12_in (σ 26 (x3 + x4).toNat) 0 z4 σ5 (fun z6 σ7 =>
    ((¬ z6 = 0 →
      Rg (x4 + 1) ∧
      K67 x3 (x4 + 1) σ7) ∧
    (z6 = 0 →
      Φ x4 σ7))))))
def LX12_judge_67 : Nat → Int → Int → PS → (Int → PS → Prop) → Prop
  | 0, _, _, _, _ => False
  | n + 1, x3, x4, σ, Φ => BX12_judge_67 (fun x3 x4 σ => LX12_judge_67 n x3 x4 σ Φ) x3 x4 σ Φ
def LX12_judge_57 (x1 x2 : Int) (σ : PS) (Φ : Int → PS → Prop) : Prop :=
  Rg (40 * x1) ∧
  ∀ v2 : Int, v2 = iwrap ((40 * x1) + x2) →
  ∃ n, LX12_judge_67 n v2 0 σ Φ
def FX12_judge (a1 a2 : Int) (σ : PS) (Φ : Int → PS → Prop) : Prop :=
  FX12_isList a1 σ (fun z1 σ2 =>
  ((¬ z1 = 0 →
    (0 ≤ a1 ∧ a1 < 4) ∧
    ((0 ≤ σ2 25 a1.toNat →
      ((0 ≤ a2 →
        (0 ≤ a1 ∧ a1 < 4) ∧
        Rg ((σ2 25 a1.toNat) - (σ2 1 2)) ∧
        ((a2 ≤ (σ2 25 a1.toNat) - (σ2 1 2) →
          LX12_judge_57 a1 a2 σ2 Φ) ∧
        (¬ a2 ≤ (σ2 25 a1.toNat) - (σ2 1 2) →
          ((σ2 1 2 ≤ 0 →
            LX12_judge_57 a1 a2 σ2 Φ) ∧
          (¬ σ2 1 2 ≤ 0 →
            Φ (-5) σ2))))) ∧
      (¬ 0 ≤ a2 →
        Φ (-13) σ2))) ∧
    (¬ 0 ≤ σ2 25 a1.toNat →
      Φ (-11) σ2))) ∧
  (z1 = 0 →
    Φ (-1) σ2)))
theorem kw_RX12_351 : Cond.constant RX12 351 (iz 100000) ∈ TB := tb_1 1739 (by decide +kernel)
set_option maxRecDepth 100000 in
theorem TX12_judge_256 {E : EV} (hE : eOK layM E) {Φ : Int → PS → Prop} {K119 : Int → Int → Int → Int → PS → Prop} (x : CX) (hK119 : ∀ (x3 x4 x5 x6 : Int) (σ : PS), Rg x3 → Rg x4 → Rg x5 → Rg x6 → RS σ → K119 x3 x4 x5 x6 σ → RW layM E mi_X12_judge Φ 119 [some (.ref (eA E 0)), none, none, some (.int (iz x3)), some (.int (iz x4)), some (.int (iz x5)), some (.int (iz x6)), none, none] [] σ x) (x3 x4 x6 s0 : Int) (rx3 : Rg x3) (rx4 : Rg x4) (rx6 : Rg x6) (rs0 : Rg s0) (σ : PS) (hs : RS σ) (h : LX12_judge_256 K119 x3 x4 x6 s0 σ Φ) : RW layM E mi_X12_judge Φ 256 [some (.ref (eA E 0)), none, none, some (.int (iz x3)), some (.int (iz x4)), none, some (.int (iz x6)), none, none] [.int (iz s0)] σ x := by
  refine r_istore (lv' := [some (.ref (eA E 0)), none, none, some (.int (iz x3)), some (.int (iz x4)), some (.int (iz s0)), some (.int (iz x6)), none, none]) (dc D_cX12_judge_3 22 rfl) rfl rfl ?_
  obtain ⟨o1, h⟩ := h
  refine r_iinc (lv' := [some (.ref (eA E 0)), none, none, some (.int (iz x3)), some (.int (iz x4)), some (.int (iz s0)), some (.int (iz (x6 + (-1)))), none, none]) (dc D_cX12_judge_3 23 rfl) rfl rfl rfl ?_
  refine r_goto (tgt := 119) (dc D_cX12_judge_3 24 rfl) (by decide) ?_
  exact hK119 _ _ _ _ _ rx3 rx4 rs0 o1 hs h
set_option maxRecDepth 100000 in
theorem TX12_judge_254 {E : EV} (hE : eOK layM E) {Φ : Int → PS → Prop} {K119 : Int → Int → Int → Int → PS → Prop} (x : CX) (hK119 : ∀ (x3 x4 x5 x6 : Int) (σ : PS), Rg x3 → Rg x4 → Rg x5 → Rg x6 → RS σ → K119 x3 x4 x5 x6 σ → RW layM E mi_X12_judge Φ 119 [some (.ref (eA E 0)), none, none, some (.int (iz x3)), some (.int (iz x4)), some (.int (iz x5)), some (.int (iz x6)), none, none] [] σ x) (x3 x4 x5 x6 : Int) (rx3 : Rg x3) (rx4 : Rg x4) (rx5 : Rg x5) (rx6 : Rg x6) (σ : PS) (hs : RS σ) (h : LX12_judge_254 K119 x3 x4 x5 x6 σ Φ) : RW layM E mi_X12_judge Φ 254 [some (.ref (eA E 0)), none, none, some (.int (iz x3)), some (.int (iz x4)), some (.int (iz x5)), some (.int (iz x6)), none, none] [] σ x := by
  refine r_iload (dc D_cX12_judge_3 21 rfl) rfl ?_
  refine r_sub (lv' := [some (.ref (eA E 0)), none, none, some (.int (iz x3)), some (.int (iz x4)), none, some (.int (iz x6)), none, none]) (subL_s (subL_n (subL_n (subL_s (subL_s (subL_n (subL_s (subL_n (subL_n subL_e))))))))) ?_
  exact TX12_judge_256 hE x hK119 _ _ _ _ rx3 rx4 rx6 rx5 _ hs h
set_option maxRecDepth 100000 in
theorem TX12_judge_220 {E : EV} (hE : eOK layM E) {Φ : Int → PS → Prop} {K119 : Int → Int → Int → Int → PS → Prop} (x : CX) (hK119 : ∀ (x3 x4 x5 x6 : Int) (σ : PS), Rg x3 → Rg x4 → Rg x5 → Rg x6 → RS σ → K119 x3 x4 x5 x6 σ → RW layM E mi_X12_judge Φ 119 [some (.ref (eA E 0)), none, none, some (.int (iz x3)), some (.int (iz x4)), some (.int (iz x5)), some (.int (iz x6)), none, none] [] σ x) (x3 x5 x6 x7 s0 : Int) (rx3 : Rg x3) (rx5 : Rg x5) (rx6 : Rg x6) (rx7 : Rg x7) (rs0 : Rg s0) (σ : PS) (hs : RS σ) (h : LX12_judge_220 K119 x3 x5 x6 x7 s0 σ Φ) : RW layM E mi_X12_judge Φ 220 [some (.ref (eA E 0)), none, none, some (.int (iz x3)), none, some (.int (iz x5)), some (.int (iz x6)), some (.int (iz x7)), none] [.int (iz s0)] σ x := by
  refine r_istore (lv' := [some (.ref (eA E 0)), none, none, some (.int (iz x3)), some (.int (iz s0)), some (.int (iz x5)), some (.int (iz x6)), some (.int (iz x7)), none]) (dc D_cX12_judge_3 4 rfl) rfl rfl ?_
  refine r_iload (dc D_cX12_judge_3 5 rfl) rfl ?_
  refine r_aloadn (dc D_cX12_judge_3 6 rfl) rfl rfl ?_
  refine r_getR (dc D_cX12_judge_3 7 rfl) fw_RX12_9 lM_0 rfl ?_
  refine r_iconst (n := 0) (dc D_cX12_judge_3 8 rfl) ?_
  refine r_iald (N := 183) (dc D_cX12_judge_3 9 rfl) lM_1 rfl rfl ⟨by decide, by decide⟩ ?_
  refine r_icmp_eq (tgt := 254) (dc D_cX12_judge_3 10 rfl) (by decide) rx6 (hs _ _) (fun c1 => ?_) (fun c1 => ?_)
  · have h := h.1 c1
    refine r_sub (lv' := [some (.ref (eA E 0)), none, none, some (.int (iz x3)), some (.int (iz s0)), some (.int (iz x5)), some (.int (iz x6)), none, none]) (subL_s (subL_n (subL_n (subL_s (subL_s (subL_s (subL_s (subL_n (subL_n subL_e))))))))) ?_
    exact TX12_judge_254 hE x hK119 _ _ _ _ rx3 rs0 rx5 rx6 _ hs h
  · have h := h.2 c1
    refine r_iload (dc D_cX12_judge_3 11 rfl) rfl ?_
    refine r_aloadn (dc D_cX12_judge_3 12 rfl) rfl rfl ?_
    refine r_getR (dc D_cX12_judge_3 13 rfl) fw_RX12_9 lM_0 rfl ?_
    refine r_iconst (n := 1) (dc D_cX12_judge_3 14 rfl) ?_
    refine r_iald (N := 183) (dc D_cX12_judge_3 15 rfl) lM_1 rfl rfl ⟨by decide, by decide⟩ ?_
    refine r_icmp_eq (tgt := 254) (dc D_cX12_judge_3 16 rfl) (by decide) rx6 (hs _ _) (fun c2 => ?_) (fun c2 => ?_)
    · have h := h.1 c2
      refine r_sub (lv' := [some (.ref (eA E 0)), none, none, some (.int (iz x3)), some (.int (iz s0)), some (.int (iz x5)), some (.int (iz x6)), none, none]) (subL_s (subL_n (subL_n (subL_s (subL_s (subL_s (subL_s (subL_n (subL_n subL_e))))))))) ?_
      exact TX12_judge_254 hE x hK119 _ _ _ _ rx3 rs0 rx5 rx6 _ hs h
    · have h := h.2 c2
      refine r_iload (dc D_cX12_judge_3 17 rfl) rfl ?_
      refine r_if_eq (tgt := 254) (dc D_cX12_judge_3 18 rfl) (by decide) rx7 (fun c3 => ?_) (fun c3 => ?_)
      · have h := h.1 c3
        refine r_sub (lv' := [some (.ref (eA E 0)), none, none, some (.int (iz x3)), some (.int (iz s0)), some (.int (iz x5)), some (.int (iz x6)), none, none]) (subL_s (subL_n (subL_n (subL_s (subL_s (subL_s (subL_s (subL_n (subL_n subL_e))))))))) ?_
        exact TX12_judge_254 hE x hK119 _ _ _ _ rx3 rs0 rx5 rx6 _ hs h
      · have h := h.2 c3
        refine r_iload (dc D_cX12_judge_3 19 rfl) rfl ?_
        refine r_goto (tgt := 256) (dc D_cX12_judge_3 20 rfl) (by decide) ?_
        refine r_sub (lv' := [some (.ref (eA E 0)), none, none, some (.int (iz x3)), some (.int (iz s0)), none, some (.int (iz x6)), none, none]) (subL_s (subL_n (subL_n (subL_s (subL_s (subL_n (subL_s (subL_n (subL_n subL_e))))))))) ?_
        exact TX12_judge_256 hE x hK119 _ _ _ _ rx3 rs0 rx6 rx6 _ hs h
set_option maxRecDepth 100000 in
theorem TX12_judge_193 {E : EV} (hE : eOK layM E) {Φ : Int → PS → Prop} {K119 : Int → Int → Int → Int → PS → Prop} {K130 : Int → Int → Int → Int → Int → Int → PS → Prop} (x : CX) (hK119 : ∀ (x3 x4 x5 x6 : Int) (σ : PS), Rg x3 → Rg x4 → Rg x5 → Rg x6 → RS σ → K119 x3 x4 x5 x6 σ → RW layM E mi_X12_judge Φ 119 [some (.ref (eA E 0)), none, none, some (.int (iz x3)), some (.int (iz x4)), some (.int (iz x5)), some (.int (iz x6)), none, none] [] σ x) (hK130 : ∀ (x3 x4 x5 x6 x7 x8 : Int) (σ : PS), Rg x3 → Rg x4 → Rg x5 → Rg x6 → Rg x7 → Rg x8 → RS σ → K130 x3 x4 x5 x6 x7 x8 σ → RW layM E mi_X12_judge Φ 130 [some (.ref (eA E 0)), none, none, some (.int (iz x3)), some (.int (iz x4)), some (.int (iz x5)), some (.int (iz x6)), some (.int (iz x7)), some (.int (iz x8))] [] σ x) (x3 x4 x5 x6 x8 s0 s1 : Int) (rx3 : Rg x3) (rx4 : Rg x4) (rx5 : Rg x5) (rx6 : Rg x6) (rx8 : Rg x8) (rs0 : Rg s0) (rs1 : Rg s1) (σ : PS) (hs : RS σ) (h : LX12_judge_193 K119 K130 x3 x4 x5 x6 x8 s0 s1 σ Φ) : RW layM E mi_X12_judge Φ 193 [some (.ref (eA E 0)), none, none, some (.int (iz x3)), some (.int (iz x4)), some (.int (iz x5)), some (.int (iz x6)), none, some (.int (iz x8))] [.int (iz s1), .int (iz s0)] σ x := by
  refine r_iadd (dc D_cX12_judge_2 31 rfl) ?_
  obtain ⟨o1, h⟩ := h
  refine r_name (fun v2 ev2 => ?_)
  have h := h v2 ev2
  have rv2 : Rg v2 := Rg_eq ev2 o1
  refine r_istore (lv' := [some (.ref (eA E 0)), none, none, some (.int (iz x3)), some (.int (iz x4)), some (.int (iz x5)), some (.int (iz x6)), some (.int (iz v2)), some (.int (iz x8))]) (dc D_cX12_judge_2 32 rfl) rfl rfl ?_
  obtain ⟨o3, h⟩ := h
  refine r_iinc (lv' := [some (.ref (eA E 0)), none, none, some (.int (iz x3)), some (.int (iz x4)), some (.int (iz x5)), some (.int (iz x6)), some (.int (iz v2)), some (.int (iz (x8 + 1)))]) (dc D_cX12_judge_2 33 rfl) rfl rfl rfl ?_
  refine r_goto (tgt := 130) (dc D_cX12_judge_2 34 rfl) (by decide) ?_
  exact hK130 _ _ _ _ _ _ _ rx3 rx4 rx5 rx6 rv2 o3 hs h
set_option maxRecDepth 100000 in
theorem TBX12_judge_130 {E : EV} (hE : eOK layM E) {Φ : Int → PS → Prop} {K119 : Int → Int → Int → Int → PS → Prop} {K130 : Int → Int → Int → Int → Int → Int → PS → Prop} (x : CX) (hK119 : ∀ (x3 x4 x5 x6 : Int) (σ : PS), Rg x3 → Rg x4 → Rg x5 → Rg x6 → RS σ → K119 x3 x4 x5 x6 σ → RW layM E mi_X12_judge Φ 119 [some (.ref (eA E 0)), none, none, some (.int (iz x3)), some (.int (iz x4)), some (.int (iz x5)), some (.int (iz x6)), none, none] [] σ x) (hK130 : ∀ (x3 x4 x5 x6 x7 x8 : Int) (σ : PS), Rg x3 → Rg x4 → Rg x5 → Rg x6 → Rg x7 → Rg x8 → RS σ → K130 x3 x4 x5 x6 x7 x8 σ → RW layM E mi_X12_judge Φ 130 [some (.ref (eA E 0)), none, none, some (.int (iz x3)), some (.int (iz x4)), some (.int (iz x5)), some (.int (iz x6)), some (.int (iz x7)), some (.int (iz x8))] [] σ x) (x3 x4 x5 x6 x7 x8 : Int) (rx3 : Rg x3) (rx4 : Rg x4) (rx5 : Rg x5) (rx6 : Rg x6) (rx7 : Rg x7) (rx8 : Rg x8) (σ : PS) (hs : RS σ) (h : BX12_judge_130 K119 K130 x3 x4 x5 x6 x7 x8 σ Φ) : RW layM E mi_X12_judge Φ 130 [some (.ref (eA E 0)), none, none, some (.int (iz x3)), some (.int (iz x4)), some (.int (iz x5)), some (.int (iz x6)), some (.int (iz x7)), some (.int (iz x8))] [] σ x := by
  refine r_iload (dc D_cX12_judge_1 36 rfl) rfl ?_
  refine r_aloadn (dc D_cX12_judge_1 37 rfl) rfl rfl ?_
  refine r_getR (dc D_cX12_judge_1 38 rfl) fw_RX12_9 lM_0 rfl ?_
  refine r_iconst (n := 2) (dc D_cX12_judge_1 39 rfl) ?_
  refine r_iald (N := 183) (dc D_cX12_judge_2 0 rfl) lM_1 rfl rfl ⟨by decide, by decide⟩ ?_
  refine r_icmp_ge (tgt := 202) (dc D_cX12_judge_2 1 rfl) (by decide) rx8 (hs _ _) (fun c1 => ?_) (fun c1 => ?_)
  · have h := h.1 c1
    refine r_iload (dc D_cX12_judge_2 35 rfl) rfl ?_
    refine r_aloadn (dc D_cX12_judge_2 36 rfl) rfl rfl ?_
    refine r_getR (dc D_cX12_judge_2 37 rfl) fw_RX12_9 lM_0 rfl ?_
    refine r_iconst (n := 0) (dc D_cX12_judge_2 38 rfl) ?_
    refine r_iald (N := 183) (dc D_cX12_judge_2 39 rfl) lM_1 rfl rfl ⟨by decide, by decide⟩ ?_
    refine r_icmp_ne (tgt := 218) (dc D_cX12_judge_3 0 rfl) (by decide) rx6 (hs _ _) (fun c2 => ?_) (fun c2 => ?_)
    · have h := h.1 c2
      refine r_iload (dc D_cX12_judge_3 3 rfl) rfl ?_
      refine r_sub (lv' := [some (.ref (eA E 0)), none, none, some (.int (iz x3)), none, some (.int (iz x5)), some (.int (iz x6)), some (.int (iz x7)), none]) (subL_s (subL_n (subL_n (subL_s (subL_n (subL_s (subL_s (subL_s (subL_n subL_e))))))))) ?_
      exact TX12_judge_220 hE x hK119 _ _ _ _ _ rx3 rx5 rx6 rx7 rx4 _ hs h
    · have h := h.2 c2
      refine r_iload (dc D_cX12_judge_3 1 rfl) rfl ?_
      refine r_goto (tgt := 220) (dc D_cX12_judge_3 2 rfl) (by decide) ?_
      refine r_sub (lv' := [some (.ref (eA E 0)), none, none, some (.int (iz x3)), none, some (.int (iz x5)), some (.int (iz x6)), some (.int (iz x7)), none]) (subL_s (subL_n (subL_n (subL_s (subL_n (subL_s (subL_s (subL_s (subL_n subL_e))))))))) ?_
      exact TX12_judge_220 hE x hK119 _ _ _ _ _ rx3 rx5 rx6 rx7 rx7 _ hs h
  · have h := h.2 c1
    refine r_iload (dc D_cX12_judge_2 2 rfl) rfl ?_
    refine r_aloadn (dc D_cX12_judge_2 3 rfl) rfl rfl ?_
    refine r_iload (dc D_cX12_judge_2 4 rfl) rfl ?_
    refine r_iconst (n := 0) (dc D_cX12_judge_2 5 rfl) ?_
    refine r_callV (As := [.int (iz x8), .int (iz 0)]) (st := [.int (iz x7)]) (dc D_cX12_judge_2 6 rfl) cw_RX12_94 nm_yX12_at (CX12_at hE _ _ rx8 (Rl rfl) _ hs h) lM_0 rfl rfl (by decide) rfl rfl rfl (fun z3 σ4 rz3 hσ4 h => ?_)
    show RW layM E mi_X12_judge Φ 150 [some (.ref (eA E 0)), none, none, some (.int (iz x3)), some (.int (iz x4)), some (.int (iz x5)), some (.int (iz x6)), some (.int (iz x7)), some (.int (iz x8))] [.int (iz z3), .int (iz x7)] σ4 x
    refine r_iload (dc D_cX12_judge_2 7 rfl) rfl ?_
    refine r_icmp_ne (tgt := 167) (dc D_cX12_judge_2 8 rfl) (by decide) rz3 rx6 (fun c5 => ?_) (fun c5 => ?_)
    · have h := h.1 c5
      refine r_aloadn (dc D_cX12_judge_2 16 rfl) rfl rfl ?_
      refine r_iload (dc D_cX12_judge_2 17 rfl) rfl ?_
      refine r_iconst (n := 1) (dc D_cX12_judge_2 18 rfl) ?_
      refine r_callV (As := [.int (iz x8), .int (iz 1)]) (st := [.int (iz x7)]) (dc D_cX12_judge_2 19 rfl) cw_RX12_94 nm_yX12_at (CX12_at hE _ _ rx8 (Rl rfl) _ hσ4 h) lM_0 rfl rfl (by decide) rfl rfl rfl (fun z6 σ7 rz6 hσ7 h => ?_)
      show RW layM E mi_X12_judge Φ 174 [some (.ref (eA E 0)), none, none, some (.int (iz x3)), some (.int (iz x4)), some (.int (iz x5)), some (.int (iz x6)), some (.int (iz x7)), some (.int (iz x8))] [.int (iz z6), .int (iz x7)] σ7 x
      refine r_iload (dc D_cX12_judge_2 20 rfl) rfl ?_
      refine r_icmp_ne (tgt := 192) (dc D_cX12_judge_2 21 rfl) (by decide) rz6 rx6 (fun c8 => ?_) (fun c8 => ?_)
      · have h := h.1 c8
        refine r_iconst (n := 0) (dc D_cX12_judge_2 30 rfl) ?_
        refine r_sub (lv' := [some (.ref (eA E 0)), none, none, some (.int (iz x3)), some (.int (iz x4)), some (.int (iz x5)), some (.int (iz x6)), none, some (.int (iz x8))]) (subL_s (subL_n (subL_n (subL_s (subL_s (subL_s (subL_s (subL_n (subL_s subL_e))))))))) ?_
        exact TX12_judge_193 hE x hK119 hK130 _ _ _ _ _ _ _ rx3 rx4 rx5 rx6 rx8 rx7 (Rl rfl) _ hσ7 h
      · have h := h.2 c8
        refine r_aloadn (dc D_cX12_judge_2 22 rfl) rfl rfl ?_
        refine r_getR (dc D_cX12_judge_2 23 rfl) fw_RX12_87 lM_0 rfl ?_
        refine r_iloadn (dc D_cX12_judge_2 24 rfl) rfl rfl ?_
        refine r_iload (dc D_cX12_judge_2 25 rfl) rfl ?_
        refine r_iadd (dc D_cX12_judge_2 26 rfl) ?_
        obtain ⟨o9, h⟩ := h
        obtain ⟨o10, h⟩ := h
        refine r_iald (N := 160) (dc D_cX12_judge_2 27 rfl) lM_26 rfl rfl o10 ?_
        refine r_ineg (dc D_cX12_judge_2 28 rfl) ?_
        obtain ⟨o11, h⟩ := h
        refine r_goto (tgt := 193) (dc D_cX12_judge_2 29 rfl) (by decide) ?_
        refine r_sub (lv' := [some (.ref (eA E 0)), none, none, some (.int (iz x3)), some (.int (iz x4)), some (.int (iz x5)), some (.int (iz x6)), none, some (.int (iz x8))]) (subL_s (subL_n (subL_n (subL_s (subL_s (subL_s (subL_s (subL_n (subL_s subL_e))))))))) ?_
        exact TX12_judge_193 hE x hK119 hK130 _ _ _ _ _ _ _ rx3 rx4 rx5 rx6 rx8 rx7 o11 _ hσ7 h
    · have h := h.2 c5
      refine r_aloadn (dc D_cX12_judge_2 9 rfl) rfl rfl ?_
      refine r_getR (dc D_cX12_judge_2 10 rfl) fw_RX12_87 lM_0 rfl ?_
      refine r_iloadn (dc D_cX12_judge_2 11 rfl) rfl rfl ?_
      refine r_iload (dc D_cX12_judge_2 12 rfl) rfl ?_
      refine r_iadd (dc D_cX12_judge_2 13 rfl) ?_
      obtain ⟨o12, h⟩ := h
      obtain ⟨o13, h⟩ := h
      refine r_iald (N := 160) (dc D_cX12_judge_2 14 rfl) lM_26 rfl rfl o13 ?_
      refine r_goto (tgt := 193) (dc D_cX12_judge_2 15 rfl) (by decide) ?_
      refine r_sub (lv' := [some (.ref (eA E 0)), none, none, some (.int (iz x3)), some (.int (iz x4)), some (.int (iz x5)), some (.int (iz x6)), none, some (.int (iz x8))]) (subL_s (subL_n (subL_n (subL_s (subL_s (subL_s (subL_s (subL_n (subL_s subL_e))))))))) ?_
      exact TX12_judge_193 hE x hK119 hK130 _ _ _ _ _ _ _ rx3 rx4 rx5 rx6 rx8 rx7 (hσ4 _ _) _ hσ4 h
theorem TX12_judge_130 {E : EV} (hE : eOK layM E) {Φ : Int → PS → Prop} {K119 : Int → Int → Int → Int → PS → Prop} (x : CX) (hK119 : ∀ (x3 x4 x5 x6 : Int) (σ : PS), Rg x3 → Rg x4 → Rg x5 → Rg x6 → RS σ → K119 x3 x4 x5 x6 σ → RW layM E mi_X12_judge Φ 119 [some (.ref (eA E 0)), none, none, some (.int (iz x3)), some (.int (iz x4)), some (.int (iz x5)), some (.int (iz x6)), none, none] [] σ x) (n : Nat) : ∀ (x3 x4 x5 x6 x7 x8 : Int) (σ : PS), Rg x3 → Rg x4 → Rg x5 → Rg x6 → Rg x7 → Rg x8 → RS σ → LX12_judge_130 K119 n x3 x4 x5 x6 x7 x8 σ Φ → RW layM E mi_X12_judge Φ 130 [some (.ref (eA E 0)), none, none, some (.int (iz x3)), some (.int (iz x4)), some (.int (iz x5)), some (.int (iz x6)), some (.int (iz x7)), some (.int (iz x8))] [] σ x := by
  induction n with
  | zero => intro x3 x4 x5 x6 x7 x8 σ _ _ _ _ _ _ _ h; exact h.elim
  | succ n ih => intro x3 x4 x5 x6 x7 x8 σ rx3 rx4 rx5 rx6 rx7 rx8 hs h; exact TBX12_judge_130 hE x hK119 ih x3 x4 x5 x6 x7 x8 rx3 rx4 rx5 rx6 rx7 rx8 σ hs h
set_option maxRecDepth 100000 in
theorem TBX12_judge_119 {E : EV} (hE : eOK layM E) {Φ : Int → PS → Prop} {K119 : Int → Int → Int → Int → PS → Prop} (x : CX) (hK119 : ∀ (x3 x4 x5 x6 : Int) (σ : PS), Rg x3 → Rg x4 → Rg x5 → Rg x6 → RS σ → K119 x3 x4 x5 x6 σ → RW layM E mi_X12_judge Φ 119 [some (.ref (eA E 0)), none, none, some (.int (iz x3)), some (.int (iz x4)), some (.int (iz x5)), some (.int (iz x6)), none, none] [] σ x) (x3 x4 x5 x6 : Int) (rx3 : Rg x3) (rx4 : Rg x4) (rx5 : Rg x5) (rx6 : Rg x6) (σ : PS) (hs : RS σ) (h : BX12_judge_119 K119 x3 x4 x5 x6 σ Φ) : RW layM E mi_X12_judge Φ 119 [some (.ref (eA E 0)), none, none, some (.int (iz x3)), some (.int (iz x4)), some (.int (iz x5)), some (.int (iz x6)), none, none] [] σ x := by
  refine r_iload (dc D_cX12_judge_1 30 rfl) rfl ?_
  refine r_if_lt (tgt := 264) (dc D_cX12_judge_1 31 rfl) (by decide) rx6 (fun c1 => ?_) (fun c1 => ?_)
  · have h := h.1 c1
    refine r_iload (dc D_cX12_judge_3 25 rfl) rfl ?_
    refine r_if_lt (tgt := 277) (dc D_cX12_judge_3 26 rfl) (by decide) rx5 (fun c2 => ?_) (fun c2 => ?_)
    · have h := h.1 c2
      refine r_ldcw (n := (100000)) (dc D_cX12_judge_3 31 rfl) kw_RX12_351 ?_
      refine r_iload (dc D_cX12_judge_3 32 rfl) rfl ?_
      refine r_iadd (dc D_cX12_judge_3 33 rfl) ?_
      obtain ⟨o3, h⟩ := h
      exact r_iret (dc D_cX12_judge_3 34 rfl) rfl o3 h
    · have h := h.2 c2
      refine r_bipush (n := 100) (dc D_cX12_judge_3 27 rfl) (by decide +kernel) ?_
      refine r_iload (dc D_cX12_judge_3 28 rfl) rfl ?_
      refine r_iadd (dc D_cX12_judge_3 29 rfl) ?_
      obtain ⟨o4, h⟩ := h
      refine r_goto (tgt := 283) (dc D_cX12_judge_3 30 rfl) (by decide) ?_
      exact r_iret (dc D_cX12_judge_3 34 rfl) rfl o4 h
  · have h := h.2 c1
    refine r_iconst (n := 0) (dc D_cX12_judge_1 32 rfl) ?_
    refine r_istore (lv' := [some (.ref (eA E 0)), none, none, some (.int (iz x3)), some (.int (iz x4)), some (.int (iz x5)), some (.int (iz x6)), some (.int (iz 0)), none]) (dc D_cX12_judge_1 33 rfl) rfl rfl ?_
    refine r_iconst (n := 0) (dc D_cX12_judge_1 34 rfl) ?_
    refine r_istore (lv' := [some (.ref (eA E 0)), none, none, some (.int (iz x3)), some (.int (iz x4)), some (.int (iz x5)), some (.int (iz x6)), some (.int (iz 0)), some (.int (iz 0))]) (dc D_cX12_judge_1 35 rfl) rfl rfl ?_
    obtain ⟨n, h⟩ := h
    exact TX12_judge_130 hE x hK119 n _ _ _ _ _ _ _ rx3 rx4 rx5 rx6 (Rl rfl) (Rl rfl) hs h
theorem TX12_judge_119 {E : EV} (hE : eOK layM E) {Φ : Int → PS → Prop} (x : CX) (n : Nat) : ∀ (x3 x4 x5 x6 : Int) (σ : PS), Rg x3 → Rg x4 → Rg x5 → Rg x6 → RS σ → LX12_judge_119 n x3 x4 x5 x6 σ Φ → RW layM E mi_X12_judge Φ 119 [some (.ref (eA E 0)), none, none, some (.int (iz x3)), some (.int (iz x4)), some (.int (iz x5)), some (.int (iz x6)), none, none] [] σ x := by
  induction n with
  | zero => intro x3 x4 x5 x6 σ _ _ _ _ _ h; exact h.elim
  | succ n ih => intro x3 x4 x5 x6 σ rx3 rx4 rx5 rx6 hs h; exact TBX12_judge_119 hE x ih x3 x4 x5 x6 rx3 rx4 rx5 rx6 σ hs h
set_option maxRecDepth 100000 in
theorem TBX12_judge_67 {E : EV} (hE : eOK layM E) {Φ : Int → PS → Prop} {K67 : Int → Int → PS → Prop} (x : CX) (hK67 : ∀ (x3 x4 : Int) (σ : PS), Rg x3 → Rg x4 → RS σ → K67 x3 x4 σ → RW layM E mi_X12_judge Φ 67 [some (.ref (eA E 0)), none, none, some (.int (iz x3)), some (.int (iz x4)), none, none, none, none] [] σ x) (x3 x4 : Int) (rx3 : Rg x3) (rx4 : Rg x4) (σ : PS) (hs : RS σ) (h : BX12_judge_67 K67 x3 x4 σ Φ) : RW layM E mi_X12_judge Φ 67 [some (.ref (eA E 0)), none, none, some (.int (iz x3)), some (.int (iz x4)), none, none, none, none] [] σ x := by
  refine r_iload (dc D_cX12_judge_1 2 rfl) rfl ?_
  refine r_aloadn (dc D_cX12_judge_1 3 rfl) rfl rfl ?_
  refine r_getR (dc D_cX12_judge_1 4 rfl) fw_RX12_9 lM_0 rfl ?_
  refine r_iconst (n := 2) (dc D_cX12_judge_1 5 rfl) ?_
  refine r_iald (N := 183) (dc D_cX12_judge_1 6 rfl) lM_1 rfl rfl ⟨by decide, by decide⟩ ?_
  refine r_icmp_ge (tgt := 109) (dc D_cX12_judge_1 7 rfl) (by decide) rx4 (hs _ _) (fun c1 => ?_) (fun c1 => ?_)
  · have h := h.1 c1
    refine r_iconst (n := 0) (dc D_cX12_judge_1 24 rfl) ?_
    refine r_istore (lv' := [some (.ref (eA E 0)), none, none, some (.int (iz x3)), some (.int (iz 0)), none, none, none, none]) (dc D_cX12_judge_1 25 rfl) rfl rfl ?_
    refine r_iconst (n := (-1)) (dc D_cX12_judge_1 26 rfl) ?_
    refine r_istore (lv' := [some (.ref (eA E 0)), none, none, some (.int (iz x3)), some (.int (iz 0)), some (.int (iz (-1))), none, none, none]) (dc D_cX12_judge_1 27 rfl) rfl rfl ?_
    refine r_bipush (n := 11) (dc D_cX12_judge_1 28 rfl) (by decide +kernel) ?_
    refine r_istore (lv' := [some (.ref (eA E 0)), none, none, some (.int (iz x3)), some (.int (iz 0)), some (.int (iz (-1))), some (.int (iz 11)), none, none]) (dc D_cX12_judge_1 29 rfl) rfl rfl ?_
    obtain ⟨n, h⟩ := h
    exact TX12_judge_119 hE x n _ _ _ _ _ rx3 (Rl rfl) (Rl rfl) (Rl rfl) hs h
  · have h := h.2 c1
    refine r_aloadn (dc D_cX12_judge_1 8 rfl) rfl rfl ?_
    refine r_getR (dc D_cX12_judge_1 9 rfl) fw_RX12_87 lM_0 rfl ?_
    refine r_iloadn (dc D_cX12_judge_1 10 rfl) rfl rfl ?_
    refine r_iload (dc D_cX12_judge_1 11 rfl) rfl ?_
    refine r_iadd (dc D_cX12_judge_1 12 rfl) ?_
    obtain ⟨o2, h⟩ := h
    obtain ⟨o3, h⟩ := h
    refine r_iald (N := 160) (dc D_cX12_judge_1 13 rfl) lM_26 rfl rfl o3 ?_
    refine r_iconst (n := 0) (dc D_cX12_judge_1 14 rfl) ?_
    refine r_aloadn (dc D_cX12_judge_1 15 rfl) rfl rfl ?_
    refine r_iload (dc D_cX12_judge_1 16 rfl) rfl ?_
    refine r_callV (As := [.int (iz x4)]) (st := [.int (iz 0), .int (iz (σ 26 (x3 + x4).toNat))]) (dc D_cX12_judge_1 17 rfl) cw_RX12_150 nm_yX12_capacity (CX12_capacity hE _ rx4 _ hs h) lM_0 rfl rfl (by decide) rfl rfl rfl (fun z4 σ5 rz4 hσ5 h => ?_)
    show RW layM E mi_X12_judge Φ 94 [some (.ref (eA E 0)), none, none, some (.int (iz x3)), some (.int (iz x4)), none, none, none, none] [.int (iz z4), .int (iz 0), .int (iz (σ 26 (x3 + x4).toNat))] σ5 x
    refine r_callS (As := [.int (iz (σ 26 (x3 + x4).toNat)), .int (iz 0), .int (iz z4)]) (st := []) (dc D_cX12_judge_1 18 rfl) cw_RX12_90 nm_yX12_in (CX12_in hE _ _ _ (hs _ _) (Rl rfl) rz4 _ hσ5 h) rfl (by decide) rfl rfl rfl (fun z6 σ7 rz6 hσ7 h => ?_)
    show RW layM E mi_X12_judge Φ 97 [some (.ref (eA E 0)), none, none, some (.int (iz x3)), some (.int (iz x4)), none, none, none, none] [.int (iz z6)] σ7 x
    refine r_if_ne (tgt := 103) (dc D_cX12_judge_1 19 rfl) (by decide) rz6 (fun c8 => ?_) (fun c8 => ?_)
    · have h := h.1 c8
      obtain ⟨o9, h⟩ := h
      refine r_iinc (lv' := [some (.ref (eA E 0)), none, none, some (.int (iz x3)), some (.int (iz (x4 + 1))), none, none, none, none]) (dc D_cX12_judge_1 22 rfl) rfl rfl rfl ?_
      refine r_goto (tgt := 67) (dc D_cX12_judge_1 23 rfl) (by decide) ?_
      exact hK67 _ _ _ rx3 o9 hσ7 h
    · have h := h.2 c8
      refine r_iload (dc D_cX12_judge_1 20 rfl) rfl ?_
      exact r_iret (dc D_cX12_judge_1 21 rfl) rfl rx4 h
theorem TX12_judge_67 {E : EV} (hE : eOK layM E) {Φ : Int → PS → Prop} (x : CX) (n : Nat) : ∀ (x3 x4 : Int) (σ : PS), Rg x3 → Rg x4 → RS σ → LX12_judge_67 n x3 x4 σ Φ → RW layM E mi_X12_judge Φ 67 [some (.ref (eA E 0)), none, none, some (.int (iz x3)), some (.int (iz x4)), none, none, none, none] [] σ x := by
  induction n with
  | zero => intro x3 x4 σ _ _ _ h; exact h.elim
  | succ n ih => intro x3 x4 σ rx3 rx4 hs h; exact TBX12_judge_67 hE x ih x3 x4 rx3 rx4 σ hs h
set_option maxRecDepth 100000 in
theorem TX12_judge_57 {E : EV} (hE : eOK layM E) {Φ : Int → PS → Prop} (x : CX) (x1 x2 : Int) (rx1 : Rg x1) (rx2 : Rg x2) (σ : PS) (hs : RS σ) (h : LX12_judge_57 x1 x2 σ Φ) : RW layM E mi_X12_judge Φ 57 [some (.ref (eA E 0)), some (.int (iz x1)), some (.int (iz x2)), none, none, none, none, none, none] [] σ x := by
  refine r_bipush (n := 40) (dc D_cX12_judge_0 34 rfl) (by decide +kernel) ?_
  refine r_iloadn (dc D_cX12_judge_0 35 rfl) rfl rfl ?_
  refine r_imul (dc D_cX12_judge_0 36 rfl) ?_
  obtain ⟨o1, h⟩ := h
  refine r_iloadn (dc D_cX12_judge_0 37 rfl) rfl rfl ?_
  refine r_iadd (dc D_cX12_judge_0 38 rfl) ?_
  refine r_wrap ?_
  refine r_name (fun v2 ev2 => ?_)
  have h := h v2 ev2
  have rv2 : Rg v2 := Rg_eq ev2 (Rg_of _)
  refine r_istoren (lv' := [some (.ref (eA E 0)), some (.int (iz x1)), some (.int (iz x2)), some (.int (iz v2)), none, none, none, none, none]) (dc D_cX12_judge_0 39 rfl) rfl rfl rfl ?_
  refine r_iconst (n := 0) (dc D_cX12_judge_1 0 rfl) ?_
  refine r_istore (lv' := [some (.ref (eA E 0)), some (.int (iz x1)), some (.int (iz x2)), some (.int (iz v2)), some (.int (iz 0)), none, none, none, none]) (dc D_cX12_judge_1 1 rfl) rfl rfl ?_
  refine r_sub (lv' := [some (.ref (eA E 0)), none, none, some (.int (iz v2)), some (.int (iz 0)), none, none, none, none]) (subL_s (subL_n (subL_n (subL_s (subL_s (subL_n (subL_n (subL_n (subL_n subL_e))))))))) ?_
  obtain ⟨n, h⟩ := h
  exact TX12_judge_67 hE x n _ _ _ rv2 (Rl rfl) hs h
set_option maxRecDepth 100000 in
theorem CX12_judge {E : EV} (hE : eOK layM E) {Φ : Int → PS → Prop} (a1 a2 : Int) (ra1 : Rg a1) (ra2 : Rg a2) (σ : PS) (hs : RS σ) (h : FX12_judge a1 a2 σ Φ) : CT layM E yX12_judge mi_X12_judge [.ref (eA E 0), .int (iz a1), .int (iz a2)] σ Φ := by
  refine ct_of (by decide +kernel) rfl hE rfl rfl hs (fun x => ?_)
  show RW layM E mi_X12_judge Φ 0 [some (.ref (eA E 0)), some (.int (iz a1)), some (.int (iz a2)), none, none, none, none, none, none] [] σ x
  refine r_iloadn (dc D_cX12_judge_0 0 rfl) rfl rfl ?_
  refine r_callS (As := [.int (iz a1)]) (st := []) (dc D_cX12_judge_0 1 rfl) cw_RX12_347 nm_yX12_isList (CX12_isList hE _ ra1 _ hs h) rfl (by decide) rfl rfl rfl (fun z1 σ2 rz1 hσ2 h => ?_)
  show RW layM E mi_X12_judge Φ 4 [some (.ref (eA E 0)), some (.int (iz a1)), some (.int (iz a2)), none, none, none, none, none, none] [.int (iz z1)] σ2 x
  refine r_if_ne (tgt := 9) (dc D_cX12_judge_0 2 rfl) (by decide) rz1 (fun c3 => ?_) (fun c3 => ?_)
  · have h := h.1 c3
    refine r_aloadn (dc D_cX12_judge_0 5 rfl) rfl rfl ?_
    refine r_getR (dc D_cX12_judge_0 6 rfl) fw_RX12_84 lM_0 rfl ?_
    refine r_iloadn (dc D_cX12_judge_0 7 rfl) rfl rfl ?_
    obtain ⟨o4, h⟩ := h
    refine r_iald (N := 4) (dc D_cX12_judge_0 8 rfl) lM_25 rfl rfl o4 ?_
    refine r_if_ge (tgt := 21) (dc D_cX12_judge_0 9 rfl) (by decide) (hσ2 _ _) (fun c5 => ?_) (fun c5 => ?_)
    · have h := h.1 c5
      refine r_iloadn (dc D_cX12_judge_0 12 rfl) rfl rfl ?_
      refine r_if_ge (tgt := 28) (dc D_cX12_judge_0 13 rfl) (by decide) ra2 (fun c6 => ?_) (fun c6 => ?_)
      · have h := h.1 c6
        refine r_iloadn (dc D_cX12_judge_0 16 rfl) rfl rfl ?_
        refine r_aloadn (dc D_cX12_judge_0 17 rfl) rfl rfl ?_
        refine r_getR (dc D_cX12_judge_0 18 rfl) fw_RX12_84 lM_0 rfl ?_
        refine r_iloadn (dc D_cX12_judge_0 19 rfl) rfl rfl ?_
        obtain ⟨o7, h⟩ := h
        refine r_iald (N := 4) (dc D_cX12_judge_0 20 rfl) lM_25 rfl rfl o7 ?_
        refine r_aloadn (dc D_cX12_judge_0 21 rfl) rfl rfl ?_
        refine r_getR (dc D_cX12_judge_0 22 rfl) fw_RX12_9 lM_0 rfl ?_
        refine r_iconst (n := 2) (dc D_cX12_judge_0 23 rfl) ?_
        refine r_iald (N := 183) (dc D_cX12_judge_0 24 rfl) lM_1 rfl rfl ⟨by decide, by decide⟩ ?_
        refine r_isub (dc D_cX12_judge_0 25 rfl) ?_
        obtain ⟨o8, h⟩ := h
        refine r_icmp_le (tgt := 57) (dc D_cX12_judge_0 26 rfl) (by decide) ra2 o8 (fun c9 => ?_) (fun c9 => ?_)
        · have h := h.1 c9
          exact TX12_judge_57 hE x _ _ ra1 ra2 _ hσ2 h
        · have h := h.2 c9
          refine r_aloadn (dc D_cX12_judge_0 27 rfl) rfl rfl ?_
          refine r_getR (dc D_cX12_judge_0 28 rfl) fw_RX12_9 lM_0 rfl ?_
          refine r_iconst (n := 2) (dc D_cX12_judge_0 29 rfl) ?_
          refine r_iald (N := 183) (dc D_cX12_judge_0 30 rfl) lM_1 rfl rfl ⟨by decide, by decide⟩ ?_
          refine r_if_le (tgt := 57) (dc D_cX12_judge_0 31 rfl) (by decide) (hσ2 _ _) (fun c10 => ?_) (fun c10 => ?_)
          · have h := h.1 c10
            exact TX12_judge_57 hE x _ _ ra1 ra2 _ hσ2 h
          · have h := h.2 c10
            refine r_bipush (n := (-5)) (dc D_cX12_judge_0 32 rfl) (by decide +kernel) ?_
            exact r_iret (dc D_cX12_judge_0 33 rfl) rfl (Rl rfl) h
      · have h := h.2 c6
        refine r_bipush (n := (-13)) (dc D_cX12_judge_0 14 rfl) (by decide +kernel) ?_
        exact r_iret (dc D_cX12_judge_0 15 rfl) rfl (Rl rfl) h
    · have h := h.2 c5
      refine r_bipush (n := (-11)) (dc D_cX12_judge_0 10 rfl) (by decide +kernel) ?_
      exact r_iret (dc D_cX12_judge_0 11 rfl) rfl (Rl rfl) h
  · have h := h.2 c3
    refine r_iconst (n := (-1)) (dc D_cX12_judge_0 3 rfl) ?_
    exact r_iret (dc D_cX12_judge_0 4 rfl) rfl (Rl rfl) h
-- end of GateFlowModel.judge
