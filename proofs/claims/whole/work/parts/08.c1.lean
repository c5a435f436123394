def mi_X11_isNode : MI := (cX11_isNode, RX11, 1, 1, (some .boolean), 1)
def FX11_isNode (a1 : Int) (σ : PS) (Φ : Int → PS → Prop) : Prop :=
  ((a1 < 0 →
    Φ 0 σ) ∧
  (¬ a1 < 0 →
    ((12 ≤ a1 →
      Φ 0 σ) ∧
    (¬ 12 ≤ a1 →
      Φ 1 σ))))
set_option maxRecDepth 100000 in
theorem CX11_isNode {E : EV} (hE : eOK layC E) {Φ : Int → PS → Prop} (a1 : Int) (ra1 : Rg a1) (σ : PS) (hs : RS σ) (h : FX11_isNode a1 σ Φ) : CT layC E yX11_isNode mi_X11_isNode [.int (iz a1)] σ Φ := by
  refine ct_of (by decide +kernel) rfl hE rfl rfl hs (fun x => ?_)
  show RW layC E mi_X11_isNode Φ 0 [some (.int (iz a1))] [] σ x
  refine r_iloadn (dc D_cX11_isNode_0 0 rfl) rfl rfl ?_
  refine r_if_lt (tgt := 14) (dc D_cX11_isNode_0 1 rfl) (by decide) ra1 (fun c1 => ?_) (fun c1 => ?_)
  · have h := h.1 c1
    refine r_iconst (n := 0) (dc D_cX11_isNode_0 7 rfl) ?_
    exact r_zret (dc D_cX11_isNode_0 8 rfl) rfl (by decide) h
  · have h := h.2 c1
    refine r_iloadn (dc D_cX11_isNode_0 2 rfl) rfl rfl ?_
    refine r_bipush (n := 12) (dc D_cX11_isNode_0 3 rfl) (by decide +kernel) ?_
    refine r_icmp_ge (tgt := 14) (dc D_cX11_isNode_0 4 rfl) (by decide) ra1 (Rl rfl) (fun c2 => ?_) (fun c2 => ?_)
    · have h := h.1 c2
      refine r_iconst (n := 0) (dc D_cX11_isNode_0 7 rfl) ?_
      exact r_zret (dc D_cX11_isNode_0 8 rfl) rfl (by decide) h
    · have h := h.2 c2
      refine r_iconst (n := 1) (dc D_cX11_isNode_0 5 rfl) ?_
      refine r_goto (tgt := 15) (dc D_cX11_isNode_0 6 rfl) (by decide) ?_
      exact r_zret (dc D_cX11_isNode_0 8 rfl) rfl (by decide) h
-- end of GateFlow.isNode
def mi_X11_isCapacity : MI := (cX11_isCapacity, RX11, 1, 1, (some .boolean), 1)
def FX11_isCapacity (a1 : Int) (σ : PS) (Φ : Int → PS → Prop) : Prop :=
  ((a1 < 0 →
    Φ 0 σ) ∧
  (¬ a1 < 0 →
    ((999 < a1 →
      Φ 0 σ) ∧
    (¬ 999 < a1 →
      Φ 1 σ))))
set_option maxRecDepth 100000 in
theorem CX11_isCapacity {E : EV} (hE : eOK layC E) {Φ : Int → PS → Prop} (a1 : Int) (ra1 : Rg a1) (σ : PS) (hs : RS σ) (h : FX11_isCapacity a1 σ Φ) : CT layC E yX11_isCapacity mi_X11_isCapacity [.int (iz a1)] σ Φ := by
  refine ct_of (by decide +kernel) rfl hE rfl rfl hs (fun x => ?_)
  show RW layC E mi_X11_isCapacity Φ 0 [some (.int (iz a1))] [] σ x
  refine r_iloadn (dc D_cX11_isCapacity_0 0 rfl) rfl rfl ?_
  refine r_if_lt (tgt := 15) (dc D_cX11_isCapacity_0 1 rfl) (by decide) ra1 (fun c1 => ?_) (fun c1 => ?_)
  · have h := h.1 c1
    refine r_iconst (n := 0) (dc D_cX11_isCapacity_0 7 rfl) ?_
    exact r_zret (dc D_cX11_isCapacity_0 8 rfl) rfl (by decide) h
  · have h := h.2 c1
    refine r_iloadn (dc D_cX11_isCapacity_0 2 rfl) rfl rfl ?_
    refine r_sipush (n := 999) (dc D_cX11_isCapacity_0 3 rfl) (by decide +kernel) ?_
    refine r_icmp_gt (tgt := 15) (dc D_cX11_isCapacity_0 4 rfl) (by decide) ra1 (Rl rfl) (fun c2 => ?_) (fun c2 => ?_)
    · have h := h.1 c2
      refine r_iconst (n := 0) (dc D_cX11_isCapacity_0 7 rfl) ?_
      exact r_zret (dc D_cX11_isCapacity_0 8 rfl) rfl (by decide) h
    · have h := h.2 c2
      refine r_iconst (n := 1) (dc D_cX11_isCapacity_0 5 rfl) ?_
      refine r_goto (tgt := 16) (dc D_cX11_isCapacity_0 6 rfl) (by decide) ?_
      exact r_zret (dc D_cX11_isCapacity_0 8 rfl) rfl (by decide) h
-- end of GateFlow.isCapacity
def mi_X11_isDelay : MI := (cX11_isDelay, RX11, 1, 1, (some .boolean), 1)
def FX11_isDelay (a1 : Int) (σ : PS) (Φ : Int → PS → Prop) : Prop :=
  ((a1 < 1 →
    Φ 0 σ) ∧
  (¬ a1 < 1 →
    ((3 < a1 →
      Φ 0 σ) ∧
    (¬ 3 < a1 →
      Φ 1 σ))))
set_option maxRecDepth 100000 in
theorem CX11_isDelay {E : EV} (hE : eOK layC E) {Φ : Int → PS → Prop} (a1 : Int) (ra1 : Rg a1) (σ : PS) (hs : RS σ) (h : FX11_isDelay a1 σ Φ) : CT layC E yX11_isDelay mi_X11_isDelay [.int (iz a1)] σ Φ := by
  refine ct_of (by decide +kernel) rfl hE rfl rfl hs (fun x => ?_)
  show RW layC E mi_X11_isDelay Φ 0 [some (.int (iz a1))] [] σ x
  refine r_iloadn (dc D_cX11_isDelay_0 0 rfl) rfl rfl ?_
  refine r_iconst (n := 1) (dc D_cX11_isDelay_0 1 rfl) ?_
  refine r_icmp_lt (tgt := 14) (dc D_cX11_isDelay_0 2 rfl) (by decide) ra1 (Rl rfl) (fun c1 => ?_) (fun c1 => ?_)
  · have h := h.1 c1
    refine r_iconst (n := 0) (dc D_cX11_isDelay_0 8 rfl) ?_
    exact r_zret (dc D_cX11_isDelay_0 9 rfl) rfl (by decide) h
  · have h := h.2 c1
    refine r_iloadn (dc D_cX11_isDelay_0 3 rfl) rfl rfl ?_
    refine r_iconst (n := 3) (dc D_cX11_isDelay_0 4 rfl) ?_
    refine r_icmp_gt (tgt := 14) (dc D_cX11_isDelay_0 5 rfl) (by decide) ra1 (Rl rfl) (fun c2 => ?_) (fun c2 => ?_)
    · have h := h.1 c2
      refine r_iconst (n := 0) (dc D_cX11_isDelay_0 8 rfl) ?_
      exact r_zret (dc D_cX11_isDelay_0 9 rfl) rfl (by decide) h
    · have h := h.2 c2
      refine r_iconst (n := 1) (dc D_cX11_isDelay_0 6 rfl) ?_
      refine r_goto (tgt := 15) (dc D_cX11_isDelay_0 7 rfl) (by decide) ?_
      exact r_zret (dc D_cX11_isDelay_0 9 rfl) rfl (by decide) h
-- end of GateFlow.isDelay
def mi_X11_forget : MI := (cX11_forget, RX11, 1, 1, none, 0)
def FX11_forget (σ : PS) (Φ : Int → PS → Prop) : Prop :=
  ∀ σ1 : PS, σ1 = up2 σ 0 4 0 →
  ∀ σ2 : PS, σ2 = up2 σ1 0 6 0 →
  ∀ σ3 : PS, σ3 = up2 σ2 0 8 0 →
  ∀ σ4 : PS, σ4 = up2 σ3 0 10 0 →
  Φ 0 σ4
theorem fw_RX11_12 : FW RX11 12 11 0 := ⟨RX11, TX11, 16, rfl, by decide, rfl, tb_1 497 (by decide +kernel), uw_11⟩
theorem fw_RX11_92 : FW RX11 92 3 6 := ⟨RX3, TX3, 9, rfl, by decide, rfl, tb_1 172 (by decide +kernel), uw_3⟩
theorem fw_RX11_330 : FW RX11 330 11 4 := ⟨RX11, TX11, 16, rfl, by decide, rfl, tb_1 501 (by decide +kernel), uw_11⟩
theorem fp_11_4 : FP 11 4 .boolean := ⟨RX11, TX11, 16, tyX11, rfl, tyX11_ok, nmX11, rfl, by decide +kernel⟩
theorem fw_RX11_333 : FW RX11 333 11 6 := ⟨RX11, TX11, 16, rfl, by decide, rfl, tb_1 503 (by decide +kernel), uw_11⟩
theorem fp_11_6 : FP 11 6 .boolean := ⟨RX11, TX11, 16, tyX11, rfl, tyX11_ok, nmX11, rfl, by decide +kernel⟩
theorem fw_RX11_336 : FW RX11 336 11 8 := ⟨RX11, TX11, 16, rfl, by decide, rfl, tb_1 505 (by decide +kernel), uw_11⟩
theorem fp_11_8 : FP 11 8 .boolean := ⟨RX11, TX11, 16, tyX11, rfl, tyX11_ok, nmX11, rfl, by decide +kernel⟩
theorem fw_RX11_339 : FW RX11 339 11 10 := ⟨RX11, TX11, 16, rfl, by decide, rfl, tb_1 507 (by decide +kernel), uw_11⟩
theorem fp_11_10 : FP 11 10 .boolean := ⟨RX11, TX11, 16, tyX11, rfl, tyX11_ok, nmX11, rfl, by decide +kernel⟩
set_option maxRecDepth 100000 in
theorem CX11_forget {E : EV} (hE : eOK layC E) {Φ : Int → PS → Prop} (σ : PS) (hs : RS σ) (h : FX11_forget σ Φ) : CT layC E yX11_forget mi_X11_forget [.ref (eA E 0)] σ Φ := by
  refine ct_of (by decide +kernel) rfl hE rfl rfl hs (fun x => ?_)
  show RW layC E mi_X11_forget Φ 0 [some (.ref (eA E 0))] [] σ x
  refine r_aloadn (dc D_cX11_forget_0 0 rfl) rfl rfl ?_
  refine r_iconst (n := 0) (dc D_cX11_forget_0 1 rfl) ?_
  refine r_put (dc D_cX11_forget_0 2 rfl) fw_RX11_330 fp_11_4 lC_0 rfl (nar_bool (by decide)) (Rl rfl) ?_
  refine r_sig (fun σ1 eσ1 => ?_)
  have h := h σ1 eσ1
  have hσ1 : RS σ1 := RS_eq eσ1 (RS.up hs (Rl rfl) _ _)
  refine r_aloadn (dc D_cX11_forget_0 3 rfl) rfl rfl ?_
  refine r_iconst (n := 0) (dc D_cX11_forget_0 4 rfl) ?_
  refine r_put (dc D_cX11_forget_0 5 rfl) fw_RX11_333 fp_11_6 lC_0 rfl (nar_bool (by decide)) (Rl rfl) ?_
  refine r_sig (fun σ2 eσ2 => ?_)
  have h := h σ2 eσ2
  have hσ2 : RS σ2 := RS_eq eσ2 (RS.up hσ1 (Rl rfl) _ _)
  refine r_aloadn (dc D_cX11_forget_0 6 rfl) rfl rfl ?_
  refine r_iconst (n := 0) (dc D_cX11_forget_0 7 rfl) ?_
  refine r_put (dc D_cX11_forget_0 8 rfl) fw_RX11_336 fp_11_8 lC_0 rfl (nar_bool (by decide)) (Rl rfl) ?_
  refine r_sig (fun σ3 eσ3 => ?_)
  have h := h σ3 eσ3
  have hσ3 : RS σ3 := RS_eq eσ3 (RS.up hσ2 (Rl rfl) _ _)
  refine r_aloadn (dc D_cX11_forget_0 9 rfl) rfl rfl ?_
  refine r_iconst (n := 0) (dc D_cX11_forget_0 10 rfl) ?_
  refine r_put (dc D_cX11_forget_0 11 rfl) fw_RX11_339 fp_11_10 lC_0 rfl (nar_bool (by decide)) (Rl rfl) ?_
  refine r_sig (fun σ4 eσ4 => ?_)
  have h := h σ4 eσ4
  have hσ4 : RS σ4 := RS_eq eσ4 (RS.up hσ3 (Rl rfl) _ _)
  exact r_vret (dc D_cX11_forget_0 12 rfl) rfl h
-- end of GateFlow.forget
def mi_X3_add : MI := (cX3_add, RX3, 7, 1, (some .int), 1)
def FX3_add (a1 a2 a3 a4 a5 a6 : Int) (σ : PS) (Φ : Int → PS → Prop) : Prop :=
  ((σ 1 6 < 0 →
    Φ (-4) σ) ∧
  (¬ σ 1 6 < 0 →
    ((σ 1 6 < 30 →
      (0 ≤ σ 1 6 ∧ σ 1 6 < 30) ∧
      ∀ σ4 : PS, σ4 = up2 σ 13 (σ 1 6).toNat a1 →
      (0 ≤ σ4 1 6 ∧ σ4 1 6 < 30) ∧
      ∀ σ6 : PS, σ6 = up2 σ4 14 (σ4 1 6).toNat a2 →
      (0 ≤ σ6 1 6 ∧ σ6 1 6 < 30) ∧
      ∀ σ8 : PS, σ8 = up2 σ6 15 (σ6 1 6).toNat a3 →
      (0 ≤ σ8 1 6 ∧ σ8 1 6 < 30) ∧
      ∀ σ10 : PS, σ10 = up2 σ8 16 (σ8 1 6).toNat a4 →
      (0 ≤ σ10 1 6 ∧ σ10 1 6 < 30) ∧
      ∀ σ12 : PS, σ12 = up2 σ10 17 (σ10 1 6).toNat a5 →
      (0 ≤ σ12 1 6 ∧ σ12 1 6 < 30) ∧
      ∀ σ14 : PS, σ14 = up2 σ12 18 (σ12 1 6).toNat a6 →
      Rg ((σ14 1 6) + 1) ∧
      ∀ σ16 : PS, σ16 = up2 σ14 1 6 ((σ14 1 6) + 1) →
      Rg ((σ16 1 6) - 1) ∧
      Φ ((σ16 1 6) - 1) σ16) ∧
    (¬ σ 1 6 < 30 →
      Φ (-4) σ))))
theorem fw_RX3_34 : FW RX3 34 3 6 := ⟨RX3, TX3, 9, rfl, by decide, rfl, tb_1 167 (by decide +kernel), uw_3⟩
theorem fw_RX3_9 : FW RX3 9 3 0 := ⟨RX3, TX3, 9, rfl, by decide, rfl, tb_1 132 (by decide +kernel), uw_3⟩
theorem fw_RX3_15 : FW RX3 15 3 1 := ⟨RX3, TX3, 9, rfl, by decide, rfl, tb_1 141 (by decide +kernel), uw_3⟩
theorem fw_RX3_18 : FW RX3 18 3 2 := ⟨RX3, TX3, 9, rfl, by decide, rfl, tb_1 150 (by decide +kernel), uw_3⟩
theorem fw_RX3_21 : FW RX3 21 3 3 := ⟨RX3, TX3, 9, rfl, by decide, rfl, tb_1 154 (by decide +kernel), uw_3⟩
theorem fw_RX3_24 : FW RX3 24 3 4 := ⟨RX3, TX3, 9, rfl, by decide, rfl, tb_1 158 (by decide +kernel), uw_3⟩
theorem fw_RX3_27 : FW RX3 27 3 5 := ⟨RX3, TX3, 9, rfl, by decide, rfl, tb_1 163 (by decide +kernel), uw_3⟩
theorem fp_3_6 : FP 3 6 .int := ⟨RX3, TX3, 9, tyX3, rfl, tyX3_ok, nmX3, rfl, by decide +kernel⟩
set_option maxRecDepth 100000 in
theorem CX3_add {E : EV} (hE : eOK layC E) {Φ : Int → PS → Prop} (a1 a2 a3 a4 a5 a6 : Int) (ra1 : Rg a1) (ra2 : Rg a2) (ra3 : Rg a3) (ra4 : Rg a4) (ra5 : Rg a5) (ra6 : Rg a6) (σ : PS) (hs : RS σ) (h : FX3_add a1 a2 a3 a4 a5 a6 σ Φ) : CT layC E yX3_add mi_X3_add [.ref (eA E 1), .int (iz a1), .int (iz a2), .int (iz a3), .int (iz a4), .int (iz a5), .int (iz a6)] σ Φ := by
  refine ct_of (by decide +kernel) rfl hE rfl rfl hs (fun x => ?_)
  show RW layC E mi_X3_add Φ 0 [some (.ref (eA E 1)), some (.int (iz a1)), some (.int (iz a2)), some (.int (iz a3)), some (.int (iz a4)), some (.int (iz a5)), some (.int (iz a6))] [] σ x
  refine r_aloadn (dc D_cX3_add_0 0 rfl) rfl rfl ?_
  refine r_getI (dc D_cX3_add_0 1 rfl) fw_RX3_34 lC_1 rfl ?_
  refine r_if_lt (tgt := 16) (dc D_cX3_add_0 2 rfl) (by decide) (hs _ _) (fun c1 => ?_) (fun c1 => ?_)
  · have h := h.1 c1
    refine r_bipush (n := (-4)) (dc D_cX3_add_0 7 rfl) (by decide +kernel) ?_
    exact r_iret (dc D_cX3_add_0 8 rfl) rfl (Rl rfl) h
  · have h := h.2 c1
    refine r_aloadn (dc D_cX3_add_0 3 rfl) rfl rfl ?_
    refine r_getI (dc D_cX3_add_0 4 rfl) fw_RX3_34 lC_1 rfl ?_
    refine r_bipush (n := 30) (dc D_cX3_add_0 5 rfl) (by decide +kernel) ?_
    refine r_icmp_lt (tgt := 19) (dc D_cX3_add_0 6 rfl) (by decide) (hs _ _) (Rl rfl) (fun c2 => ?_) (fun c2 => ?_)
    · have h := h.1 c2
      refine r_aloadn (dc D_cX3_add_0 9 rfl) rfl rfl ?_
      refine r_getR (dc D_cX3_add_0 10 rfl) fw_RX3_9 lC_1 rfl ?_
      refine r_aloadn (dc D_cX3_add_0 11 rfl) rfl rfl ?_
      refine r_getI (dc D_cX3_add_0 12 rfl) fw_RX3_34 lC_1 rfl ?_
      refine r_iloadn (dc D_cX3_add_0 13 rfl) rfl rfl ?_
      obtain ⟨o3, h⟩ := h
      refine r_iast (N := 30) (dc D_cX3_add_0 14 rfl) lC_13 rfl rfl o3 ra1 ?_
      refine r_sig (fun σ4 eσ4 => ?_)
      have h := h σ4 eσ4
      have hσ4 : RS σ4 := RS_eq eσ4 (RS.up hs ra1 _ _)
      refine r_aloadn (dc D_cX3_add_0 15 rfl) rfl rfl ?_
      refine r_getR (dc D_cX3_add_0 16 rfl) fw_RX3_15 lC_1 rfl ?_
      refine r_aloadn (dc D_cX3_add_0 17 rfl) rfl rfl ?_
      refine r_getI (dc D_cX3_add_0 18 rfl) fw_RX3_34 lC_1 rfl ?_
      refine r_iloadn (dc D_cX3_add_0 19 rfl) rfl rfl ?_
      obtain ⟨o5, h⟩ := h
      refine r_iast (N := 30) (dc D_cX3_add_0 20 rfl) lC_14 rfl rfl o5 ra2 ?_
      refine r_sig (fun σ6 eσ6 => ?_)
      have h := h σ6 eσ6
      have hσ6 : RS σ6 := RS_eq eσ6 (RS.up hσ4 ra2 _ _)
      refine r_aloadn (dc D_cX3_add_0 21 rfl) rfl rfl ?_
      refine r_getR (dc D_cX3_add_0 22 rfl) fw_RX3_18 lC_1 rfl ?_
      refine r_aloadn (dc D_cX3_add_0 23 rfl) rfl rfl ?_
      refine r_getI (dc D_cX3_add_0 24 rfl) fw_RX3_34 lC_1 rfl ?_
      refine r_iloadn (dc D_cX3_add_0 25 rfl) rfl rfl ?_
      obtain ⟨o7, h⟩ := h
      refine r_iast (N := 30) (dc D_cX3_add_0 26 rfl) lC_15 rfl rfl o7 ra3 ?_
      refine r_sig (fun σ8 eσ8 => ?_)
      have h := h σ8 eσ8
      have hσ8 : RS σ8 := RS_eq eσ8 (RS.up hσ6 ra3 _ _)
      refine r_aloadn (dc D_cX3_add_0 27 rfl) rfl rfl ?_
      refine r_getR (dc D_cX3_add_0 28 rfl) fw_RX3_21 lC_1 rfl ?_
      refine r_aloadn (dc D_cX3_add_0 29 rfl) rfl rfl ?_
      refine r_getI (dc D_cX3_add_0 30 rfl) fw_RX3_34 lC_1 rfl ?_
      refine r_iload (dc D_cX3_add_0 31 rfl) rfl ?_
      obtain ⟨o9, h⟩ := h
      refine r_iast (N := 30) (dc D_cX3_add_0 32 rfl) lC_16 rfl rfl o9 ra4 ?_
      refine r_sig (fun σ10 eσ10 => ?_)
      have h := h σ10 eσ10
      have hσ10 : RS σ10 := RS_eq eσ10 (RS.up hσ8 ra4 _ _)
      refine r_aloadn (dc D_cX3_add_0 33 rfl) rfl rfl ?_
      refine r_getR (dc D_cX3_add_0 34 rfl) fw_RX3_24 lC_1 rfl ?_
      refine r_aloadn (dc D_cX3_add_0 35 rfl) rfl rfl ?_
      refine r_getI (dc D_cX3_add_0 36 rfl) fw_RX3_34 lC_1 rfl ?_
      refine r_iload (dc D_cX3_add_0 37 rfl) rfl ?_
      obtain ⟨o11, h⟩ := h
      refine r_iast (N := 30) (dc D_cX3_add_0 38 rfl) lC_17 rfl rfl o11 ra5 ?_
      refine r_sig (fun σ12 eσ12 => ?_)
      have h := h σ12 eσ12
      have hσ12 : RS σ12 := RS_eq eσ12 (RS.up hσ10 ra5 _ _)
      refine r_aloadn (dc D_cX3_add_0 39 rfl) rfl rfl ?_
      refine r_getR (dc D_cX3_add_1 0 rfl) fw_RX3_27 lC_1 rfl ?_
      refine r_aloadn (dc D_cX3_add_1 1 rfl) rfl rfl ?_
      refine r_getI (dc D_cX3_add_1 2 rfl) fw_RX3_34 lC_1 rfl ?_
      refine r_iload (dc D_cX3_add_1 3 rfl) rfl ?_
      obtain ⟨o13, h⟩ := h
      refine r_iast (N := 30) (dc D_cX3_add_1 4 rfl) lC_18 rfl rfl o13 ra6 ?_
      refine r_sig (fun σ14 eσ14 => ?_)
      have h := h σ14 eσ14
      have hσ14 : RS σ14 := RS_eq eσ14 (RS.up hσ12 ra6 _ _)
      refine r_aloadn (dc D_cX3_add_1 5 rfl) rfl rfl ?_
      refine r_dup (dc D_cX3_add_1 6 rfl) rfl ?_
      refine r_getI (dc D_cX3_add_1 7 rfl) fw_RX3_34 lC_1 rfl ?_
      refine r_iconst (n := 1) (dc D_cX3_add_1 8 rfl) ?_
      refine r_iadd (dc D_cX3_add_1 9 rfl) ?_
      obtain ⟨o15, h⟩ := h
      refine r_put (dc D_cX3_add_1 10 rfl) fw_RX3_34 fp_3_6 lC_1 rfl (nar_int _) o15 ?_
      refine r_sig (fun σ16 eσ16 => ?_)
      have h := h σ16 eσ16
      have hσ16 : RS σ16 := RS_eq eσ16 (RS.up hσ14 o15 _ _)
      refine r_aloadn (dc D_cX3_add_1 11 rfl) rfl rfl ?_
      refine r_getI (dc D_cX3_add_1 12 rfl) fw_RX3_34 lC_1 rfl ?_
      refine r_iconst (n := 1) (dc D_cX3_add_1 13 rfl) ?_
      refine r_isub (dc D_cX3_add_1 14 rfl) ?_
      obtain ⟨o17, h⟩ := h
      exact r_iret (dc D_cX3_add_1 15 rfl) rfl o17 h
    · have h := h.2 c2
      refine r_bipush (n := (-4)) (dc D_cX3_add_0 7 rfl) (by decide +kernel) ?_
      exact r_iret (dc D_cX3_add_0 8 rfl) rfl (Rl rfl) h
-- end of GateFlow$Gates.add
def mi_X11_gate : MI := (cX11_gate, RX11, 6, 2, (some .int), 1)
def FX11_gate (a1 a2 a3 a4 a5 : Int) (σ : PS) (Φ : Int → PS → Prop) : Prop :=
  FX11_isNode a1 σ (fun z1 σ2 =>
  ((z1 = 0 →
    Φ (-1) σ2) ∧
  (¬ z1 = 0 →
    FX11_isNode a2 σ2 (fun z4 σ5 =>
    ((z4 = 0 →
      Φ (-1) σ5) ∧
    (¬ z4 = 0 →
      ((¬ a1 = a2 →
        FX11_isCapacity a4 σ5 (fun z8 σ9 =>
        ((z8 = 0 →
          Φ (-2) σ9) ∧
        (¬ z8 = 0 →
          ((a3 < 0 →
            Φ (-2) σ9) ∧
          (¬ a3 < 0 →
            ((a4 < a3 →
              Φ (-2) σ9) ∧
            (¬ a4 < a3 →
              FX11_isDelay a5 σ9 (fun z13 σ14 =>
              ((¬ z13 = 0 →
                ((σ14 1 6 < 30 →
                  FX11_forget σ14 (fun z17 σ18 =>
                  FX3_add a1 a2 a3 a4 a5 1 σ18 (fun z19 σ20 =>
                  Φ z19 σ20))) ∧
                (¬ σ14 1 6 < 30 →
                  Φ (-4) σ14))) ∧
              (z13 = 0 →
                Φ (-2) σ14))))))))))) ∧
      (a1 = a2 →
        Φ (-1) σ5))))))))
theorem cw_RX11_82 : CWS RX11 82 yX11_isNode mi_X11_isNode := tb_r [550, 551, 97, 552] (by decide +kernel)
theorem nm_yX11_isNode : ynm yX11_isNode 1 := ⟨⟨by decide +kernel, by decide +kernel⟩, by decide +kernel⟩
theorem cw_RX11_86 : CWS RX11 86 yX11_isCapacity mi_X11_isCapacity := tb_r [553, 554, 97, 555] (by decide +kernel)
theorem nm_yX11_isCapacity : ynm yX11_isCapacity 1 := ⟨⟨by decide +kernel, by decide +kernel⟩, by decide +kernel⟩
theorem cw_RX11_89 : CWS RX11 89 yX11_isDelay mi_X11_isDelay := tb_r [556, 557, 97, 558] (by decide +kernel)
theorem nm_yX11_isDelay : ynm yX11_isDelay 1 := ⟨⟨by decide +kernel, by decide +kernel⟩, by decide +kernel⟩
theorem cw_RX11_96 : CWV RX11 96 yX11_forget mi_X11_forget := tb_r [559, 561, 0, 97, 562] (by decide +kernel)
theorem nm_yX11_forget : ynm yX11_forget 0 := ⟨⟨by decide +kernel, by decide +kernel⟩, by decide +kernel⟩
theorem cw_RX11_99 : CWV RX11 99 yX3_add mi_X3_add := tb_r [563, 564, 565, 98, 566] (by decide +kernel)
theorem nm_yX3_add : ynm yX3_add 6 := ⟨⟨by decide +kernel, by decide +kernel⟩, by decide +kernel⟩
set_option maxRecDepth 100000 in
theorem CX11_gate {E : EV} (hE : eOK layC E) {Φ : Int → PS → Prop} (a1 a2 a3 a4 a5 : Int) (ra1 : Rg a1) (ra2 : Rg a2) (ra3 : Rg a3) (ra4 : Rg a4) (ra5 : Rg a5) (σ : PS) (hs : RS σ) (h : FX11_gate a1 a2 a3 a4 a5 σ Φ) : CT layC E yX11_gate mi_X11_gate [.ref (eA E 0), .int (iz a1), .int (iz a2), .int (iz a3), .int (iz a4), .int (iz a5)] σ Φ := by
  refine ct_of (by decide +kernel) rfl hE rfl rfl hs (fun x => ?_)
  show RW layC E mi_X11_gate Φ 0 [some (.ref (eA E 0)), some (.int (iz a1)), some (.int (iz a2)), some (.int (iz a3)), some (.int (iz a4)), some (.int (iz a5))] [] σ x
  refine r_iloadn (dc D_cX11_gate_0 0 rfl) rfl rfl ?_
  refine r_callS (As := [.int (iz a1)]) (st := []) (dc D_cX11_gate_0 1 rfl) cw_RX11_82 nm_yX11_isNode (CX11_isNode hE _ ra1 _ hs h) rfl (by decide) rfl rfl rfl (fun z1 σ2 rz1 hσ2 h => ?_)
  show RW layC E mi_X11_gate Φ 4 [some (.ref (eA E 0)), some (.int (iz a1)), some (.int (iz a2)), some (.int (iz a3)), some (.int (iz a4)), some (.int (iz a5))] [.int (iz z1)] σ2 x
  refine r_if_eq (tgt := 19) (dc D_cX11_gate_0 2 rfl) (by decide) rz1 (fun c3 => ?_) (fun c3 => ?_)
  · have h := h.1 c3
    refine r_iconst (n := (-1)) (dc D_cX11_gate_0 9 rfl) ?_
    exact r_iret (dc D_cX11_gate_0 10 rfl) rfl (Rl rfl) h
  · have h := h.2 c3
    refine r_iloadn (dc D_cX11_gate_0 3 rfl) rfl rfl ?_
    refine r_callS (As := [.int (iz a2)]) (st := []) (dc D_cX11_gate_0 4 rfl) cw_RX11_82 nm_yX11_isNode (CX11_isNode hE _ ra2 _ hσ2 h) rfl (by decide) rfl rfl rfl (fun z4 σ5 rz4 hσ5 h => ?_)
    show RW layC E mi_X11_gate Φ 11 [some (.ref (eA E 0)), some (.int (iz a1)), some (.int (iz a2)), some (.int (iz a3)), some (.int (iz a4)), some (.int (iz a5))] [.int (iz z4)] σ5 x
    refine r_if_eq (tgt := 19) (dc D_cX11_gate_0 5 rfl) (by decide) rz4 (fun c6 => ?_) (fun c6 => ?_)
    · have h := h.1 c6
      refine r_iconst (n := (-1)) (dc D_cX11_gate_0 9 rfl) ?_
      exact r_iret (dc D_cX11_gate_0 10 rfl) rfl (Rl rfl) h
    · have h := h.2 c6
      refine r_iloadn (dc D_cX11_gate_0 6 rfl) rfl rfl ?_
      refine r_iloadn (dc D_cX11_gate_0 7 rfl) rfl rfl ?_
      refine r_icmp_ne (tgt := 21) (dc D_cX11_gate_0 8 rfl) (by decide) ra1 ra2 (fun c7 => ?_) (fun c7 => ?_)
      · have h := h.1 c7
        refine r_iload (dc D_cX11_gate_0 11 rfl) rfl ?_
        refine r_callS (As := [.int (iz a4)]) (st := []) (dc D_cX11_gate_0 12 rfl) cw_RX11_86 nm_yX11_isCapacity (CX11_isCapacity hE _ ra4 _ hσ5 h) rfl (by decide) rfl rfl rfl (fun z8 σ9 rz8 hσ9 h => ?_)
        show RW layC E mi_X11_gate Φ 26 [some (.ref (eA E 0)), some (.int (iz a1)), some (.int (iz a2)), some (.int (iz a3)), some (.int (iz a4)), some (.int (iz a5))] [.int (iz z8)] σ9 x
        refine r_if_eq (tgt := 47) (dc D_cX11_gate_0 13 rfl) (by decide) rz8 (fun c10 => ?_) (fun c10 => ?_)
        · have h := h.1 c10
          refine r_bipush (n := (-2)) (dc D_cX11_gate_0 22 rfl) (by decide +kernel) ?_
          exact r_iret (dc D_cX11_gate_0 23 rfl) rfl (Rl rfl) h
        · have h := h.2 c10
          refine r_iloadn (dc D_cX11_gate_0 14 rfl) rfl rfl ?_
          refine r_if_lt (tgt := 47) (dc D_cX11_gate_0 15 rfl) (by decide) ra3 (fun c11 => ?_) (fun c11 => ?_)
          · have h := h.1 c11
            refine r_bipush (n := (-2)) (dc D_cX11_gate_0 22 rfl) (by decide +kernel) ?_
            exact r_iret (dc D_cX11_gate_0 23 rfl) rfl (Rl rfl) h
          · have h := h.2 c11
            refine r_iloadn (dc D_cX11_gate_0 16 rfl) rfl rfl ?_
            refine r_iload (dc D_cX11_gate_0 17 rfl) rfl ?_
            refine r_icmp_gt (tgt := 47) (dc D_cX11_gate_0 18 rfl) (by decide) ra3 ra4 (fun c12 => ?_) (fun c12 => ?_)
            · have h := h.1 c12
              refine r_bipush (n := (-2)) (dc D_cX11_gate_0 22 rfl) (by decide +kernel) ?_
              exact r_iret (dc D_cX11_gate_0 23 rfl) rfl (Rl rfl) h
            · have h := h.2 c12
              refine r_iload (dc D_cX11_gate_0 19 rfl) rfl ?_
              refine r_callS (As := [.int (iz a5)]) (st := []) (dc D_cX11_gate_0 20 rfl) cw_RX11_89 nm_yX11_isDelay (CX11_isDelay hE _ ra5 _ hσ9 h) rfl (by decide) rfl rfl rfl (fun z13 σ14 rz13 hσ14 h => ?_)
              show RW layC E mi_X11_gate Φ 44 [some (.ref (eA E 0)), some (.int (iz a1)), some (.int (iz a2)), some (.int (iz a3)), some (.int (iz a4)), some (.int (iz a5))] [.int (iz z13)] σ14 x
              refine r_if_ne (tgt := 50) (dc D_cX11_gate_0 21 rfl) (by decide) rz13 (fun c15 => ?_) (fun c15 => ?_)
              · have h := h.1 c15
                refine r_aloadn (dc D_cX11_gate_0 24 rfl) rfl rfl ?_
                refine r_getR (dc D_cX11_gate_0 25 rfl) fw_RX11_12 lC_0 rfl ?_
                refine r_getI (dc D_cX11_gate_0 26 rfl) fw_RX11_92 lC_1 rfl ?_
                refine r_bipush (n := 30) (dc D_cX11_gate_0 27 rfl) (by decide +kernel) ?_
                refine r_icmp_lt (tgt := 65) (dc D_cX11_gate_0 28 rfl) (by decide) (hσ14 _ _) (Rl rfl) (fun c16 => ?_) (fun c16 => ?_)
                · have h := h.1 c16
                  refine r_aloadn (dc D_cX11_gate_0 31 rfl) rfl rfl ?_
                  refine r_callV (As := []) (st := []) (dc D_cX11_gate_0 32 rfl) cw_RX11_96 nm_yX11_forget (CX11_forget hE  _ hσ14 h) lC_0 rfl rfl (by decide) rfl rfl rfl (fun z17 σ18 rz17 hσ18 h => ?_)
                  show RW layC E mi_X11_gate Φ 69 [some (.ref (eA E 0)), some (.int (iz a1)), some (.int (iz a2)), some (.int (iz a3)), some (.int (iz a4)), some (.int (iz a5))] [] σ18 x
                  refine r_aloadn (dc D_cX11_gate_0 33 rfl) rfl rfl ?_
                  refine r_getR (dc D_cX11_gate_0 34 rfl) fw_RX11_12 lC_0 rfl ?_
                  refine r_iloadn (dc D_cX11_gate_0 35 rfl) rfl rfl ?_
                  refine r_iloadn (dc D_cX11_gate_0 36 rfl) rfl rfl ?_
                  refine r_iloadn (dc D_cX11_gate_0 37 rfl) rfl rfl ?_
                  refine r_iload (dc D_cX11_gate_0 38 rfl) rfl ?_
                  refine r_iload (dc D_cX11_gate_0 39 rfl) rfl ?_
                  refine r_iconst (n := 1) (dc D_cX11_gate_1 0 rfl) ?_
                  refine r_callV (As := [.int (iz a1), .int (iz a2), .int (iz a3), .int (iz a4), .int (iz a5), .int (iz 1)]) (st := []) (dc D_cX11_gate_1 1 rfl) cw_RX11_99 nm_yX3_add (CX3_add hE _ _ _ _ _ _ ra1 ra2 ra3 ra4 ra5 (Rl rfl) _ hσ18 h) lC_1 rfl rfl (by decide) rfl rfl rfl (fun z19 σ20 rz19 hσ20 h => ?_)
                  show RW layC E mi_X11_gate Φ 84 [some (.ref (eA E 0)), some (.int (iz a1)), some (.int (iz a2)), some (.int (iz a3)), some (.int (iz a4)), some (.int (iz a5))] [.int (iz z19)] σ20 x
                  exact r_iret (dc D_cX11_gate_1 2 rfl) rfl rz19 h
                · have h := h.2 c16
                  refine r_bipush (n := (-4)) (dc D_cX11_gate_0 29 rfl) (by decide +kernel) ?_
                  exact r_iret (dc D_cX11_gate_0 30 rfl) rfl (Rl rfl) h
              · have h := h.2 c15
                refine r_bipush (n := (-2)) (dc D_cX11_gate_0 22 rfl) (by decide +kernel) ?_
                exact r_iret (dc D_cX11_gate_0 23 rfl) rfl (Rl rfl) h
      · have h := h.2 c7
        refine r_iconst (n := (-1)) (dc D_cX11_gate_0 9 rfl) ?_
        exact r_iret (dc D_cX11_gate_0 10 rfl) rfl (Rl rfl) h
-- end of GateFlow.gate
def mi_X3_has : MI := (cX3_has, RX3, 2, 1, (some .boolean), 1)
def FX3_has (a1 : Int) (σ : PS) (Φ : Int → PS → Prop) : Prop :=
  ((a1 < 0 →
    Φ 0 σ) ∧
  (¬ a1 < 0 →
    ((σ 1 6 ≤ a1 →
      Φ 0 σ) ∧
    (¬ σ 1 6 ≤ a1 →
      Φ 1 σ))))
set_option maxRecDepth 100000 in
theorem CX3_has {E : EV} (hE : eOK layC E) {Φ : Int → PS → Prop} (a1 : Int) (ra1 : Rg a1) (σ : PS) (hs : RS σ) (h : FX3_has a1 σ Φ) : CT layC E yX3_has mi_X3_has [.ref (eA E 1), .int (iz a1)] σ Φ := by
  refine ct_of (by decide +kernel) rfl hE rfl rfl hs (fun x => ?_)
  show RW layC E mi_X3_has Φ 0 [some (.ref (eA E 1)), some (.int (iz a1))] [] σ x
  refine r_iloadn (dc D_cX3_has_0 0 rfl) rfl rfl ?_
  refine r_if_lt (tgt := 16) (dc D_cX3_has_0 1 rfl) (by decide) ra1 (fun c1 => ?_) (fun c1 => ?_)
  · have h := h.1 c1
    refine r_iconst (n := 0) (dc D_cX3_has_0 8 rfl) ?_
    exact r_zret (dc D_cX3_has_0 9 rfl) rfl (by decide) h
  · have h := h.2 c1
    refine r_iloadn (dc D_cX3_has_0 2 rfl) rfl rfl ?_
    refine r_aloadn (dc D_cX3_has_0 3 rfl) rfl rfl ?_
    refine r_getI (dc D_cX3_has_0 4 rfl) fw_RX3_34 lC_1 rfl ?_
    refine r_icmp_ge (tgt := 16) (dc D_cX3_has_0 5 rfl) (by decide) ra1 (hs _ _) (fun c2 => ?_) (fun c2 => ?_)
    · have h := h.1 c2
      refine r_iconst (n := 0) (dc D_cX3_has_0 8 rfl) ?_
      exact r_zret (dc D_cX3_has_0 9 rfl) rfl (by decide) h
    · have h := h.2 c2
      refine r_iconst (n := 1) (dc D_cX3_has_0 6 rfl) ?_
      refine r_goto (tgt := 17) (dc D_cX3_has_0 7 rfl) (by decide) ?_
      exact r_zret (dc D_cX3_has_0 9 rfl) rfl (by decide) h
-- end of GateFlow$Gates.has
def mi_X11_of : MI := (cX11_of, RX11, 3, 2, (some .int), 1)
def FX11_of (a1 a2 : Int) (σ : PS) (Φ : Int → PS → Prop) : Prop :=
  FX3_has a1 σ (fun z1 σ2 =>
  ((¬ z1 = 0 →
    (a2 = 0 →
      (0 ≤ a1 ∧ a1 < 30) ∧
      Φ (σ2 13 a1.toNat) σ2) ∧
    (a2 = 1 →
      (0 ≤ a1 ∧ a1 < 30) ∧
      Φ (σ2 14 a1.toNat) σ2) ∧
    (a2 = 2 →
      (0 ≤ a1 ∧ a1 < 30) ∧
      Φ (σ2 15 a1.toNat) σ2) ∧
    (a2 = 3 →
      (0 ≤ a1 ∧ a1 < 30) ∧
      Φ (σ2 16 a1.toNat) σ2) ∧
    (a2 = 4 →
      (0 ≤ a1 ∧ a1 < 30) ∧
      Φ (σ2 17 a1.toNat) σ2) ∧
    (a2 = 5 →
      (0 ≤ a1 ∧ a1 < 30) ∧
      Φ (σ2 18 a1.toNat) σ2) ∧
    ((a2 < 0 ∨ 5 < a2) →
      Φ (-1) σ2)) ∧
  (z1 = 0 →
    Φ (-1) σ2)))
theorem fw_RX11_106 : FW RX11 106 3 0 := ⟨RX3, TX3, 9, rfl, by decide, rfl, tb_1 135 (by decide +kernel), uw_3⟩
theorem fw_RX11_122 : FW RX11 122 3 5 := ⟨RX3, TX3, 9, rfl, by decide, rfl, tb_1 165 (by decide +kernel), uw_3⟩
theorem fw_RX11_119 : FW RX11 119 3 4 := ⟨RX3, TX3, 9, rfl, by decide, rfl, tb_1 160 (by decide +kernel), uw_3⟩
theorem fw_RX11_116 : FW RX11 116 3 3 := ⟨RX3, TX3, 9, rfl, by decide, rfl, tb_1 156 (by decide +kernel), uw_3⟩
theorem fw_RX11_113 : FW RX11 113 3 2 := ⟨RX3, TX3, 9, rfl, by decide, rfl, tb_1 152 (by decide +kernel), uw_3⟩
theorem fw_RX11_110 : FW RX11 110 3 1 := ⟨RX3, TX3, 9, rfl, by decide, rfl, tb_1 145 (by decide +kernel), uw_3⟩
theorem cw_RX11_103 : CWV RX11 103 yX3_has mi_X3_has := tb_r [571, 572, 573, 98, 574] (by decide +kernel)
theorem nm_yX3_has : ynm yX3_has 1 := ⟨⟨by decide +kernel, by decide +kernel⟩, by decide +kernel⟩
set_option maxRecDepth 100000 in
theorem CX11_of {E : EV} (hE : eOK layC E) {Φ : Int → PS → Prop} (a1 a2 : Int) (ra1 : Rg a1) (ra2 : Rg a2) (σ : PS) (hs : RS σ) (h : FX11_of a1 a2 σ Φ) : CT layC E yX11_of mi_X11_of [.ref (eA E 0), .int (iz a1), .int (iz a2)] σ Φ := by
  refine ct_of (by decide +kernel) rfl hE rfl rfl hs (fun x => ?_)
  show RW layC E mi_X11_of Φ 0 [some (.ref (eA E 0)), some (.int (iz a1)), some (.int (iz a2))] [] σ x
  refine r_aloadn (dc D_cX11_of_0 0 rfl) rfl rfl ?_
  refine r_getR (dc D_cX11_of_0 1 rfl) fw_RX11_12 lC_0 rfl ?_
  refine r_iloadn (dc D_cX11_of_0 2 rfl) rfl rfl ?_
  refine r_callV (As := [.int (iz a1)]) (st := []) (dc D_cX11_of_0 3 rfl) cw_RX11_103 nm_yX3_has (CX3_has hE _ ra1 _ hs h) lC_1 rfl rfl (by decide) rfl rfl rfl (fun z1 σ2 rz1 hσ2 h => ?_)
  show RW layC E mi_X11_of Φ 8 [some (.ref (eA E 0)), some (.int (iz a1)), some (.int (iz a2))] [.int (iz z1)] σ2 x
  refine r_if_ne (tgt := 13) (dc D_cX11_of_0 4 rfl) (by decide) rz1 (fun c3 => ?_) (fun c3 => ?_)
  · have h := h.1 c3
    refine r_iloadn (dc D_cX11_of_0 7 rfl) rfl rfl ?_
    refine r_by (c := a2 = 0) (fun c5 => ?_) (fun nc5 => ?_)
    · refine r_swIn (tgt := 52) (off := 38) (v := 0) (dc D_cX11_of_0 8 rfl) c5 (by decide) (by decide) ?_
      have h := h.1 c5
      refine r_aloadn (dc D_cX11_of_0 9 rfl) rfl rfl ?_
      refine r_getR (dc D_cX11_of_0 10 rfl) fw_RX11_12 lC_0 rfl ?_
      refine r_getR (dc D_cX11_of_0 11 rfl) fw_RX11_106 lC_1 rfl ?_
      refine r_iloadn (dc D_cX11_of_0 12 rfl) rfl rfl ?_
      obtain ⟨o4, h⟩ := h
      refine r_iald (N := 30) (dc D_cX11_of_0 13 rfl) lC_13 rfl rfl o4 ?_
      exact r_iret (dc D_cX11_of_0 14 rfl) rfl (hσ2 _ _) h
    replace h := h.2
    refine r_by (c := a2 = 1) (fun c7 => ?_) (fun nc7 => ?_)
    · refine r_swIn (tgt := 62) (off := 48) (v := 1) (dc D_cX11_of_0 8 rfl) c7 (by decide) (by decide) ?_
      have h := h.1 c7
      refine r_aloadn (dc D_cX11_of_0 15 rfl) rfl rfl ?_
      refine r_getR (dc D_cX11_of_0 16 rfl) fw_RX11_12 lC_0 rfl ?_
      refine r_getR (dc D_cX11_of_0 17 rfl) fw_RX11_110 lC_1 rfl ?_
      refine r_iloadn (dc D_cX11_of_0 18 rfl) rfl rfl ?_
      obtain ⟨o6, h⟩ := h
      refine r_iald (N := 30) (dc D_cX11_of_0 19 rfl) lC_14 rfl rfl o6 ?_
      exact r_iret (dc D_cX11_of_0 20 rfl) rfl (hσ2 _ _) h
    replace h := h.2
    refine r_by (c := a2 = 2) (fun c9 => ?_) (fun nc9 => ?_)
    · refine r_swIn (tgt := 72) (off := 58) (v := 2) (dc D_cX11_of_0 8 rfl) c9 (by decide) (by decide) ?_
      have h := h.1 c9
      refine r_aloadn (dc D_cX11_of_0 21 rfl) rfl rfl ?_
      refine r_getR (dc D_cX11_of_0 22 rfl) fw_RX11_12 lC_0 rfl ?_
      refine r_getR (dc D_cX11_of_0 23 rfl) fw_RX11_113 lC_1 rfl ?_
      refine r_iloadn (dc D_cX11_of_0 24 rfl) rfl rfl ?_
      obtain ⟨o8, h⟩ := h
      refine r_iald (N := 30) (dc D_cX11_of_0 25 rfl) lC_15 rfl rfl o8 ?_
      exact r_iret (dc D_cX11_of_0 26 rfl) rfl (hσ2 _ _) h
    replace h := h.2
    refine r_by (c := a2 = 3) (fun c11 => ?_) (fun nc11 => ?_)
    · refine r_swIn (tgt := 82) (off := 68) (v := 3) (dc D_cX11_of_0 8 rfl) c11 (by decide) (by decide) ?_
      have h := h.1 c11
      refine r_aloadn (dc D_cX11_of_0 27 rfl) rfl rfl ?_
      refine r_getR (dc D_cX11_of_0 28 rfl) fw_RX11_12 lC_0 rfl ?_
      refine r_getR (dc D_cX11_of_0 29 rfl) fw_RX11_116 lC_1 rfl ?_
      refine r_iloadn (dc D_cX11_of_0 30 rfl) rfl rfl ?_
      obtain ⟨o10, h⟩ := h
      refine r_iald (N := 30) (dc D_cX11_of_0 31 rfl) lC_16 rfl rfl o10 ?_
      exact r_iret (dc D_cX11_of_0 32 rfl) rfl (hσ2 _ _) h
    replace h := h.2
    refine r_by (c := a2 = 4) (fun c13 => ?_) (fun nc13 => ?_)
    · refine r_swIn (tgt := 92) (off := 78) (v := 4) (dc D_cX11_of_0 8 rfl) c13 (by decide) (by decide) ?_
      have h := h.1 c13
      refine r_aloadn (dc D_cX11_of_0 33 rfl) rfl rfl ?_
      refine r_getR (dc D_cX11_of_0 34 rfl) fw_RX11_12 lC_0 rfl ?_
      refine r_getR (dc D_cX11_of_0 35 rfl) fw_RX11_119 lC_1 rfl ?_
      refine r_iloadn (dc D_cX11_of_0 36 rfl) rfl rfl ?_
      obtain ⟨o12, h⟩ := h
      refine r_iald (N := 30) (dc D_cX11_of_0 37 rfl) lC_17 rfl rfl o12 ?_
      exact r_iret (dc D_cX11_of_0 38 rfl) rfl (hσ2 _ _) h
    replace h := h.2
    refine r_by (c := a2 = 5) (fun c15 => ?_) (fun nc15 => ?_)
    · refine r_swIn (tgt := 102) (off := 88) (v := 5) (dc D_cX11_of_0 8 rfl) c15 (by decide) (by decide) ?_
      have h := h.1 c15
      refine r_aloadn (dc D_cX11_of_0 39 rfl) rfl rfl ?_
      refine r_getR (dc D_cX11_of_1 0 rfl) fw_RX11_12 lC_0 rfl ?_
      refine r_getR (dc D_cX11_of_1 1 rfl) fw_RX11_122 lC_1 rfl ?_
      refine r_iloadn (dc D_cX11_of_1 2 rfl) rfl rfl ?_
      obtain ⟨o14, h⟩ := h
      refine r_iald (N := 30) (dc D_cX11_of_1 3 rfl) lC_18 rfl rfl o14 ?_
      exact r_iret (dc D_cX11_of_1 4 rfl) rfl (hσ2 _ _) h
    replace h := h.2
    have c16 : a2 < 0 ∨ 5 < a2 := by omega
    have h := h c16
    refine r_swOut (tgt := 112) (dc D_cX11_of_0 8 rfl) (by decide) ra2 c16 ?_
    refine r_iconst (n := (-1)) (dc D_cX11_of_1 5 rfl) ?_
    exact r_iret (dc D_cX11_of_1 6 rfl) rfl (Rl rfl) h
  · have h := h.2 c3
    refine r_iconst (n := (-1)) (dc D_cX11_of_0 5 rfl) ?_
    exact r_iret (dc D_cX11_of_0 6 rfl) rfl (Rl rfl) h
-- end of GateFlow.of
def mi_X11_widen : MI := (cX11_widen, RX11, 4, 2, (some .int), 1)
def FX11_widen (a1 a2 : Int) (σ : PS) (Φ : Int → PS → Prop) : Prop :=
  FX3_has a1 σ (fun z1 σ2 =>
  ((¬ z1 = 0 →
    FX11_isCapacity a2 σ2 (fun z4 σ5 =>
    ((z4 = 0 →
      Φ (-2) σ5) ∧
    (¬ z4 = 0 →
      (0 ≤ a1 ∧ a1 < 30) ∧
      ((σ5 15 a1.toNat ≤ a2 →
        (0 ≤ a1 ∧ a1 < 30) ∧
        ∀ v10 : Int, v10 = σ5 16 a1.toNat →
        (0 ≤ a1 ∧ a1 < 30) ∧
        ∀ σ12 : PS, σ12 = up2 σ5 16 a1.toNat a2 →
        FX11_forget σ12 (fun z13 σ14 =>
        Φ v10 σ14)) ∧
      (¬ σ5 15 a1.toNat ≤ a2 →
        Φ (-2) σ5)))))) ∧
  (z1 = 0 →
    Φ (-1) σ2)))
set_option maxRecDepth 100000 in
theorem CX11_widen {E : EV} (hE : eOK layC E) {Φ : Int → PS → Prop} (a1 a2 : Int) (ra1 : Rg a1) (ra2 : Rg a2) (σ : PS) (hs : RS σ) (h : FX11_widen a1 a2 σ Φ) : CT layC E yX11_widen mi_X11_widen [.ref (eA E 0), .int (iz a1), .int (iz a2)] σ Φ := by
  refine ct_of (by decide +kernel) rfl hE rfl rfl hs (fun x => ?_)
  show RW layC E mi_X11_widen Φ 0 [some (.ref (eA E 0)), some (.int (iz a1)), some (.int (iz a2)), none] [] σ x
  refine r_aloadn (dc D_cX11_widen_0 0 rfl) rfl rfl ?_
  refine r_getR (dc D_cX11_widen_0 1 rfl) fw_RX11_12 lC_0 rfl ?_
  refine r_iloadn (dc D_cX11_widen_0 2 rfl) rfl rfl ?_
  refine r_callV (As := [.int (iz a1)]) (st := []) (dc D_cX11_widen_0 3 rfl) cw_RX11_103 nm_yX3_has (CX3_has hE _ ra1 _ hs h) lC_1 rfl rfl (by decide) rfl rfl rfl (fun z1 σ2 rz1 hσ2 h => ?_)
  show RW layC E mi_X11_widen Φ 8 [some (.ref (eA E 0)), some (.int (iz a1)), some (.int (iz a2)), none] [.int (iz z1)] σ2 x
  refine r_if_ne (tgt := 13) (dc D_cX11_widen_0 4 rfl) (by decide) rz1 (fun c3 => ?_) (fun c3 => ?_)
  · have h := h.1 c3
    refine r_iloadn (dc D_cX11_widen_0 7 rfl) rfl rfl ?_
    refine r_callS (As := [.int (iz a2)]) (st := []) (dc D_cX11_widen_0 8 rfl) cw_RX11_86 nm_yX11_isCapacity (CX11_isCapacity hE _ ra2 _ hσ2 h) rfl (by decide) rfl rfl rfl (fun z4 σ5 rz4 hσ5 h => ?_)
    show RW layC E mi_X11_widen Φ 17 [some (.ref (eA E 0)), some (.int (iz a1)), some (.int (iz a2)), none] [.int (iz z4)] σ5 x
    refine r_if_eq (tgt := 33) (dc D_cX11_widen_0 9 rfl) (by decide) rz4 (fun c6 => ?_) (fun c6 => ?_)
    · have h := h.1 c6
      refine r_bipush (n := (-2)) (dc D_cX11_widen_0 17 rfl) (by decide +kernel) ?_
      exact r_iret (dc D_cX11_widen_0 18 rfl) rfl (Rl rfl) h
    · have h := h.2 c6
      refine r_iloadn (dc D_cX11_widen_0 10 rfl) rfl rfl ?_
      refine r_aloadn (dc D_cX11_widen_0 11 rfl) rfl rfl ?_
      refine r_getR (dc D_cX11_widen_0 12 rfl) fw_RX11_12 lC_0 rfl ?_
      refine r_getR (dc D_cX11_widen_0 13 rfl) fw_RX11_113 lC_1 rfl ?_
      refine r_iloadn (dc D_cX11_widen_0 14 rfl) rfl rfl ?_
      obtain ⟨o7, h⟩ := h
      refine r_iald (N := 30) (dc D_cX11_widen_0 15 rfl) lC_15 rfl rfl o7 ?_
      refine r_icmp_ge (tgt := 36) (dc D_cX11_widen_0 16 rfl) (by decide) ra2 (hσ5 _ _) (fun c8 => ?_) (fun c8 => ?_)
      · have h := h.1 c8
        refine r_aloadn (dc D_cX11_widen_0 19 rfl) rfl rfl ?_
        refine r_getR (dc D_cX11_widen_0 20 rfl) fw_RX11_12 lC_0 rfl ?_
        refine r_getR (dc D_cX11_widen_0 21 rfl) fw_RX11_116 lC_1 rfl ?_
        refine r_iloadn (dc D_cX11_widen_0 22 rfl) rfl rfl ?_
        obtain ⟨o9, h⟩ := h
        refine r_iald (N := 30) (dc D_cX11_widen_0 23 rfl) lC_16 rfl rfl o9 ?_
        refine r_name (fun v10 ev10 => ?_)
        have h := h v10 ev10
        have rv10 : Rg v10 := Rg_eq ev10 (hσ5 _ _)
        refine r_istoren (lv' := [some (.ref (eA E 0)), some (.int (iz a1)), some (.int (iz a2)), some (.int (iz v10))]) (dc D_cX11_widen_0 24 rfl) rfl rfl rfl ?_
        refine r_aloadn (dc D_cX11_widen_0 25 rfl) rfl rfl ?_
        refine r_getR (dc D_cX11_widen_0 26 rfl) fw_RX11_12 lC_0 rfl ?_
        refine r_getR (dc D_cX11_widen_0 27 rfl) fw_RX11_116 lC_1 rfl ?_
        refine r_iloadn (dc D_cX11_widen_0 28 rfl) rfl rfl ?_
        refine r_iloadn (dc D_cX11_widen_0 29 rfl) rfl rfl ?_
        obtain ⟨o11, h⟩ := h
        refine r_iast (N := 30) (dc D_cX11_widen_0 30 rfl) lC_16 rfl rfl o11 ra2 ?_
        refine r_sig (fun σ12 eσ12 => ?_)
        have h := h σ12 eσ12
        have hσ12 : RS σ12 := RS_eq eσ12 (RS.up hσ5 ra2 _ _)
        refine r_aloadn (dc D_cX11_widen_0 31 rfl) rfl rfl ?_
        refine r_callV (As := []) (st := []) (dc D_cX11_widen_0 32 rfl) cw_RX11_96 nm_yX11_forget (CX11_forget hE  _ hσ12 h) lC_0 rfl rfl (by decide) rfl rfl rfl (fun z13 σ14 rz13 hσ14 h => ?_)
        show RW layC E mi_X11_widen Φ 60 [some (.ref (eA E 0)), some (.int (iz a1)), some (.int (iz a2)), some (.int (iz v10))] [] σ14 x
        refine r_iloadn (dc D_cX11_widen_0 33 rfl) rfl rfl ?_
        exact r_iret (dc D_cX11_widen_0 34 rfl) rfl rv10 h
      · have h := h.2 c8
        refine r_bipush (n := (-2)) (dc D_cX11_widen_0 17 rfl) (by decide +kernel) ?_
        exact r_iret (dc D_cX11_widen_0 18 rfl) rfl (Rl rfl) h
  · have h := h.2 c3
    refine r_iconst (n := (-1)) (dc D_cX11_widen_0 5 rfl) ?_
    exact r_iret (dc D_cX11_widen_0 6 rfl) rfl (Rl rfl) h
-- end of GateFlow.widen
def mi_X11_bind : MI := (cX11_bind, RX11, 4, 2, (some .int), 1)
def FX11_bind (a1 a2 : Int) (σ : PS) (Φ : Int → PS → Prop) : Prop :=
  FX3_has a1 σ (fun z1 σ2 =>
  ((¬ z1 = 0 →
    ((a2 < 0 →
      Φ (-2) σ2) ∧
    (¬ a2 < 0 →
      (0 ≤ a1 ∧ a1 < 30) ∧
      ((a2 ≤ σ2 16 a1.toNat →
        (0 ≤ a1 ∧ a1 < 30) ∧
        ∀ v8 : Int, v8 = σ2 15 a1.toNat →
        (0 ≤ a1 ∧ a1 < 30) ∧
        ∀ σ10 : PS, σ10 = up2 σ2 15 a1.toNat a2 →
        FX11_forget σ10 (fun z11 σ12 =>
        Φ v8 σ12)) ∧
      (¬ a2 ≤ σ2 16 a1.toNat →
        Φ (-2) σ2))))) ∧
  (z1 = 0 →
    Φ (-1) σ2)))
set_option maxRecDepth 100000 in
theorem CX11_bind {E : EV} (hE : eOK layC E) {Φ : Int → PS → Prop} (a1 a2 : Int) (ra1 : Rg a1) (ra2 : Rg a2) (σ : PS) (hs : RS σ) (h : FX11_bind a1 a2 σ Φ) : CT layC E yX11_bind mi_X11_bind [.ref (eA E 0), .int (iz a1), .int (iz a2)] σ Φ := by
  refine ct_of (by decide +kernel) rfl hE rfl rfl hs (fun x => ?_)
  show RW layC E mi_X11_bind Φ 0 [some (.ref (eA E 0)), some (.int (iz a1)), some (.int (iz a2)), none] [] σ x
  refine r_aloadn (dc D_cX11_bind_0 0 rfl) rfl rfl ?_
  refine r_getR (dc D_cX11_bind_0 1 rfl) fw_RX11_12 lC_0 rfl ?_
  refine r_iloadn (dc D_cX11_bind_0 2 rfl) rfl rfl ?_
  refine r_callV (As := [.int (iz a1)]) (st := []) (dc D_cX11_bind_0 3 rfl) cw_RX11_103 nm_yX3_has (CX3_has hE _ ra1 _ hs h) lC_1 rfl rfl (by decide) rfl rfl rfl (fun z1 σ2 rz1 hσ2 h => ?_)
  show RW layC E mi_X11_bind Φ 8 [some (.ref (eA E 0)), some (.int (iz a1)), some (.int (iz a2)), none] [.int (iz z1)] σ2 x
  refine r_if_ne (tgt := 13) (dc D_cX11_bind_0 4 rfl) (by decide) rz1 (fun c3 => ?_) (fun c3 => ?_)
  · have h := h.1 c3
    refine r_iloadn (dc D_cX11_bind_0 7 rfl) rfl rfl ?_
    refine r_if_lt (tgt := 30) (dc D_cX11_bind_0 8 rfl) (by decide) ra2 (fun c4 => ?_) (fun c4 => ?_)
    · have h := h.1 c4
      refine r_bipush (n := (-2)) (dc D_cX11_bind_0 16 rfl) (by decide +kernel) ?_
      exact r_iret (dc D_cX11_bind_0 17 rfl) rfl (Rl rfl) h
    · have h := h.2 c4
      refine r_iloadn (dc D_cX11_bind_0 9 rfl) rfl rfl ?_
      refine r_aloadn (dc D_cX11_bind_0 10 rfl) rfl rfl ?_
      refine r_getR (dc D_cX11_bind_0 11 rfl) fw_RX11_12 lC_0 rfl ?_
      refine r_getR (dc D_cX11_bind_0 12 rfl) fw_RX11_116 lC_1 rfl ?_
      refine r_iloadn (dc D_cX11_bind_0 13 rfl) rfl rfl ?_
      obtain ⟨o5, h⟩ := h
      refine r_iald (N := 30) (dc D_cX11_bind_0 14 rfl) lC_16 rfl rfl o5 ?_
      refine r_icmp_le (tgt := 33) (dc D_cX11_bind_0 15 rfl) (by decide) ra2 (hσ2 _ _) (fun c6 => ?_) (fun c6 => ?_)
      · have h := h.1 c6
        refine r_aloadn (dc D_cX11_bind_0 18 rfl) rfl rfl ?_
        refine r_getR (dc D_cX11_bind_0 19 rfl) fw_RX11_12 lC_0 rfl ?_
        refine r_getR (dc D_cX11_bind_0 20 rfl) fw_RX11_113 lC_1 rfl ?_
        refine r_iloadn (dc D_cX11_bind_0 21 rfl) rfl rfl ?_
        obtain ⟨o7, h⟩ := h
        refine r_iald (N := 30) (dc D_cX11_bind_0 22 rfl) lC_15 rfl rfl o7 ?_
        refine r_name (fun v8 ev8 => ?_)
        have h := h v8 ev8
        have rv8 : Rg v8 := Rg_eq ev8 (hσ2 _ _)
        refine r_istoren (lv' := [some (.ref (eA E 0)), some (.int (iz a1)), some (.int (iz a2)), some (.int (iz v8))]) (dc D_cX11_bind_0 23 rfl) rfl rfl rfl ?_
        refine r_aloadn (dc D_cX11_bind_0 24 rfl) rfl rfl ?_
        refine r_getR (dc D_cX11_bind_0 25 rfl) fw_RX11_12 lC_0 rfl ?_
        refine r_getR (dc D_cX11_bind_0 26 rfl) fw_RX11_113 lC_1 rfl ?_
        refine r_iloadn (dc D_cX11_bind_0 27 rfl) rfl rfl ?_
        refine r_iloadn (dc D_cX11_bind_0 28 rfl) rfl rfl ?_
        obtain ⟨o9, h⟩ := h
        refine r_iast (N := 30) (dc D_cX11_bind_0 29 rfl) lC_15 rfl rfl o9 ra2 ?_
        refine r_sig (fun σ10 eσ10 => ?_)
        have h := h σ10 eσ10
        have hσ10 : RS σ10 := RS_eq eσ10 (RS.up hσ2 ra2 _ _)
        refine r_aloadn (dc D_cX11_bind_0 30 rfl) rfl rfl ?_
        refine r_callV (As := []) (st := []) (dc D_cX11_bind_0 31 rfl) cw_RX11_96 nm_yX11_forget (CX11_forget hE  _ hσ10 h) lC_0 rfl rfl (by decide) rfl rfl rfl (fun z11 σ12 rz11 hσ12 h => ?_)
        show RW layC E mi_X11_bind Φ 57 [some (.ref (eA E 0)), some (.int (iz a1)), some (.int (iz a2)), some (.int (iz v8))] [] σ12 x
        refine r_iloadn (dc D_cX11_bind_0 32 rfl) rfl rfl ?_
        exact r_iret (dc D_cX11_bind_0 33 rfl) rfl rv8 h
      · have h := h.2 c6
        refine r_bipush (n := (-2)) (dc D_cX11_bind_0 16 rfl) (by decide +kernel) ?_
        exact r_iret (dc D_cX11_bind_0 17 rfl) rfl (Rl rfl) h
  · have h := h.2 c3
    refine r_iconst (n := (-1)) (dc D_cX11_bind_0 5 rfl) ?_
    exact r_iret (dc D_cX11_bind_0 6 rfl) rfl (Rl rfl) h
-- end of GateFlow.bind
def mi_X11_isOneOrZero : MI := (cX11_isOneOrZero, RX11, 1, 1, (some .boolean), 1)
def FX11_isOneOrZero (a1 : Int) (σ : PS) (Φ : Int → PS → Prop) : Prop :=
  ((a1 = 0 →
    Φ 1 σ) ∧
  (¬ a1 = 0 →
    ((¬ a1 = 1 →
      Φ 0 σ) ∧
    (a1 = 1 →
      Φ 1 σ))))
set_option maxRecDepth 100000 in
theorem CX11_isOneOrZero {E : EV} (hE : eOK layC E) {Φ : Int → PS → Prop} (a1 : Int) (ra1 : Rg a1) (σ : PS) (hs : RS σ) (h : FX11_isOneOrZero a1 σ Φ) : CT layC E yX11_isOneOrZero mi_X11_isOneOrZero [.int (iz a1)] σ Φ := by
  refine ct_of (by decide +kernel) rfl hE rfl rfl hs (fun x => ?_)
  show RW layC E mi_X11_isOneOrZero Φ 0 [some (.int (iz a1))] [] σ x
  refine r_iloadn (dc D_cX11_isOneOrZero_0 0 rfl) rfl rfl ?_
  refine r_if_eq (tgt := 9) (dc D_cX11_isOneOrZero_0 1 rfl) (by decide) ra1 (fun c1 => ?_) (fun c1 => ?_)
  · have h := h.1 c1
    refine r_iconst (n := 1) (dc D_cX11_isOneOrZero_0 5 rfl) ?_
    refine r_goto (tgt := 14) (dc D_cX11_isOneOrZero_0 6 rfl) (by decide) ?_
    exact r_zret (dc D_cX11_isOneOrZero_0 8 rfl) rfl (by decide) h
  · have h := h.2 c1
    refine r_iloadn (dc D_cX11_isOneOrZero_0 2 rfl) rfl rfl ?_
    refine r_iconst (n := 1) (dc D_cX11_isOneOrZero_0 3 rfl) ?_
    refine r_icmp_ne (tgt := 13) (dc D_cX11_isOneOrZero_0 4 rfl) (by decide) ra1 (Rl rfl) (fun c2 => ?_) (fun c2 => ?_)
    · have h := h.1 c2
      refine r_iconst (n := 0) (dc D_cX11_isOneOrZero_0 7 rfl) ?_
      exact r_zret (dc D_cX11_isOneOrZero_0 8 rfl) rfl (by decide) h
    · have h := h.2 c2
      refine r_iconst (n := 1) (dc D_cX11_isOneOrZero_0 5 rfl) ?_
      refine r_goto (tgt := 14) (dc D_cX11_isOneOrZero_0 6 rfl) (by decide) ?_
      exact r_zret (dc D_cX11_isOneOrZero_0 8 rfl) rfl (by decide) h
-- end of GateFlow.isOneOrZero
def mi_X11_turn : MI := (cX11_turn, RX11, 4, 2, (some .int), 1)
def FX11_turn (a1 a2 : Int) (σ : PS) (Φ : Int → PS → Prop) : Prop :=
  FX3_has a1 σ (fun z1 σ2 =>
  ((z1 = 0 →
    Φ (-1) σ2) ∧
  (¬ z1 = 0 →
    FX11_isOneOrZero a2 σ2 (fun z4 σ5 =>
    ((¬ z4 = 0 →
      (0 ≤ a1 ∧ a1 < 30) ∧
      ∀ v8 : Int, v8 = σ5 18 a1.toNat →
      (0 ≤ a1 ∧ a1 < 30) ∧
      ∀ σ10 : PS, σ10 = up2 σ5 18 a1.toNat a2 →
      FX11_forget σ10 (fun z11 σ12 =>
      Φ v8 σ12)) ∧
    (z4 = 0 →
      Φ (-1) σ5))))))
theorem cw_RX11_125 : CWS RX11 125 yX11_isOneOrZero mi_X11_isOneOrZero := tb_r [587, 588, 97, 589] (by decide +kernel)
theorem nm_yX11_isOneOrZero : ynm yX11_isOneOrZero 1 := ⟨⟨by decide +kernel, by decide +kernel⟩, by decide +kernel⟩
set_option maxRecDepth 100000 in
theorem CX11_turn {E : EV} (hE : eOK layC E) {Φ : Int → PS → Prop} (a1 a2 : Int) (ra1 : Rg a1) (ra2 : Rg a2) (σ : PS) (hs : RS σ) (h : FX11_turn a1 a2 σ Φ) : CT layC E yX11_turn mi_X11_turn [.ref (eA E 0), .int (iz a1), .int (iz a2)] σ Φ := by
  refine ct_of (by decide +kernel) rfl hE rfl rfl hs (fun x => ?_)
  show RW layC E mi_X11_turn Φ 0 [some (.ref (eA E 0)), some (.int (iz a1)), some (.int (iz a2)), none] [] σ x
  refine r_aloadn (dc D_cX11_turn_0 0 rfl) rfl rfl ?_
  refine r_getR (dc D_cX11_turn_0 1 rfl) fw_RX11_12 lC_0 rfl ?_
  refine r_iloadn (dc D_cX11_turn_0 2 rfl) rfl rfl ?_
  refine r_callV (As := [.int (iz a1)]) (st := []) (dc D_cX11_turn_0 3 rfl) cw_RX11_103 nm_yX3_has (CX3_has hE _ ra1 _ hs h) lC_1 rfl rfl (by decide) rfl rfl rfl (fun z1 σ2 rz1 hσ2 h => ?_)
  show RW layC E mi_X11_turn Φ 8 [some (.ref (eA E 0)), some (.int (iz a1)), some (.int (iz a2)), none] [.int (iz z1)] σ2 x
  refine r_if_eq (tgt := 18) (dc D_cX11_turn_0 4 rfl) (by decide) rz1 (fun c3 => ?_) (fun c3 => ?_)
  · have h := h.1 c3
    refine r_iconst (n := (-1)) (dc D_cX11_turn_0 8 rfl) ?_
    exact r_iret (dc D_cX11_turn_0 9 rfl) rfl (Rl rfl) h
  · have h := h.2 c3
    refine r_iloadn (dc D_cX11_turn_0 5 rfl) rfl rfl ?_
    refine r_callS (As := [.int (iz a2)]) (st := []) (dc D_cX11_turn_0 6 rfl) cw_RX11_125 nm_yX11_isOneOrZero (CX11_isOneOrZero hE _ ra2 _ hσ2 h) rfl (by decide) rfl rfl rfl (fun z4 σ5 rz4 hσ5 h => ?_)
    show RW layC E mi_X11_turn Φ 15 [some (.ref (eA E 0)), some (.int (iz a1)), some (.int (iz a2)), none] [.int (iz z4)] σ5 x
    refine r_if_ne (tgt := 20) (dc D_cX11_turn_0 7 rfl) (by decide) rz4 (fun c6 => ?_) (fun c6 => ?_)
    · have h := h.1 c6
      refine r_aloadn (dc D_cX11_turn_0 10 rfl) rfl rfl ?_
      refine r_getR (dc D_cX11_turn_0 11 rfl) fw_RX11_12 lC_0 rfl ?_
      refine r_getR (dc D_cX11_turn_0 12 rfl) fw_RX11_122 lC_1 rfl ?_
      refine r_iloadn (dc D_cX11_turn_0 13 rfl) rfl rfl ?_
      obtain ⟨o7, h⟩ := h
      refine r_iald (N := 30) (dc D_cX11_turn_0 14 rfl) lC_18 rfl rfl o7 ?_
      refine r_name (fun v8 ev8 => ?_)
      have h := h v8 ev8
      have rv8 : Rg v8 := Rg_eq ev8 (hσ5 _ _)
      refine r_istoren (lv' := [some (.ref (eA E 0)), some (.int (iz a1)), some (.int (iz a2)), some (.int (iz v8))]) (dc D_cX11_turn_0 15 rfl) rfl rfl rfl ?_
      refine r_aloadn (dc D_cX11_turn_0 16 rfl) rfl rfl ?_
      refine r_getR (dc D_cX11_turn_0 17 rfl) fw_RX11_12 lC_0 rfl ?_
      refine r_getR (dc D_cX11_turn_0 18 rfl) fw_RX11_122 lC_1 rfl ?_
      refine r_iloadn (dc D_cX11_turn_0 19 rfl) rfl rfl ?_
      refine r_iloadn (dc D_cX11_turn_0 20 rfl) rfl rfl ?_
      obtain ⟨o9, h⟩ := h
      refine r_iast (N := 30) (dc D_cX11_turn_0 21 rfl) lC_18 rfl rfl o9 ra2 ?_
      refine r_sig (fun σ10 eσ10 => ?_)
      have h := h σ10 eσ10
      have hσ10 : RS σ10 := RS_eq eσ10 (RS.up hσ5 ra2 _ _)
      refine r_aloadn (dc D_cX11_turn_0 22 rfl) rfl rfl ?_
      refine r_callV (As := []) (st := []) (dc D_cX11_turn_0 23 rfl) cw_RX11_96 nm_yX11_forget (CX11_forget hE  _ hσ10 h) lC_0 rfl rfl (by decide) rfl rfl rfl (fun z11 σ12 rz11 hσ12 h => ?_)
      show RW layC E mi_X11_turn Φ 44 [some (.ref (eA E 0)), some (.int (iz a1)), some (.int (iz a2)), some (.int (iz v8))] [] σ12 x
      refine r_iloadn (dc D_cX11_turn_0 24 rfl) rfl rfl ?_
      exact r_iret (dc D_cX11_turn_0 25 rfl) rfl rv8 h
    · have h := h.2 c6
      refine r_iconst (n := (-1)) (dc D_cX11_turn_0 8 rfl) ?_
      exact r_iret (dc D_cX11_turn_0 9 rfl) rfl (Rl rfl) h
-- end of GateFlow.turn
def mi_X11_drop : MI := (cX11_drop, RX11, 1, 2, (some .int), 1)
def FX11_drop (σ : PS) (Φ : Int → PS → Prop) : Prop :=
  ((0 < σ 1 6 →
    Rg ((σ 1 6) - 1) ∧
    ∀ σ3 : PS, σ3 = up2 σ 1 6 ((σ 1 6) - 1) →
    FX11_forget σ3 (fun z4 σ5 =>
    Φ (σ5 1 6) σ5)) ∧
  (¬ 0 < σ 1 6 →
    Φ (-3) σ))
set_option maxRecDepth 100000 in
theorem CX11_drop {E : EV} (hE : eOK layC E) {Φ : Int → PS → Prop} (σ : PS) (hs : RS σ) (h : FX11_drop σ Φ) : CT layC E yX11_drop mi_X11_drop [.ref (eA E 0)] σ Φ := by
  refine ct_of (by decide +kernel) rfl hE rfl rfl hs (fun x => ?_)
  show RW layC E mi_X11_drop Φ 0 [some (.ref (eA E 0))] [] σ x
  refine r_aloadn (dc D_cX11_drop_0 0 rfl) rfl rfl ?_
  refine r_getR (dc D_cX11_drop_0 1 rfl) fw_RX11_12 lC_0 rfl ?_
  refine r_getI (dc D_cX11_drop_0 2 rfl) fw_RX11_92 lC_1 rfl ?_
  refine r_if_gt (tgt := 13) (dc D_cX11_drop_0 3 rfl) (by decide) (hs _ _) (fun c1 => ?_) (fun c1 => ?_)
  · have h := h.1 c1
    refine r_aloadn (dc D_cX11_drop_0 6 rfl) rfl rfl ?_
    refine r_getR (dc D_cX11_drop_0 7 rfl) fw_RX11_12 lC_0 rfl ?_
    refine r_dup (dc D_cX11_drop_0 8 rfl) rfl ?_
    refine r_getI (dc D_cX11_drop_0 9 rfl) fw_RX11_92 lC_1 rfl ?_
    refine r_iconst (n := 1) (dc D_cX11_drop_0 10 rfl) ?_
    refine r_isub (dc D_cX11_drop_0 11 rfl) ?_
    obtain ⟨o2, h⟩ := h
    refine r_put (dc D_cX11_drop_0 12 rfl) fw_RX11_92 fp_3_6 lC_1 rfl (nar_int _) o2 ?_
    refine r_sig (fun σ3 eσ3 => ?_)
    have h := h σ3 eσ3
    have hσ3 : RS σ3 := RS_eq eσ3 (RS.up hs o2 _ _)
    refine r_aloadn (dc D_cX11_drop_0 13 rfl) rfl rfl ?_
    refine r_callV (As := []) (st := []) (dc D_cX11_drop_0 14 rfl) cw_RX11_96 nm_yX11_forget (CX11_forget hE  _ hσ3 h) lC_0 rfl rfl (by decide) rfl rfl rfl (fun z4 σ5 rz4 hσ5 h => ?_)
    show RW layC E mi_X11_drop Φ 30 [some (.ref (eA E 0))] [] σ5 x
    refine r_aloadn (dc D_cX11_drop_0 15 rfl) rfl rfl ?_
    refine r_getR (dc D_cX11_drop_0 16 rfl) fw_RX11_12 lC_0 rfl ?_
    refine r_getI (dc D_cX11_drop_0 17 rfl) fw_RX11_92 lC_1 rfl ?_
    exact r_iret (dc D_cX11_drop_0 18 rfl) rfl (hσ5 _ _) h
  · have h := h.2 c1
    refine r_bipush (n := (-3)) (dc D_cX11_drop_0 4 rfl) (by decide +kernel) ?_
    exact r_iret (dc D_cX11_drop_0 5 rfl) rfl (Rl rfl) h
