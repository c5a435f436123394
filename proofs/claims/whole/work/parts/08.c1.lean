def mi_X11_isNode : MI := (cX11_isNode, RX11, 1, 1, (some .boolean), 1)
def FX11_isNode (a1 : Int) (σ : PS) (Φ : Int → PS → Prop) : Prop :=
  ((a1 < 0 →
    Φ 0 σ) ∧
  (¬ a1 < 0 →
    ((12 ≤ a1 →
      Φ 0 σ) ∧
    (¬ 12 ≤ a1 →
      Φ 1 σ))))
set_option maxRecDepth 100000 in
theorem CX11_isNode {E : EV} (hE : eOK layC E) {Φ : Int → PS → Prop} (a1 : Int) (ra1 : Rg a1) (σ : PS) (hs : RS σ) (h : FX11_isNode a1 σ Φ) : CT layC E yX11_isNode mi_X11_isNode [.int (iz a1)] σ Φ := by
  refine ct_of (by decide +kernel) rfl hE rfl rfl hs (fun x => ?_)
  show RW layC E mi_X11_isNode Φ 0 [some (.int (iz a1))] [] σ x
  refine r_iloadn (dc D_cX11_isNode_0 0 rfl) rfl rfl ?_
  refine r_if_lt (tgt := 14) (dc D_cX11_isNode_0 1 rfl) (by decide) ra1 (fun c1 => ?_) (fun c1 => ?_)
  · have h := h.1 c1
    refine r_iconst (n := 0) (dc D_cX11_isNode_0 7 rfl) ?_
    exact r_zret (dc D_cX11_isNode_0 8 rfl) rfl (by decide) h
  · have h := h.2 c1
    refine r_iloadn (dc D_cX11_isNode_0 2 rfl) rfl rfl ?_
    refine r_bipush (n := 12) (dc D_cX11_isNode_0 3 rfl) (by decide +kernel) ?_
    refine r_icmp_ge (tgt := 14) (dc D_cX11_isNode_0 4 rfl) (by decide) ra1 (Rl rfl) (fun c2 => ?_) (fun c2 => ?_)
    · have h := h.1 c2
      refine r_iconst (n := 0) (dc D_cX11_isNode_0 7 rfl) ?_
      exact r_zret (dc D_cX11_isNode_0 8 rfl) rfl (by decide) h
    · have h := h.2 c2
      refine r_iconst (n := 1) (dc D_cX11_isNode_0 5 rfl) ?_
      refine r_goto (tgt := 15) (dc D_cX11_isNode_0 6 rfl) (by decide) ?_
      exact r_zret (dc D_cX11_isNode_0 8 rfl) rfl (by decide) h
-- end of GateFlow.isNode
def mi_X11_isCapacity : MI := (cX11_isCapacity, RX11, 1, 1, (some .boolean), 1)
def FX11_isCapacity (a1 : Int) (σ : PS) (Φ : Int → PS → Prop) : Prop :=
  ((a1 < 0 →
    Φ 0 σ) ∧
  (¬ a1 < 0 →
    ((999 < a1 →
      Φ 0 σ) ∧
    (¬ 999 < a1 →
      Φ 1 σ))))
set_option maxRecDepth 100000 in
theorem CX11_isCapacity {E : EV} (hE : eOK layC E) {Φ : Int → PS → Prop} (a1 : Int) (ra1 : Rg a1) (σ : PS) (hs : RS σ) (h : FX11_isCapacity a1 σ Φ) : CT layC E yX11_isCapacity mi_X11_isCapacity [.int (iz a1)] σ Φ := by
  refine ct_of (by decide +kernel) rfl hE rfl rfl hs (fun x => ?_)
  show RW layC E mi_X11_isCapacity Φ 0 [some (.int (iz a1))] [] σ x
  refine r_iloadn (dc D_cX11_isCapacity_0 0 rfl) rfl rfl ?_
  refine r_if_lt (tgt := 15) (dc D_cX11_isCapacity_0 1 rfl) (by decide) ra1 (fun c1 => ?_) (fun c1 => ?_)
  · have h := h.1 c1
    refine r_iconst (n := 0) (dc D_cX11_isCapacity_0 7 rfl) ?_
    exact r_zret (dc D_cX11_isCapacity_0 8 rfl) rfl (by decide) h
  · have h := h.2 c1
    refine r_iloadn (dc D_cX11_isCapacity_0 2 rfl) rfl rfl ?_
    refine r_sipush (n := 999) (dc D_cX11_isCapacity_0 3 rfl) (by decide +kernel) ?_
    refine r_icmp_gt (tgt := 15) (dc D_cX11_isCapacity_0 4 rfl) (by decide) ra1 (Rl rfl) (fun c2 => ?_) (fun c2 => ?_)
    · have h := h.1 c2
      refine r_iconst (n := 0) (dc D_cX11_isCapacity_0 7 rfl) ?_
      exact r_zret (dc D_cX11_isCapacity_0 8 rfl) rfl (by decide) h
    · have h := h.2 c2
      refine r_iconst (n := 1) (dc D_cX11_isCapacity_0 5 rfl) ?_
      refine r_goto (tgt := 16) (dc D_cX11_isCapacity_0 6 rfl) (by decide) ?_
      exact r_zret (dc D_cX11_isCapacity_0 8 rfl) rfl (by decide) h
-- end of GateFlow.isCapacity
def mi_X11_isDelay : MI := (cX11_isDelay, RX11, 1, 1, (some .boolean), 1)
def FX11_isDelay (a1 : Int) (σ : PS) (Φ : Int → PS → Prop) : Prop :=
  ((a1 < 1 →
    Φ 0 σ) ∧
  (¬ a1 < 1 →
    ((3 < a1 →
      Φ 0 σ) ∧
    (¬ 3 < a1 →
      Φ 1 σ))))
set_option maxRecDepth 100000 in
theorem CX11_isDelay {E : EV} (hE : eOK layC E) {Φ : Int → PS → Prop} (a1 : Int) (ra1 : Rg a1) (σ : PS) (hs : RS σ) (h : FX11_isDelay a1 σ Φ) : CT layC E yX11_isDelay mi_X11_isDelay [.int (iz a1)] σ Φ := by
  refine ct_of (by decide +kernel) rfl hE rfl rfl hs (fun x => ?_)
  show RW layC E mi_X11_isDelay Φ 0 [some (.int (iz a1))] [] σ x
  refine r_iloadn (dc D_cX11_isDelay_0 0 rfl) rfl rfl ?_
  refine r_iconst (n := 1) (dc D_cX11_isDelay_0 1 rfl) ?_
  refine r_icmp_lt (tgt := 14) (dc D_cX11_isDelay_0 2 rfl) (by decide) ra1 (Rl rfl) (fun c1 => ?_) (fun c1 => ?_)
  · have h := h.1 c1
    refine r_iconst (n := 0) (dc D_cX11_isDelay_0 8 rfl) ?_
    exact r_zret (dc D_cX11_isDelay_0 9 rfl) rfl (by decide) h
  · have h := h.2 c1
    refine r_iloadn (dc D_cX11_isDelay_0 3 rfl) rfl rfl ?_
    refine r_iconst (n := 3) (dc D_cX11_isDelay_0 4 rfl) ?_
    refine r_icmp_gt (tgt := 14) (dc D_cX11_isDelay_0 5 rfl) (by decide) ra1 (Rl rfl) (fun c2 => ?_) (fun c2 => ?_)
    · have h := h.1 c2
      refine r_iconst (n := 0) (dc D_cX11_isDelay_0 8 rfl) ?_
      exact r_zret (dc D_cX11_isDelay_0 9 rfl) rfl (by decide) h
    · have h := h.2 c2
      refine r_iconst (n := 1) (dc D_cX11_isDelay_0 6 rfl) ?_
      refine r_goto (tgt := 15) (dc D_cX11_isDelay_0 7 rfl) (by decide) ?_
      exact r_zret (dc D_cX11_isDelay_0 9 rfl) rfl (by decide) h
-- end of GateFlow.isDelay
def mi_X11_forget : MI := (cX11_forget, RX11, 1, 1, none, 0)
def FX11_forget (σ : PS) (Φ : Int → PS → Prop) : Prop :=
  ∀ σ1 : PS, σ1 = up2 σ 0 4 0 →
  ∀ σ2 : PS, σ2 = up2 σ1 0 6 0 →
  ∀ σ3 : PS, σ3 = up2 σ2 0 8 0 →
  ∀ σ4 : PS, σ4 = up2 σ3 0 10 0 →
  Φ 0 σ4
theorem fw_RX11_12 : FW RX11 12 11 0 := ⟨RX11, TX11, 16, rfl, by decide, rfl, tb_1 497 (by decide +kernel), uw_11⟩
theorem fw_RX11_92 : FW RX11 92 3 6 := ⟨RX3, TX3, 9, rfl, by decide, rfl, tb_1 172 (by decide +kernel), uw_3⟩
theorem fw_RX11_330 : FW RX11 330 11 4 := ⟨RX11, TX11, 16, rfl, by decide, rfl, tb_1 501 (by decide +kernel), uw_11⟩
theorem fp_11_4 : FP 11 4 .boolean := ⟨RX11, TX11, 16, tyX11, rfl, tyX11_ok, nmX11, rfl, by decide +kernel⟩
theorem fw_RX11_333 : FW RX11 333 11 6 := ⟨RX11, TX11, 16, rfl, by decide, rfl, tb_1 503 (by decide +kernel), uw_11⟩
theorem fp_11_6 : FP 11 6 .boolean := ⟨RX11, TX11, 16, tyX11, rfl, tyX11_ok, nmX11, rfl, by decide +kernel⟩
theorem fw_RX11_336 : FW RX11 336 11 8 := ⟨RX11, TX11, 16, rfl, by decide, rfl, tb_1 505 (by decide +kernel), uw_11⟩
theorem fp_11_8 : FP 11 8 .boolean := ⟨RX11, TX11, 16, tyX11, rfl, tyX11_ok, nmX11, rfl, by decide +kernel⟩
theorem fw_RX11_339 : FW RX11 339 11 10 := ⟨RX11, TX11, 16, rfl, by decide, rfl, tb_1 507 (by decide +kernel), uw_11⟩
theorem fp_11_10 : FP 11 10 .boolean := ⟨RX11, TX11, 16, tyX11, rfl, tyX11_ok, nmX11, rfl, by decide +kernel⟩
set_option maxRecDepth 100000 in
theorem CX11_forget {E : EV} (hE : eOK layC E) {Φ : Int → PS → Prop} (σ : PS) (hs : RS σ) (h : FX11_forget σ Φ) : CT layC E yX11_forget mi_X11_forget [.ref (eA E 0)] σ Φ := by
  refine ct_of (by decide +kernel) rfl hE rfl rfl hs (fun x => ?_)
  show RW layC E mi_X11_forget Φ 0 [some (.ref (eA E 0))] [] σ x
  refine r_aloadn (dc D_cX11_forget_0 0 rfl) rfl rfl ?_
  refine r_iconst (n := 0) (dc D_cX11_forget_0 1 rfl) ?_
  refine r_put (dc D_cX11_forget_0 2 rfl) fw_RX11_330 fp_11_4 lC_0 rfl (nar_bool (by decide)) (Rl rfl) ?_
  refine r_sig (fun σ1 eσ1 => ?_)
  have h := h σ1 eσ1
  have hσ1 : RS σ1 := RS_eq eσ1 (RS.up hs (Rl rfl) _ _)
  refine r_aloadn (dc D_cX11_forget_0 3 rfl) rfl rfl ?_
  refine r_iconst (n := 0) (dc D_cX11_forget_0 4 rfl) ?_
  refine r_put (dc D_cX11_forget_0 5 rfl) fw_RX11_333 fp_11_6 lC_0 rfl (nar_bool (by decide)) (Rl rfl) ?_
  refine r_sig (fun σ2 eσ2 => ?_)
  have h := h σ2 eσ2
  have hσ2 : RS σ2 := RS_eq eσ2 (RS.up hσ1 (Rl rfl) _ _)
  refine r_aloadn (dc D_cX11_forget_0 6 rfl) rfl rfl ?_
  refine r_iconst (n := 0) (dc D_cX11_forget_0 7 rfl) ?_
  refine r_put (dc D_cX11_forget_0 8 rfl) fw_RX11_336 fp_11_8 lC_0 rfl (nar_bool (by decide)) (Rl rfl) ?_
  refine r_sig (fun σ3 eσ3 => ?_)
  have h := h σ3 eσ3
  have hσ3 : RS σ3 := RS_eq eσ3 (RS.up hσ2 (Rl rfl) _ _)
  refine r_aloadn (dc D_cX11_forget_0 9 rfl) rfl rfl ?_
  refine r_iconst (n := 0) (dc D_cX11_forget_0 10 rfl) ?_
  refine r_put (dc D_cX11_forget_0 11 rfl) fw_RX11_339 fp_11_10 lC_0 rfl (nar_bool (by decide)) (Rl rfl) ?_
  refine r_sig (fun σ4 eσ4 => ?_)
  have h := h σ4 eσ4
  have hσ4 : RS σ4 := RS_eq eσ4 (RS.up hσ3 (Rl rfl) _ _)
  exact r_vret (dc D_cX11_forget_0 12 rfl) rfl h
-- end of GateFlow.forget
def mi_X3_add : MI := (cX3_add, RX3, 7, 1, (some .int), 1)
def FX3_add (a1 a2 a3 a4 a5 a6 : Int) (σ : PS) (Φ : Int → PS → Prop) : Prop :=
  ((σ 1 6 < 0 →
    Φ (-4) σ) ∧
  (¬ σ 1 6 < 0 →
    ((σ 1 6 < 30 →
      (0 ≤ σ 1 6 ∧ σ 1 6 < 30) ∧
      ∀ σ4 : PS, σ4 = up2 σ 13 (σ 1 6).toNat a1 →
      (0 ≤ σ4 1 6 ∧ σ4 1 6 < 30) ∧
      ∀ σ6 : PS, σ6 = up2 σ4 14 (σ4 1 6).toNat a2 →
      (0 ≤ σ6 1 6 ∧ σ6 1 6 < 30) ∧
      ∀ σ8 : PS, σ8 = up2 σ6 15 (σ6 1 6).toNat a3 →
      (0 ≤ σ8 1 6 ∧ σ8 1 6 < 30) ∧
      ∀ σ10 : PS, σ10 = up2 σ8 16 (σ8 1 6).toNat a4 →
      (0 ≤ σ10 1 6 ∧ σ10 1 6 < 30) ∧
      ∀ σ12 : PS, σ12 = up2 σ10 17 (σ10 1 6).toNat a5 →
      (0 ≤ σ12 1 6 ∧ σ12 1 6 < 30) ∧
      ∀ σ14 : PS, σ14 = up2 σ12 18 (σ12 1 6).toNat a6 →
      Rg ((σ14 1 6) + 1) ∧
      ∀ σ16 : PS, σ16 = up2 σ14 1 6 ((σ14 1 6) + 1) →
      Rg ((σ16 1 6) - 1) ∧
      Φ ((σ16 1 6) - 1) σ16) ∧
    (¬ σ 1 6 < 30 →
      Φ (-4) σ))))
theorem fw_RX3_34 : FW RX3 34 3 6 := ⟨RX3, TX3, 9, rfl, by decide, rfl, tb_1 167 (by decide +kernel), uw_3⟩
theorem fw_RX3_9 : FW RX3 9 3 0 := ⟨RX3, TX3, 9, rfl, by decide, rfl, tb_1 132 (by decide +kernel), uw_3⟩
theorem fw_RX3_15 : FW RX3 15 3 1 := ⟨RX3, TX3, 9, rfl, by decide, rfl, tb_1 141 (by decide +kernel), uw_3⟩
theorem fw_RX3_18 : FW RX3 18 3 2 := ⟨RX3, TX3, 9, rfl, by decide, rfl, tb_1 150 (by decide +kernel), uw_3⟩
theorem fw_RX3_21 : FW RX3 21 3 3 := ⟨RX3, TX3, 9, rfl, by decide, rfl, tb_1 154 (by decide +kernel), uw_3⟩
theorem fw_RX3_24 : FW RX3 24 3 4 := ⟨RX3, TX3, 9, rfl, by decide, rfl, tb_1 158 (by decide +kernel), uw_3⟩
theorem fw_RX3_27 : FW RX3 27 3 5 := ⟨RX3, TX3, 9, rfl, by decide, rfl, tb_1 163 (by decide +kernel), uw_3⟩
theorem fp_3_6 : FP 3 6 .int := ⟨RX3, TX3, 9, tyX3, rfl, tyX3_ok, nmX3, rfl, by decide +kernel⟩
set_option maxRecDepth 100000 in
theorem CX3_add {E : EV} (hE : eOK layC E) {Φ : Int → PS → Prop} (a1 a2 a3 a4 a5 a6 : Int) (ra1 : Rg a1) (ra2 : Rg a2) (ra3 : Rg a3) (ra4 : Rg a4) (ra5 : Rg a5) (ra6 : Rg a6) (σ : PS) (hs : RS σ) (h : FX3_add a1 a2 a3 a4 a5 a6 σ Φ) : CT layC E yX3_add mi_X3_add [.ref (eA E 1), .int (iz a1), .int (iz a2), .int (iz a3), .int (iz a4), .int (iz a5), .int (iz a6)] σ Φ := by
  refine ct_of (by decide +kernel) rfl hE rfl rfl hs (fun x => ?_)
  show RW layC E mi_X3_add Φ 0 [some (.ref (eA E 1)), some (.int (iz a1)), some (.int (iz a2)), some (.int (iz a3)), some (.int (iz a4)), some (.int (iz a5)), some (.int (iz a6))] [] σ x
  refine r_aloadn (dc D_cX3_add_0 0 rfl) rfl rfl ?_
  refine r_getI (dc D_cX3_add_0 1 rfl) fw_RX3_34 lC_1 rfl ?_
  refine r_if_lt (tgt := 16) (dc D_cX3_add_0 2 rfl) (by decide) (hs _ _) (fun c1 => ?_) (fun c1 => ?_)
  · have h := h.1 c1
    refine r_bipush (n := (-4)) (dc D_cX3_add_0 7 rfl) (by decide +kernel) ?_
    exact r_iret (dc D_cX3_add_0 8 rfl) rfl (Rl rfl) h
  · have h := h.2 c1
    refine r_aloadn (dc D_cX3_add_0 3 rfl) rfl rfl ?_
    refine r_getI (dc D_cX3_add_0 4 rfl) fw_RX3_34 lC_1 rfl ?_
    refine r_bipush (n := 30) (dc D_cX3_add_0 5 rfl) (by decide +kernel) ?_
    refine r_icmp_lt (tgt := 19) (dc D_cX3_add_0 6 rfl) (by decide) (hs _ _) (Rl rfl) (fun c2 => ?_) (fun c2 => ?_)
    · have h := h.1 c2
      refine r_aloadn (dc D_cX3_add_0 9 rfl) rfl rfl ?_
      refine r_getR (dc D_cX3_add_0 10 rfl) fw_RX3_9 lC_1 rfl ?_
      refine r_aloadn (dc D_cX3_add_0 11 rfl) rfl rfl ?_
      refine r_getI (dc D_cX3_add_0 12 rfl) fw_RX3_34 lC_1 rfl ?_
      refine r_iloadn (dc D_cX3_add_0 13 rfl) rfl rfl ?_
      obtain ⟨o3, h⟩ := h
      refine r_iast (N := 30) (dc D_cX3_add_0 14 rfl) lC_13 rfl rfl o3 ra1 ?_
      refine r_sig (fun σ4 eσ4 => ?_)
      have h := h σ4 eσ4
      have hσ4 : RS σ4 := RS_eq eσ4 (RS.up hs ra1 _ _)
      refine r_aloadn (dc D_cX3_add_0 15 rfl) rfl rfl ?_
      refine r_getR (dc D_cX3_add_0 16 rfl) fw_RX3_15 lC_1 rfl ?_
      refine r_aloadn (dc D_cX3_add_0 17 rfl) rfl rfl ?_
      refine r_getI (dc D_cX3_add_0 18 rfl) fw_RX3_34 lC_1 rfl ?_
      refine r_iloadn (dc D_cX3_add_0 19 rfl) rfl rfl ?_
      obtain ⟨o5, h⟩ := h
      refine r_iast (N := 30) (dc D_cX3_add_0 20 rfl) lC_14 rfl rfl o5 ra2 ?_
      refine r_sig (fun σ6 eσ6 => ?_)
      have h := h σ6 eσ6
      have hσ6 : RS σ6 := RS_eq eσ6 (RS.up hσ4 ra2 _ _)
      refine r_aloadn (dc D_cX3_add_0 21 rfl) rfl rfl ?_
      refine r_getR (dc D_cX3_add_0 22 rfl) fw_RX3_18 lC_1 rfl ?_
      refine r_aloadn (dc D_cX3_add_0 23 rfl) rfl rfl ?_
      refine r_getI (dc D_cX3_add_0 24 rfl) fw_RX3_34 lC_1 rfl ?_
      refine r_iloadn (dc D_cX3_add_0 25 rfl) rfl rfl ?_
      obtain ⟨o7, h⟩ := h
      refine r_iast (N := 30) (dc D_cX3_add_0 26 rfl) lC_15 rfl rfl o7 ra3 ?_
      refine r_sig (fun σ8 eσ8 => ?_)
      have h := h σ8 eσ8
      have hσ8 : RS σ8 := RS_eq eσ8 (RS.up hσ6 ra3 _ _)
      refine r_aloadn (dc D_cX3_add_0 27 rfl) rfl rfl ?_
      refine r_getR (dc D_cX3_add_0 28 rfl) fw_RX3_21 lC_1 rfl ?_
      refine r_aloadn (dc D_cX3_add_0 29 rfl) rfl rfl ?_
      refine r_getI (dc D_cX3_add_0 30 rfl) fw_RX3_34 lC_1 rfl ?_
      refine r_iload (dc D_cX3_add_0 31 rfl) rfl ?_
      obtain ⟨o9, h⟩ := h
      refine r_iast (N := 30) (dc D_cX3_add_0 32 rfl) lC_16 rfl rfl o9 ra4 ?_
      refine r_sig (fun σ10 eσ10 => ?_)
      have h := h σ10 eσ10
      have hσ10 : RS σ10 := RS_eq eσ10 (RS.up hσ8 ra4 _ _)
      refine r_aloadn (dc D_cX3_add_0 33 rfl) rfl rfl ?_
      refine r_getR (dc D_cX3_add_0 34 rfl) fw_RX3_24 lC_1 rfl ?_
      refine r_aloadn (dc D_cX3_add_0 35 rfl) rfl rfl ?_
      refine r_getI (dc D_cX3_add_0 36 rfl) fw_RX3_34 lC_1 rfl ?_
      refine r_iload (dc D_cX3_add_0 37 rfl) rfl ?_
      obtain ⟨o11, h⟩ := h
      refine r_iast (N := 30) (dc D_cX3_add_0 38 rfl) lC_17 rfl rfl o11 ra5 ?_
      refine r_sig (fun σ12 eσ12 => ?_)
      have h := h σ12 eσ12
      have hσ12 : RS σ12 := RS_eq eσ12 (RS.up hσ10 ra5 _ _)
      refine r_aloadn (dc D_cX3_add_0 39 rfl) rfl rfl ?_
      refine r_getR (dc D_cX3_add_1 0 rfl) fw_RX3_27 lC_1 rfl ?_
      refine r_aloadn (dc D_cX3_add_1 1 rfl) rfl rfl ?_
      refine r_getI (dc D_cX3_add_1 2 rfl) fw_RX3_34 lC_1 rfl ?_
      refine r_iload (dc D_cX3_add_1 3 rfl) rfl ?_
      obtain ⟨o13, h⟩ := h
      refine r_iast (N := 30) (dc D_cX3_add_1 4 rfl) lC_18 rfl rfl o13 ra6 ?_
      refine r_sig (fun σ14 eσ14 => ?_)
      have h := h σ14 eσ14
      have hσ14 : RS σ14 := RS_eq eσ14 (RS.up hσ12 ra6 _ _)
      refine r_aloadn (dc D_cX3_add_1 5 rfl) rfl rfl ?_
      refine r_dup (dc D_cX3_add_1 6 rfl) rfl ?_
      refine r_getI (dc D_cX3_add_1 7 rfl) fw_RX3_34 lC_1 rfl ?_
      refine r_iconst (n := 1) (dc D_cX3_add_1 8 rfl) ?_
      refine r_iadd (dc D_cX3_add_1 9 rfl) ?_
      obtain ⟨o15, h⟩ := h
      refine r_put (dc D_cX3_add_1 10 rfl) fw_RX3_34 fp_3_6 lC_1 rfl (nar_int _) o15 ?_
      refine r_sig (fun σ16 eσ16 => ?_)
      have h := h σ16 eσ16
      have hσ16 : RS σ16 := RS_eq eσ16 (RS.up hσ14 o15 _ _)
      refine r_aloadn (dc D_cX3_add_1 11 rfl) rfl rfl ?_
      refine r_getI (dc D_cX3_add_1 12 rfl) fw_RX3_34 lC_1 rfl ?_
      refine r_iconst (n := 1) (dc D_cX3_add_1 13 rfl) ?_
      refine r_isub (dc D_cX3_add_1 14 rfl) ?_
      obtain ⟨o17, h⟩ := h
      exact r_iret (dc D_cX3_add_1 15 rfl) rfl o17 h
    · have h := h.2 c2
      refine r_bipush (n := (-4)) (dc D_cX3_add_0 7 rfl) (by decide +kernel) ?_
      exact r_iret (dc D_cX3_add_0 8 rfl) rfl (Rl rfl) h
-- end of GateFlow$Gates.add
def mi_X11_gate : MI := (cX11_gate, RX11, 6, 2, (some .int), 1)
def FX11_gate (a1 a2 a3 a4 a5 : Int) (σ : PS) (Φ : Int → PS → Prop) : Prop :=
  FX11_isNode a1 σ (fun z1 σ2 =>
  ((z1 = 0 →
    Φ (-1) σ2) ∧
  (¬ z1 = 0 →
    FX11_isNode a2 σ2 (fun z4 σ5 =>
    ((z4 = 0 →
      Φ (-1) σ5) ∧
    (¬ z4 = 0 →
      ((¬ a1 = a2 →
        FX11_isCapacity a4 σ5 (fun z8 σ9 =>
        ((z8 = 0 →
          Φ (-2) σ9) ∧
        (¬ z8 = 0 →
          ((a3 < 0 →
            Φ (-2) σ9) ∧
          (¬ a3 < 0 →
            ((a4 < a3 →
              Φ (-2) σ9) ∧
            (¬ a4 < a3 →
              FX11_isDelay a5 σ9 (fun z13 σ14 =>
              ((¬ z13 = 0 →
                ((σ14 1 6 < 30 →
                  FX11_forget σ14 (fun z17 σ18 =>
                  FX3_add a1 a2 a3 a4 a5 1 σ18 (fun z19 σ20 =>
                  Φ z19 σ20))) ∧
                (¬ σ14 1 6 < 30 →
                  Φ (-4) σ14))) ∧
              (z13 = 0 →
                Φ (-2) σ14))))))))))) ∧
      (a1 = a2 →
        Φ (-1) σ5))))))))
theorem cw_RX11_82 : CWS RX11 82 yX11_isNode mi_X11_isNode := tb_r [550, 551, 97, 552] (by decide +kernel)
theorem nm_yX11_isNode : ynm yX11_isNode 1 := ⟨⟨by decide +kernel, by decide +kernel⟩, by decide +kernel⟩
theorem cw_RX11_86 : CWS RX11 86 yX11_isCapacity mi_X11_isCapacity := tb_r [553, 554, 97, 555] (by decide +kernel)
theorem nm_yX11_isCapacity : ynm yX11_isCapacity 1 := ⟨⟨by decide +kernel, by decide +kernel⟩, by decide +kernel⟩
theorem cw_RX11_89 : CWS RX11 89 yX11_isDelay mi_X11_isDelay := tb_r [556, 557, 97, 558] (by decide +kernel)
theorem nm_yX11_isDelay : ynm yX11_isDelay 1 := ⟨⟨by decide +kernel, by decide +kernel⟩, by decide +kernel⟩
theorem cw_RX11_96 : CWV RX11 96 yX11_forget mi_X11_forget := tb_r [559, 561, 0, 97, 562] (by decide +kernel)
theorem nm_yX11_forget : ynm yX11_forget 0 := ⟨⟨by decide +kernel, by decide +kernel⟩, by decide +kernel⟩
theorem cw_RX11_99 : CWV RX11 99 yX3_add mi_X3_add := tb_r [563, 564, 565, 98, 566] (by decide +kernel)
theorem nm_yX3_add : ynm yX3_add 6 := ⟨⟨by decide +kernel, by decide +kernel⟩, by decide +kernel⟩
set_option maxRecDepth 100000 in
theorem CX11_gate {E : EV} (hE : eOK layC E) {Φ : Int → PS → Prop} (a1 a2 a3 a4 a5 : Int) (ra1 : Rg a1) (ra2 : Rg a2) (ra3 : Rg a3) (ra4 : Rg a4) (ra5 : Rg a5) (σ : PS) (hs : RS σ) (h : FX11_gate a1 a2 a3 a4 a5 σ Φ) : CT layC E yX11_gate mi_X11_gate [.ref (eA E 0), .int (iz a1), .int (iz a2), .int (iz a3), .int (iz a4), .int (iz a5)] σ Φ := by
  refine ct_of (by decide +kernel) rfl hE rfl rfl hs (fun x => ?_)
  show RW layC E mi_X11_gate Φ 0 [some (.ref (eA E 0)), some (.int (iz a1)), some (.int (iz a2)), some (.int (iz a3)), some (.int (iz a4)), some (.int (iz a5))] [] σ x
  refine r_iloadn (dc D_cX11_gate_0 0 rfl) rfl rfl ?_
  refine r_callS (As := [.int (iz a1)]) (st := []) (dc D_cX11_gate_0 1 rfl) cw_RX11_82 nm_yX11_isNode (CX11_isNode hE _ ra1 _ hs h) rfl (by decide) rfl rfl rfl (fun z1 σ2 rz1 hσ2 h => ?_)
  show RW layC E mi_X11_gate Φ 4 [some (.ref (eA E 0)), some (.int (iz a1)), some (.int (iz a2)), some (.int (iz a3)), some (.int (iz a4)), some (.int (iz a5))] [.int (iz z1)] σ2 x
  refine r_if_eq (tgt := 19) (dc D_cX11_gate_0 2 rfl) (by decide) rz1 (fun c3 => ?_) (fun c3 => ?_)
  · have h := h.1 c3
    refine r_iconst (n := (-1)) (dc D_cX11_gate_0 9 rfl) ?_
    exact r_iret (dc D_cX11_gate_0 10 rfl) rfl (Rl rfl) h
  · have h := h.2 c3
    refine r_iloadn (dc D_cX11_gate_0 3 rfl) rfl rfl ?_
    refine r_callS (As := [.int (iz a2)]) (st := []) (dc D_cX11_gate_0 4 rfl) cw_RX11_82 nm_yX11_isNode (CX11_isNode hE _ ra2 _ hσ2 h) rfl (by decide) rfl rfl rfl (fun z4 σ5 rz4 hσ5 h => ?_)
    show RW layC E mi_X11_gate Φ 11 [some (.ref (eA E 0)), some (.int (iz a1)), some (.int (iz a2)), some (.int (iz a3)), some (.int (iz a4)), some (.int (iz a5))] [.int (iz z4)] σ5 x
    refine r_if_eq (tgt := 19) (dc D_cX11_gate_0 5 rfl) (by decide) rz4 (fun c6 => ?_) (fun c6 => ?_)
    · have h := h.1 c6
      refine r_iconst (n := (-1)) (dc D_cX11_gate_0 9 rfl) ?_
      exact r_iret (dc D_cX11_gate_0 10 rfl) rfl (Rl rfl) h
    · have h := h.2 c6
      refine r_iloadn (dc D_cX11_gate_0 6 rfl) rfl rfl ?_
      refine r_iloadn (dc D_cX11_gate_0 7 rfl) rfl rfl ?_
      refine r_icmp_ne (tgt := 21) (dc D_cX11_gate_0 8 rfl) (by decide) ra1 ra2 (fun c7 => ?_) (fun c7 => ?_)
      · have h := h.1 c7
        refine r_iload (dc D_cX11_gate_0 11 rfl) rfl ?_
        refine r_callS (As := [.int (iz a4)]) (st := []) (dc D_cX11_gate_0 12 rfl) cw_RX11_86 nm_yX11_isCapacity (CX11_isCapacity hE _ ra4 _ hσ5 h) rfl (by decide) rfl rfl rfl (fun z8 σ9 rz8 hσ9 h => ?_)
        show RW layC E mi_X11_gate Φ 26 [some (.ref (eA E 0)), some (.int (iz a1)), some (.int (iz a2)), some (.int (iz a3)), some (.int (iz a4)), some (.int (iz a5))] [.int (iz z8)] σ9 x
        refine r_if_eq (tgt := 47) (dc D_cX11_gate_0 13 rfl) (by decide) rz8 (fun c10 => ?_) (fun c10 => ?_)
        · have h := h.1 c10
          refine r_bipush (n := (-2)) (dc D_cX11_gate_0 22 rfl) (by decide +kernel) ?_
          exact r_iret (dc D_cX11_gate_0 23 rfl) rfl (Rl rfl) h
        · have h := h.2 c10
          refine r_iloadn (dc D_cX11_gate_0 14 rfl) rfl rfl ?_
          refine r_if_lt (tgt := 47) (dc D_cX11_gate_0 15 rfl) (by decide) ra3 (fun c11 => ?_) (fun c11 => ?_)
          · have h := h.1 c11
            refine r_bipush (n := (-2)) (dc D_cX11_gate_0 22 rfl) (by decide +kernel) ?_
            exact r_iret (dc D_cX11_gate_0 23 rfl) rfl (Rl rfl) h
          · have h := h.2 c11
            refine r_iloadn (dc D_cX11_gate_0 16 rfl) rfl rfl ?_
            refine r_iload (dc D_cX11_gate_0 17 rfl) rfl ?_
            refine r_icmp_gt (tgt := 47) (dc D_cX11_gate_0 18 rfl) (by decide) ra3 ra4 (fun c12 => ?_) (fun c12 => ?_)
            · have h := h.1 c12
              refine r_bipush (n := (-2)) (dc D_cX11_gate_0 22 rfl) (by decide +kernel) ?_
              exact r_iret (dc D_cX11_gate_0 23 rfl) rfl (Rl rfl) h
            · have h := h.2 c12
              refine r_iload (dc D_cX11_gate_0 19 rfl) rfl ?_
              refine r_callS (As := [.int (iz a5)]) (st := []) (dc D_cX11_gate_0 20 rfl) cw_RX11_89 nm_yX11_isDelay (CX11_isDelay hE _ ra5 _ hσ9 h) rfl (by decide) rfl rfl rfl (fun z13 σ14 rz13 hσ14 h => ?_)
              show RW layC E mi_X11_gate Φ 44 [some (.ref (eA E 0)), some (.int (iz a1)), some (.int (iz a2)), some (.int (iz a3)), some (.int (iz a4)), some (.int (iz a5))] [.int (iz z13)] σ14 x
              refine r_if_ne (tgt := 50) (dc D_cX11_gate_0 21 rfl) (by decide) rz13 (fun c15 => ?_) (fun c15 => ?_)
              · have h := h.1 c15
                refine r_aloadn (dc D_cX11_gate_0 24 rfl) rfl rfl ?_
                refine r_getR (dc D_cX11_gate_0 25 rfl) fw_RX11_12 lC_0 rfl ?_
                refine r_getI (dc D_cX11_gate_0 26 rfl) fw_RX11_92 lC_1 rfl ?_
                refine r_bipush (n := 30) (dc D_cX11_gate_0 27 rfl) (by decide +kernel) ?_
                refine r_icmp_lt (tgt := 65) (dc D_cX11_gate_0 28 rfl) (by decide) (hσ14 _ _) (Rl rfl) (fun c16 => ?_) (fun c16 => ?_)
                · have h := h.1 c16
                  refine r_aloadn (dc D_cX11_gate_0 31 rfl) rfl rfl ?_
                  refine r_callV (As := []) (st := []) (dc D_cX11_gate_0 32 rfl) cw_RX11_96 nm_yX11_forget (CX11_forget hE  _ hσ14 h) lC_0 rfl rfl (by decide) rfl rfl rfl (fun z17 σ18 rz17 hσ18 h => ?_)
                  show RW layC E mi_X11_gate Φ 69 [some (.ref (eA E 0)), some (.int (iz a1)), some (.int (iz a2)), some (.int (iz a3)), some (.int (iz a4)), some (.int (iz a5))] [] σ18 x
                  refine r_aloadn (dc D_cX11_gate_0 33 rfl) rfl rfl ?_
                  refine r_getR (dc D_cX11_gate_0 34 rfl) fw_RX11_12 lC_0 rfl ?_
                  refine r_iloadn (dc D_cX11_gate_0 35 rfl) rfl rfl ?_
                  refine r_iloadn (dc D_cX11_gate_0 36 rfl) rfl rfl ?_
                  refine r_iloadn (dc D_cX11_gate_0 37 rfl) rfl rfl ?_
                  refine r_iload (dc D_cX11_gate_0 38 rfl) rfl ?_
                  refine r_iload (dc D_cX11_gate_0 39 rfl) rfl ?_
                  refine r_iconst (n := 1) (dc D_cX11_gate_1 0 rfl) ?_
                  refine r_callV (As := [.int (iz a1), .int (iz a2), .int (iz a3), .int (iz a4), .int (iz a5), .int (iz 1)]) (st := []) (dc D_cX11_gate_1 1 rfl) cw_RX11_99 nm_yX3_add (CX3_add hE _ _ _ _ _ _ ra1 ra2 ra3 ra4 ra5 (Rl rfl) _ hσ18 h) lC_1 rfl rfl (by decide) rfl rfl rfl (fun z19 σ20 rz19 hσ20 h => ?_)
                  show RW layC E mi_X11_gate Φ 84 [some (.ref (eA E 0)), some (.int (iz a1)), some (.int (iz a2)), some (.int (iz a3)), some (.int (iz a4)), some (.int (iz a5))] [.int (iz z19)] σ20 x
                  exact r_iret (dc D_cX11_gate_1 2 rfl) rfl rz19 h
                · have h := h.2 c16
                  refine r_bipush (n := (-4)) (dc D_cX11_gate_0 29 rfl) (by decide +kernel) ?_
                  exact r_iret (dc D_cX11_gate_0 30 rfl) rfl (Rl rfl) h
              · have h := h.2 c15
                refine r_bipush (n := (-2)) (dc D_cX11_gate_0 22 rfl) (by decide +kernel) ?_
                exact r_iret (dc D_cX11_gate_0 23 rfl) rfl (Rl rfl) h
      · have h := h.2 c7
        refine r_iconst (n := (-1)) (dc D_cX11_gate_0 9 rfl) ?_
        exact r_iret (dc D_cX11_gate_0 10 rfl) rfl (Rl rfl) h
-- end of GateFlow.gate
def mi_X3_has : MI := (cX3_has, RX3, 2, 1, (some .boolean), 1)
def FX3_has (a1 : Int) (σ : PS) (Φ : Int → PS → Prop) : Prop :=
  ((a1 < 0 →
    Φ 0 σ) ∧
  (¬ a1 < 0 →
    ((σ 1 6 ≤ a1 →
      Φ 0 σ) ∧
    (¬ σ 1 6 ≤ a1 →
      Φ 1 σ))))
set_option maxRecDepth 100000 in
theorem CX3_has {E : EV} (hE : eOK layC E) {Φ : Int → PS → Prop} (a1 : Int) (ra1 : Rg a1) (σ : PS) (hs : RS σ) (h : FX3_has a1 σ Φ) : CT layC E yX3_has mi_X3_has [.ref (eA E 1), .int (iz a1)] σ Φ := by
  refine ct_of (by decide +kernel) rfl hE rfl rfl hs (fun x => ?_)
  show RW layC E mi_X3_has Φ 0 [some (.ref (eA E 1)), some (.int (iz a1))] [] σ x
  refine r_iloadn (dc D_cX3_has_0 0 rfl) rfl rfl ?_
  refine r_if_lt (tgt := 16) (dc D_cX3_has_0 1 rfl) (by decide) ra1 (fun c1 => ?_) (fun c1 => ?_)
  · have h := h.1 c1
    refine r_iconst (n := 0) (dc D_cX3_has_0 8 rfl) ?_
    exact r_zret (dc D_cX3_has_0 9 rfl) rfl (by decide) h
  · have h := h.2 c1
    refine r_iloadn (dc D_cX3_has_0 2 rfl) rfl rfl ?_
    refine r_aloadn (dc D_cX3_has_0 3 rfl) rfl rfl ?_
    refine r_getI (dc D_cX3_has_0 4 rfl) fw_RX3_34 lC_1 rfl ?_
    refine r_icmp_ge (tgt := 16) (dc D_cX3_has_0 5 rfl) (by decide) ra1 (hs _ _) (fun c2 => ?_) (fun c2 => ?_)
    · have h := h.1 c2
      refine r_iconst (n := 0) (dc D_cX3_has_0 8 rfl) ?_
      exact r_zret (dc D_cX3_has_0 9 rfl) rfl (by decide) h
    · have h := h.2 c2
      refine r_iconst (n := 1) (dc D_cX3_has_0 6 rfl) ?_
      refine r_goto (tgt := 17) (dc D_cX3_has_0 7 rfl) (by decide) ?_
      exact r_zret (dc D_cX3_has_0 9 rfl) rfl (by decide) h
-- end of GateFlow$Gates.has
def mi_X11_of : MI := (cX11_of, RX11, 3, 2, (some .int), 1)
def FX11_of (a1 a2 : Int) (σ : PS) (Φ : Int → PS → Prop) : Prop :=
  FX3_has a1 σ (fun z1 σ2 =>
  ((¬ z1 = 0 →
    (a2 = 0 →
      (0 ≤ a1 ∧ a1 < 30) ∧
      Φ (σ2 13 a1.toNat) σ2) ∧
    (a2 = 1 →
      (0 ≤ a1 ∧ a1 < 30) ∧
      Φ (σ2 14 a1.toNat) σ2) ∧
    (a2 = 2 →
      (0 ≤ a1 ∧ a1 < 30) ∧
      Φ (σ2 15 a1.toNat) σ2) ∧
    (a2 = 3 →
      (0 ≤ a1 ∧ a1 < 30) ∧
      Φ (σ2 16 a1.toNat) σ2) ∧
    (a2 = 4 →
      (0 ≤ a1 ∧ a1 < 30) ∧
      Φ (σ2 17 a1.toNat) σ2) ∧
    (a2 = 5 →
      (0 ≤ a1 ∧ a1 < 30) ∧
      Φ (σ2 18 a1.toNat) σ2) ∧
    ((a2 < 0 ∨ 5 < a2) →
      Φ (-1) σ2)) ∧
  (z1 = 0 →
    Φ (-1) σ2)))
theorem fw_RX11_106 : FW RX11 106 3 0 := ⟨RX3, TX3, 9, rfl, by decide, rfl, tb_1 135 (by decide +kernel), uw_3⟩
theorem fw_RX11_122 : FW RX11 122 3 5 := ⟨RX3, TX3, 9, rfl, by decide, rfl, tb_1 165 (by decide +kernel), uw_3⟩
theorem fw_RX11_119 : FW RX11 119 3 4 := ⟨RX3, TX3, 9, rfl, by decide, rfl, tb_1 160 (by decide +kernel), uw_3⟩
theorem fw_RX11_116 : FW RX11 116 3 3 := ⟨RX3, TX3, 9, rfl, by decide, rfl, tb_1 156 (by decide +kernel), uw_3⟩
theorem fw_RX11_113 : FW RX11 113 3 2 := ⟨RX3, TX3, 9, rfl, by decide, rfl, tb_1 152 (by decide +kernel), uw_3⟩
theorem fw_RX11_110 : FW RX11 110 3 1 := ⟨RX3, TX3, 9, rfl, by decide, rfl, tb_1 145 (by decide +kernel), uw_3⟩
theorem cw_RX11_103 : CWV RX11 103 yX3_has mi_X3_has := tb_r [571, 572, 573, 98, 574] (by decide +kernel)
theorem nm_yX3_has : ynm yX3_has 1 := ⟨⟨by decide +kernel, by decide +kernel⟩, by decide +kernel⟩
set_option maxRecDepth 100000 in
theorem CX11_of {E : EV} (hE : eOK layC E) {Φ : Int → PS → Prop} (a1 a2 : Int) (ra1 : Rg a1) (ra2 : Rg a2) (σ : PS) (hs : RS σ) (h : FX11_of a1 a2 σ Φ) : CT layC E yX11_of mi_X11_of [.ref (eA E 0), .int (iz a1), .int (iz a2)] σ Φ := by
  refine ct_of (by decide +kernel) rfl hE rfl rfl hs (fun x => ?_)
  show RW layC E mi_X11_of Φ 0 [some (.ref (eA E 0)), some (.int (iz a1)), some (.int (iz a2))] [] σ x
  refine r_aloadn (dc D_cX11_of_0 0 rfl) rfl rfl ?_
  refine r_getR (dc D_cX11_of_0 1 rfl) fw_RX11_12 lC_0 rfl ?_
  refine r_iloadn (dc D_cX11_of_0 2 rfl) rfl rfl ?_
  refine r_callV (As := [.int (iz a1)]) (st := []) (dc D_cX11_of_0 3 rfl) cw_RX11_103 nm_yX3_has (CX3_has hE _ ra1 _ hs h) lC_1 rfl rfl (by decide) rfl rfl rfl (fun z1 σ2 rz1 hσ2 h => ?_)
  show RW layC E mi_X11_of Φ 8 [some (.ref (eA E 0)), some (.int (iz a1)), some (.int (iz a2))] [.int (iz z1)] σ2 x
  refine r_if_ne (tgt := 13) (dc D_cX11_of_0 4 rfl) (by decide) rz1 (fun c3 => ?_) (fun c3 => ?_)
  · have h := h.1 c3
    refine r_iloadn (dc D_cX11_of_0 7 rfl) rfl rfl ?_
    refine r_by (c := a2 = 0) (fun c5 => ?_) (fun nc5 => ?_)
    · refine r_swIn (tgt := 52) (off := 38) (v := 0) (dc D_cX11_of_0 8 rfl) c5 (by decide) (by decide) ?_
      have h := h.1 c5
      refine r_aloadn (dc D_cX11_of_0 9 rfl) rfl rfl ?_
      refine r_getR (dc D_cX11_of_0 10 rfl) fw_RX11_12 lC_0 rfl ?_
      refine r_getR (dc D_cX11_of_0 11 rfl) fw_RX11_106 lC_1 rfl ?_
      refine r_iloadn (dc D_cX11_of_0 12 rfl) rfl rfl ?_
      obtain ⟨o4, h⟩ := h
      refine r_iald (N := 30) (dc D_cX11_of_0 13 rfl) lC_13 rfl rfl o4 ?_
      exact r_iret (dc D_cX11_of_0 14 rfl) rfl (hσ2 _ _) h
    replace h := h.2
    refine r_by (c := a2 = 1) (fun c7 => ?_) (fun nc7 => ?_)
    · refine r_swIn (tgt := 62) (off := 48) (v := 1) (dc D_cX11_of_0 8 rfl) c7 (by decide) (by decide) ?_
      have h := h.1 c7
      refine r_aloadn (dc D_cX11_of_0 15 rfl) rfl rfl ?_
      refine r_getR (dc D_cX11_of_0 16 rfl) fw_RX11_12 lC_0 rfl ?_
      refine r_getR (dc D_cX11_of_0 17 rfl) fw_RX11_110 lC_1 rfl ?_
      refine r_iloadn (dc D_cX11_of_0 18 rfl) rfl rfl ?_
      obtain ⟨o6, h⟩ := h
      refine r_iald (N := 30) (dc D_cX11_of_0 19 rfl) lC_14 rfl rfl o6 ?_
      exact r_iret (dc D_cX11_of_0 20 rfl) rfl (hσ2 _ _) h
    replace h := h.2
    refine r_by (c := a2 = 2) (fun c9 => ?_) (fun nc9 => ?_)
    · refine r_swIn (tgt := 72) (off := 58) (v := 2) (dc D_cX11_of_0 8 rfl) c9 (by decide) (by decide) ?_
      have h := h.1 c9
      refine r_aloadn (dc D_cX11_of_0 21 rfl) rfl rfl ?_
      refine r_getR (dc D_cX11_of_0 22 rfl) fw_RX11_12 lC_0 rfl ?_
      refine r_getR (dc D_cX11_of_0 23 rfl) fw_RX11_113 lC_1 rfl ?_
      refine r_iloadn (dc D_cX11_of_0 24 rfl) rfl rfl ?_
      obtain ⟨o8, h⟩ := h
      refine r_iald (N := 30) (dc D_cX11_of_0 25 rfl) lC_15 rfl rfl o8 ?_
      exact r_iret (dc D_cX11_of_0 26 rfl) rfl (hσ2 _ _) h
    replace h := h.2
    refine r_by (c := a2 = 3) (fun c11 => ?_) (fun nc11 => ?_)
    · refine r_swIn (tgt := 82) (off := 68) (v := 3) (dc D_cX11_of_0 8 rfl) c11 (by decide) (by decide) ?_
      have h := h.1 c11
      refine r_aloadn (dc D_cX11_of_0 27 rfl) rfl rfl ?_
      refine r_getR (dc D_cX11_of_0 28 rfl) fw_RX11_12 lC_0 rfl ?_
      refine r_getR (dc D_cX11_of_0 29 rfl) fw_RX11_116 lC_1 rfl ?_
      refine r_iloadn (dc D_cX11_of_0 30 rfl) rfl rfl ?_
      obtain ⟨o10, h⟩ := h
      refine r_iald (N := 30) (dc D_cX11_of_0 31 rfl) lC_16 rfl rfl o10 ?_
      exact r_iret (dc D_cX11_of_0 32 rfl) rfl (hσ2 _ _) h
    replace h := h.2
    refine r_by (c := a2 = 4) (fun c13 => ?_) (fun nc13 => ?_)
    · refine r_swIn (tgt := 92) (off := 78) (v := 4) (dc D_cX11_of_0 8 rfl) c13 (by decide) (by decide) ?_
      have h := h.1 c13
      refine r_aloadn (dc D_cX11_of_0 33 rfl) rfl rfl ?_
      refine r_getR (dc D_cX11_of_0 34 rfl) fw_RX11_12 lC_0 rfl ?_
      refine r_getR (dc D_cX11_of_0 35 rfl) fw_RX11_119 lC_1 rfl ?_
      refine r_iloadn (dc D_cX11_of_0 36 rfl) rfl rfl ?_
      obtain ⟨o12, h⟩ := h
      refine r_iald (N := 30) (dc D_cX11_of_0 37 rfl) lC_17 rfl rfl o12 ?_
      exact r_iret (dc D_cX11_of_0 38 rfl) rfl (hσ2 _ _) h
    replace h := h.2
    refine r_by (c := a2 = 5) (fun c15 => ?_) (fun nc15 => ?_)
    · refine r_swIn (tgt := 102) (off := 88) (v := 5) (dc D_cX11_of_0 8 rfl) c15 (by decide) (by decide) ?_
      have h := h.1 c15
      refine r_aloadn (dc D_cX11_of_0 39 rfl) rfl rfl ?_
      refine r_getR (dc D_cX11_of_1 0 rfl) fw_RX11_12 lC_0 rfl ?_
      refine r_getR (dc D_cX11_of_1 1 rfl) fw_RX11_122 lC_1 rfl ?_
      refine r_iloadn (dc D_cX11_of_1 2 rfl) rfl rfl ?_
      obtain ⟨o14, h⟩ := h
      refine r_iald (N := 30) (dc D_cX11_of_1 3 rfl) lC_18 rfl rfl o14 ?_
      exact r_iret (dc D_cX11_of_1 4 rfl) rfl (hσ2 _ _) h
    replace h := h.2
    have c16 : a2 < 0 ∨ 5 < a2 := by omega
    have h := h c16
    refine r_swOut (tgt := 112) (dc D_cX11_of_0 8 rfl) (by decide) ra2 c16 ?_
    refine r_iconst (n := (-1)) (dc D_cX11_of_1 5 rfl) ?_
    exact r_iret (dc D_cX11_of_1 6 rfl) rfl (Rl rfl) h
  · have h := h.2 c3
    refine r_iconst (n := (-1)) (dc D_cX11_of_0 5 rfl) ?_
    exact r_iret (dc D_cX11_of_0 6 rfl) rfl (Rl rfl) h
-- end of GateFlow.of
def mi_X11_widen : MI := (cX11_widen, RX11, 4, 2, (some .int), 1)
def FX11_widen (a1 a2 : Int) (σ : PS) (Φ : Int → PS → Prop) : Prop :=
  FX3_has a1 σ (fun z1 σ2 =>
  ((¬ z1 = 0 →
    FX11_isCapacity a2 σ2 (fun z4 σ5 =>
    ((z4 = 0 →
      Φ (-2) σ5) ∧
    (¬ z4 = 0 →
      (0 ≤ a1 ∧ a1 < 30) ∧
      ((σ5 15 a1.toNat ≤ a2 →
        (0 ≤ a1 ∧ a1 < 30) ∧
        ∀ v10 : Int, v10 = σ5 16 a1.toNat →
        (0 ≤ a1 ∧ a1 < 30) ∧
        ∀ σ12 : PS, σ12 = up2 σ5 16 a1.toNat a2 →
        FX11_forget σ12 (fun z13 σ14 =>
        Φ v10 σ14)) ∧
      (¬ σ5 15 a1.toNat ≤ a2 →
        Φ (-2) σ5)))))) ∧
  (z1 = 0 →
    Φ (-1) σ2)))
set_option maxRecDepth 100000 in
theorem CX11_widen {E : EV} (hE : eOK layC E) {Φ : Int → PS → Prop} (a1 a2 : Int) (ra1 : Rg a1) (ra2 : Rg a2) (σ : PS) (hs : RS σ) (h : FX11_widen a1 a2 σ Φ) : CT layC E yX11_widen mi_X11_widen [.ref (eA E 0), .int (iz a1), .int (iz a2)] σ Φ := by
  refine ct_of (by decide +kernel) rfl hE rfl rfl hs (fun x => ?_)
  show RW layC E mi_X11_widen Φ 0 [some (.ref (eA E 0)), some (.int (iz a1)), some (.int (iz a2)), none] [] σ x
  refine r_aloadn (dc D_cX11_widen_0 0 rfl) rfl rfl ?_
  refine r_getR (dc D_cX11_widen_0 1 rfl) fw_RX11_12 lC_0 rfl ?_
  refine r_iloadn (dc D_cX11_widen_0 2 rfl) rfl rfl ?_
  refine r_callV (As := [.int (iz a1)]) (st := []) (dc D_cX11_widen_0 3 rfl) cw_RX11_103 nm_yX3_has (CX3_has hE _ ra1 _ hs h) lC_1 rfl rfl (by decide) rfl rfl rfl (fun z1 σ2 rz1 hσ2 h => ?_)
  show RW layC E mi_X11_widen Φ 8 [some (.ref (eA E 0)), some (.int (iz a1)), some (.int (iz a2)), none] [.int (iz z1)] σ2 x
  refine r_if_ne (tgt := 13) (dc D_cX11_widen_0 4 rfl) (by decide) rz1 (fun c3 => ?_) (fun c3 => ?_)
  · have h := h.1 c3
    refine r_iloadn (dc D_cX11_widen_0 7 rfl) rfl rfl ?_
    refine r_callS (As := [.int (iz a2)]) (st := []) (dc D_cX11_widen_0 8 rfl) cw_RX11_86 nm_yX11_isCapacity (CX11_isCapacity hE _ ra2 _ hσ2 h) rfl (by decide) rfl rfl rfl (fun z4 σ5 rz4 hσ5 h => ?_)
    show RW layC E mi_X11_widen Φ 17 [some (.ref (eA E 0)), some (.int (iz a1)), some (.int (iz a2)), none] [.int (iz z4)] σ5 x
    refine r_if_eq (tgt := 33) (dc D_cX11_widen_0 9 rfl) (by decide) rz4 (fun c6 => ?_) (fun c6 => ?_)
    · have h := h.1 c6
      refine r_bipush (n := (-2)) (dc D_cX11_widen_0 17 rfl) (by decide +kernel) ?_
      exact r_iret (dc D_cX11_widen_0 18 rfl) rfl (Rl rfl) h
    · have h := h.2 c6
      refine r_iloadn (dc D_cX11_widen_0 10 rfl) rfl rfl ?_
      refine r_aloadn (dc D_cX11_widen_0 11 rfl) rfl rfl ?_
      refine r_getR (dc D_cX11_widen_0 12 rfl) fw_RX11_12 lC_0 rfl ?_
      refine r_getR (dc D_cX11_widen_0 13 rfl) fw_RX11_113 lC_1 rfl ?_
      refine r_iloadn (dc D_cX11_widen_0 14 rfl) rfl rfl ?_
      obtain ⟨o7, h⟩ := h
      refine r_iald (N := 30) (dc D_cX11_widen_0 15 rfl) lC_15 rfl rfl o7 ?_
      refine r_icmp_ge (tgt := 36) (dc D_cX11_widen_0 16 rfl) (by decide) ra2 (hσ5 _ _) (fun c8 => ?_) (fun c8 => ?_)
      · have h := h.1 c8
        refine r_aloadn (dc D_cX11_widen_0 19 rfl) rfl rfl ?_
        refine r_getR (dc D_cX11_widen_0 20 rfl) fw_RX11_12 lC_0 rfl ?_
        refine r_getR (dc D_cX11_widen_0 21 rfl) fw_RX11_116 lC_1 rfl ?_
        refine r_iloadn (dc D_cX11_widen_0 22 rfl) rfl rfl ?_
        obtain ⟨o9, h⟩ := h
        refine r_iald (N := 30) (dc D_cX11_widen_0 23 rfl) lC_16 rfl rfl o9 ?_
        refine r_name (fun v10 ev10 => ?_)
        have h := h v10 ev10
        have rv10 : Rg v10 := Rg_eq ev10 (hσ5 _ _)
        refine r_istoren (lv' := [some (.ref (eA E 0)), some (.int (iz a1)), some (.int (iz a2)), some (.int (iz v10))]) (dc D_cX11_widen_0 24 rfl) rfl rfl rfl ?_
        refine r_aloadn (dc D_cX11_widen_0 25 rfl) rfl rfl ?_
        refine r_getR (dc D_cX11_widen_0 26 rfl) fw_RX11_12 lC_0 rfl ?_
        refine r_getR (dc D_cX11_widen_0 27 rfl) fw_RX11_116 lC_1 rfl ?_
        refine r_iloadn (dc D_cX11_widen_0 28 rfl) rfl rfl ?_
        refine r_iloadn (dc D_cX11_widen_0 29 rfl) rfl rfl ?_
        obtain ⟨o11, h⟩ := h
        refine r_iast (N := 30) (dc D_cX11_widen_0 30 rfl) lC_16 rfl rfl o11 ra2 ?_
        refine r_sig (fun σ12 eσ12 => ?_)
        have h := h σ12 eσ12
        have hσ12 : RS σ12 := RS_eq eσ12 (RS.up hσ5 ra2 _ _)
        refine r_aloadn (dc D_cX11_widen_0 31 rfl) rfl rfl ?_
        refine r_callV (As := []) (st := []) (dc D_cX11_widen_0 32 rfl) cw_RX11_96 nm_yX11_forget (CX11_forget hE  _ hσ12 h) lC_0 rfl rfl (by decide) rfl rfl rfl (fun z13 σ14 rz13 hσ14 h => ?_)
        show RW layC E mi_X11_widen Φ 60 [some (.ref (eA E 0)), some (.int (iz a1)), some (.int (iz a2)), some (.int (iz v10))] [] σ14 x
        refine r_iloadn (dc D_cX11_widen_0 33 rfl) rfl rfl ?_
        exact r_iret (dc D_cX11_widen_0 34 rfl) rfl rv10 h
      · have h := h.2 c8
        refine r_bipush (n := (-2)) (dc D_cX11_widen_0 17 rfl) (by decide +kernel) ?_
        exact r_iret (dc D_cX11_widen_0 18 rfl) rfl (Rl rfl) h
  · have h := h.2 c3
    refine r_iconst (n := (-1)) (dc D_cX11_widen_0 5 rfl) ?_
    exact r_iret (dc D_cX11_widen_0 6 rfl) rfl (Rl rfl) h
-- end of GateFlow.widen
def mi_X11_bind : MI := (cX11_bind, RX11, 4, 2, (some .int), 1)
def FX11_bind (a1 a2 : Int) (σ : PS) (Φ : Int → PS → Prop) : Prop :=
  FX3_has a1 σ (fun z1 σ2 =>
  ((¬ z1 = 0 →
    ((a2 < 0 →
      Φ (-2) σ2) ∧
    (¬ a2 < 0 →
      (0 ≤ a1 ∧ a1 < 30) ∧
      ((a2 ≤ σ2 16 a1.toNat →
        (0 ≤ a1 ∧ a1 < 30) ∧
        ∀ v8 : Int, v8 = σ2 15 a1.toNat →
        (0 ≤ a1 ∧ a1 < 30) ∧
        ∀ σ10 : PS, σ10 = up2 σ2 15 a1.toNat a2 →
        FX11_forget σ10 (fun z11 σ12 =>
        Φ v8 σ12)) ∧
      (¬ a2 ≤ σ2 16 a1.toNat →
        Φ (-2) σ2))))) ∧
  (z1 = 0 →
    Φ (-1) σ2)))
set_option maxRecDepth 100000 in
theorem CX11_bind {E : EV} (hE : eOK layC E) {Φ : Int → PS → Prop} (a1 a2 : Int) (ra1 : Rg a1) (ra2 : Rg a2) (σ : PS) (hs : RS σ) (h : FX11_bind a1 a2 σ Φ) : CT layC E yX11_bind mi_X11_bind [.ref (eA E 0), .int (iz a1), .int (iz a2)] σ Φ := by
  refine ct_of (by decide +kernel) rfl hE rfl rfl hs (fun x => ?_)
  show RW layC E mi_X11_bind Φ 0 [some (.ref (eA E 0)), some (.int (iz a1)), some (.int (iz a2)), none] [] σ x
  refine r_aloadn (dc D_cX11_bind_0 0 rfl) rfl rfl ?_
  refine r_getR (dc D_cX11_bind_0 1 rfl) fw_RX11_12 lC_0 rfl ?_
  refine r_iloadn (dc D_cX11_bind_0 2 rfl) rfl rfl ?_
  refine r_callV (As := [.int (iz a1)]) (st := []) (dc D_cX11_bind_0 3 rfl) cw_RX11_103 nm_yX3_has (CX3_has hE _ ra1 _ hs h) lC_1 rfl rfl (by decide) rfl rfl rfl (fun z1 σ2 rz1 hσ2 h => ?_)
  show RW layC E mi_X11_bind Φ 8 [some (.ref (eA E 0)), some (.int (iz a1)), some (.int (iz a2)), none] [.int (iz z1)] σ2 x
  refine r_if_ne (tgt := 13) (dc D_cX11_bind_0 4 rfl) (by decide) rz1 (fun c3 => ?_) (fun c3 => ?_)
  · have h := h.1 c3
    refine r_iloadn (dc D_cX11_bind_0 7 rfl) rfl rfl ?_
    refine r_if_lt (tgt := 30) (dc D_cX11_bind_0 8 rfl) (by decide) ra2 (fun c4 => ?_) (fun c4 => ?_)
    · have h := h.1 c4
      refine r_bipush (n := (-2)) (dc D_cX11_bind_0 16 rfl) (by decide +kernel) ?_
      exact r_iret (dc D_cX11_bind_0 17 rfl) rfl (Rl rfl) h
    · have h := h.2 c4
      refine r_iloadn (dc D_cX11_bind_0 9 rfl) rfl rfl ?_
      refine r_aloadn (dc D_cX11_bind_0 10 rfl) rfl rfl ?_
      refine r_getR (dc D_cX11_bind_0 11 rfl) fw_RX11_12 lC_0 rfl ?_
      refine r_getR (dc D_cX11_bind_0 12 rfl) fw_RX11_116 lC_1 rfl ?_
      refine r_iloadn (dc D_cX11_bind_0 13 rfl) rfl rfl ?_
      obtain ⟨o5, h⟩ := h
      refine r_iald (N := 30) (dc D_cX11_bind_0 14 rfl) lC_16 rfl rfl o5 ?_
      refine r_icmp_le (tgt := 33) (dc D_cX11_bind_0 15 rfl) (by decide) ra2 (hσ2 _ _) (fun c6 => ?_) (fun c6 => ?_)
      · have h := h.1 c6
        refine r_aloadn (dc D_cX11_bind_0 18 rfl) rfl rfl ?_
        refine r_getR (dc D_cX11_bind_0 19 rfl) fw_RX11_12 lC_0 rfl ?_
        refine r_getR (dc D_cX11_bind_0 20 rfl) fw_RX11_113 lC_1 rfl ?_
        refine r_iloadn (dc D_cX11_bind_0 21 rfl) rfl rfl ?_
        obtain ⟨o7, h⟩ := h
        refine r_iald (N := 30) (dc D_cX11_bind_0 22 rfl) lC_15 rfl rfl o7 ?_
        refine r_name (fun v8 ev8 => ?_)
        have h := h v8 ev8
        have rv8 : Rg v8 := Rg_eq ev8 (hσ2 _ _)
        refine r_istoren (lv' := [some (.ref (eA E 0)), some (.int (iz a1)), some (.int (iz a2)), some (.int (iz v8))]) (dc D_cX11_bind_0 23 rfl) rfl rfl rfl ?_
        refine r_aloadn (dc D_cX11_bind_0 24 rfl) rfl rfl ?_
        refine r_getR (dc D_cX11_bind_0 25 rfl) fw_RX11_12 lC_0 rfl ?_
        refine r_getR (dc D_cX11_bind_0 26 rfl) fw_RX11_113 lC_1 rfl ?_
        refine r_iloadn (dc D_cX11_bind_0 27 rfl) rfl rfl ?_
        refine r_iloadn (dc D_cX11_bind_0 28 rfl) rfl rfl ?_
        obtain ⟨o9, h⟩ := h
        refine r_iast (N := 30) (dc D_cX11_bind_0 29 rfl) lC_15 rfl rfl o9 ra2 ?_
        refine r_sig (fun σ10 eσ10 => ?_)
        have h := h σ10 eσ10
        have hσ10 : RS σ10 := RS_eq eσ10 (RS.up hσ2 ra2 _ _)
        refine r_aloadn (dc D_cX11_bind_0 30 rfl) rfl rfl ?_
        refine r_callV (As := []) (st := []) (dc D_cX11_bind_0 31 rfl) cw_RX11_96 nm_yX11_forget (CX11_forget hE  _ hσ10 h) lC_0 rfl rfl (by decide) rfl rfl rfl (fun z11 σ12 rz11 hσ12 h => ?_)
        show RW layC E mi_X11_bind Φ 57 [some (.ref (eA E 0)), some (.int (iz a1)), some (.int (iz a2)), some (.int (iz v8))] [] σ12 x
        refine r_iloadn (dc D_cX11_bind_0 32 rfl) rfl rfl ?_
        exact r_iret (dc D_cX11_bind_0 33 rfl) rfl rv8 h
      · have h := h.2 c6
        refine r_bipush (n := (-2)) (dc D_cX11_bind_0 16 rfl) (by decide +kernel) ?_
        exact r_iret (dc D_cX11_bind_0 17 rfl) rfl (Rl rfl) h
  · have h := h.2 c3
    refine r_iconst (n := (-1)) (dc D_cX11_bind_0 5 rfl) ?_
    exact r_iret (dc D_cX11_bind_0 6 rfl) rfl (Rl rfl) h
-- end of GateFlow.bind
def mi_X11_isOneOrZero : MI := (cX11_isOneOrZero, RX11, 1, 1, (some .boolean), 1)
def FX11_isOneOrZero (a1 : Int) (σ : PS) (Φ : Int → PS → Prop) : Prop :=
  ((a1 = 0 →
    Φ 1 σ) ∧
  (¬ a1 = 0 →
    ((¬ a1 = 1 →
      Φ 0 σ) ∧
    (a1 = 1 →
      Φ 1 σ))))
set_option maxRecDepth 100000 in
theorem CX11_isOneOrZero {E : EV} (hE : eOK layC E) {Φ : Int → PS → Prop} (a1 : Int) (ra1 : Rg a1) (σ : PS) (hs : RS σ) (h : FX11_isOneOrZero a1 σ Φ) : CT layC E yX11_isOneOrZero mi_X11_isOneOrZero [.int (iz a1)] σ Φ := by
  refine ct_of (by decide +kernel) rfl hE rfl rfl hs (fun x => ?_)
  show RW layC E mi_X11_isOneOrZero Φ 0 [some (.int (iz a1))] [] σ x
  refine r_iloadn (dc D_cX11_isOneOrZero_0 0 rfl) rfl rfl ?_
  refine r_if_eq (tgt := 9) (dc D_cX11_isOneOrZero_0 1 rfl) (by decide) ra1 (fun c1 => ?_) (fun c1 => ?_)
  · have h := h.1 c1
    refine r_iconst (n := 1) (dc D_cX11_isOneOrZero_0 5 rfl) ?_
    refine r_goto (tgt := 14) (dc D_cX11_isOneOrZero_0 6 rfl) (by decide) ?_
    exact r_zret (dc D_cX11_isOneOrZero_0 8 rfl) rfl (by decide) h
  · have h := h.2 c1
    refine r_iloadn (dc D_cX11_isOneOrZero_0 2 rfl) rfl rfl ?_
    refine r_iconst (n := 1) (dc D_cX11_isOneOrZero_0 3 rfl) ?_
    refine r_icmp_ne (tgt := 13) (dc D_cX11_isOneOrZero_0 4 rfl) (by decide) ra1 (Rl rfl) (fun c2 => ?_) (fun c2 => ?_)
    · have h := h.1 c2
      refine r_iconst (n := 0) (dc D_cX11_isOneOrZero_0 7 rfl) ?_
      exact r_zret (dc D_cX11_isOneOrZero_0 8 rfl) rfl (by decide) h
    · have h := h.2 c2
      refine r_iconst (n := 1) (dc D_cX11_isOneOrZero_0 5 rfl) ?_
      refine r_goto (tgt := 14) (dc D_cX11_isOneOrZero_0 6 rfl) (by decide) ?_
      exact r_zret (dc D_cX11_isOneOrZero_0 8 rfl) rfl (by decide) h
-- end of GateFlow.isOneOrZero
def mi_X11_turn : MI := (cX11_turn, RX11, 4, 2, (some .int), 1)
def FX11_turn (a1 a2 : Int) (σ : PS) (Φ : Int → PS → Prop) : Prop :=
  FX3_has a1 σ (fun z1 σ2 =>
  ((z1 = 0 →
    Φ (-1) σ2) ∧
  (¬ z1 = 0 →
    FX11_isOneOrZero a2 σ2 (fun z4 σ5 =>
    ((¬ z4 = 0 →
      (0 ≤ a1 ∧ a1 < 30) ∧
      ∀ v8 : Int, v8 = σ5 18 a1.toNat →
      (0 ≤ a1 ∧ a1 < 30) ∧
      ∀ σ10 : PS, σ10 = up2 σ5 18 a1.toNat a2 →
      FX11_forget σ10 (fun z11 σ12 =>
      Φ v8 σ12)) ∧
    (z4 = 0 →
      Φ (-1) σ5))))))
theorem cw_RX11_125 : CWS RX11 125 yX11_isOneOrZero mi_X11_isOneOrZero := tb_r [587, 588, 97, 589] (by decide +kernel)
theorem nm_yX11_isOneOrZero : ynm yX11_isOneOrZero 1 := ⟨⟨by decide +kernel, by decide +kernel⟩, by decide +kernel⟩
set_option maxRecDepth 100000 in
theorem CX11_turn {E : EV} (hE : eOK layC E) {Φ : Int → PS → Prop} (a1 a2 : Int) (ra1 : Rg a1) (ra2 : Rg a2) (σ : PS) (hs : RS σ) (h : FX11_turn a1 a2 σ Φ) : CT layC E yX11_turn mi_X11_turn [.ref (eA E 0), .int (iz a1), .int (iz a2)] σ Φ := by
  refine ct_of (by decide +kernel) rfl hE rfl rfl hs (fun x => ?_)
  show RW layC E mi_X11_turn Φ 0 [some (.ref (eA E 0)), some (.int (iz a1)), some (.int (iz a2)), none] [] σ x
  refine r_aloadn (dc D_cX11_turn_0 0 rfl) rfl rfl ?_
  refine r_getR (dc D_cX11_turn_0 1 rfl) fw_RX11_12 lC_0 rfl ?_
  refine r_iloadn (dc D_cX11_turn_0 2 rfl) rfl rfl ?_
  refine r_callV (As := [.int (iz a1)]) (st := []) (dc D_cX11_turn_0 3 rfl) cw_RX11_103 nm_yX3_has (CX3_has hE _ ra1 _ hs h) lC_1 rfl rfl (by decide) rfl rfl rfl (fun z1 σ2 rz1 hσ2 h => ?_)
  show RW layC E mi_X11_turn Φ 8 [some (.ref (eA E 0)), some (.int (iz a1)), some (.int (iz a2)), none] [.int (iz z1)] σ2 x
  refine r_if_eq (tgt := 18) (dc D_cX11_turn_0 4 rfl) (by decide) rz1 (fun c3 => ?_) (fun c3 => ?_)
  · have h := h.1 c3
    refine r_iconst (n := (-1)) (dc D_cX11_turn_0 8 rfl) ?_
    exact r_iret (dc D_cX11_turn_0 9 rfl) rfl (Rl rfl) h
  · have h := h.2 c3
    refine r_iloadn (dc D_cX11_turn_0 5 rfl) rfl rfl ?_
    refine r_callS (As := [.int (iz a2)]) (st := []) (dc D_cX11_turn_0 6 rfl) cw_RX11_125 nm_yX11_isOneOrZero (CX11_isOneOrZero hE _ ra2 _ hσ2 h) rfl (by decide) rfl rfl rfl (fun z4 σ5 rz4 hσ5 h => ?_)
    show RW layC E mi_X11_turn Φ 15 [some (.ref (eA E 0)), some (.int (iz a1)), some (.int (iz a2)), none] [.int (iz z4)] σ5 x
    refine r_if_ne (tgt := 20) (dc D_cX11_turn_0 7 rfl) (by decide) rz4 (fun c6 => ?_) (fun c6 => ?_)
    · have h := h.1 c6
      refine r_aloadn (dc D_cX11_turn_0 10 rfl) rfl rfl ?_
      refine r_getR (dc D_cX11_turn_0 11 rfl) fw_RX11_12 lC_0 rfl ?_
      refine r_getR (dc D_cX11_turn_0 12 rfl) fw_RX11_122 lC_1 rfl ?_
      refine r_iloadn (dc D_cX11_turn_0 13 rfl) rfl rfl ?_
      obtain ⟨o7, h⟩ := h
      refine r_iald (N := 30) (dc D_cX11_turn_0 14 rfl) lC_18 rfl rfl o7 ?_
      refine r_name (fun v8 ev8 => ?_)
      have h := h v8 ev8
      have rv8 : Rg v8 := Rg_eq ev8 (hσ5 _ _)
      refine r_istoren (lv' := [some (.ref (eA E 0)), some (.int (iz a1)), some (.int (iz a2)), some (.int (iz v8))]) (dc D_cX11_turn_0 15 rfl) rfl rfl rfl ?_
      refine r_aloadn (dc D_cX11_turn_0 16 rfl) rfl rfl ?_
      refine r_getR (dc D_cX11_turn_0 17 rfl) fw_RX11_12 lC_0 rfl ?_
      refine r_getR (dc D_cX11_turn_0 18 rfl) fw_RX11_122 lC_1 rfl ?_
      refine r_iloadn (dc D_cX11_turn_0 19 rfl) rfl rfl ?_
      refine r_iloadn (dc D_cX11_turn_0 20 rfl) rfl rfl ?_
      obtain ⟨o9, h⟩ := h
      refine r_iast (N := 30) (dc D_cX11_turn_0 21 rfl) lC_18 rfl rfl o9 ra2 ?_
      refine r_sig (fun σ10 eσ10 => ?_)
      have h := h σ10 eσ10
      have hσ10 : RS σ10 := RS_eq eσ10 (RS.up hσ5 ra2 _ _)
      refine r_aloadn (dc D_cX11_turn_0 22 rfl) rfl rfl ?_
      refine r_callV (As := []) (st := []) (dc D_cX11_turn_0 23 rfl) cw_RX11_96 nm_yX11_forget (CX11_forget hE  _ hσ10 h) lC_0 rfl rfl (by decide) rfl rfl rfl (fun z11 σ12 rz11 hσ12 h => ?_)
      show RW layC E mi_X11_turn Φ 44 [some (.ref (eA E 0)), some (.int (iz a1)), some (.int (iz a2)), some (.int (iz v8))] [] σ12 x
      refine r_iloadn (dc D_cX11_turn_0 24 rfl) rfl rfl ?_
      exact r_iret (dc D_cX11_turn_0 25 rfl) rfl rv8 h
    · have h := h.2 c6
      refine r_iconst (n := (-1)) (dc D_cX11_turn_0 8 rfl) ?_
      exact r_iret (dc D_cX11_turn_0 9 rfl) rfl (Rl rfl) h
-- end of GateFlow.turn
def mi_X11_drop : MI := (cX11_drop, RX11, 1, 2, (some .int), 1)
def FX11_drop (σ : PS) (Φ : Int → PS → Prop) : Prop :=
  ((0 < σ 1 6 →
    Rg ((σ 1 6) - 1) ∧
    ∀ σ3 : PS, σ3 = up2 σ 1 6 ((σ 1 6) - 1) →
    FX11_forget σ3 (fun z4 σ5 =>
    Φ (σ5 1 6) σ5)) ∧
  (¬ 0 < σ 1 6 →
    Φ (-3) σ))
set_option maxRecDepth 100000 in
theorem CX11_drop {E : EV} (hE : eOK layC E) {Φ : Int → PS → Prop} (σ : PS) (hs : RS σ) (h : FX11_drop σ Φ) : CT layC E yX11_drop mi_X11_drop [.ref (eA E 0)] σ Φ := by
  refine ct_of (by decide +kernel) rfl hE rfl rfl hs (fun x => ?_)
  show RW layC E mi_X11_drop Φ 0 [some (.ref (eA E 0))] [] σ x
  refine r_aloadn (dc D_cX11_drop_0 0 rfl) rfl rfl ?_
  refine r_getR (dc D_cX11_drop_0 1 rfl) fw_RX11_12 lC_0 rfl ?_
  refine r_getI (dc D_cX11_drop_0 2 rfl) fw_RX11_92 lC_1 rfl ?_
  refine r_if_gt (tgt := 13) (dc D_cX11_drop_0 3 rfl) (by decide) (hs _ _) (fun c1 => ?_) (fun c1 => ?_)
  · have h := h.1 c1
    refine r_aloadn (dc D_cX11_drop_0 6 rfl) rfl rfl ?_
    refine r_getR (dc D_cX11_drop_0 7 rfl) fw_RX11_12 lC_0 rfl ?_
    refine r_dup (dc D_cX11_drop_0 8 rfl) rfl ?_
    refine r_getI (dc D_cX11_drop_0 9 rfl) fw_RX11_92 lC_1 rfl ?_
    refine r_iconst (n := 1) (dc D_cX11_drop_0 10 rfl) ?_
    refine r_isub (dc D_cX11_drop_0 11 rfl) ?_
    obtain ⟨o2, h⟩ := h
    refine r_put (dc D_cX11_drop_0 12 rfl) fw_RX11_92 fp_3_6 lC_1 rfl (nar_int _) o2 ?_
    refine r_sig (fun σ3 eσ3 => ?_)
    have h := h σ3 eσ3
    have hσ3 : RS σ3 := RS_eq eσ3 (RS.up hs o2 _ _)
    refine r_aloadn (dc D_cX11_drop_0 13 rfl) rfl rfl ?_
    refine r_callV (As := []) (st := []) (dc D_cX11_drop_0 14 rfl) cw_RX11_96 nm_yX11_forget (CX11_forget hE  _ hσ3 h) lC_0 rfl rfl (by decide) rfl rfl rfl (fun z4 σ5 rz4 hσ5 h => ?_)
    show RW layC E mi_X11_drop Φ 30 [some (.ref (eA E 0))] [] σ5 x
    refine r_aloadn (dc D_cX11_drop_0 15 rfl) rfl rfl ?_
    refine r_getR (dc D_cX11_drop_0 16 rfl) fw_RX11_12 lC_0 rfl ?_
    refine r_getI (dc D_cX11_drop_0 17 rfl) fw_RX11_92 lC_1 rfl ?_
    exact r_iret (dc D_cX11_drop_0 18 rfl) rfl (hσ5 _ _) h
  · have h := h.2 c1
    refine r_bipush (n := (-3)) (dc D_cX11_drop_0 4 rfl) (by decide +kernel) ?_
    exact r_iret (dc D_cX11_drop_0 5 rfl) rfl (Rl rfl) h
-- end of GateFlow.drop
def mi_X11_ends : MI := (cX11_ends, RX11, 3, 2, (some .int), 1)
def FX11_ends (a1 a2 : Int) (σ : PS) (Φ : Int → PS → Prop) : Prop :=
  FX11_isNode a1 σ (fun z1 σ2 =>
  ((z1 = 0 →
    Φ (-1) σ2) ∧
  (¬ z1 = 0 →
    FX11_isNode a2 σ2 (fun z4 σ5 =>
    ((z4 = 0 →
      Φ (-1) σ5) ∧
    (¬ z4 = 0 →
      ((¬ a1 = a2 →
        ∀ σ8 : PS, σ8 = up2 σ5 1 7 a1 →
        ∀ σ9 : PS, σ9 = up2 σ8 1 8 a2 →
        FX11_forget σ9 (fun z10 σ11 =>
        Φ 1 σ11)) ∧
      (a1 = a2 →
        Φ (-1) σ5))))))))
theorem fw_RX11_128 : FW RX11 128 3 7 := ⟨RX3, TX3, 9, rfl, by decide, rfl, tb_1 183 (by decide +kernel), uw_3⟩
theorem fp_3_7 : FP 3 7 .int := ⟨RX3, TX3, 9, tyX3, rfl, tyX3_ok, nmX3, rfl, by decide +kernel⟩
theorem fw_RX11_131 : FW RX11 131 3 8 := ⟨RX3, TX3, 9, rfl, by decide, rfl, tb_1 189 (by decide +kernel), uw_3⟩
theorem fp_3_8 : FP 3 8 .int := ⟨RX3, TX3, 9, tyX3, rfl, tyX3_ok, nmX3, rfl, by decide +kernel⟩
set_option maxRecDepth 100000 in
theorem CX11_ends {E : EV} (hE : eOK layC E) {Φ : Int → PS → Prop} (a1 a2 : Int) (ra1 : Rg a1) (ra2 : Rg a2) (σ : PS) (hs : RS σ) (h : FX11_ends a1 a2 σ Φ) : CT layC E yX11_ends mi_X11_ends [.ref (eA E 0), .int (iz a1), .int (iz a2)] σ Φ := by
  refine ct_of (by decide +kernel) rfl hE rfl rfl hs (fun x => ?_)
  show RW layC E mi_X11_ends Φ 0 [some (.ref (eA E 0)), some (.int (iz a1)), some (.int (iz a2))] [] σ x
  refine r_iloadn (dc D_cX11_ends_0 0 rfl) rfl rfl ?_
  refine r_callS (As := [.int (iz a1)]) (st := []) (dc D_cX11_ends_0 1 rfl) cw_RX11_82 nm_yX11_isNode (CX11_isNode hE _ ra1 _ hs h) rfl (by decide) rfl rfl rfl (fun z1 σ2 rz1 hσ2 h => ?_)
  show RW layC E mi_X11_ends Φ 4 [some (.ref (eA E 0)), some (.int (iz a1)), some (.int (iz a2))] [.int (iz z1)] σ2 x
  refine r_if_eq (tgt := 19) (dc D_cX11_ends_0 2 rfl) (by decide) rz1 (fun c3 => ?_) (fun c3 => ?_)
  · have h := h.1 c3
    refine r_iconst (n := (-1)) (dc D_cX11_ends_0 9 rfl) ?_
    exact r_iret (dc D_cX11_ends_0 10 rfl) rfl (Rl rfl) h
  · have h := h.2 c3
    refine r_iloadn (dc D_cX11_ends_0 3 rfl) rfl rfl ?_
    refine r_callS (As := [.int (iz a2)]) (st := []) (dc D_cX11_ends_0 4 rfl) cw_RX11_82 nm_yX11_isNode (CX11_isNode hE _ ra2 _ hσ2 h) rfl (by decide) rfl rfl rfl (fun z4 σ5 rz4 hσ5 h => ?_)
    show RW layC E mi_X11_ends Φ 11 [some (.ref (eA E 0)), some (.int (iz a1)), some (.int (iz a2))] [.int (iz z4)] σ5 x
    refine r_if_eq (tgt := 19) (dc D_cX11_ends_0 5 rfl) (by decide) rz4 (fun c6 => ?_) (fun c6 => ?_)
    · have h := h.1 c6
      refine r_iconst (n := (-1)) (dc D_cX11_ends_0 9 rfl) ?_
      exact r_iret (dc D_cX11_ends_0 10 rfl) rfl (Rl rfl) h
    · have h := h.2 c6
      refine r_iloadn (dc D_cX11_ends_0 6 rfl) rfl rfl ?_
      refine r_iloadn (dc D_cX11_ends_0 7 rfl) rfl rfl ?_
      refine r_icmp_ne (tgt := 21) (dc D_cX11_ends_0 8 rfl) (by decide) ra1 ra2 (fun c7 => ?_) (fun c7 => ?_)
      · have h := h.1 c7
        refine r_aloadn (dc D_cX11_ends_0 11 rfl) rfl rfl ?_
        refine r_getR (dc D_cX11_ends_0 12 rfl) fw_RX11_12 lC_0 rfl ?_
        refine r_iloadn (dc D_cX11_ends_0 13 rfl) rfl rfl ?_
        refine r_put (dc D_cX11_ends_0 14 rfl) fw_RX11_128 fp_3_7 lC_1 rfl (nar_int _) ra1 ?_
        refine r_sig (fun σ8 eσ8 => ?_)
        have h := h σ8 eσ8
        have hσ8 : RS σ8 := RS_eq eσ8 (RS.up hσ5 ra1 _ _)
        refine r_aloadn (dc D_cX11_ends_0 15 rfl) rfl rfl ?_
        refine r_getR (dc D_cX11_ends_0 16 rfl) fw_RX11_12 lC_0 rfl ?_
        refine r_iloadn (dc D_cX11_ends_0 17 rfl) rfl rfl ?_
        refine r_put (dc D_cX11_ends_0 18 rfl) fw_RX11_131 fp_3_8 lC_1 rfl (nar_int _) ra2 ?_
        refine r_sig (fun σ9 eσ9 => ?_)
        have h := h σ9 eσ9
        have hσ9 : RS σ9 := RS_eq eσ9 (RS.up hσ8 ra2 _ _)
        refine r_aloadn (dc D_cX11_ends_0 19 rfl) rfl rfl ?_
        refine r_callV (As := []) (st := []) (dc D_cX11_ends_0 20 rfl) cw_RX11_96 nm_yX11_forget (CX11_forget hE  _ hσ9 h) lC_0 rfl rfl (by decide) rfl rfl rfl (fun z10 σ11 rz10 hσ11 h => ?_)
        show RW layC E mi_X11_ends Φ 41 [some (.ref (eA E 0)), some (.int (iz a1)), some (.int (iz a2))] [] σ11 x
        refine r_iconst (n := 1) (dc D_cX11_ends_0 21 rfl) ?_
        exact r_iret (dc D_cX11_ends_0 22 rfl) rfl (Rl rfl) h
      · have h := h.2 c7
        refine r_iconst (n := (-1)) (dc D_cX11_ends_0 9 rfl) ?_
        exact r_iret (dc D_cX11_ends_0 10 rfl) rfl (Rl rfl) h
-- end of GateFlow.ends
def mi_X3_usable : MI := (cX3_usable, RX3, 2, 2, (some .int), 1)
def FX3_usable (a1 : Int) (σ : PS) (Φ : Int → PS → Prop) : Prop :=
  FX3_has a1 σ (fun z1 σ2 =>
  ((z1 = 0 →
    Φ 0 σ2) ∧
  (¬ z1 = 0 →
    (0 ≤ a1 ∧ a1 < 30) ∧
    ((¬ σ2 18 a1.toNat = 1 →
      Φ 0 σ2) ∧
    (σ2 18 a1.toNat = 1 →
      (0 ≤ a1 ∧ a1 < 30) ∧
      Φ (σ2 16 a1.toNat) σ2)))))
theorem fw_RX11_22 : FW RX11 22 11 3 := ⟨RX11, TX11, 16, rfl, by decide, rfl, tb_1 500 (by decide +kernel), uw_11⟩
theorem fw_RX1_24 : FW RX1 24 1 4 := ⟨RX1, TX1, 11, rfl, by decide, rfl, tb_1 226 (by decide +kernel), uw_1⟩
theorem cw_RX3_46 : CWV RX3 46 yX3_has mi_X3_has := tb_r [618, 572, 573, 98, 574] (by decide +kernel)
set_option maxRecDepth 100000 in
theorem CX3_usable {E : EV} (hE : eOK layC E) {Φ : Int → PS → Prop} (a1 : Int) (ra1 : Rg a1) (σ : PS) (hs : RS σ) (h : FX3_usable a1 σ Φ) : CT layC E yX3_usable mi_X3_usable [.ref (eA E 1), .int (iz a1)] σ Φ := by
  refine ct_of (by decide +kernel) rfl hE rfl rfl hs (fun x => ?_)
  show RW layC E mi_X3_usable Φ 0 [some (.ref (eA E 1)), some (.int (iz a1))] [] σ x
  refine r_aloadn (dc D_cX3_usable_0 0 rfl) rfl rfl ?_
  refine r_iloadn (dc D_cX3_usable_0 1 rfl) rfl rfl ?_
  refine r_callV (As := [.int (iz a1)]) (st := []) (dc D_cX3_usable_0 2 rfl) cw_RX3_46 nm_yX3_has (CX3_has hE _ ra1 _ hs h) lC_1 rfl rfl (by decide) rfl rfl rfl (fun z1 σ2 rz1 hσ2 h => ?_)
  show RW layC E mi_X3_usable Φ 5 [some (.ref (eA E 1)), some (.int (iz a1))] [.int (iz z1)] σ2 x
  refine r_if_eq (tgt := 27) (dc D_cX3_usable_0 3 rfl) (by decide) rz1 (fun c3 => ?_) (fun c3 => ?_)
  · have h := h.1 c3
    refine r_iconst (n := 0) (dc D_cX3_usable_0 15 rfl) ?_
    exact r_iret (dc D_cX3_usable_0 16 rfl) rfl (Rl rfl) h
  · have h := h.2 c3
    refine r_aloadn (dc D_cX3_usable_0 4 rfl) rfl rfl ?_
    refine r_getR (dc D_cX3_usable_0 5 rfl) fw_RX3_27 lC_1 rfl ?_
    refine r_iloadn (dc D_cX3_usable_0 6 rfl) rfl rfl ?_
    obtain ⟨o4, h⟩ := h
    refine r_iald (N := 30) (dc D_cX3_usable_0 7 rfl) lC_18 rfl rfl o4 ?_
    refine r_iconst (n := 1) (dc D_cX3_usable_0 8 rfl) ?_
    refine r_icmp_ne (tgt := 27) (dc D_cX3_usable_0 9 rfl) (by decide) (hσ2 _ _) (Rl rfl) (fun c5 => ?_) (fun c5 => ?_)
    · have h := h.1 c5
      refine r_iconst (n := 0) (dc D_cX3_usable_0 15 rfl) ?_
      exact r_iret (dc D_cX3_usable_0 16 rfl) rfl (Rl rfl) h
    · have h := h.2 c5
      refine r_aloadn (dc D_cX3_usable_0 10 rfl) rfl rfl ?_
      refine r_getR (dc D_cX3_usable_0 11 rfl) fw_RX3_21 lC_1 rfl ?_
      refine r_iloadn (dc D_cX3_usable_0 12 rfl) rfl rfl ?_
      obtain ⟨o6, h⟩ := h
      refine r_iald (N := 30) (dc D_cX3_usable_0 13 rfl) lC_16 rfl rfl o6 ?_
      refine r_goto (tgt := 28) (dc D_cX3_usable_0 14 rfl) (by decide) ?_
      exact r_iret (dc D_cX3_usable_0 16 rfl) rfl (hσ2 _ _) h
-- end of GateFlow$Gates.usable
def mi_X3_copyUsable : MI := (cX3_copyUsable, RX3, 3, 3, none, 0)
def BX3_copyUsable_2 (K2 : Int → PS → Prop) (x2 : Int) (σ : PS) (Φ : Int → PS → Prop) : Prop :=
  ((σ 1 6 ≤ x2 →
    Φ 0 σ) ∧
  (¬ σ 1 6 ≤ x2 →
    ((30 ≤ x2 →
      Φ 0 σ) ∧
    (¬ 30 ≤ x2 →
      FX3_usable x2 σ (fun z3 σ4 =>
      (0 ≤ x2 ∧ x2 < 30) ∧
      ∀ σ6 : PS, σ6 = up2 σ4 29 x2.toNat z3 →
      Rg (x2 + 1) ∧
      K2 (x2 + 1) σ6)))))
def LX3_copyUsable_2 : Nat → Int → PS → (Int → PS → Prop) → Prop
  | 0, _, _, _ => False
  | n + 1, x2, σ, Φ => BX3_copyUsable_2 (fun x2 σ => LX3_copyUsable_2 n x2 σ Φ) x2 σ Φ
def FX3_copyUsable (σ : PS) (Φ : Int → PS → Prop) : Prop :=
  ∃ n, LX3_copyUsable_2 n 0 σ Φ
theorem cw_RX3_50 : CWV RX3 50 yX3_usable mi_X3_usable := tb_r [614, 615, 616, 98, 617] (by decide +kernel)
theorem nm_yX3_usable : ynm yX3_usable 1 := ⟨⟨by decide +kernel, by decide +kernel⟩, by decide +kernel⟩
set_option maxRecDepth 100000 in
theorem TBX3_copyUsable_2 {E : EV} (hE : eOK layC E) {Φ : Int → PS → Prop} {K2 : Int → PS → Prop} (x : CX) (hK2 : ∀ (x2 : Int) (σ : PS), Rg x2 → RS σ → K2 x2 σ → RW layC E mi_X3_copyUsable Φ 2 [some (.ref (eA E 1)), some (.ref (eA E 29)), some (.int (iz x2))] [] σ x) (x2 : Int) (rx2 : Rg x2) (σ : PS) (hs : RS σ) (h : BX3_copyUsable_2 K2 x2 σ Φ) : RW layC E mi_X3_copyUsable Φ 2 [some (.ref (eA E 1)), some (.ref (eA E 29)), some (.int (iz x2))] [] σ x := by
  refine r_iloadn (dc D_cX3_copyUsable_0 2 rfl) rfl rfl ?_
  refine r_aloadn (dc D_cX3_copyUsable_0 3 rfl) rfl rfl ?_
  refine r_getI (dc D_cX3_copyUsable_0 4 rfl) fw_RX3_34 lC_1 rfl ?_
  refine r_icmp_ge (tgt := 30) (dc D_cX3_copyUsable_0 5 rfl) (by decide) rx2 (hs _ _) (fun c1 => ?_) (fun c1 => ?_)
  · have h := h.1 c1
    exact r_vret (dc D_cX3_copyUsable_0 18 rfl) rfl h
  · have h := h.2 c1
    refine r_iloadn (dc D_cX3_copyUsable_0 6 rfl) rfl rfl ?_
    refine r_aloadn (dc D_cX3_copyUsable_0 7 rfl) rfl rfl ?_
    refine r_alen (N := 30) (dc D_cX3_copyUsable_0 8 rfl) lC_29 rfl rfl ?_
    refine r_icmp_ge (tgt := 30) (dc D_cX3_copyUsable_0 9 rfl) (by decide) rx2 (Rl rfl) (fun c2 => ?_) (fun c2 => ?_)
    · have h := h.1 c2
      exact r_vret (dc D_cX3_copyUsable_0 18 rfl) rfl h
    · have h := h.2 c2
      refine r_aloadn (dc D_cX3_copyUsable_0 10 rfl) rfl rfl ?_
      refine r_iloadn (dc D_cX3_copyUsable_0 11 rfl) rfl rfl ?_
      refine r_aloadn (dc D_cX3_copyUsable_0 12 rfl) rfl rfl ?_
      refine r_iloadn (dc D_cX3_copyUsable_0 13 rfl) rfl rfl ?_
      refine r_callV (As := [.int (iz x2)]) (st := [.int (iz x2), .ref (eA E 29)]) (dc D_cX3_copyUsable_0 14 rfl) cw_RX3_50 nm_yX3_usable (CX3_usable hE _ rx2 _ hs h) lC_1 rfl rfl (by decide) rfl rfl rfl (fun z3 σ4 rz3 hσ4 h => ?_)
      show RW layC E mi_X3_copyUsable Φ 23 [some (.ref (eA E 1)), some (.ref (eA E 29)), some (.int (iz x2))] [.int (iz z3), .int (iz x2), .ref (eA E 29)] σ4 x
      obtain ⟨o5, h⟩ := h
      refine r_iast (N := 30) (dc D_cX3_copyUsable_0 15 rfl) lC_29 rfl rfl o5 rz3 ?_
      refine r_sig (fun σ6 eσ6 => ?_)
      have h := h σ6 eσ6
      have hσ6 : RS σ6 := RS_eq eσ6 (RS.up hσ4 rz3 _ _)
      obtain ⟨o7, h⟩ := h
      refine r_iinc (lv' := [some (.ref (eA E 1)), some (.ref (eA E 29)), some (.int (iz (x2 + 1)))]) (dc D_cX3_copyUsable_0 16 rfl) rfl rfl rfl ?_
      refine r_goto (tgt := 2) (dc D_cX3_copyUsable_0 17 rfl) (by decide) ?_
      exact hK2 _ _ o7 hσ6 h
theorem TX3_copyUsable_2 {E : EV} (hE : eOK layC E) {Φ : Int → PS → Prop} (x : CX) (n : Nat) : ∀ (x2 : Int) (σ : PS), Rg x2 → RS σ → LX3_copyUsable_2 n x2 σ Φ → RW layC E mi_X3_copyUsable Φ 2 [some (.ref (eA E 1)), some (.ref (eA E 29)), some (.int (iz x2))] [] σ x := by
  induction n with
  | zero => intro x2 σ _ _ h; exact h.elim
  | succ n ih => intro x2 σ rx2 hs h; exact TBX3_copyUsable_2 hE x ih x2 rx2 σ hs h
set_option maxRecDepth 100000 in
theorem CX3_copyUsable {E : EV} (hE : eOK layC E) {Φ : Int → PS → Prop} (σ : PS) (hs : RS σ) (h : FX3_copyUsable σ Φ) : CT layC E yX3_copyUsable mi_X3_copyUsable [.ref (eA E 1), .ref (eA E 29)] σ Φ := by
  refine ct_of (by decide +kernel) rfl hE rfl rfl hs (fun x => ?_)
  show RW layC E mi_X3_copyUsable Φ 0 [some (.ref (eA E 1)), some (.ref (eA E 29)), none] [] σ x
  refine r_iconst (n := 0) (dc D_cX3_copyUsable_0 0 rfl) ?_
  refine r_istoren (lv' := [some (.ref (eA E 1)), some (.ref (eA E 29)), some (.int (iz 0))]) (dc D_cX3_copyUsable_0 1 rfl) rfl rfl rfl ?_
  obtain ⟨n, h⟩ := h
  exact TX3_copyUsable_2 hE x n _ _ (Rl rfl) hs h
-- end of GateFlow$Gates.copyUsable
def mi_X1_backward : MI := (cX1_backward, RX1, 2, 1, (some .boolean), 1)
def FX1_backward (a1 : Int) (σ : PS) (Φ : Int → PS → Prop) : Prop :=
  (0 ≤ a1 ∧ a1 < 30) ∧
  ((σ 25 a1.toNat ≤ 0 →
    Φ 0 σ) ∧
  (¬ σ 25 a1.toNat ≤ 0 →
    Φ 1 σ))
theorem fw_RX1_9 : FW RX1 9 1 0 := ⟨RX1, TX1, 11, rfl, by decide, rfl, tb_1 217 (by decide +kernel), uw_1⟩
theorem fw_RX1_27 : FW RX1 27 1 5 := ⟨RX1, TX1, 11, rfl, by decide, rfl, tb_1 227 (by decide +kernel), uw_1⟩
theorem fw_RX1_72 : FW RX1 72 3 8 := ⟨RX3, TX3, 9, rfl, by decide, rfl, tb_1 187 (by decide +kernel), uw_3⟩
theorem fw_RX1_30 : FW RX1 30 1 6 := ⟨RX1, TX1, 11, rfl, by decide, rfl, tb_1 228 (by decide +kernel), uw_1⟩
theorem fw_RX1_75 : FW RX1 75 3 6 := ⟨RX3, TX3, 9, rfl, by decide, rfl, tb_1 174 (by decide +kernel), uw_3⟩
theorem fw_RX1_76 : FW RX1 76 3 1 := ⟨RX3, TX3, 9, rfl, by decide, rfl, tb_1 147 (by decide +kernel), uw_3⟩
theorem fw_RX1_83 : FW RX1 83 3 0 := ⟨RX3, TX3, 9, rfl, by decide, rfl, tb_1 138 (by decide +kernel), uw_3⟩
set_option maxRecDepth 100000 in
theorem CX1_backward {E : EV} (hE : eOK layC E) {Φ : Int → PS → Prop} (a1 : Int) (ra1 : Rg a1) (σ : PS) (hs : RS σ) (h : FX1_backward a1 σ Φ) : CT layC E yX1_backward mi_X1_backward [.ref (eA E 3), .int (iz a1)] σ Φ := by
  refine ct_of (by decide +kernel) rfl hE rfl rfl hs (fun x => ?_)
  show RW layC E mi_X1_backward Φ 0 [some (.ref (eA E 3)), some (.int (iz a1))] [] σ x
  refine r_aloadn (dc D_cX1_backward_0 0 rfl) rfl rfl ?_
  refine r_getR (dc D_cX1_backward_0 1 rfl) fw_RX1_9 lC_3 rfl ?_
  refine r_iloadn (dc D_cX1_backward_0 2 rfl) rfl rfl ?_
  obtain ⟨o1, h⟩ := h
  refine r_iald (N := 30) (dc D_cX1_backward_0 3 rfl) lC_25 rfl rfl o1 ?_
  refine r_if_le (tgt := 13) (dc D_cX1_backward_0 4 rfl) (by decide) (hs _ _) (fun c2 => ?_) (fun c2 => ?_)
  · have h := h.1 c2
    refine r_iconst (n := 0) (dc D_cX1_backward_0 7 rfl) ?_
    exact r_zret (dc D_cX1_backward_0 8 rfl) rfl (by decide) h
  · have h := h.2 c2
    refine r_iconst (n := 1) (dc D_cX1_backward_0 5 rfl) ?_
    refine r_goto (tgt := 14) (dc D_cX1_backward_0 6 rfl) (by decide) ?_
    exact r_zret (dc D_cX1_backward_0 8 rfl) rfl (by decide) h
-- end of GateFlow$ByWays.backward
def mi_X1_forward : MI := (cX1_forward, RX1, 2, 1, (some .boolean), 1)
def FX1_forward (a1 : Int) (σ : PS) (Φ : Int → PS → Prop) : Prop :=
  (0 ≤ a1 ∧ a1 < 30) ∧
  (0 ≤ a1 ∧ a1 < 30) ∧
  ((σ 29 a1.toNat ≤ σ 25 a1.toNat →
    Φ 0 σ) ∧
  (¬ σ 29 a1.toNat ≤ σ 25 a1.toNat →
    Φ 1 σ))
set_option maxRecDepth 100000 in
theorem CX1_forward {E : EV} (hE : eOK layC E) {Φ : Int → PS → Prop} (a1 : Int) (ra1 : Rg a1) (σ : PS) (hs : RS σ) (h : FX1_forward a1 σ Φ) : CT layC E yX1_forward mi_X1_forward [.ref (eA E 3), .int (iz a1)] σ Φ := by
  refine ct_of (by decide +kernel) rfl hE rfl rfl hs (fun x => ?_)
  show RW layC E mi_X1_forward Φ 0 [some (.ref (eA E 3)), some (.int (iz a1))] [] σ x
  refine r_aloadn (dc D_cX1_forward_0 0 rfl) rfl rfl ?_
  refine r_getR (dc D_cX1_forward_0 1 rfl) fw_RX1_9 lC_3 rfl ?_
  refine r_iloadn (dc D_cX1_forward_0 2 rfl) rfl rfl ?_
  obtain ⟨o1, h⟩ := h
  refine r_iald (N := 30) (dc D_cX1_forward_0 3 rfl) lC_25 rfl rfl o1 ?_
  refine r_aloadn (dc D_cX1_forward_0 4 rfl) rfl rfl ?_
  refine r_getR (dc D_cX1_forward_0 5 rfl) fw_RX1_24 lC_3 rfl ?_
  refine r_iloadn (dc D_cX1_forward_0 6 rfl) rfl rfl ?_
  obtain ⟨o2, h⟩ := h
  refine r_iald (N := 30) (dc D_cX1_forward_0 7 rfl) lC_29 rfl rfl o2 ?_
  refine r_icmp_ge (tgt := 19) (dc D_cX1_forward_0 8 rfl) (by decide) (hs _ _) (hs _ _) (fun c3 => ?_) (fun c3 => ?_)
  · have h := h.1 c3
    refine r_iconst (n := 0) (dc D_cX1_forward_0 11 rfl) ?_
    exact r_zret (dc D_cX1_forward_0 12 rfl) rfl (by decide) h
  · have h := h.2 c3
    refine r_iconst (n := 1) (dc D_cX1_forward_0 9 rfl) ?_
    refine r_goto (tgt := 20) (dc D_cX1_forward_0 10 rfl) (by decide) ?_
    exact r_zret (dc D_cX1_forward_0 12 rfl) rfl (by decide) h
-- end of GateFlow$ByWays.forward
def mi_X1_measure : MI := (cX1_measure, RX1, 7, 4, none, 0)
def LX1_measure_177 (K32 : Int → Int → PS → Prop) (K54 : Int → Int → Int → Int → PS → Prop) (x2 x3 x4 x5 : Int) (σ : PS) (Φ : Int → PS → Prop) : Prop :=
  Rg (x5 + 1) ∧
  K54 x2 x3 x4 (x5 + 1) σ
def LX1_measure_129 (K32 : Int → Int → PS → Prop) (K54 : Int → Int → Int → Int → PS → Prop) (x2 x3 x4 x5 x6 : Int) (σ : PS) (Φ : Int → PS → Prop) : Prop :=
  ((x6 < 0 →
    LX1_measure_177 K32 K54 x2 x3 x4 x5 σ Φ) ∧
  (¬ x6 < 0 →
    (0 ≤ x6 ∧ x6 < 12) ∧
    ((0 ≤ σ 30 x6.toNat →
      LX1_measure_177 K32 K54 x2 x3 x4 x5 σ Φ) ∧
    (¬ 0 ≤ σ 30 x6.toNat →
      ((12 ≤ x2 →
        LX1_measure_177 K32 K54 x2 x3 x4 x5 σ Φ) ∧
      (¬ 12 ≤ x2 →
        (0 ≤ x4 ∧ x4 < 12) ∧
        Rg ((σ 30 x4.toNat) + 1) ∧
        (0 ≤ x6 ∧ x6 < 12) ∧
        ∀ σ8 : PS, σ8 = up2 σ 30 x6.toNat ((σ 30 x4.toNat) + 1) →
        (0 ≤ x2 ∧ x2 < 12) ∧
        ∀ σ10 : PS, σ10 = up2 σ8 31 x2.toNat x6 →
        Rg (x2 + 1) ∧
        LX1_measure_177 K32 K54 (x2 + 1) x3 x4 x5 σ10 Φ))))))
def LX1_measure_99 (K32 : Int → Int → PS → Prop) (K54 : Int → Int → Int → Int → PS → Prop) (x2 x3 x4 x5 x6 : Int) (σ : PS) (Φ : Int → PS → Prop) : Prop :=
  (0 ≤ x5 ∧ x5 < 30) ∧
  ((¬ σ 13 x5.toNat = x4 →
    LX1_measure_129 K32 K54 x2 x3 x4 x5 x6 σ Φ) ∧
  (σ 13 x5.toNat = x4 →
    FX1_backward x5 σ (fun z3 σ4 =>
    ((z3 = 0 →
      LX1_measure_129 K32 K54 x2 x3 x4 x5 x6 σ4 Φ) ∧
    (¬ z3 = 0 →
      (0 ≤ x5 ∧ x5 < 30) ∧
      ∀ v7 : Int, v7 = σ4 14 x5.toNat →
      LX1_measure_129 K32 K54 x2 x3 x4 x5 v7 σ4 Φ)))))
def BX1_measure_54 (K32 : Int → Int → PS → Prop) (K54 : Int → Int → Int → Int → PS → Prop) (x2 x3 x4 x5 : Int) (σ : PS) (Φ : Int → PS → Prop) : Prop :=
  ((σ 1 6 ≤ x5 →
    Rg (x3 + 1) ∧
    K32 x2 (x3 + 1) σ) ∧
  (¬ σ 1 6 ≤ x5 →
    (0 ≤ x5 ∧ x5 < 30) ∧
    ((¬ σ 14 x5.toNat = x4 →
      LX1_measure_99 K32 K54 x2 x3 x4 x5 (-1) σ Φ) ∧
    (σ 14 x5.toNat = x4 →
      FX1_forward x5 σ (fun z5 σ6 =>
      ((z5 = 0 →
        LX1_measure_99 K32 K54 x2 x3 x4 x5 (-1) σ6 Φ) ∧
      (¬ z5 = 0 →
        (0 ≤ x5 ∧ x5 < 30) ∧
        ∀ v9 : Int, v9 = σ6 13 x5.toNat →
        LX1_measure_129 K32 K54 x2 x3 x4 x5 v9 σ6 Φ)))))))
def LX1_measure_54 (K32 : Int → Int → PS → Prop) : Nat → Int → Int → Int → Int → PS → (Int → PS → Prop) → Prop
  | 0, _, _, _, _, _, _ => False
  | n + 1, x2, x3, x4, x5, σ, Φ => BX1_measure_54 K32 (fun x2 x3 x4 x5 σ => LX1_measure_54 K32 n x2 x3 x4 x5 σ Φ) x2 x3 x4 x5 σ Φ
def BX1_measure_32 (K32 : Int → Int → PS → Prop) (x2 x3 : Int) (σ : PS) (Φ : Int → PS → Prop) : Prop :=
  ((x2 ≤ x3 →
    Φ 0 σ) ∧
  (¬ x2 ≤ x3 →
    ((12 ≤ x3 →
      Φ 0 σ) ∧
    (¬ 12 ≤ x3 →
      (0 ≤ x3 ∧ x3 < 12) ∧
      ∀ v4 : Int, v4 = σ 31 x3.toNat →
      ∃ n, LX1_measure_54 K32 n x2 x3 v4 0 σ Φ))))
def LX1_measure_32 : Nat → Int → Int → PS → (Int → PS → Prop) → Prop
  | 0, _, _, _, _ => False
  | n + 1, x2, x3, σ, Φ => BX1_measure_32 (fun x2 x3 σ => LX1_measure_32 n x2 x3 σ Φ) x2 x3 σ Φ
def FX1_measure (σ : PS) (Φ : Int → PS → Prop) : Prop :=
  ∀ σ1 : PS, σ1 = fl2 σ 30 0 12 (-1) →
  (0 ≤ σ1 1 8 ∧ σ1 1 8 < 12) ∧
  ∀ σ3 : PS, σ3 = up2 σ1 30 (σ1 1 8).toNat 0 →
  ∀ σ4 : PS, σ4 = up2 σ3 31 0 (σ3 1 8) →
  ∃ n, LX1_measure_32 n 1 0 σ4 Φ
theorem cw_RX1_86 : CWV RX1 86 yX1_backward mi_X1_backward := tb_r [628, 630, 4, 99, 631] (by decide +kernel)
theorem nm_yX1_backward : ynm yX1_backward 1 := ⟨⟨by decide +kernel, by decide +kernel⟩, by decide +kernel⟩
theorem cw_RX1_79 : CWV RX1 79 yX1_forward mi_X1_forward := tb_r [624, 626, 3, 99, 627] (by decide +kernel)
theorem nm_yX1_forward : ynm yX1_forward 1 := ⟨⟨by decide +kernel, by decide +kernel⟩, by decide +kernel⟩
theorem cw_RX1_39 : CWS RX1 39 yJ7_fill_53178 mi_fill := tb_r [619, 488, 109, 489] (by decide +kernel)
set_option maxRecDepth 100000 in
theorem TX1_measure_177 {E : EV} (hE : eOK layC E) {Φ : Int → PS → Prop} {K32 : Int → Int → PS → Prop} {K54 : Int → Int → Int → Int → PS → Prop} (x : CX) (hK32 : ∀ (x2 x3 : Int) (σ : PS), Rg x2 → Rg x3 → RS σ → K32 x2 x3 σ → RW layC E mi_X1_measure Φ 32 [some (.ref (eA E 3)), some (.ref (eA E 1)), some (.int (iz x2)), some (.int (iz x3)), none, none, none] [] σ x) (hK54 : ∀ (x2 x3 x4 x5 : Int) (σ : PS), Rg x2 → Rg x3 → Rg x4 → Rg x5 → RS σ → K54 x2 x3 x4 x5 σ → RW layC E mi_X1_measure Φ 54 [some (.ref (eA E 3)), some (.ref (eA E 1)), some (.int (iz x2)), some (.int (iz x3)), some (.int (iz x4)), some (.int (iz x5)), none] [] σ x) (x2 x3 x4 x5 : Int) (rx2 : Rg x2) (rx3 : Rg x3) (rx4 : Rg x4) (rx5 : Rg x5) (σ : PS) (hs : RS σ) (h : LX1_measure_177 K32 K54 x2 x3 x4 x5 σ Φ) : RW layC E mi_X1_measure Φ 177 [some (.ref (eA E 3)), some (.ref (eA E 1)), some (.int (iz x2)), some (.int (iz x3)), some (.int (iz x4)), some (.int (iz x5)), none] [] σ x := by
  obtain ⟨o1, h⟩ := h
  refine r_iinc (lv' := [some (.ref (eA E 3)), some (.ref (eA E 1)), some (.int (iz x2)), some (.int (iz x3)), some (.int (iz x4)), some (.int (iz (x5 + 1))), none]) (dc D_cX1_measure_2 16 rfl) rfl rfl rfl ?_
  refine r_goto (tgt := 54) (dc D_cX1_measure_2 17 rfl) (by decide) ?_
  exact hK54 _ _ _ _ _ rx2 rx3 rx4 o1 hs h
set_option maxRecDepth 100000 in
theorem TX1_measure_129 {E : EV} (hE : eOK layC E) {Φ : Int → PS → Prop} {K32 : Int → Int → PS → Prop} {K54 : Int → Int → Int → Int → PS → Prop} (x : CX) (hK32 : ∀ (x2 x3 : Int) (σ : PS), Rg x2 → Rg x3 → RS σ → K32 x2 x3 σ → RW layC E mi_X1_measure Φ 32 [some (.ref (eA E 3)), some (.ref (eA E 1)), some (.int (iz x2)), some (.int (iz x3)), none, none, none] [] σ x) (hK54 : ∀ (x2 x3 x4 x5 : Int) (σ : PS), Rg x2 → Rg x3 → Rg x4 → Rg x5 → RS σ → K54 x2 x3 x4 x5 σ → RW layC E mi_X1_measure Φ 54 [some (.ref (eA E 3)), some (.ref (eA E 1)), some (.int (iz x2)), some (.int (iz x3)), some (.int (iz x4)), some (.int (iz x5)), none] [] σ x) (x2 x3 x4 x5 x6 : Int) (rx2 : Rg x2) (rx3 : Rg x3) (rx4 : Rg x4) (rx5 : Rg x5) (rx6 : Rg x6) (σ : PS) (hs : RS σ) (h : LX1_measure_129 K32 K54 x2 x3 x4 x5 x6 σ Φ) : RW layC E mi_X1_measure Φ 129 [some (.ref (eA E 3)), some (.ref (eA E 1)), some (.int (iz x2)), some (.int (iz x3)), some (.int (iz x4)), some (.int (iz x5)), some (.int (iz x6))] [] σ x := by
  refine r_iload (dc D_cX1_measure_1 30 rfl) rfl ?_
  refine r_if_lt (tgt := 177) (dc D_cX1_measure_1 31 rfl) (by decide) rx6 (fun c1 => ?_) (fun c1 => ?_)
  · have h := h.1 c1
    refine r_sub (lv' := [some (.ref (eA E 3)), some (.ref (eA E 1)), some (.int (iz x2)), some (.int (iz x3)), some (.int (iz x4)), some (.int (iz x5)), none]) (subL_s (subL_s (subL_s (subL_s (subL_s (subL_s (subL_n subL_e))))))) ?_
    exact TX1_measure_177 hE x hK32 hK54 _ _ _ _ rx2 rx3 rx4 rx5 _ hs h
  · have h := h.2 c1
    refine r_aloadn (dc D_cX1_measure_1 32 rfl) rfl rfl ?_
    refine r_getR (dc D_cX1_measure_1 33 rfl) fw_RX1_27 lC_3 rfl ?_
    refine r_iload (dc D_cX1_measure_1 34 rfl) rfl ?_
    obtain ⟨o2, h⟩ := h
    refine r_iald (N := 12) (dc D_cX1_measure_1 35 rfl) lC_30 rfl rfl o2 ?_
    refine r_if_ge (tgt := 177) (dc D_cX1_measure_1 36 rfl) (by decide) (hs _ _) (fun c3 => ?_) (fun c3 => ?_)
    · have h := h.1 c3
      refine r_sub (lv' := [some (.ref (eA E 3)), some (.ref (eA E 1)), some (.int (iz x2)), some (.int (iz x3)), some (.int (iz x4)), some (.int (iz x5)), none]) (subL_s (subL_s (subL_s (subL_s (subL_s (subL_s (subL_n subL_e))))))) ?_
      exact TX1_measure_177 hE x hK32 hK54 _ _ _ _ rx2 rx3 rx4 rx5 _ hs h
    · have h := h.2 c3
      refine r_iloadn (dc D_cX1_measure_1 37 rfl) rfl rfl ?_
      refine r_bipush (n := 12) (dc D_cX1_measure_1 38 rfl) (by decide +kernel) ?_
      refine r_icmp_ge (tgt := 177) (dc D_cX1_measure_1 39 rfl) (by decide) rx2 (Rl rfl) (fun c4 => ?_) (fun c4 => ?_)
      · have h := h.1 c4
        refine r_sub (lv' := [some (.ref (eA E 3)), some (.ref (eA E 1)), some (.int (iz x2)), some (.int (iz x3)), some (.int (iz x4)), some (.int (iz x5)), none]) (subL_s (subL_s (subL_s (subL_s (subL_s (subL_s (subL_n subL_e))))))) ?_
        exact TX1_measure_177 hE x hK32 hK54 _ _ _ _ rx2 rx3 rx4 rx5 _ hs h
      · have h := h.2 c4
        refine r_aloadn (dc D_cX1_measure_2 0 rfl) rfl rfl ?_
        refine r_getR (dc D_cX1_measure_2 1 rfl) fw_RX1_27 lC_3 rfl ?_
        refine r_iload (dc D_cX1_measure_2 2 rfl) rfl ?_
        refine r_aloadn (dc D_cX1_measure_2 3 rfl) rfl rfl ?_
        refine r_getR (dc D_cX1_measure_2 4 rfl) fw_RX1_27 lC_3 rfl ?_
        refine r_iload (dc D_cX1_measure_2 5 rfl) rfl ?_
        obtain ⟨o5, h⟩ := h
        refine r_iald (N := 12) (dc D_cX1_measure_2 6 rfl) lC_30 rfl rfl o5 ?_
        refine r_iconst (n := 1) (dc D_cX1_measure_2 7 rfl) ?_
        refine r_iadd (dc D_cX1_measure_2 8 rfl) ?_
        obtain ⟨o6, h⟩ := h
        obtain ⟨o7, h⟩ := h
        refine r_iast (N := 12) (dc D_cX1_measure_2 9 rfl) lC_30 rfl rfl o7 o6 ?_
        refine r_sig (fun σ8 eσ8 => ?_)
        have h := h σ8 eσ8
        have hσ8 : RS σ8 := RS_eq eσ8 (RS.up hs o6 _ _)
        refine r_aloadn (dc D_cX1_measure_2 10 rfl) rfl rfl ?_
        refine r_getR (dc D_cX1_measure_2 11 rfl) fw_RX1_30 lC_3 rfl ?_
        refine r_iloadn (dc D_cX1_measure_2 12 rfl) rfl rfl ?_
        refine r_iload (dc D_cX1_measure_2 13 rfl) rfl ?_
        obtain ⟨o9, h⟩ := h
        refine r_iast (N := 12) (dc D_cX1_measure_2 14 rfl) lC_31 rfl rfl o9 rx6 ?_
        refine r_sig (fun σ10 eσ10 => ?_)
        have h := h σ10 eσ10
        have hσ10 : RS σ10 := RS_eq eσ10 (RS.up hσ8 rx6 _ _)
        obtain ⟨o11, h⟩ := h
        refine r_iinc (lv' := [some (.ref (eA E 3)), some (.ref (eA E 1)), some (.int (iz (x2 + 1))), some (.int (iz x3)), some (.int (iz x4)), some (.int (iz x5)), some (.int (iz x6))]) (dc D_cX1_measure_2 15 rfl) rfl rfl rfl ?_
        refine r_sub (lv' := [some (.ref (eA E 3)), some (.ref (eA E 1)), some (.int (iz (x2 + 1))), some (.int (iz x3)), some (.int (iz x4)), some (.int (iz x5)), none]) (subL_s (subL_s (subL_s (subL_s (subL_s (subL_s (subL_n subL_e))))))) ?_
        exact TX1_measure_177 hE x hK32 hK54 _ _ _ _ o11 rx3 rx4 rx5 _ hσ10 h
set_option maxRecDepth 100000 in
theorem TX1_measure_99 {E : EV} (hE : eOK layC E) {Φ : Int → PS → Prop} {K32 : Int → Int → PS → Prop} {K54 : Int → Int → Int → Int → PS → Prop} (x : CX) (hK32 : ∀ (x2 x3 : Int) (σ : PS), Rg x2 → Rg x3 → RS σ → K32 x2 x3 σ → RW layC E mi_X1_measure Φ 32 [some (.ref (eA E 3)), some (.ref (eA E 1)), some (.int (iz x2)), some (.int (iz x3)), none, none, none] [] σ x) (hK54 : ∀ (x2 x3 x4 x5 : Int) (σ : PS), Rg x2 → Rg x3 → Rg x4 → Rg x5 → RS σ → K54 x2 x3 x4 x5 σ → RW layC E mi_X1_measure Φ 54 [some (.ref (eA E 3)), some (.ref (eA E 1)), some (.int (iz x2)), some (.int (iz x3)), some (.int (iz x4)), some (.int (iz x5)), none] [] σ x) (x2 x3 x4 x5 x6 : Int) (rx2 : Rg x2) (rx3 : Rg x3) (rx4 : Rg x4) (rx5 : Rg x5) (rx6 : Rg x6) (σ : PS) (hs : RS σ) (h : LX1_measure_99 K32 K54 x2 x3 x4 x5 x6 σ Φ) : RW layC E mi_X1_measure Φ 99 [some (.ref (eA E 3)), some (.ref (eA E 1)), some (.int (iz x2)), some (.int (iz x3)), some (.int (iz x4)), some (.int (iz x5)), some (.int (iz x6))] [] σ x := by
  refine r_aloadn (dc D_cX1_measure_1 15 rfl) rfl rfl ?_
  refine r_getR (dc D_cX1_measure_1 16 rfl) fw_RX1_83 lC_1 rfl ?_
  refine r_iload (dc D_cX1_measure_1 17 rfl) rfl ?_
  obtain ⟨o1, h⟩ := h
  refine r_iald (N := 30) (dc D_cX1_measure_1 18 rfl) lC_13 rfl rfl o1 ?_
  refine r_iload (dc D_cX1_measure_1 19 rfl) rfl ?_
  refine r_icmp_ne (tgt := 129) (dc D_cX1_measure_1 20 rfl) (by decide) (hs _ _) rx4 (fun c2 => ?_) (fun c2 => ?_)
  · have h := h.1 c2
    exact TX1_measure_129 hE x hK32 hK54 _ _ _ _ _ rx2 rx3 rx4 rx5 rx6 _ hs h
  · have h := h.2 c2
    refine r_aloadn (dc D_cX1_measure_1 21 rfl) rfl rfl ?_
    refine r_iload (dc D_cX1_measure_1 22 rfl) rfl ?_
    refine r_callV (As := [.int (iz x5)]) (st := []) (dc D_cX1_measure_1 23 rfl) cw_RX1_86 nm_yX1_backward (CX1_backward hE _ rx5 _ hs h) lC_3 rfl rfl (by decide) rfl rfl rfl (fun z3 σ4 rz3 hσ4 h => ?_)
    show RW layC E mi_X1_measure Φ 117 [some (.ref (eA E 3)), some (.ref (eA E 1)), some (.int (iz x2)), some (.int (iz x3)), some (.int (iz x4)), some (.int (iz x5)), some (.int (iz x6))] [.int (iz z3)] σ4 x
    refine r_if_eq (tgt := 129) (dc D_cX1_measure_1 24 rfl) (by decide) rz3 (fun c5 => ?_) (fun c5 => ?_)
    · have h := h.1 c5
      exact TX1_measure_129 hE x hK32 hK54 _ _ _ _ _ rx2 rx3 rx4 rx5 rx6 _ hσ4 h
    · have h := h.2 c5
      refine r_aloadn (dc D_cX1_measure_1 25 rfl) rfl rfl ?_
      refine r_getR (dc D_cX1_measure_1 26 rfl) fw_RX1_76 lC_1 rfl ?_
      refine r_iload (dc D_cX1_measure_1 27 rfl) rfl ?_
      obtain ⟨o6, h⟩ := h
      refine r_iald (N := 30) (dc D_cX1_measure_1 28 rfl) lC_14 rfl rfl o6 ?_
      refine r_name (fun v7 ev7 => ?_)
      have h := h v7 ev7
      have rv7 : Rg v7 := Rg_eq ev7 (hσ4 _ _)
      refine r_istore (lv' := [some (.ref (eA E 3)), some (.ref (eA E 1)), some (.int (iz x2)), some (.int (iz x3)), some (.int (iz x4)), some (.int (iz x5)), some (.int (iz v7))]) (dc D_cX1_measure_1 29 rfl) rfl rfl ?_
      exact TX1_measure_129 hE x hK32 hK54 _ _ _ _ _ rx2 rx3 rx4 rx5 rv7 _ hσ4 h
set_option maxRecDepth 100000 in
theorem TBX1_measure_54 {E : EV} (hE : eOK layC E) {Φ : Int → PS → Prop} {K32 : Int → Int → PS → Prop} {K54 : Int → Int → Int → Int → PS → Prop} (x : CX) (hK32 : ∀ (x2 x3 : Int) (σ : PS), Rg x2 → Rg x3 → RS σ → K32 x2 x3 σ → RW layC E mi_X1_measure Φ 32 [some (.ref (eA E 3)), some (.ref (eA E 1)), some (.int (iz x2)), some (.int (iz x3)), none, none, none] [] σ x) (hK54 : ∀ (x2 x3 x4 x5 : Int) (σ : PS), Rg x2 → Rg x3 → Rg x4 → Rg x5 → RS σ → K54 x2 x3 x4 x5 σ → RW layC E mi_X1_measure Φ 54 [some (.ref (eA E 3)), some (.ref (eA E 1)), some (.int (iz x2)), some (.int (iz x3)), some (.int (iz x4)), some (.int (iz x5)), none] [] σ x) (x2 x3 x4 x5 : Int) (rx2 : Rg x2) (rx3 : Rg x3) (rx4 : Rg x4) (rx5 : Rg x5) (σ : PS) (hs : RS σ) (h : BX1_measure_54 K32 K54 x2 x3 x4 x5 σ Φ) : RW layC E mi_X1_measure Φ 54 [some (.ref (eA E 3)), some (.ref (eA E 1)), some (.int (iz x2)), some (.int (iz x3)), some (.int (iz x4)), some (.int (iz x5)), none] [] σ x := by
  refine r_iload (dc D_cX1_measure_0 33 rfl) rfl ?_
  refine r_aloadn (dc D_cX1_measure_0 34 rfl) rfl rfl ?_
  refine r_getI (dc D_cX1_measure_0 35 rfl) fw_RX1_75 lC_1 rfl ?_
  refine r_icmp_ge (tgt := 183) (dc D_cX1_measure_0 36 rfl) (by decide) rx5 (hs _ _) (fun c1 => ?_) (fun c1 => ?_)
  · have h := h.1 c1
    obtain ⟨o2, h⟩ := h
    refine r_iinc (lv' := [some (.ref (eA E 3)), some (.ref (eA E 1)), some (.int (iz x2)), some (.int (iz (x3 + 1))), some (.int (iz x4)), some (.int (iz x5)), none]) (dc D_cX1_measure_2 18 rfl) rfl rfl rfl ?_
    refine r_goto (tgt := 32) (dc D_cX1_measure_2 19 rfl) (by decide) ?_
    refine r_sub (lv' := [some (.ref (eA E 3)), some (.ref (eA E 1)), some (.int (iz x2)), some (.int (iz (x3 + 1))), none, none, none]) (subL_s (subL_s (subL_s (subL_s (subL_n (subL_n (subL_n subL_e))))))) ?_
    exact hK32 _ _ _ rx2 o2 hs h
  · have h := h.2 c1
    refine r_iconst (n := (-1)) (dc D_cX1_measure_0 37 rfl) ?_
    refine r_istore (lv' := [some (.ref (eA E 3)), some (.ref (eA E 1)), some (.int (iz x2)), some (.int (iz x3)), some (.int (iz x4)), some (.int (iz x5)), some (.int (iz (-1)))]) (dc D_cX1_measure_0 38 rfl) rfl rfl ?_
    refine r_aloadn (dc D_cX1_measure_0 39 rfl) rfl rfl ?_
    refine r_getR (dc D_cX1_measure_1 0 rfl) fw_RX1_76 lC_1 rfl ?_
    refine r_iload (dc D_cX1_measure_1 1 rfl) rfl ?_
    obtain ⟨o3, h⟩ := h
    refine r_iald (N := 30) (dc D_cX1_measure_1 2 rfl) lC_14 rfl rfl o3 ?_
    refine r_iload (dc D_cX1_measure_1 3 rfl) rfl ?_
    refine r_icmp_ne (tgt := 99) (dc D_cX1_measure_1 4 rfl) (by decide) (hs _ _) rx4 (fun c4 => ?_) (fun c4 => ?_)
    · have h := h.1 c4
      exact TX1_measure_99 hE x hK32 hK54 _ _ _ _ _ rx2 rx3 rx4 rx5 (Rl rfl) _ hs h
    · have h := h.2 c4
      refine r_aloadn (dc D_cX1_measure_1 5 rfl) rfl rfl ?_
      refine r_iload (dc D_cX1_measure_1 6 rfl) rfl ?_
      refine r_callV (As := [.int (iz x5)]) (st := []) (dc D_cX1_measure_1 7 rfl) cw_RX1_79 nm_yX1_forward (CX1_forward hE _ rx5 _ hs h) lC_3 rfl rfl (by decide) rfl rfl rfl (fun z5 σ6 rz5 hσ6 h => ?_)
      show RW layC E mi_X1_measure Φ 84 [some (.ref (eA E 3)), some (.ref (eA E 1)), some (.int (iz x2)), some (.int (iz x3)), some (.int (iz x4)), some (.int (iz x5)), some (.int (iz (-1)))] [.int (iz z5)] σ6 x
      refine r_if_eq (tgt := 99) (dc D_cX1_measure_1 8 rfl) (by decide) rz5 (fun c7 => ?_) (fun c7 => ?_)
      · have h := h.1 c7
        exact TX1_measure_99 hE x hK32 hK54 _ _ _ _ _ rx2 rx3 rx4 rx5 (Rl rfl) _ hσ6 h
      · have h := h.2 c7
        refine r_aloadn (dc D_cX1_measure_1 9 rfl) rfl rfl ?_
        refine r_getR (dc D_cX1_measure_1 10 rfl) fw_RX1_83 lC_1 rfl ?_
        refine r_iload (dc D_cX1_measure_1 11 rfl) rfl ?_
        obtain ⟨o8, h⟩ := h
        refine r_iald (N := 30) (dc D_cX1_measure_1 12 rfl) lC_13 rfl rfl o8 ?_
        refine r_name (fun v9 ev9 => ?_)
        have h := h v9 ev9
        have rv9 : Rg v9 := Rg_eq ev9 (hσ6 _ _)
        refine r_istore (lv' := [some (.ref (eA E 3)), some (.ref (eA E 1)), some (.int (iz x2)), some (.int (iz x3)), some (.int (iz x4)), some (.int (iz x5)), some (.int (iz v9))]) (dc D_cX1_measure_1 13 rfl) rfl rfl ?_
        refine r_goto (tgt := 129) (dc D_cX1_measure_1 14 rfl) (by decide) ?_
        exact TX1_measure_129 hE x hK32 hK54 _ _ _ _ _ rx2 rx3 rx4 rx5 rv9 _ hσ6 h
theorem TX1_measure_54 {E : EV} (hE : eOK layC E) {Φ : Int → PS → Prop} {K32 : Int → Int → PS → Prop} (x : CX) (hK32 : ∀ (x2 x3 : Int) (σ : PS), Rg x2 → Rg x3 → RS σ → K32 x2 x3 σ → RW layC E mi_X1_measure Φ 32 [some (.ref (eA E 3)), some (.ref (eA E 1)), some (.int (iz x2)), some (.int (iz x3)), none, none, none] [] σ x) (n : Nat) : ∀ (x2 x3 x4 x5 : Int) (σ : PS), Rg x2 → Rg x3 → Rg x4 → Rg x5 → RS σ → LX1_measure_54 K32 n x2 x3 x4 x5 σ Φ → RW layC E mi_X1_measure Φ 54 [some (.ref (eA E 3)), some (.ref (eA E 1)), some (.int (iz x2)), some (.int (iz x3)), some (.int (iz x4)), some (.int (iz x5)), none] [] σ x := by
  induction n with
  | zero => intro x2 x3 x4 x5 σ _ _ _ _ _ h; exact h.elim
  | succ n ih => intro x2 x3 x4 x5 σ rx2 rx3 rx4 rx5 hs h; exact TBX1_measure_54 hE x hK32 ih x2 x3 x4 x5 rx2 rx3 rx4 rx5 σ hs h
set_option maxRecDepth 100000 in
theorem TBX1_measure_32 {E : EV} (hE : eOK layC E) {Φ : Int → PS → Prop} {K32 : Int → Int → PS → Prop} (x : CX) (hK32 : ∀ (x2 x3 : Int) (σ : PS), Rg x2 → Rg x3 → RS σ → K32 x2 x3 σ → RW layC E mi_X1_measure Φ 32 [some (.ref (eA E 3)), some (.ref (eA E 1)), some (.int (iz x2)), some (.int (iz x3)), none, none, none] [] σ x) (x2 x3 : Int) (rx2 : Rg x2) (rx3 : Rg x3) (σ : PS) (hs : RS σ) (h : BX1_measure_32 K32 x2 x3 σ Φ) : RW layC E mi_X1_measure Φ 32 [some (.ref (eA E 3)), some (.ref (eA E 1)), some (.int (iz x2)), some (.int (iz x3)), none, none, none] [] σ x := by
  refine r_iloadn (dc D_cX1_measure_0 20 rfl) rfl rfl ?_
  refine r_iloadn (dc D_cX1_measure_0 21 rfl) rfl rfl ?_
  refine r_icmp_ge (tgt := 189) (dc D_cX1_measure_0 22 rfl) (by decide) rx3 rx2 (fun c1 => ?_) (fun c1 => ?_)
  · have h := h.1 c1
    exact r_vret (dc D_cX1_measure_2 20 rfl) rfl h
  · have h := h.2 c1
    refine r_iloadn (dc D_cX1_measure_0 23 rfl) rfl rfl ?_
    refine r_bipush (n := 12) (dc D_cX1_measure_0 24 rfl) (by decide +kernel) ?_
    refine r_icmp_ge (tgt := 189) (dc D_cX1_measure_0 25 rfl) (by decide) rx3 (Rl rfl) (fun c2 => ?_) (fun c2 => ?_)
    · have h := h.1 c2
      exact r_vret (dc D_cX1_measure_2 20 rfl) rfl h
    · have h := h.2 c2
      refine r_aloadn (dc D_cX1_measure_0 26 rfl) rfl rfl ?_
      refine r_getR (dc D_cX1_measure_0 27 rfl) fw_RX1_30 lC_3 rfl ?_
      refine r_iloadn (dc D_cX1_measure_0 28 rfl) rfl rfl ?_
      obtain ⟨o3, h⟩ := h
      refine r_iald (N := 12) (dc D_cX1_measure_0 29 rfl) lC_31 rfl rfl o3 ?_
      refine r_name (fun v4 ev4 => ?_)
      have h := h v4 ev4
      have rv4 : Rg v4 := Rg_eq ev4 (hs _ _)
      refine r_istore (lv' := [some (.ref (eA E 3)), some (.ref (eA E 1)), some (.int (iz x2)), some (.int (iz x3)), some (.int (iz v4)), none, none]) (dc D_cX1_measure_0 30 rfl) rfl rfl ?_
      refine r_iconst (n := 0) (dc D_cX1_measure_0 31 rfl) ?_
      refine r_istore (lv' := [some (.ref (eA E 3)), some (.ref (eA E 1)), some (.int (iz x2)), some (.int (iz x3)), some (.int (iz v4)), some (.int (iz 0)), none]) (dc D_cX1_measure_0 32 rfl) rfl rfl ?_
      obtain ⟨n, h⟩ := h
      exact TX1_measure_54 hE x hK32 n _ _ _ _ _ rx2 rx3 rv4 (Rl rfl) hs h
theorem TX1_measure_32 {E : EV} (hE : eOK layC E) {Φ : Int → PS → Prop} (x : CX) (n : Nat) : ∀ (x2 x3 : Int) (σ : PS), Rg x2 → Rg x3 → RS σ → LX1_measure_32 n x2 x3 σ Φ → RW layC E mi_X1_measure Φ 32 [some (.ref (eA E 3)), some (.ref (eA E 1)), some (.int (iz x2)), some (.int (iz x3)), none, none, none] [] σ x := by
  induction n with
  | zero => intro x2 x3 σ _ _ _ h; exact h.elim
  | succ n ih => intro x2 x3 σ rx2 rx3 hs h; exact TBX1_measure_32 hE x ih x2 x3 rx2 rx3 σ hs h
set_option maxRecDepth 100000 in
theorem CX1_measure {E : EV} (hE : eOK layC E) {Φ : Int → PS → Prop} (σ : PS) (hs : RS σ) (h : FX1_measure σ Φ) : CT layC E yX1_measure mi_X1_measure [.ref (eA E 3), .ref (eA E 1)] σ Φ := by
  refine ct_of (by decide +kernel) rfl hE rfl rfl hs (fun x => ?_)
  show RW layC E mi_X1_measure Φ 0 [some (.ref (eA E 3)), some (.ref (eA E 1)), none, none, none, none, none] [] σ x
  refine r_aloadn (dc D_cX1_measure_0 0 rfl) rfl rfl ?_
  refine r_getR (dc D_cX1_measure_0 1 rfl) fw_RX1_27 lC_3 rfl ?_
  refine r_iconst (n := (-1)) (dc D_cX1_measure_0 2 rfl) ?_
  refine r_fill (n := 12) (dc D_cX1_measure_0 3 rfl) cw_RX1_39 lC_30 rfl (Rl rfl) (by decide) rfl ?_
  refine r_sig (fun σ1 eσ1 => ?_)
  have h := h σ1 eσ1
  have hσ1 : RS σ1 := RS_eq eσ1 (RS.fl hs (Rl rfl))
  refine r_aloadn (dc D_cX1_measure_0 4 rfl) rfl rfl ?_
  refine r_getR (dc D_cX1_measure_0 5 rfl) fw_RX1_27 lC_3 rfl ?_
  refine r_aloadn (dc D_cX1_measure_0 6 rfl) rfl rfl ?_
  refine r_getI (dc D_cX1_measure_0 7 rfl) fw_RX1_72 lC_1 rfl ?_
  refine r_iconst (n := 0) (dc D_cX1_measure_0 8 rfl) ?_
  obtain ⟨o2, h⟩ := h
  refine r_iast (N := 12) (dc D_cX1_measure_0 9 rfl) lC_30 rfl rfl o2 (Rl rfl) ?_
  refine r_sig (fun σ3 eσ3 => ?_)
  have h := h σ3 eσ3
  have hσ3 : RS σ3 := RS_eq eσ3 (RS.up hσ1 (Rl rfl) _ _)
  refine r_aloadn (dc D_cX1_measure_0 10 rfl) rfl rfl ?_
  refine r_getR (dc D_cX1_measure_0 11 rfl) fw_RX1_30 lC_3 rfl ?_
  refine r_iconst (n := 0) (dc D_cX1_measure_0 12 rfl) ?_
  refine r_aloadn (dc D_cX1_measure_0 13 rfl) rfl rfl ?_
  refine r_getI (dc D_cX1_measure_0 14 rfl) fw_RX1_72 lC_1 rfl ?_
  refine r_iast (N := 12) (dc D_cX1_measure_0 15 rfl) lC_31 rfl rfl ⟨by decide, by decide⟩ (hσ3 _ _) ?_
  refine r_sig (fun σ4 eσ4 => ?_)
  have h := h σ4 eσ4
  have hσ4 : RS σ4 := RS_eq eσ4 (RS.up hσ3 (hσ3 _ _) _ _)
  refine r_iconst (n := 1) (dc D_cX1_measure_0 16 rfl) ?_
  refine r_istoren (lv' := [some (.ref (eA E 3)), some (.ref (eA E 1)), some (.int (iz 1)), none, none, none, none]) (dc D_cX1_measure_0 17 rfl) rfl rfl rfl ?_
  refine r_iconst (n := 0) (dc D_cX1_measure_0 18 rfl) ?_
  refine r_istoren (lv' := [some (.ref (eA E 3)), some (.ref (eA E 1)), some (.int (iz 1)), some (.int (iz 0)), none, none, none]) (dc D_cX1_measure_0 19 rfl) rfl rfl rfl ?_
  obtain ⟨n, h⟩ := h
  exact TX1_measure_32 hE x n _ _ _ (Rl rfl) (Rl rfl) hσ4 h
-- end of GateFlow$ByWays.measure
def mi_X11_hasBit : MI := (cX11_hasBit, RX11, 2, 1, (some .boolean), 1)
def FX11_hasBit (a1 a2 : Int) (σ : PS) (Φ : Int → PS → Prop) : Prop :=
  ((¬ iand (ishr a1 a2) 1 = 1 →
    Φ 0 σ) ∧
  (iand (ishr a1 a2) 1 = 1 →
    Φ 1 σ))
theorem fw_RX1_53 : FW RX1 53 1 7 := ⟨RX1, TX1, 11, rfl, by decide, rfl, tb_1 229 (by decide +kernel), uw_1⟩
theorem fw_RX1_56 : FW RX1 56 3 7 := ⟨RX3, TX3, 9, rfl, by decide, rfl, tb_1 177 (by decide +kernel), uw_3⟩
set_option maxRecDepth 100000 in
theorem CX11_hasBit {E : EV} (hE : eOK layC E) {Φ : Int → PS → Prop} (a1 a2 : Int) (ra1 : Rg a1) (ra2 : Rg a2) (σ : PS) (hs : RS σ) (h : FX11_hasBit a1 a2 σ Φ) : CT layC E yX11_hasBit mi_X11_hasBit [.int (iz a1), .int (iz a2)] σ Φ := by
  refine ct_of (by decide +kernel) rfl hE rfl rfl hs (fun x => ?_)
  show RW layC E mi_X11_hasBit Φ 0 [some (.int (iz a1)), some (.int (iz a2))] [] σ x
  refine r_iloadn (dc D_cX11_hasBit_0 0 rfl) rfl rfl ?_
  refine r_iloadn (dc D_cX11_hasBit_0 1 rfl) rfl rfl ?_
  refine r_ishr (dc D_cX11_hasBit_0 2 rfl) ?_
  refine r_iconst (n := 1) (dc D_cX11_hasBit_0 3 rfl) ?_
  refine r_iand (dc D_cX11_hasBit_0 4 rfl) ?_
  refine r_iconst (n := 1) (dc D_cX11_hasBit_0 5 rfl) ?_
  refine r_icmp_ne (tgt := 13) (dc D_cX11_hasBit_0 6 rfl) (by decide) (Rg_of _) (Rl rfl) (fun c1 => ?_) (fun c1 => ?_)
  · have h := h.1 c1
    refine r_iconst (n := 0) (dc D_cX11_hasBit_0 9 rfl) ?_
    exact r_zret (dc D_cX11_hasBit_0 10 rfl) rfl (by decide) h
  · have h := h.2 c1
    refine r_iconst (n := 1) (dc D_cX11_hasBit_0 7 rfl) ?_
    refine r_goto (tgt := 14) (dc D_cX11_hasBit_0 8 rfl) (by decide) ?_
    exact r_zret (dc D_cX11_hasBit_0 10 rfl) rfl (by decide) h
-- end of GateFlow.hasBit
def mi_X1_spreadAlong : MI := (cX1_spreadAlong, RX1, 7, 2, (some .int), 1)
def LX1_spreadAlong_99 (K7 : Int → Int → PS → Prop) (K20 : Int → Int → Int → Int → PS → Prop) (x3 x4 x5 x6 : Int) (σ : PS) (Φ : Int → PS → Prop) : Prop :=
  Rg (x6 + 1) ∧
  K20 x3 x4 x5 (x6 + 1) σ
def LX1_spreadAlong_64 (K7 : Int → Int → PS → Prop) (K20 : Int → Int → Int → Int → PS → Prop) (x3 x4 x5 x6 : Int) (σ : PS) (Φ : Int → PS → Prop) : Prop :=
  (0 ≤ x6 ∧ x6 < 30) ∧
  FX11_hasBit x3 (σ 14 x6.toNat) σ (fun z2 σ3 =>
  ((z2 = 0 →
    LX1_spreadAlong_99 K7 K20 x3 x4 x5 x6 σ3 Φ) ∧
  (¬ z2 = 0 →
    FX1_backward x6 σ3 (fun z5 σ6 =>
    ((z5 = 0 →
      LX1_spreadAlong_99 K7 K20 x3 x4 x5 x6 σ6 Φ) ∧
    (¬ z5 = 0 →
      (0 ≤ x6 ∧ x6 < 30) ∧
      ∀ v9 : Int, v9 = ior x3 (ishl 1 (σ6 13 x6.toNat)) →
      LX1_spreadAlong_99 K7 K20 v9 x4 x5 x6 σ6 Φ))))))
def BX1_spreadAlong_20 (K7 : Int → Int → PS → Prop) (K20 : Int → Int → Int → Int → PS → Prop) (x3 x4 x5 x6 : Int) (σ : PS) (Φ : Int → PS → Prop) : Prop :=
  ((σ 1 6 ≤ x6 →
    ((¬ x3 = x5 →
      Rg (x4 + 1) ∧
      K7 x3 (x4 + 1) σ) ∧
    (x3 = x5 →
      Φ x3 σ))) ∧
  (¬ σ 1 6 ≤ x6 →
    (0 ≤ x6 ∧ x6 < 30) ∧
    FX11_hasBit x3 (σ 13 x6.toNat) σ (fun z5 σ6 =>
    ((z5 = 0 →
      LX1_spreadAlong_64 K7 K20 x3 x4 x5 x6 σ6 Φ) ∧
    (¬ z5 = 0 →
      FX1_forward x6 σ6 (fun z8 σ9 =>
      ((z8 = 0 →
        LX1_spreadAlong_64 K7 K20 x3 x4 x5 x6 σ9 Φ) ∧
      (¬ z8 = 0 →
        (0 ≤ x6 ∧ x6 < 30) ∧
        ∀ v12 : Int, v12 = ior x3 (ishl 1 (σ9 14 x6.toNat)) →
        LX1_spreadAlong_64 K7 K20 v12 x4 x5 x6 σ9 Φ))))))))
def LX1_spreadAlong_20 (K7 : Int → Int → PS → Prop) : Nat → Int → Int → Int → Int → PS → (Int → PS → Prop) → Prop
  | 0, _, _, _, _, _, _ => False
  | n + 1, x3, x4, x5, x6, σ, Φ => BX1_spreadAlong_20 K7 (fun x3 x4 x5 x6 σ => LX1_spreadAlong_20 K7 n x3 x4 x5 x6 σ Φ) x3 x4 x5 x6 σ Φ
def BX1_spreadAlong_7 (K7 : Int → Int → PS → Prop) (x3 x4 : Int) (σ : PS) (Φ : Int → PS → Prop) : Prop :=
  ((12 ≤ x4 →
    Φ x3 σ) ∧
  (¬ 12 ≤ x4 →
    ∃ n, LX1_spreadAlong_20 K7 n x3 x4 x3 0 σ Φ))
def LX1_spreadAlong_7 : Nat → Int → Int → PS → (Int → PS → Prop) → Prop
  | 0, _, _, _, _ => False
  | n + 1, x3, x4, σ, Φ => BX1_spreadAlong_7 (fun x3 x4 σ => LX1_spreadAlong_7 n x3 x4 σ Φ) x3 x4 σ Φ
def FX1_spreadAlong (a2 : Int) (σ : PS) (Φ : Int → PS → Prop) : Prop :=
  ∀ v1 : Int, v1 = ishl 1 a2 →
  ∃ n, LX1_spreadAlong_7 n v1 0 σ Φ
theorem cw_RX1_107 : CWN RX1 107 yX11_hasBit mi_X11_hasBit := ⟨by decide +kernel, tb_r [657, 97, 658] (by decide +kernel)⟩
theorem nm_yX11_hasBit : ynm yX11_hasBit 2 := ⟨⟨by decide +kernel, by decide +kernel⟩, by decide +kernel⟩
set_option maxRecDepth 100000 in
theorem TX1_spreadAlong_99 {E : EV} (hE : eOK layC E) {Φ : Int → PS → Prop} {K7 : Int → Int → PS → Prop} {K20 : Int → Int → Int → Int → PS → Prop} (x : CX) (hK7 : ∀ (x3 x4 : Int) (σ : PS), Rg x3 → Rg x4 → RS σ → K7 x3 x4 σ → RW layC E mi_X1_spreadAlong Φ 7 [some (.ref (eA E 3)), some (.ref (eA E 1)), none, some (.int (iz x3)), some (.int (iz x4)), none, none] [] σ x) (hK20 : ∀ (x3 x4 x5 x6 : Int) (σ : PS), Rg x3 → Rg x4 → Rg x5 → Rg x6 → RS σ → K20 x3 x4 x5 x6 σ → RW layC E mi_X1_spreadAlong Φ 20 [some (.ref (eA E 3)), some (.ref (eA E 1)), none, some (.int (iz x3)), some (.int (iz x4)), some (.int (iz x5)), some (.int (iz x6))] [] σ x) (x3 x4 x5 x6 : Int) (rx3 : Rg x3) (rx4 : Rg x4) (rx5 : Rg x5) (rx6 : Rg x6) (σ : PS) (hs : RS σ) (h : LX1_spreadAlong_99 K7 K20 x3 x4 x5 x6 σ Φ) : RW layC E mi_X1_spreadAlong Φ 99 [some (.ref (eA E 3)), some (.ref (eA E 1)), none, some (.int (iz x3)), some (.int (iz x4)), some (.int (iz x5)), some (.int (iz x6))] [] σ x := by
  obtain ⟨o1, h⟩ := h
  refine r_iinc (lv' := [some (.ref (eA E 3)), some (.ref (eA E 1)), none, some (.int (iz x3)), some (.int (iz x4)), some (.int (iz x5)), some (.int (iz (x6 + 1)))]) (dc D_cX1_spreadAlong_1 17 rfl) rfl rfl rfl ?_
  refine r_goto (tgt := 20) (dc D_cX1_spreadAlong_1 18 rfl) (by decide) ?_
  exact hK20 _ _ _ _ _ rx3 rx4 rx5 o1 hs h
set_option maxRecDepth 100000 in
theorem TX1_spreadAlong_64 {E : EV} (hE : eOK layC E) {Φ : Int → PS → Prop} {K7 : Int → Int → PS → Prop} {K20 : Int → Int → Int → Int → PS → Prop} (x : CX) (hK7 : ∀ (x3 x4 : Int) (σ : PS), Rg x3 → Rg x4 → RS σ → K7 x3 x4 σ → RW layC E mi_X1_spreadAlong Φ 7 [some (.ref (eA E 3)), some (.ref (eA E 1)), none, some (.int (iz x3)), some (.int (iz x4)), none, none] [] σ x) (hK20 : ∀ (x3 x4 x5 x6 : Int) (σ : PS), Rg x3 → Rg x4 → Rg x5 → Rg x6 → RS σ → K20 x3 x4 x5 x6 σ → RW layC E mi_X1_spreadAlong Φ 20 [some (.ref (eA E 3)), some (.ref (eA E 1)), none, some (.int (iz x3)), some (.int (iz x4)), some (.int (iz x5)), some (.int (iz x6))] [] σ x) (x3 x4 x5 x6 : Int) (rx3 : Rg x3) (rx4 : Rg x4) (rx5 : Rg x5) (rx6 : Rg x6) (σ : PS) (hs : RS σ) (h : LX1_spreadAlong_64 K7 K20 x3 x4 x5 x6 σ Φ) : RW layC E mi_X1_spreadAlong Φ 64 [some (.ref (eA E 3)), some (.ref (eA E 1)), none, some (.int (iz x3)), some (.int (iz x4)), some (.int (iz x5)), some (.int (iz x6))] [] σ x := by
  refine r_iloadn (dc D_cX1_spreadAlong_0 37 rfl) rfl rfl ?_
  refine r_aloadn (dc D_cX1_spreadAlong_0 38 rfl) rfl rfl ?_
  refine r_getR (dc D_cX1_spreadAlong_0 39 rfl) fw_RX1_76 lC_1 rfl ?_
  refine r_iload (dc D_cX1_spreadAlong_1 0 rfl) rfl ?_
  obtain ⟨o1, h⟩ := h
  refine r_iald (N := 30) (dc D_cX1_spreadAlong_1 1 rfl) lC_14 rfl rfl o1 ?_
  refine r_callN (As := [.int (iz x3), .int (iz (σ 14 x6.toNat))]) (st := []) (dc D_cX1_spreadAlong_1 2 rfl) cw_RX1_107 nm_yX11_hasBit (CX11_hasBit hE _ _ rx3 (hs _ _) _ hs h) rfl (by decide) rfl rfl rfl (fun z2 σ3 rz2 hσ3 h => ?_)
  show RW layC E mi_X1_spreadAlong Φ 75 [some (.ref (eA E 3)), some (.ref (eA E 1)), none, some (.int (iz x3)), some (.int (iz x4)), some (.int (iz x5)), some (.int (iz x6))] [.int (iz z2)] σ3 x
  refine r_if_eq (tgt := 99) (dc D_cX1_spreadAlong_1 3 rfl) (by decide) rz2 (fun c4 => ?_) (fun c4 => ?_)
  · have h := h.1 c4
    exact TX1_spreadAlong_99 hE x hK7 hK20 _ _ _ _ rx3 rx4 rx5 rx6 _ hσ3 h
  · have h := h.2 c4
    refine r_aloadn (dc D_cX1_spreadAlong_1 4 rfl) rfl rfl ?_
    refine r_iload (dc D_cX1_spreadAlong_1 5 rfl) rfl ?_
    refine r_callV (As := [.int (iz x6)]) (st := []) (dc D_cX1_spreadAlong_1 6 rfl) cw_RX1_86 nm_yX1_backward (CX1_backward hE _ rx6 _ hσ3 h) lC_3 rfl rfl (by decide) rfl rfl rfl (fun z5 σ6 rz5 hσ6 h => ?_)
    show RW layC E mi_X1_spreadAlong Φ 84 [some (.ref (eA E 3)), some (.ref (eA E 1)), none, some (.int (iz x3)), some (.int (iz x4)), some (.int (iz x5)), some (.int (iz x6))] [.int (iz z5)] σ6 x
    refine r_if_eq (tgt := 99) (dc D_cX1_spreadAlong_1 7 rfl) (by decide) rz5 (fun c7 => ?_) (fun c7 => ?_)
    · have h := h.1 c7
      exact TX1_spreadAlong_99 hE x hK7 hK20 _ _ _ _ rx3 rx4 rx5 rx6 _ hσ6 h
    · have h := h.2 c7
      refine r_iloadn (dc D_cX1_spreadAlong_1 8 rfl) rfl rfl ?_
      refine r_iconst (n := 1) (dc D_cX1_spreadAlong_1 9 rfl) ?_
      refine r_aloadn (dc D_cX1_spreadAlong_1 10 rfl) rfl rfl ?_
      refine r_getR (dc D_cX1_spreadAlong_1 11 rfl) fw_RX1_83 lC_1 rfl ?_
      refine r_iload (dc D_cX1_spreadAlong_1 12 rfl) rfl ?_
      obtain ⟨o8, h⟩ := h
      refine r_iald (N := 30) (dc D_cX1_spreadAlong_1 13 rfl) lC_13 rfl rfl o8 ?_
      refine r_ishl (dc D_cX1_spreadAlong_1 14 rfl) ?_
      refine r_ior (dc D_cX1_spreadAlong_1 15 rfl) ?_
      refine r_name (fun v9 ev9 => ?_)
      have h := h v9 ev9
      have rv9 : Rg v9 := Rg_eq ev9 (Rg_of _)
      refine r_istoren (lv' := [some (.ref (eA E 3)), some (.ref (eA E 1)), none, some (.int (iz v9)), some (.int (iz x4)), some (.int (iz x5)), some (.int (iz x6))]) (dc D_cX1_spreadAlong_1 16 rfl) rfl rfl rfl ?_
      exact TX1_spreadAlong_99 hE x hK7 hK20 _ _ _ _ rv9 rx4 rx5 rx6 _ hσ6 h
set_option maxRecDepth 100000 in
theorem TBX1_spreadAlong_20 {E : EV} (hE : eOK layC E) {Φ : Int → PS → Prop} {K7 : Int → Int → PS → Prop} {K20 : Int → Int → Int → Int → PS → Prop} (x : CX) (hK7 : ∀ (x3 x4 : Int) (σ : PS), Rg x3 → Rg x4 → RS σ → K7 x3 x4 σ → RW layC E mi_X1_spreadAlong Φ 7 [some (.ref (eA E 3)), some (.ref (eA E 1)), none, some (.int (iz x3)), some (.int (iz x4)), none, none] [] σ x) (hK20 : ∀ (x3 x4 x5 x6 : Int) (σ : PS), Rg x3 → Rg x4 → Rg x5 → Rg x6 → RS σ → K20 x3 x4 x5 x6 σ → RW layC E mi_X1_spreadAlong Φ 20 [some (.ref (eA E 3)), some (.ref (eA E 1)), none, some (.int (iz x3)), some (.int (iz x4)), some (.int (iz x5)), some (.int (iz x6))] [] σ x) (x3 x4 x5 x6 : Int) (rx3 : Rg x3) (rx4 : Rg x4) (rx5 : Rg x5) (rx6 : Rg x6) (σ : PS) (hs : RS σ) (h : BX1_spreadAlong_20 K7 K20 x3 x4 x5 x6 σ Φ) : RW layC E mi_X1_spreadAlong Φ 20 [some (.ref (eA E 3)), some (.ref (eA E 1)), none, some (.int (iz x3)), some (.int (iz x4)), some (.int (iz x5)), some (.int (iz x6))] [] σ x := by
  refine r_iload (dc D_cX1_spreadAlong_0 13 rfl) rfl ?_
  refine r_aloadn (dc D_cX1_spreadAlong_0 14 rfl) rfl rfl ?_
  refine r_getI (dc D_cX1_spreadAlong_0 15 rfl) fw_RX1_75 lC_1 rfl ?_
  refine r_icmp_ge (tgt := 105) (dc D_cX1_spreadAlong_0 16 rfl) (by decide) rx6 (hs _ _) (fun c1 => ?_) (fun c1 => ?_)
  · have h := h.1 c1
    refine r_iloadn (dc D_cX1_spreadAlong_1 19 rfl) rfl rfl ?_
    refine r_iload (dc D_cX1_spreadAlong_1 20 rfl) rfl ?_
    refine r_icmp_ne (tgt := 114) (dc D_cX1_spreadAlong_1 21 rfl) (by decide) rx3 rx5 (fun c2 => ?_) (fun c2 => ?_)
    · have h := h.1 c2
      obtain ⟨o3, h⟩ := h
      refine r_iinc (lv' := [some (.ref (eA E 3)), some (.ref (eA E 1)), none, some (.int (iz x3)), some (.int (iz (x4 + 1))), some (.int (iz x5)), some (.int (iz x6))]) (dc D_cX1_spreadAlong_1 23 rfl) rfl rfl rfl ?_
      refine r_goto (tgt := 7) (dc D_cX1_spreadAlong_1 24 rfl) (by decide) ?_
      refine r_sub (lv' := [some (.ref (eA E 3)), some (.ref (eA E 1)), none, some (.int (iz x3)), some (.int (iz (x4 + 1))), none, none]) (subL_s (subL_s (subL_n (subL_s (subL_s (subL_n (subL_n subL_e))))))) ?_
      exact hK7 _ _ _ rx3 o3 hs h
    · have h := h.2 c2
      refine r_goto (tgt := 120) (dc D_cX1_spreadAlong_1 22 rfl) (by decide) ?_
      refine r_iloadn (dc D_cX1_spreadAlong_1 25 rfl) rfl rfl ?_
      exact r_iret (dc D_cX1_spreadAlong_1 26 rfl) rfl rx3 h
  · have h := h.2 c1
    refine r_iloadn (dc D_cX1_spreadAlong_0 17 rfl) rfl rfl ?_
    refine r_aloadn (dc D_cX1_spreadAlong_0 18 rfl) rfl rfl ?_
    refine r_getR (dc D_cX1_spreadAlong_0 19 rfl) fw_RX1_83 lC_1 rfl ?_
    refine r_iload (dc D_cX1_spreadAlong_0 20 rfl) rfl ?_
    obtain ⟨o4, h⟩ := h
    refine r_iald (N := 30) (dc D_cX1_spreadAlong_0 21 rfl) lC_13 rfl rfl o4 ?_
    refine r_callN (As := [.int (iz x3), .int (iz (σ 13 x6.toNat))]) (st := []) (dc D_cX1_spreadAlong_0 22 rfl) cw_RX1_107 nm_yX11_hasBit (CX11_hasBit hE _ _ rx3 (hs _ _) _ hs h) rfl (by decide) rfl rfl rfl (fun z5 σ6 rz5 hσ6 h => ?_)
    show RW layC E mi_X1_spreadAlong Φ 40 [some (.ref (eA E 3)), some (.ref (eA E 1)), none, some (.int (iz x3)), some (.int (iz x4)), some (.int (iz x5)), some (.int (iz x6))] [.int (iz z5)] σ6 x
    refine r_if_eq (tgt := 64) (dc D_cX1_spreadAlong_0 23 rfl) (by decide) rz5 (fun c7 => ?_) (fun c7 => ?_)
    · have h := h.1 c7
      exact TX1_spreadAlong_64 hE x hK7 hK20 _ _ _ _ rx3 rx4 rx5 rx6 _ hσ6 h
    · have h := h.2 c7
      refine r_aloadn (dc D_cX1_spreadAlong_0 24 rfl) rfl rfl ?_
      refine r_iload (dc D_cX1_spreadAlong_0 25 rfl) rfl ?_
      refine r_callV (As := [.int (iz x6)]) (st := []) (dc D_cX1_spreadAlong_0 26 rfl) cw_RX1_79 nm_yX1_forward (CX1_forward hE _ rx6 _ hσ6 h) lC_3 rfl rfl (by decide) rfl rfl rfl (fun z8 σ9 rz8 hσ9 h => ?_)
      show RW layC E mi_X1_spreadAlong Φ 49 [some (.ref (eA E 3)), some (.ref (eA E 1)), none, some (.int (iz x3)), some (.int (iz x4)), some (.int (iz x5)), some (.int (iz x6))] [.int (iz z8)] σ9 x
      refine r_if_eq (tgt := 64) (dc D_cX1_spreadAlong_0 27 rfl) (by decide) rz8 (fun c10 => ?_) (fun c10 => ?_)
      · have h := h.1 c10
        exact TX1_spreadAlong_64 hE x hK7 hK20 _ _ _ _ rx3 rx4 rx5 rx6 _ hσ9 h
      · have h := h.2 c10
        refine r_iloadn (dc D_cX1_spreadAlong_0 28 rfl) rfl rfl ?_
        refine r_iconst (n := 1) (dc D_cX1_spreadAlong_0 29 rfl) ?_
        refine r_aloadn (dc D_cX1_spreadAlong_0 30 rfl) rfl rfl ?_
        refine r_getR (dc D_cX1_spreadAlong_0 31 rfl) fw_RX1_76 lC_1 rfl ?_
        refine r_iload (dc D_cX1_spreadAlong_0 32 rfl) rfl ?_
        obtain ⟨o11, h⟩ := h
        refine r_iald (N := 30) (dc D_cX1_spreadAlong_0 33 rfl) lC_14 rfl rfl o11 ?_
        refine r_ishl (dc D_cX1_spreadAlong_0 34 rfl) ?_
        refine r_ior (dc D_cX1_spreadAlong_0 35 rfl) ?_
        refine r_name (fun v12 ev12 => ?_)
        have h := h v12 ev12
        have rv12 : Rg v12 := Rg_eq ev12 (Rg_of _)
        refine r_istoren (lv' := [some (.ref (eA E 3)), some (.ref (eA E 1)), none, some (.int (iz v12)), some (.int (iz x4)), some (.int (iz x5)), some (.int (iz x6))]) (dc D_cX1_spreadAlong_0 36 rfl) rfl rfl rfl ?_
        exact TX1_spreadAlong_64 hE x hK7 hK20 _ _ _ _ rv12 rx4 rx5 rx6 _ hσ9 h
theorem TX1_spreadAlong_20 {E : EV} (hE : eOK layC E) {Φ : Int → PS → Prop} {K7 : Int → Int → PS → Prop} (x : CX) (hK7 : ∀ (x3 x4 : Int) (σ : PS), Rg x3 → Rg x4 → RS σ → K7 x3 x4 σ → RW layC E mi_X1_spreadAlong Φ 7 [some (.ref (eA E 3)), some (.ref (eA E 1)), none, some (.int (iz x3)), some (.int (iz x4)), none, none] [] σ x) (n : Nat) : ∀ (x3 x4 x5 x6 : Int) (σ : PS), Rg x3 → Rg x4 → Rg x5 → Rg x6 → RS σ → LX1_spreadAlong_20 K7 n x3 x4 x5 x6 σ Φ → RW layC E mi_X1_spreadAlong Φ 20 [some (.ref (eA E 3)), some (.ref (eA E 1)), none, some (.int (iz x3)), some (.int (iz x4)), some (.int (iz x5)), some (.int (iz x6))] [] σ x := by
  induction n with
  | zero => intro x3 x4 x5 x6 σ _ _ _ _ _ h; exact h.elim
  | succ n ih => intro x3 x4 x5 x6 σ rx3 rx4 rx5 rx6 hs h; exact TBX1_spreadAlong_20 hE x hK7 ih x3 x4 x5 x6 rx3 rx4 rx5 rx6 σ hs h
set_option maxRecDepth 100000 in
theorem TBX1_spreadAlong_7 {E : EV} (hE : eOK layC E) {Φ : Int → PS → Prop} {K7 : Int → Int → PS → Prop} (x : CX) (hK7 : ∀ (x3 x4 : Int) (σ : PS), Rg x3 → Rg x4 → RS σ → K7 x3 x4 σ → RW layC E mi_X1_spreadAlong Φ 7 [some (.ref (eA E 3)), some (.ref (eA E 1)), none, some (.int (iz x3)), some (.int (iz x4)), none, none] [] σ x) (x3 x4 : Int) (rx3 : Rg x3) (rx4 : Rg x4) (σ : PS) (hs : RS σ) (h : BX1_spreadAlong_7 K7 x3 x4 σ Φ) : RW layC E mi_X1_spreadAlong Φ 7 [some (.ref (eA E 3)), some (.ref (eA E 1)), none, some (.int (iz x3)), some (.int (iz x4)), none, none] [] σ x := by
  refine r_iload (dc D_cX1_spreadAlong_0 6 rfl) rfl ?_
  refine r_bipush (n := 12) (dc D_cX1_spreadAlong_0 7 rfl) (by decide +kernel) ?_
  refine r_icmp_ge (tgt := 120) (dc D_cX1_spreadAlong_0 8 rfl) (by decide) rx4 (Rl rfl) (fun c1 => ?_) (fun c1 => ?_)
  · have h := h.1 c1
    refine r_iloadn (dc D_cX1_spreadAlong_1 25 rfl) rfl rfl ?_
    exact r_iret (dc D_cX1_spreadAlong_1 26 rfl) rfl rx3 h
  · have h := h.2 c1
    refine r_iloadn (dc D_cX1_spreadAlong_0 9 rfl) rfl rfl ?_
    refine r_istore (lv' := [some (.ref (eA E 3)), some (.ref (eA E 1)), none, some (.int (iz x3)), some (.int (iz x4)), some (.int (iz x3)), none]) (dc D_cX1_spreadAlong_0 10 rfl) rfl rfl ?_
    refine r_iconst (n := 0) (dc D_cX1_spreadAlong_0 11 rfl) ?_
    refine r_istore (lv' := [some (.ref (eA E 3)), some (.ref (eA E 1)), none, some (.int (iz x3)), some (.int (iz x4)), some (.int (iz x3)), some (.int (iz 0))]) (dc D_cX1_spreadAlong_0 12 rfl) rfl rfl ?_
    obtain ⟨n, h⟩ := h
    exact TX1_spreadAlong_20 hE x hK7 n _ _ _ _ _ rx3 rx4 rx3 (Rl rfl) hs h
theorem TX1_spreadAlong_7 {E : EV} (hE : eOK layC E) {Φ : Int → PS → Prop} (x : CX) (n : Nat) : ∀ (x3 x4 : Int) (σ : PS), Rg x3 → Rg x4 → RS σ → LX1_spreadAlong_7 n x3 x4 σ Φ → RW layC E mi_X1_spreadAlong Φ 7 [some (.ref (eA E 3)), some (.ref (eA E 1)), none, some (.int (iz x3)), some (.int (iz x4)), none, none] [] σ x := by
  induction n with
  | zero => intro x3 x4 σ _ _ _ h; exact h.elim
  | succ n ih => intro x3 x4 σ rx3 rx4 hs h; exact TBX1_spreadAlong_7 hE x ih x3 x4 rx3 rx4 σ hs h
set_option maxRecDepth 100000 in
theorem CX1_spreadAlong {E : EV} (hE : eOK layC E) {Φ : Int → PS → Prop} (a2 : Int) (ra2 : Rg a2) (σ : PS) (hs : RS σ) (h : FX1_spreadAlong a2 σ Φ) : CT layC E yX1_spreadAlong mi_X1_spreadAlong [.ref (eA E 3), .ref (eA E 1), .int (iz a2)] σ Φ := by
  refine ct_of (by decide +kernel) rfl hE rfl rfl hs (fun x => ?_)
  show RW layC E mi_X1_spreadAlong Φ 0 [some (.ref (eA E 3)), some (.ref (eA E 1)), some (.int (iz a2)), none, none, none, none] [] σ x
  refine r_iconst (n := 1) (dc D_cX1_spreadAlong_0 0 rfl) ?_
  refine r_iloadn (dc D_cX1_spreadAlong_0 1 rfl) rfl rfl ?_
  refine r_ishl (dc D_cX1_spreadAlong_0 2 rfl) ?_
  refine r_name (fun v1 ev1 => ?_)
  have h := h v1 ev1
  have rv1 : Rg v1 := Rg_eq ev1 (Rg_of _)
  refine r_istoren (lv' := [some (.ref (eA E 3)), some (.ref (eA E 1)), some (.int (iz a2)), some (.int (iz v1)), none, none, none]) (dc D_cX1_spreadAlong_0 3 rfl) rfl rfl rfl ?_
  refine r_iconst (n := 0) (dc D_cX1_spreadAlong_0 4 rfl) ?_
  refine r_istore (lv' := [some (.ref (eA E 3)), some (.ref (eA E 1)), some (.int (iz a2)), some (.int (iz v1)), some (.int (iz 0)), none, none]) (dc D_cX1_spreadAlong_0 5 rfl) rfl rfl ?_
  refine r_sub (lv' := [some (.ref (eA E 3)), some (.ref (eA E 1)), none, some (.int (iz v1)), some (.int (iz 0)), none, none]) (subL_s (subL_s (subL_n (subL_s (subL_s (subL_n (subL_n subL_e))))))) ?_
  obtain ⟨n, h⟩ := h
  exact TX1_spreadAlong_7 hE x n _ _ _ rv1 (Rl rfl) hs h
-- end of GateFlow$ByWays.spreadAlong
def mi_X1_pour : MI := (cX1_pour, RX1, 6, 1, none, 0)
def LX1_pour_55 (K3 : Int → Int → Int → Int → PS → Prop) (x1 x2 x3 x4 : Int) (σ : PS) (Φ : Int → PS → Prop) : Prop :=
  Rg (x4 + 1) ∧
  K3 x1 x2 x3 (x4 + 1) σ
def BX1_pour_3 (K3 : Int → Int → Int → Int → PS → Prop) (x1 x2 x3 x4 : Int) (σ : PS) (Φ : Int → PS → Prop) : Prop :=
  ((x2 ≤ x4 →
    Φ 0 σ) ∧
  (¬ x2 ≤ x4 →
    Rg (x1 + x4) ∧
    (0 ≤ x1 + x4 ∧ x1 + x4 < 4320) ∧
    ∀ v4 : Int, v4 = σ 28 (x1 + x4).toNat →
    ((100 ≤ v4 →
      Rg (v4 - 100) ∧
      (0 ≤ v4 - 100 ∧ v4 - 100 < 30) ∧
      Rg ((σ 25 (v4 - 100).toNat) - x3) ∧
      (0 ≤ v4 - 100 ∧ v4 - 100 < 30) ∧
      ∀ σ10 : PS, σ10 = up2 σ 25 (v4 - 100).toNat ((σ 25 (v4 - 100).toNat) - x3) →
      LX1_pour_55 K3 x1 x2 x3 x4 σ10 Φ) ∧
    (¬ 100 ≤ v4 →
      (0 ≤ v4 ∧ v4 < 30) ∧
      Rg ((σ 25 v4.toNat) + x3) ∧
      (0 ≤ v4 ∧ v4 < 30) ∧
      ∀ σ14 : PS, σ14 = up2 σ 25 v4.toNat ((σ 25 v4.toNat) + x3) →
      LX1_pour_55 K3 x1 x2 x3 x4 σ14 Φ))))
def LX1_pour_3 : Nat → Int → Int → Int → Int → PS → (Int → PS → Prop) → Prop
  | 0, _, _, _, _, _, _ => False
  | n + 1, x1, x2, x3, x4, σ, Φ => BX1_pour_3 (fun x1 x2 x3 x4 σ => LX1_pour_3 n x1 x2 x3 x4 σ Φ) x1 x2 x3 x4 σ Φ
def FX1_pour (a1 a2 a3 : Int) (σ : PS) (Φ : Int → PS → Prop) : Prop :=
  ∃ n, LX1_pour_3 n a1 a2 a3 0 σ Φ
theorem fw_RX1_69 : FW RX1 69 1 10 := ⟨RX1, TX1, 11, rfl, by decide, rfl, tb_1 236 (by decide +kernel), uw_1⟩
theorem fw_RX1_15 : FW RX1 15 1 1 := ⟨RX1, TX1, 11, rfl, by decide, rfl, tb_1 220 (by decide +kernel), uw_1⟩
theorem fw_RX1_18 : FW RX1 18 1 2 := ⟨RX1, TX1, 11, rfl, by decide, rfl, tb_1 222 (by decide +kernel), uw_1⟩
theorem fw_RX1_45 : FW RX1 45 1 8 := ⟨RX1, TX1, 11, rfl, by decide, rfl, tb_1 231 (by decide +kernel), uw_1⟩
theorem fw_RX1_21 : FW RX1 21 1 3 := ⟨RX1, TX1, 11, rfl, by decide, rfl, tb_1 224 (by decide +kernel), uw_1⟩
set_option maxRecDepth 100000 in
theorem TX1_pour_55 {E : EV} (hE : eOK layC E) {Φ : Int → PS → Prop} {K3 : Int → Int → Int → Int → PS → Prop} (x : CX) (hK3 : ∀ (x1 x2 x3 x4 : Int) (σ : PS), Rg x1 → Rg x2 → Rg x3 → Rg x4 → RS σ → K3 x1 x2 x3 x4 σ → RW layC E mi_X1_pour Φ 3 [some (.ref (eA E 3)), some (.int (iz x1)), some (.int (iz x2)), some (.int (iz x3)), some (.int (iz x4)), none] [] σ x) (x1 x2 x3 x4 : Int) (rx1 : Rg x1) (rx2 : Rg x2) (rx3 : Rg x3) (rx4 : Rg x4) (σ : PS) (hs : RS σ) (h : LX1_pour_55 K3 x1 x2 x3 x4 σ Φ) : RW layC E mi_X1_pour Φ 55 [some (.ref (eA E 3)), some (.int (iz x1)), some (.int (iz x2)), some (.int (iz x3)), some (.int (iz x4)), none] [] σ x := by
  obtain ⟨o1, h⟩ := h
  refine r_iinc (lv' := [some (.ref (eA E 3)), some (.int (iz x1)), some (.int (iz x2)), some (.int (iz x3)), some (.int (iz (x4 + 1))), none]) (dc D_cX1_pour_0 34 rfl) rfl rfl rfl ?_
  refine r_goto (tgt := 3) (dc D_cX1_pour_0 35 rfl) (by decide) ?_
  exact hK3 _ _ _ _ _ rx1 rx2 rx3 o1 hs h
set_option maxRecDepth 100000 in
theorem TBX1_pour_3 {E : EV} (hE : eOK layC E) {Φ : Int → PS → Prop} {K3 : Int → Int → Int → Int → PS → Prop} (x : CX) (hK3 : ∀ (x1 x2 x3 x4 : Int) (σ : PS), Rg x1 → Rg x2 → Rg x3 → Rg x4 → RS σ → K3 x1 x2 x3 x4 σ → RW layC E mi_X1_pour Φ 3 [some (.ref (eA E 3)), some (.int (iz x1)), some (.int (iz x2)), some (.int (iz x3)), some (.int (iz x4)), none] [] σ x) (x1 x2 x3 x4 : Int) (rx1 : Rg x1) (rx2 : Rg x2) (rx3 : Rg x3) (rx4 : Rg x4) (σ : PS) (hs : RS σ) (h : BX1_pour_3 K3 x1 x2 x3 x4 σ Φ) : RW layC E mi_X1_pour Φ 3 [some (.ref (eA E 3)), some (.int (iz x1)), some (.int (iz x2)), some (.int (iz x3)), some (.int (iz x4)), none] [] σ x := by
  refine r_iload (dc D_cX1_pour_0 2 rfl) rfl ?_
  refine r_iloadn (dc D_cX1_pour_0 3 rfl) rfl rfl ?_
  refine r_icmp_ge (tgt := 61) (dc D_cX1_pour_0 4 rfl) (by decide) rx4 rx2 (fun c1 => ?_) (fun c1 => ?_)
  · have h := h.1 c1
    exact r_vret (dc D_cX1_pour_0 36 rfl) rfl h
  · have h := h.2 c1
    refine r_aloadn (dc D_cX1_pour_0 5 rfl) rfl rfl ?_
    refine r_getR (dc D_cX1_pour_0 6 rfl) fw_RX1_21 lC_3 rfl ?_
    refine r_iloadn (dc D_cX1_pour_0 7 rfl) rfl rfl ?_
    refine r_iload (dc D_cX1_pour_0 8 rfl) rfl ?_
    refine r_iadd (dc D_cX1_pour_0 9 rfl) ?_
    obtain ⟨o2, h⟩ := h
    obtain ⟨o3, h⟩ := h
    refine r_iald (N := 4320) (dc D_cX1_pour_0 10 rfl) lC_28 rfl rfl o3 ?_
    refine r_name (fun v4 ev4 => ?_)
    have h := h v4 ev4
    have rv4 : Rg v4 := Rg_eq ev4 (hs _ _)
    refine r_istore (lv' := [some (.ref (eA E 3)), some (.int (iz x1)), some (.int (iz x2)), some (.int (iz x3)), some (.int (iz x4)), some (.int (iz v4))]) (dc D_cX1_pour_0 11 rfl) rfl rfl ?_
    refine r_iload (dc D_cX1_pour_0 12 rfl) rfl ?_
    refine r_bipush (n := 100) (dc D_cX1_pour_0 13 rfl) (by decide +kernel) ?_
    refine r_icmp_ge (tgt := 41) (dc D_cX1_pour_0 14 rfl) (by decide) rv4 (Rl rfl) (fun c5 => ?_) (fun c5 => ?_)
    · have h := h.1 c5
      refine r_aloadn (dc D_cX1_pour_0 24 rfl) rfl rfl ?_
      refine r_getR (dc D_cX1_pour_0 25 rfl) fw_RX1_9 lC_3 rfl ?_
      refine r_iload (dc D_cX1_pour_0 26 rfl) rfl ?_
      refine r_bipush (n := 100) (dc D_cX1_pour_0 27 rfl) (by decide +kernel) ?_
      refine r_isub (dc D_cX1_pour_0 28 rfl) ?_
      obtain ⟨o6, h⟩ := h
      refine r_dup2 (dc D_cX1_pour_0 29 rfl) rfl rfl ?_
      obtain ⟨o7, h⟩ := h
      refine r_iald (N := 30) (dc D_cX1_pour_0 30 rfl) lC_25 rfl rfl o7 ?_
      refine r_iloadn (dc D_cX1_pour_0 31 rfl) rfl rfl ?_
      refine r_isub (dc D_cX1_pour_0 32 rfl) ?_
      obtain ⟨o8, h⟩ := h
      obtain ⟨o9, h⟩ := h
      refine r_iast (N := 30) (dc D_cX1_pour_0 33 rfl) lC_25 rfl rfl o9 o8 ?_
      refine r_sig (fun σ10 eσ10 => ?_)
      have h := h σ10 eσ10
      have hσ10 : RS σ10 := RS_eq eσ10 (RS.up hs o8 _ _)
      refine r_sub (lv' := [some (.ref (eA E 3)), some (.int (iz x1)), some (.int (iz x2)), some (.int (iz x3)), some (.int (iz x4)), none]) (subL_s (subL_s (subL_s (subL_s (subL_s (subL_n subL_e)))))) ?_
      exact TX1_pour_55 hE x hK3 _ _ _ _ rx1 rx2 rx3 rx4 _ hσ10 h
    · have h := h.2 c5
      refine r_aloadn (dc D_cX1_pour_0 15 rfl) rfl rfl ?_
      refine r_getR (dc D_cX1_pour_0 16 rfl) fw_RX1_9 lC_3 rfl ?_
      refine r_iload (dc D_cX1_pour_0 17 rfl) rfl ?_
      refine r_dup2 (dc D_cX1_pour_0 18 rfl) rfl rfl ?_
      obtain ⟨o11, h⟩ := h
      refine r_iald (N := 30) (dc D_cX1_pour_0 19 rfl) lC_25 rfl rfl o11 ?_
      refine r_iloadn (dc D_cX1_pour_0 20 rfl) rfl rfl ?_
      refine r_iadd (dc D_cX1_pour_0 21 rfl) ?_
      obtain ⟨o12, h⟩ := h
      obtain ⟨o13, h⟩ := h
      refine r_iast (N := 30) (dc D_cX1_pour_0 22 rfl) lC_25 rfl rfl o13 o12 ?_
      refine r_sig (fun σ14 eσ14 => ?_)
      have h := h σ14 eσ14
      have hσ14 : RS σ14 := RS_eq eσ14 (RS.up hs o12 _ _)
      refine r_goto (tgt := 55) (dc D_cX1_pour_0 23 rfl) (by decide) ?_
      refine r_sub (lv' := [some (.ref (eA E 3)), some (.int (iz x1)), some (.int (iz x2)), some (.int (iz x3)), some (.int (iz x4)), none]) (subL_s (subL_s (subL_s (subL_s (subL_s (subL_n subL_e)))))) ?_
      exact TX1_pour_55 hE x hK3 _ _ _ _ rx1 rx2 rx3 rx4 _ hσ14 h
theorem TX1_pour_3 {E : EV} (hE : eOK layC E) {Φ : Int → PS → Prop} (x : CX) (n : Nat) : ∀ (x1 x2 x3 x4 : Int) (σ : PS), Rg x1 → Rg x2 → Rg x3 → Rg x4 → RS σ → LX1_pour_3 n x1 x2 x3 x4 σ Φ → RW layC E mi_X1_pour Φ 3 [some (.ref (eA E 3)), some (.int (iz x1)), some (.int (iz x2)), some (.int (iz x3)), some (.int (iz x4)), none] [] σ x := by
  induction n with
  | zero => intro x1 x2 x3 x4 σ _ _ _ _ _ h; exact h.elim
  | succ n ih => intro x1 x2 x3 x4 σ rx1 rx2 rx3 rx4 hs h; exact TBX1_pour_3 hE x ih x1 x2 x3 x4 rx1 rx2 rx3 rx4 σ hs h
set_option maxRecDepth 100000 in
theorem CX1_pour {E : EV} (hE : eOK layC E) {Φ : Int → PS → Prop} (a1 a2 a3 : Int) (ra1 : Rg a1) (ra2 : Rg a2) (ra3 : Rg a3) (σ : PS) (hs : RS σ) (h : FX1_pour a1 a2 a3 σ Φ) : CT layC E yX1_pour mi_X1_pour [.ref (eA E 3), .int (iz a1), .int (iz a2), .int (iz a3)] σ Φ := by
  refine ct_of (by decide +kernel) rfl hE rfl rfl hs (fun x => ?_)
  show RW layC E mi_X1_pour Φ 0 [some (.ref (eA E 3)), some (.int (iz a1)), some (.int (iz a2)), some (.int (iz a3)), none, none] [] σ x
  refine r_iconst (n := 0) (dc D_cX1_pour_0 0 rfl) ?_
  refine r_istore (lv' := [some (.ref (eA E 3)), some (.int (iz a1)), some (.int (iz a2)), some (.int (iz a3)), some (.int (iz 0)), none]) (dc D_cX1_pour_0 1 rfl) rfl rfl ?_
  obtain ⟨n, h⟩ := h
  exact TX1_pour_3 hE x n _ _ _ _ _ ra1 ra2 ra3 (Rl rfl) hs h
-- end of GateFlow$ByWays.pour
def mi_X1_nextStep : MI := (cX1_nextStep, RX1, 4, 2, (some .int), 1)
def LX1_nextStep_113 (K60 : Int → Int → PS → Prop) (x2 x3 : Int) (σ : PS) (Φ : Int → PS → Prop) : Prop :=
  Rg (x3 + 1) ∧
  K60 x2 (x3 + 1) σ
def BX1_nextStep_60 (K60 : Int → Int → PS → Prop) (x2 x3 : Int) (σ : PS) (Φ : Int → PS → Prop) : Prop :=
  ((σ 1 6 ≤ x3 →
    Φ (-1) σ) ∧
  (¬ σ 1 6 ≤ x3 →
    (0 ≤ x3 ∧ x3 < 30) ∧
    ((¬ σ 14 x3.toNat = x2 →
      LX1_nextStep_113 K60 x2 x3 σ Φ) ∧
    (σ 14 x3.toNat = x2 →
      FX1_backward x3 σ (fun z4 σ5 =>
      ((z4 = 0 →
        LX1_nextStep_113 K60 x2 x3 σ5 Φ) ∧
      (¬ z4 = 0 →
        (0 ≤ x3 ∧ x3 < 30) ∧
        (0 ≤ σ5 13 x3.toNat ∧ σ5 13 x3.toNat < 12) ∧
        (0 ≤ x2 ∧ x2 < 12) ∧
        Rg ((σ5 30 x2.toNat) - 1) ∧
        ((¬ σ5 30 (σ5 13 x3.toNat).toNat = (σ5 30 x2.toNat) - 1 →
          LX1_nextStep_113 K60 x2 x3 σ5 Φ) ∧
        (σ5 30 (σ5 13 x3.toNat).toNat = (σ5 30 x2.toNat) - 1 →
          Rg (100 + x3) ∧
          Φ (100 + x3) σ5)))))))))
def LX1_nextStep_60 : Nat → Int → Int → PS → (Int → PS → Prop) → Prop
  | 0, _, _, _, _ => False
  | n + 1, x2, x3, σ, Φ => BX1_nextStep_60 (fun x2 x3 σ => LX1_nextStep_60 n x2 x3 σ Φ) x2 x3 σ Φ
def LX1_nextStep_52 (K2 : Int → Int → PS → Prop) (x2 x3 : Int) (σ : PS) (Φ : Int → PS → Prop) : Prop :=
  Rg (x3 + 1) ∧
  K2 x2 (x3 + 1) σ
def BX1_nextStep_2 (K2 : Int → Int → PS → Prop) (x2 x3 : Int) (σ : PS) (Φ : Int → PS → Prop) : Prop :=
  ((σ 1 6 ≤ x3 →
    ∃ n, LX1_nextStep_60 n x2 0 σ Φ) ∧
  (¬ σ 1 6 ≤ x3 →
    (0 ≤ x3 ∧ x3 < 30) ∧
    ((¬ σ 13 x3.toNat = x2 →
      LX1_nextStep_52 K2 x2 x3 σ Φ) ∧
    (σ 13 x3.toNat = x2 →
      FX1_forward x3 σ (fun z4 σ5 =>
      ((z4 = 0 →
        LX1_nextStep_52 K2 x2 x3 σ5 Φ) ∧
      (¬ z4 = 0 →
        (0 ≤ x3 ∧ x3 < 30) ∧
        (0 ≤ σ5 14 x3.toNat ∧ σ5 14 x3.toNat < 12) ∧
        (0 ≤ x2 ∧ x2 < 12) ∧
        Rg ((σ5 30 x2.toNat) - 1) ∧
        ((¬ σ5 30 (σ5 14 x3.toNat).toNat = (σ5 30 x2.toNat) - 1 →
          LX1_nextStep_52 K2 x2 x3 σ5 Φ) ∧
        (σ5 30 (σ5 14 x3.toNat).toNat = (σ5 30 x2.toNat) - 1 →
          Φ x3 σ5)))))))))
def LX1_nextStep_2 : Nat → Int → Int → PS → (Int → PS → Prop) → Prop
  | 0, _, _, _, _ => False
  | n + 1, x2, x3, σ, Φ => BX1_nextStep_2 (fun x2 x3 σ => LX1_nextStep_2 n x2 x3 σ Φ) x2 x3 σ Φ
def FX1_nextStep (a2 : Int) (σ : PS) (Φ : Int → PS → Prop) : Prop :=
  ∃ n, LX1_nextStep_2 n a2 0 σ Φ
set_option maxRecDepth 100000 in
theorem TX1_nextStep_113 {E : EV} (hE : eOK layC E) {Φ : Int → PS → Prop} {K60 : Int → Int → PS → Prop} (x : CX) (hK60 : ∀ (x2 x3 : Int) (σ : PS), Rg x2 → Rg x3 → RS σ → K60 x2 x3 σ → RW layC E mi_X1_nextStep Φ 60 [some (.ref (eA E 3)), some (.ref (eA E 1)), some (.int (iz x2)), some (.int (iz x3))] [] σ x) (x2 x3 : Int) (rx2 : Rg x2) (rx3 : Rg x3) (σ : PS) (hs : RS σ) (h : LX1_nextStep_113 K60 x2 x3 σ Φ) : RW layC E mi_X1_nextStep Φ 113 [some (.ref (eA E 3)), some (.ref (eA E 1)), some (.int (iz x2)), some (.int (iz x3))] [] σ x := by
  obtain ⟨o1, h⟩ := h
  refine r_iinc (lv' := [some (.ref (eA E 3)), some (.ref (eA E 1)), some (.int (iz x2)), some (.int (iz (x3 + 1)))]) (dc D_cX1_nextStep_1 28 rfl) rfl rfl rfl ?_
  refine r_goto (tgt := 60) (dc D_cX1_nextStep_1 29 rfl) (by decide) ?_
  exact hK60 _ _ _ rx2 o1 hs h
set_option maxRecDepth 100000 in
theorem TBX1_nextStep_60 {E : EV} (hE : eOK layC E) {Φ : Int → PS → Prop} {K60 : Int → Int → PS → Prop} (x : CX) (hK60 : ∀ (x2 x3 : Int) (σ : PS), Rg x2 → Rg x3 → RS σ → K60 x2 x3 σ → RW layC E mi_X1_nextStep Φ 60 [some (.ref (eA E 3)), some (.ref (eA E 1)), some (.int (iz x2)), some (.int (iz x3))] [] σ x) (x2 x3 : Int) (rx2 : Rg x2) (rx3 : Rg x3) (σ : PS) (hs : RS σ) (h : BX1_nextStep_60 K60 x2 x3 σ Φ) : RW layC E mi_X1_nextStep Φ 60 [some (.ref (eA E 3)), some (.ref (eA E 1)), some (.int (iz x2)), some (.int (iz x3))] [] σ x := by
  refine r_iloadn (dc D_cX1_nextStep_0 36 rfl) rfl rfl ?_
  refine r_aloadn (dc D_cX1_nextStep_0 37 rfl) rfl rfl ?_
  refine r_getI (dc D_cX1_nextStep_0 38 rfl) fw_RX1_75 lC_1 rfl ?_
  refine r_icmp_ge (tgt := 119) (dc D_cX1_nextStep_0 39 rfl) (by decide) rx3 (hs _ _) (fun c1 => ?_) (fun c1 => ?_)
  · have h := h.1 c1
    refine r_iconst (n := (-1)) (dc D_cX1_nextStep_1 30 rfl) ?_
    exact r_iret (dc D_cX1_nextStep_1 31 rfl) rfl (Rl rfl) h
  · have h := h.2 c1
    refine r_aloadn (dc D_cX1_nextStep_1 0 rfl) rfl rfl ?_
    refine r_getR (dc D_cX1_nextStep_1 1 rfl) fw_RX1_76 lC_1 rfl ?_
    refine r_iloadn (dc D_cX1_nextStep_1 2 rfl) rfl rfl ?_
    obtain ⟨o2, h⟩ := h
    refine r_iald (N := 30) (dc D_cX1_nextStep_1 3 rfl) lC_14 rfl rfl o2 ?_
    refine r_iloadn (dc D_cX1_nextStep_1 4 rfl) rfl rfl ?_
    refine r_icmp_ne (tgt := 113) (dc D_cX1_nextStep_1 5 rfl) (by decide) (hs _ _) rx2 (fun c3 => ?_) (fun c3 => ?_)
    · have h := h.1 c3
      exact TX1_nextStep_113 hE x hK60 _ _ rx2 rx3 _ hs h
    · have h := h.2 c3
      refine r_aloadn (dc D_cX1_nextStep_1 6 rfl) rfl rfl ?_
      refine r_iloadn (dc D_cX1_nextStep_1 7 rfl) rfl rfl ?_
      refine r_callV (As := [.int (iz x3)]) (st := []) (dc D_cX1_nextStep_1 8 rfl) cw_RX1_86 nm_yX1_backward (CX1_backward hE _ rx3 _ hs h) lC_3 rfl rfl (by decide) rfl rfl rfl (fun z4 σ5 rz4 hσ5 h => ?_)
      show RW layC E mi_X1_nextStep Φ 83 [some (.ref (eA E 3)), some (.ref (eA E 1)), some (.int (iz x2)), some (.int (iz x3))] [.int (iz z4)] σ5 x
      refine r_if_eq (tgt := 113) (dc D_cX1_nextStep_1 9 rfl) (by decide) rz4 (fun c6 => ?_) (fun c6 => ?_)
      · have h := h.1 c6
        exact TX1_nextStep_113 hE x hK60 _ _ rx2 rx3 _ hσ5 h
      · have h := h.2 c6
        refine r_aloadn (dc D_cX1_nextStep_1 10 rfl) rfl rfl ?_
        refine r_getR (dc D_cX1_nextStep_1 11 rfl) fw_RX1_27 lC_3 rfl ?_
        refine r_aloadn (dc D_cX1_nextStep_1 12 rfl) rfl rfl ?_
        refine r_getR (dc D_cX1_nextStep_1 13 rfl) fw_RX1_83 lC_1 rfl ?_
        refine r_iloadn (dc D_cX1_nextStep_1 14 rfl) rfl rfl ?_
        obtain ⟨o7, h⟩ := h
        refine r_iald (N := 30) (dc D_cX1_nextStep_1 15 rfl) lC_13 rfl rfl o7 ?_
        obtain ⟨o8, h⟩ := h
        refine r_iald (N := 12) (dc D_cX1_nextStep_1 16 rfl) lC_30 rfl rfl o8 ?_
        refine r_aloadn (dc D_cX1_nextStep_1 17 rfl) rfl rfl ?_
        refine r_getR (dc D_cX1_nextStep_1 18 rfl) fw_RX1_27 lC_3 rfl ?_
        refine r_iloadn (dc D_cX1_nextStep_1 19 rfl) rfl rfl ?_
        obtain ⟨o9, h⟩ := h
        refine r_iald (N := 12) (dc D_cX1_nextStep_1 20 rfl) lC_30 rfl rfl o9 ?_
        refine r_iconst (n := 1) (dc D_cX1_nextStep_1 21 rfl) ?_
        refine r_isub (dc D_cX1_nextStep_1 22 rfl) ?_
        obtain ⟨o10, h⟩ := h
        refine r_icmp_ne (tgt := 113) (dc D_cX1_nextStep_1 23 rfl) (by decide) (hσ5 _ _) o10 (fun c11 => ?_) (fun c11 => ?_)
        · have h := h.1 c11
          exact TX1_nextStep_113 hE x hK60 _ _ rx2 rx3 _ hσ5 h
        · have h := h.2 c11
          refine r_bipush (n := 100) (dc D_cX1_nextStep_1 24 rfl) (by decide +kernel) ?_
          refine r_iloadn (dc D_cX1_nextStep_1 25 rfl) rfl rfl ?_
          refine r_iadd (dc D_cX1_nextStep_1 26 rfl) ?_
          obtain ⟨o12, h⟩ := h
          exact r_iret (dc D_cX1_nextStep_1 27 rfl) rfl o12 h
theorem TX1_nextStep_60 {E : EV} (hE : eOK layC E) {Φ : Int → PS → Prop} (x : CX) (n : Nat) : ∀ (x2 x3 : Int) (σ : PS), Rg x2 → Rg x3 → RS σ → LX1_nextStep_60 n x2 x3 σ Φ → RW layC E mi_X1_nextStep Φ 60 [some (.ref (eA E 3)), some (.ref (eA E 1)), some (.int (iz x2)), some (.int (iz x3))] [] σ x := by
  induction n with
  | zero => intro x2 x3 σ _ _ _ h; exact h.elim
  | succ n ih => intro x2 x3 σ rx2 rx3 hs h; exact TBX1_nextStep_60 hE x ih x2 x3 rx2 rx3 σ hs h
set_option maxRecDepth 100000 in
theorem TX1_nextStep_52 {E : EV} (hE : eOK layC E) {Φ : Int → PS → Prop} {K2 : Int → Int → PS → Prop} (x : CX) (hK2 : ∀ (x2 x3 : Int) (σ : PS), Rg x2 → Rg x3 → RS σ → K2 x2 x3 σ → RW layC E mi_X1_nextStep Φ 2 [some (.ref (eA E 3)), some (.ref (eA E 1)), some (.int (iz x2)), some (.int (iz x3))] [] σ x) (x2 x3 : Int) (rx2 : Rg x2) (rx3 : Rg x3) (σ : PS) (hs : RS σ) (h : LX1_nextStep_52 K2 x2 x3 σ Φ) : RW layC E mi_X1_nextStep Φ 52 [some (.ref (eA E 3)), some (.ref (eA E 1)), some (.int (iz x2)), some (.int (iz x3))] [] σ x := by
  obtain ⟨o1, h⟩ := h
  refine r_iinc (lv' := [some (.ref (eA E 3)), some (.ref (eA E 1)), some (.int (iz x2)), some (.int (iz (x3 + 1)))]) (dc D_cX1_nextStep_0 32 rfl) rfl rfl rfl ?_
  refine r_goto (tgt := 2) (dc D_cX1_nextStep_0 33 rfl) (by decide) ?_
  exact hK2 _ _ _ rx2 o1 hs h
set_option maxRecDepth 100000 in
theorem TBX1_nextStep_2 {E : EV} (hE : eOK layC E) {Φ : Int → PS → Prop} {K2 : Int → Int → PS → Prop} (x : CX) (hK2 : ∀ (x2 x3 : Int) (σ : PS), Rg x2 → Rg x3 → RS σ → K2 x2 x3 σ → RW layC E mi_X1_nextStep Φ 2 [some (.ref (eA E 3)), some (.ref (eA E 1)), some (.int (iz x2)), some (.int (iz x3))] [] σ x) (x2 x3 : Int) (rx2 : Rg x2) (rx3 : Rg x3) (σ : PS) (hs : RS σ) (h : BX1_nextStep_2 K2 x2 x3 σ Φ) : RW layC E mi_X1_nextStep Φ 2 [some (.ref (eA E 3)), some (.ref (eA E 1)), some (.int (iz x2)), some (.int (iz x3))] [] σ x := by
  refine r_iloadn (dc D_cX1_nextStep_0 2 rfl) rfl rfl ?_
  refine r_aloadn (dc D_cX1_nextStep_0 3 rfl) rfl rfl ?_
  refine r_getI (dc D_cX1_nextStep_0 4 rfl) fw_RX1_75 lC_1 rfl ?_
  refine r_icmp_ge (tgt := 58) (dc D_cX1_nextStep_0 5 rfl) (by decide) rx3 (hs _ _) (fun c1 => ?_) (fun c1 => ?_)
  · have h := h.1 c1
    refine r_iconst (n := 0) (dc D_cX1_nextStep_0 34 rfl) ?_
    refine r_istoren (lv' := [some (.ref (eA E 3)), some (.ref (eA E 1)), some (.int (iz x2)), some (.int (iz 0))]) (dc D_cX1_nextStep_0 35 rfl) rfl rfl rfl ?_
    obtain ⟨n, h⟩ := h
    exact TX1_nextStep_60 hE x n _ _ _ rx2 (Rl rfl) hs h
  · have h := h.2 c1
    refine r_aloadn (dc D_cX1_nextStep_0 6 rfl) rfl rfl ?_
    refine r_getR (dc D_cX1_nextStep_0 7 rfl) fw_RX1_83 lC_1 rfl ?_
    refine r_iloadn (dc D_cX1_nextStep_0 8 rfl) rfl rfl ?_
    obtain ⟨o2, h⟩ := h
    refine r_iald (N := 30) (dc D_cX1_nextStep_0 9 rfl) lC_13 rfl rfl o2 ?_
    refine r_iloadn (dc D_cX1_nextStep_0 10 rfl) rfl rfl ?_
    refine r_icmp_ne (tgt := 52) (dc D_cX1_nextStep_0 11 rfl) (by decide) (hs _ _) rx2 (fun c3 => ?_) (fun c3 => ?_)
    · have h := h.1 c3
      exact TX1_nextStep_52 hE x hK2 _ _ rx2 rx3 _ hs h
    · have h := h.2 c3
      refine r_aloadn (dc D_cX1_nextStep_0 12 rfl) rfl rfl ?_
      refine r_iloadn (dc D_cX1_nextStep_0 13 rfl) rfl rfl ?_
      refine r_callV (As := [.int (iz x3)]) (st := []) (dc D_cX1_nextStep_0 14 rfl) cw_RX1_79 nm_yX1_forward (CX1_forward hE _ rx3 _ hs h) lC_3 rfl rfl (by decide) rfl rfl rfl (fun z4 σ5 rz4 hσ5 h => ?_)
      show RW layC E mi_X1_nextStep Φ 25 [some (.ref (eA E 3)), some (.ref (eA E 1)), some (.int (iz x2)), some (.int (iz x3))] [.int (iz z4)] σ5 x
      refine r_if_eq (tgt := 52) (dc D_cX1_nextStep_0 15 rfl) (by decide) rz4 (fun c6 => ?_) (fun c6 => ?_)
      · have h := h.1 c6
        exact TX1_nextStep_52 hE x hK2 _ _ rx2 rx3 _ hσ5 h
      · have h := h.2 c6
        refine r_aloadn (dc D_cX1_nextStep_0 16 rfl) rfl rfl ?_
        refine r_getR (dc D_cX1_nextStep_0 17 rfl) fw_RX1_27 lC_3 rfl ?_
        refine r_aloadn (dc D_cX1_nextStep_0 18 rfl) rfl rfl ?_
        refine r_getR (dc D_cX1_nextStep_0 19 rfl) fw_RX1_76 lC_1 rfl ?_
        refine r_iloadn (dc D_cX1_nextStep_0 20 rfl) rfl rfl ?_
        obtain ⟨o7, h⟩ := h
        refine r_iald (N := 30) (dc D_cX1_nextStep_0 21 rfl) lC_14 rfl rfl o7 ?_
        obtain ⟨o8, h⟩ := h
        refine r_iald (N := 12) (dc D_cX1_nextStep_0 22 rfl) lC_30 rfl rfl o8 ?_
        refine r_aloadn (dc D_cX1_nextStep_0 23 rfl) rfl rfl ?_
        refine r_getR (dc D_cX1_nextStep_0 24 rfl) fw_RX1_27 lC_3 rfl ?_
        refine r_iloadn (dc D_cX1_nextStep_0 25 rfl) rfl rfl ?_
        obtain ⟨o9, h⟩ := h
        refine r_iald (N := 12) (dc D_cX1_nextStep_0 26 rfl) lC_30 rfl rfl o9 ?_
        refine r_iconst (n := 1) (dc D_cX1_nextStep_0 27 rfl) ?_
        refine r_isub (dc D_cX1_nextStep_0 28 rfl) ?_
        obtain ⟨o10, h⟩ := h
        refine r_icmp_ne (tgt := 52) (dc D_cX1_nextStep_0 29 rfl) (by decide) (hσ5 _ _) o10 (fun c11 => ?_) (fun c11 => ?_)
        · have h := h.1 c11
          exact TX1_nextStep_52 hE x hK2 _ _ rx2 rx3 _ hσ5 h
        · have h := h.2 c11
          refine r_iloadn (dc D_cX1_nextStep_0 30 rfl) rfl rfl ?_
          exact r_iret (dc D_cX1_nextStep_0 31 rfl) rfl rx3 h
theorem TX1_nextStep_2 {E : EV} (hE : eOK layC E) {Φ : Int → PS → Prop} (x : CX) (n : Nat) : ∀ (x2 x3 : Int) (σ : PS), Rg x2 → Rg x3 → RS σ → LX1_nextStep_2 n x2 x3 σ Φ → RW layC E mi_X1_nextStep Φ 2 [some (.ref (eA E 3)), some (.ref (eA E 1)), some (.int (iz x2)), some (.int (iz x3))] [] σ x := by
  induction n with
  | zero => intro x2 x3 σ _ _ _ h; exact h.elim
  | succ n ih => intro x2 x3 σ rx2 rx3 hs h; exact TBX1_nextStep_2 hE x ih x2 x3 rx2 rx3 σ hs h
set_option maxRecDepth 100000 in
theorem CX1_nextStep {E : EV} (hE : eOK layC E) {Φ : Int → PS → Prop} (a2 : Int) (ra2 : Rg a2) (σ : PS) (hs : RS σ) (h : FX1_nextStep a2 σ Φ) : CT layC E yX1_nextStep mi_X1_nextStep [.ref (eA E 3), .ref (eA E 1), .int (iz a2)] σ Φ := by
  refine ct_of (by decide +kernel) rfl hE rfl rfl hs (fun x => ?_)
  show RW layC E mi_X1_nextStep Φ 0 [some (.ref (eA E 3)), some (.ref (eA E 1)), some (.int (iz a2)), none] [] σ x
  refine r_iconst (n := 0) (dc D_cX1_nextStep_0 0 rfl) ?_
  refine r_istoren (lv' := [some (.ref (eA E 3)), some (.ref (eA E 1)), some (.int (iz a2)), some (.int (iz 0))]) (dc D_cX1_nextStep_0 1 rfl) rfl rfl rfl ?_
  obtain ⟨n, h⟩ := h
  exact TX1_nextStep_2 hE x n _ _ _ ra2 (Rl rfl) hs h
-- end of GateFlow$ByWays.nextStep
def mi_X1_roomOf : MI := (cX1_roomOf, RX1, 2, 1, (some .int), 1)
def FX1_roomOf (a1 : Int) (σ : PS) (Φ : Int → PS → Prop) : Prop :=
  ((100 ≤ a1 →
    Rg (a1 - 100) ∧
    (0 ≤ a1 - 100 ∧ a1 - 100 < 30) ∧
    Φ (σ 25 (a1 - 100).toNat) σ) ∧
  (¬ 100 ≤ a1 →
    (0 ≤ a1 ∧ a1 < 30) ∧
    (0 ≤ a1 ∧ a1 < 30) ∧
    Rg ((σ 29 a1.toNat) - (σ 25 a1.toNat)) ∧
    Φ ((σ 29 a1.toNat) - (σ 25 a1.toNat)) σ))
set_option maxRecDepth 100000 in
theorem CX1_roomOf {E : EV} (hE : eOK layC E) {Φ : Int → PS → Prop} (a1 : Int) (ra1 : Rg a1) (σ : PS) (hs : RS σ) (h : FX1_roomOf a1 σ Φ) : CT layC E yX1_roomOf mi_X1_roomOf [.ref (eA E 3), .int (iz a1)] σ Φ := by
  refine ct_of (by decide +kernel) rfl hE rfl rfl hs (fun x => ?_)
  show RW layC E mi_X1_roomOf Φ 0 [some (.ref (eA E 3)), some (.int (iz a1))] [] σ x
  refine r_iloadn (dc D_cX1_roomOf_0 0 rfl) rfl rfl ?_
  refine r_bipush (n := 100) (dc D_cX1_roomOf_0 1 rfl) (by decide +kernel) ?_
  refine r_icmp_ge (tgt := 22) (dc D_cX1_roomOf_0 2 rfl) (by decide) ra1 (Rl rfl) (fun c1 => ?_) (fun c1 => ?_)
  · have h := h.1 c1
    refine r_aloadn (dc D_cX1_roomOf_0 13 rfl) rfl rfl ?_
    refine r_getR (dc D_cX1_roomOf_0 14 rfl) fw_RX1_9 lC_3 rfl ?_
    refine r_iloadn (dc D_cX1_roomOf_0 15 rfl) rfl rfl ?_
    refine r_bipush (n := 100) (dc D_cX1_roomOf_0 16 rfl) (by decide +kernel) ?_
    refine r_isub (dc D_cX1_roomOf_0 17 rfl) ?_
    obtain ⟨o2, h⟩ := h
    obtain ⟨o3, h⟩ := h
    refine r_iald (N := 30) (dc D_cX1_roomOf_0 18 rfl) lC_25 rfl rfl o3 ?_
    exact r_iret (dc D_cX1_roomOf_0 19 rfl) rfl (hs _ _) h
  · have h := h.2 c1
    refine r_aloadn (dc D_cX1_roomOf_0 3 rfl) rfl rfl ?_
    refine r_getR (dc D_cX1_roomOf_0 4 rfl) fw_RX1_24 lC_3 rfl ?_
    refine r_iloadn (dc D_cX1_roomOf_0 5 rfl) rfl rfl ?_
    obtain ⟨o4, h⟩ := h
    refine r_iald (N := 30) (dc D_cX1_roomOf_0 6 rfl) lC_29 rfl rfl o4 ?_
    refine r_aloadn (dc D_cX1_roomOf_0 7 rfl) rfl rfl ?_
    refine r_getR (dc D_cX1_roomOf_0 8 rfl) fw_RX1_9 lC_3 rfl ?_
    refine r_iloadn (dc D_cX1_roomOf_0 9 rfl) rfl rfl ?_
    obtain ⟨o5, h⟩ := h
    refine r_iald (N := 30) (dc D_cX1_roomOf_0 10 rfl) lC_25 rfl rfl o5 ?_
    refine r_isub (dc D_cX1_roomOf_0 11 rfl) ?_
    obtain ⟨o6, h⟩ := h
    refine r_goto (tgt := 31) (dc D_cX1_roomOf_0 12 rfl) (by decide) ?_
    exact r_iret (dc D_cX1_roomOf_0 19 rfl) rfl o6 h
-- end of GateFlow$ByWays.roomOf
def mi_X1_takeWay : MI := (cX1_takeWay, RX1, 8, 4, none, 0)
def LX1_takeWay_118 (x2 x3 x5 : Int) (σ : PS) (Φ : Int → PS → Prop) : Prop :=
  (0 ≤ σ 3 7 ∧ σ 3 7 < 360) ∧
  ∀ σ2 : PS, σ2 = up2 σ 26 (σ 3 7).toNat x5 →
  (0 ≤ σ2 3 7 ∧ σ2 3 7 < 360) ∧
  ∀ σ4 : PS, σ4 = up2 σ2 27 (σ2 3 7).toNat x3 →
  Rg ((σ4 3 8) + x5) ∧
  ∀ σ6 : PS, σ6 = up2 σ4 3 8 ((σ4 3 8) + x5) →
  FX1_pour x2 x3 x5 σ6 (fun z7 σ8 =>
  Φ 0 σ8)
def LX1_takeWay_110 (K36 : Int → Int → Int → Int → Int → PS → Prop) (x2 x3 x5 x6 s0 : Int) (σ : PS) (Φ : Int → PS → Prop) : Prop :=
  Rg (x6 + 1) ∧
  K36 x2 x3 s0 x5 (x6 + 1) σ
def BX1_takeWay_36 (K36 : Int → Int → Int → Int → Int → PS → Prop) (x2 x3 x4 x5 x6 : Int) (σ : PS) (Φ : Int → PS → Prop) : Prop :=
  ((x3 ≤ x6 →
    LX1_takeWay_118 x2 x3 x5 σ Φ) ∧
  (¬ x3 ≤ x6 →
    FX1_nextStep x4 σ (fun z2 σ3 =>
    ((0 ≤ z2 →
      Rg (x2 + x6) ∧
      (0 ≤ x2 + x6 ∧ x2 + x6 < 4320) ∧
      ∀ σ7 : PS, σ7 = up2 σ3 28 (x2 + x6).toNat z2 →
      FX1_roomOf z2 σ7 (fun z8 σ9 =>
      ∀ v10 : Int, v10 = min x5 z8 →
      ((100 ≤ z2 →
        Rg (z2 - 100) ∧
        (0 ≤ z2 - 100 ∧ z2 - 100 < 30) ∧
        LX1_takeWay_110 K36 x2 x3 v10 x6 (σ9 13 (z2 - 100).toNat) σ9 Φ) ∧
      (¬ 100 ≤ z2 →
        (0 ≤ z2 ∧ z2 < 30) ∧
        LX1_takeWay_110 K36 x2 x3 v10 x6 (σ9 14 z2.toNat) σ9 Φ)))) ∧
    (¬ 0 ≤ z2 →
      LX1_takeWay_118 x2 x3 x5 σ3 Φ)))))
def LX1_takeWay_36 : Nat → Int → Int → Int → Int → Int → PS → (Int → PS → Prop) → Prop
  | 0, _, _, _, _, _, _, _ => False
  | n + 1, x2, x3, x4, x5, x6, σ, Φ => BX1_takeWay_36 (fun x2 x3 x4 x5 x6 σ => LX1_takeWay_36 n x2 x3 x4 x5 x6 σ Φ) x2 x3 x4 x5 x6 σ Φ
def FX1_takeWay (σ : PS) (Φ : Int → PS → Prop) : Prop :=
  Rg ((σ 3 7) * 12) ∧
  ∀ v2 : Int, v2 = (σ 3 7) * 12 →
  (0 ≤ σ 1 7 ∧ σ 1 7 < 12) ∧
  ∀ v4 : Int, v4 = min (σ 30 (σ 1 7).toNat) 12 →
  ∀ v5 : Int, v5 = σ 1 7 →
  ∃ n, LX1_takeWay_36 n v2 v4 v5 1000000000 0 σ Φ
theorem fp_1_8 : FP 1 8 .int := ⟨RX1, TX1, 11, tyX1, rfl, tyX1_ok, nmX1, rfl, by decide +kernel⟩
theorem cw_RX1_103 : CWV RX1 103 yX1_pour mi_X1_pour := tb_r [648, 650, 8, 99, 651] (by decide +kernel)
theorem nm_yX1_pour : ynm yX1_pour 3 := ⟨⟨by decide +kernel, by decide +kernel⟩, by decide +kernel⟩
theorem cw_RX1_96 : CWV RX1 96 yX1_nextStep mi_X1_nextStep := tb_r [640, 642, 6, 99, 643] (by decide +kernel)
theorem nm_yX1_nextStep : ynm yX1_nextStep 2 := ⟨⟨by decide +kernel, by decide +kernel⟩, by decide +kernel⟩
theorem cw_RX1_99 : CWV RX1 99 yX1_roomOf mi_X1_roomOf := tb_r [644, 646, 7, 99, 647] (by decide +kernel)
theorem nm_yX1_roomOf : ynm yX1_roomOf 1 := ⟨⟨by decide +kernel, by decide +kernel⟩, by decide +kernel⟩
theorem mw_RX1_89 : MW RX1 89 Lib.Math.min.name Lib.Math.min.code := tb_r [636, 637, 111, 638] (by decide +kernel)
theorem kw_RX1_95 : Cond.constant RX1 95 (iz 1000000000) ∈ TB := tb_1 639 (by decide +kernel)
set_option maxRecDepth 100000 in
theorem TX1_takeWay_118 {E : EV} (hE : eOK layC E) {Φ : Int → PS → Prop} (x : CX) (x2 x3 x5 : Int) (rx2 : Rg x2) (rx3 : Rg x3) (rx5 : Rg x5) (σ : PS) (hs : RS σ) (h : LX1_takeWay_118 x2 x3 x5 σ Φ) : RW layC E mi_X1_takeWay Φ 118 [some (.ref (eA E 3)), none, some (.int (iz x2)), some (.int (iz x3)), none, some (.int (iz x5)), none, none] [] σ x := by
  refine r_aloadn (dc D_cX1_takeWay_1 21 rfl) rfl rfl ?_
  refine r_getR (dc D_cX1_takeWay_1 22 rfl) fw_RX1_15 lC_3 rfl ?_
  refine r_aloadn (dc D_cX1_takeWay_1 23 rfl) rfl rfl ?_
  refine r_getI (dc D_cX1_takeWay_1 24 rfl) fw_RX1_53 lC_3 rfl ?_
  refine r_iload (dc D_cX1_takeWay_1 25 rfl) rfl ?_
  obtain ⟨o1, h⟩ := h
  refine r_iast (N := 360) (dc D_cX1_takeWay_1 26 rfl) lC_26 rfl rfl o1 rx5 ?_
  refine r_sig (fun σ2 eσ2 => ?_)
  have h := h σ2 eσ2
  have hσ2 : RS σ2 := RS_eq eσ2 (RS.up hs rx5 _ _)
  refine r_aloadn (dc D_cX1_takeWay_1 27 rfl) rfl rfl ?_
  refine r_getR (dc D_cX1_takeWay_1 28 rfl) fw_RX1_18 lC_3 rfl ?_
  refine r_aloadn (dc D_cX1_takeWay_1 29 rfl) rfl rfl ?_
  refine r_getI (dc D_cX1_takeWay_1 30 rfl) fw_RX1_53 lC_3 rfl ?_
  refine r_iloadn (dc D_cX1_takeWay_1 31 rfl) rfl rfl ?_
  obtain ⟨o3, h⟩ := h
  refine r_iast (N := 360) (dc D_cX1_takeWay_1 32 rfl) lC_27 rfl rfl o3 rx3 ?_
  refine r_sig (fun σ4 eσ4 => ?_)
  have h := h σ4 eσ4
  have hσ4 : RS σ4 := RS_eq eσ4 (RS.up hσ2 rx3 _ _)
  refine r_aloadn (dc D_cX1_takeWay_1 33 rfl) rfl rfl ?_
  refine r_dup (dc D_cX1_takeWay_1 34 rfl) rfl ?_
  refine r_getI (dc D_cX1_takeWay_1 35 rfl) fw_RX1_45 lC_3 rfl ?_
  refine r_iload (dc D_cX1_takeWay_1 36 rfl) rfl ?_
  refine r_iadd (dc D_cX1_takeWay_1 37 rfl) ?_
  obtain ⟨o5, h⟩ := h
  refine r_put (dc D_cX1_takeWay_1 38 rfl) fw_RX1_45 fp_1_8 lC_3 rfl (nar_int _) o5 ?_
  refine r_sig (fun σ6 eσ6 => ?_)
  have h := h σ6 eσ6
  have hσ6 : RS σ6 := RS_eq eσ6 (RS.up hσ4 o5 _ _)
  refine r_aloadn (dc D_cX1_takeWay_1 39 rfl) rfl rfl ?_
  refine r_iloadn (dc D_cX1_takeWay_2 0 rfl) rfl rfl ?_
  refine r_iloadn (dc D_cX1_takeWay_2 1 rfl) rfl rfl ?_
  refine r_iload (dc D_cX1_takeWay_2 2 rfl) rfl ?_
  refine r_callV (As := [.int (iz x2), .int (iz x3), .int (iz x5)]) (st := []) (dc D_cX1_takeWay_2 3 rfl) cw_RX1_103 nm_yX1_pour (CX1_pour hE _ _ _ rx2 rx3 rx5 _ hσ6 h) lC_3 rfl rfl (by decide) rfl rfl rfl (fun z7 σ8 rz7 hσ8 h => ?_)
  show RW layC E mi_X1_takeWay Φ 158 [some (.ref (eA E 3)), none, some (.int (iz x2)), some (.int (iz x3)), none, some (.int (iz x5)), none, none] [] σ8 x
  exact r_vret (dc D_cX1_takeWay_2 4 rfl) rfl h
set_option maxRecDepth 100000 in
theorem TX1_takeWay_110 {E : EV} (hE : eOK layC E) {Φ : Int → PS → Prop} {K36 : Int → Int → Int → Int → Int → PS → Prop} (x : CX) (hK36 : ∀ (x2 x3 x4 x5 x6 : Int) (σ : PS), Rg x2 → Rg x3 → Rg x4 → Rg x5 → Rg x6 → RS σ → K36 x2 x3 x4 x5 x6 σ → RW layC E mi_X1_takeWay Φ 36 [some (.ref (eA E 3)), some (.ref (eA E 1)), some (.int (iz x2)), some (.int (iz x3)), some (.int (iz x4)), some (.int (iz x5)), some (.int (iz x6)), none] [] σ x) (x2 x3 x5 x6 s0 : Int) (rx2 : Rg x2) (rx3 : Rg x3) (rx5 : Rg x5) (rx6 : Rg x6) (rs0 : Rg s0) (σ : PS) (hs : RS σ) (h : LX1_takeWay_110 K36 x2 x3 x5 x6 s0 σ Φ) : RW layC E mi_X1_takeWay Φ 110 [some (.ref (eA E 3)), some (.ref (eA E 1)), some (.int (iz x2)), some (.int (iz x3)), none, some (.int (iz x5)), some (.int (iz x6)), none] [.int (iz s0)] σ x := by
  refine r_istore (lv' := [some (.ref (eA E 3)), some (.ref (eA E 1)), some (.int (iz x2)), some (.int (iz x3)), some (.int (iz s0)), some (.int (iz x5)), some (.int (iz x6)), none]) (dc D_cX1_takeWay_1 18 rfl) rfl rfl ?_
  obtain ⟨o1, h⟩ := h
  refine r_iinc (lv' := [some (.ref (eA E 3)), some (.ref (eA E 1)), some (.int (iz x2)), some (.int (iz x3)), some (.int (iz s0)), some (.int (iz x5)), some (.int (iz (x6 + 1))), none]) (dc D_cX1_takeWay_1 19 rfl) rfl rfl rfl ?_
  refine r_goto (tgt := 36) (dc D_cX1_takeWay_1 20 rfl) (by decide) ?_
  exact hK36 _ _ _ _ _ _ rx2 rx3 rs0 rx5 o1 hs h
set_option maxRecDepth 100000 in
theorem TBX1_takeWay_36 {E : EV} (hE : eOK layC E) {Φ : Int → PS → Prop} {K36 : Int → Int → Int → Int → Int → PS → Prop} (x : CX) (hK36 : ∀ (x2 x3 x4 x5 x6 : Int) (σ : PS), Rg x2 → Rg x3 → Rg x4 → Rg x5 → Rg x6 → RS σ → K36 x2 x3 x4 x5 x6 σ → RW layC E mi_X1_takeWay Φ 36 [some (.ref (eA E 3)), some (.ref (eA E 1)), some (.int (iz x2)), some (.int (iz x3)), some (.int (iz x4)), some (.int (iz x5)), some (.int (iz x6)), none] [] σ x) (x2 x3 x4 x5 x6 : Int) (rx2 : Rg x2) (rx3 : Rg x3) (rx4 : Rg x4) (rx5 : Rg x5) (rx6 : Rg x6) (σ : PS) (hs : RS σ) (h : BX1_takeWay_36 K36 x2 x3 x4 x5 x6 σ Φ) : RW layC E mi_X1_takeWay Φ 36 [some (.ref (eA E 3)), some (.ref (eA E 1)), some (.int (iz x2)), some (.int (iz x3)), some (.int (iz x4)), some (.int (iz x5)), some (.int (iz x6)), none] [] σ x := by
  refine r_iload (dc D_cX1_takeWay_0 20 rfl) rfl ?_
  refine r_iloadn (dc D_cX1_takeWay_0 21 rfl) rfl rfl ?_
  refine r_icmp_ge (tgt := 118) (dc D_cX1_takeWay_0 22 rfl) (by decide) rx6 rx3 (fun c1 => ?_) (fun c1 => ?_)
  · have h := h.1 c1
    refine r_sub (lv' := [some (.ref (eA E 3)), none, some (.int (iz x2)), some (.int (iz x3)), none, some (.int (iz x5)), none, none]) (subL_s (subL_n (subL_s (subL_s (subL_n (subL_s (subL_n (subL_n subL_e)))))))) ?_
    exact TX1_takeWay_118 hE x _ _ _ rx2 rx3 rx5 _ hs h
  · have h := h.2 c1
    refine r_aloadn (dc D_cX1_takeWay_0 23 rfl) rfl rfl ?_
    refine r_aloadn (dc D_cX1_takeWay_0 24 rfl) rfl rfl ?_
    refine r_iload (dc D_cX1_takeWay_0 25 rfl) rfl ?_
    refine r_callV (As := [.ref (eA E 1), .int (iz x4)]) (st := []) (dc D_cX1_takeWay_0 26 rfl) cw_RX1_96 nm_yX1_nextStep (CX1_nextStep hE _ rx4 _ hs h) lC_3 rfl rfl (by decide) rfl rfl rfl (fun z2 σ3 rz2 hσ3 h => ?_)
    show RW layC E mi_X1_takeWay Φ 49 [some (.ref (eA E 3)), some (.ref (eA E 1)), some (.int (iz x2)), some (.int (iz x3)), some (.int (iz x4)), some (.int (iz x5)), some (.int (iz x6)), none] [.int (iz z2)] σ3 x
    refine r_istore (lv' := [some (.ref (eA E 3)), some (.ref (eA E 1)), some (.int (iz x2)), some (.int (iz x3)), some (.int (iz x4)), some (.int (iz x5)), some (.int (iz x6)), some (.int (iz z2))]) (dc D_cX1_takeWay_0 27 rfl) rfl rfl ?_
    refine r_iload (dc D_cX1_takeWay_0 28 rfl) rfl ?_
    refine r_if_ge (tgt := 59) (dc D_cX1_takeWay_0 29 rfl) (by decide) rz2 (fun c4 => ?_) (fun c4 => ?_)
    · have h := h.1 c4
      refine r_aloadn (dc D_cX1_takeWay_0 31 rfl) rfl rfl ?_
      refine r_getR (dc D_cX1_takeWay_0 32 rfl) fw_RX1_21 lC_3 rfl ?_
      refine r_iloadn (dc D_cX1_takeWay_0 33 rfl) rfl rfl ?_
      refine r_iload (dc D_cX1_takeWay_0 34 rfl) rfl ?_
      refine r_iadd (dc D_cX1_takeWay_0 35 rfl) ?_
      obtain ⟨o5, h⟩ := h
      refine r_iload (dc D_cX1_takeWay_0 36 rfl) rfl ?_
      obtain ⟨o6, h⟩ := h
      refine r_iast (N := 4320) (dc D_cX1_takeWay_0 37 rfl) lC_28 rfl rfl o6 rz2 ?_
      refine r_sig (fun σ7 eσ7 => ?_)
      have h := h σ7 eσ7
      have hσ7 : RS σ7 := RS_eq eσ7 (RS.up hσ3 rz2 _ _)
      refine r_iload (dc D_cX1_takeWay_0 38 rfl) rfl ?_
      refine r_aloadn (dc D_cX1_takeWay_0 39 rfl) rfl rfl ?_
      refine r_iload (dc D_cX1_takeWay_1 0 rfl) rfl ?_
      refine r_callV (As := [.int (iz z2)]) (st := [.int (iz x5)]) (dc D_cX1_takeWay_1 1 rfl) cw_RX1_99 nm_yX1_roomOf (CX1_roomOf hE _ rz2 _ hσ7 h) lC_3 rfl rfl (by decide) rfl rfl rfl (fun z8 σ9 rz8 hσ9 h => ?_)
      show RW layC E mi_X1_takeWay Φ 78 [some (.ref (eA E 3)), some (.ref (eA E 1)), some (.int (iz x2)), some (.int (iz x3)), some (.int (iz x4)), some (.int (iz x5)), some (.int (iz x6)), some (.int (iz z2))] [.int (iz z8), .int (iz x5)] σ9 x
      refine r_min (dc D_cX1_takeWay_1 2 rfl) mw_RX1_89 rx5 rz8 (by decide) rfl ?_
      refine r_name (fun v10 ev10 => ?_)
      have h := h v10 ev10
      have rv10 : Rg v10 := Rg_eq ev10 (Rg_min rx5 rz8)
      refine r_istore (lv' := [some (.ref (eA E 3)), some (.ref (eA E 1)), some (.int (iz x2)), some (.int (iz x3)), some (.int (iz x4)), some (.int (iz v10)), some (.int (iz x6)), some (.int (iz z2))]) (dc D_cX1_takeWay_1 3 rfl) rfl rfl ?_
      refine r_iload (dc D_cX1_takeWay_1 4 rfl) rfl ?_
      refine r_bipush (n := 100) (dc D_cX1_takeWay_1 5 rfl) (by decide +kernel) ?_
      refine r_icmp_ge (tgt := 100) (dc D_cX1_takeWay_1 6 rfl) (by decide) rz2 (Rl rfl) (fun c11 => ?_) (fun c11 => ?_)
      · have h := h.1 c11
        refine r_aloadn (dc D_cX1_takeWay_1 12 rfl) rfl rfl ?_
        refine r_getR (dc D_cX1_takeWay_1 13 rfl) fw_RX1_83 lC_1 rfl ?_
        refine r_iload (dc D_cX1_takeWay_1 14 rfl) rfl ?_
        refine r_bipush (n := 100) (dc D_cX1_takeWay_1 15 rfl) (by decide +kernel) ?_
        refine r_isub (dc D_cX1_takeWay_1 16 rfl) ?_
        obtain ⟨o12, h⟩ := h
        obtain ⟨o13, h⟩ := h
        refine r_iald (N := 30) (dc D_cX1_takeWay_1 17 rfl) lC_13 rfl rfl o13 ?_
        refine r_sub (lv' := [some (.ref (eA E 3)), some (.ref (eA E 1)), some (.int (iz x2)), some (.int (iz x3)), none, some (.int (iz v10)), some (.int (iz x6)), none]) (subL_s (subL_s (subL_s (subL_s (subL_n (subL_s (subL_s (subL_n subL_e)))))))) ?_
        exact TX1_takeWay_110 hE x hK36 _ _ _ _ _ rx2 rx3 rv10 rx6 (hσ9 _ _) _ hσ9 h
      · have h := h.2 c11
        refine r_aloadn (dc D_cX1_takeWay_1 7 rfl) rfl rfl ?_
        refine r_getR (dc D_cX1_takeWay_1 8 rfl) fw_RX1_76 lC_1 rfl ?_
        refine r_iload (dc D_cX1_takeWay_1 9 rfl) rfl ?_
        obtain ⟨o14, h⟩ := h
        refine r_iald (N := 30) (dc D_cX1_takeWay_1 10 rfl) lC_14 rfl rfl o14 ?_
        refine r_goto (tgt := 110) (dc D_cX1_takeWay_1 11 rfl) (by decide) ?_
        refine r_sub (lv' := [some (.ref (eA E 3)), some (.ref (eA E 1)), some (.int (iz x2)), some (.int (iz x3)), none, some (.int (iz v10)), some (.int (iz x6)), none]) (subL_s (subL_s (subL_s (subL_s (subL_n (subL_s (subL_s (subL_n subL_e)))))))) ?_
        exact TX1_takeWay_110 hE x hK36 _ _ _ _ _ rx2 rx3 rv10 rx6 (hσ9 _ _) _ hσ9 h
    · have h := h.2 c4
      refine r_goto (tgt := 118) (dc D_cX1_takeWay_0 30 rfl) (by decide) ?_
      refine r_sub (lv' := [some (.ref (eA E 3)), none, some (.int (iz x2)), some (.int (iz x3)), none, some (.int (iz x5)), none, none]) (subL_s (subL_n (subL_s (subL_s (subL_n (subL_s (subL_n (subL_n subL_e)))))))) ?_
      exact TX1_takeWay_118 hE x _ _ _ rx2 rx3 rx5 _ hσ3 h
theorem TX1_takeWay_36 {E : EV} (hE : eOK layC E) {Φ : Int → PS → Prop} (x : CX) (n : Nat) : ∀ (x2 x3 x4 x5 x6 : Int) (σ : PS), Rg x2 → Rg x3 → Rg x4 → Rg x5 → Rg x6 → RS σ → LX1_takeWay_36 n x2 x3 x4 x5 x6 σ Φ → RW layC E mi_X1_takeWay Φ 36 [some (.ref (eA E 3)), some (.ref (eA E 1)), some (.int (iz x2)), some (.int (iz x3)), some (.int (iz x4)), some (.int (iz x5)), some (.int (iz x6)), none] [] σ x := by
  induction n with
  | zero => intro x2 x3 x4 x5 x6 σ _ _ _ _ _ _ h; exact h.elim
  | succ n ih => intro x2 x3 x4 x5 x6 σ rx2 rx3 rx4 rx5 rx6 hs h; exact TBX1_takeWay_36 hE x ih x2 x3 x4 x5 x6 rx2 rx3 rx4 rx5 rx6 σ hs h
set_option maxRecDepth 100000 in
theorem CX1_takeWay {E : EV} (hE : eOK layC E) {Φ : Int → PS → Prop} (σ : PS) (hs : RS σ) (h : FX1_takeWay σ Φ) : CT layC E yX1_takeWay mi_X1_takeWay [.ref (eA E 3), .ref (eA E 1)] σ Φ := by
  refine ct_of (by decide +kernel) rfl hE rfl rfl hs (fun x => ?_)
  show RW layC E mi_X1_takeWay Φ 0 [some (.ref (eA E 3)), some (.ref (eA E 1)), none, none, none, none, none, none] [] σ x
  refine r_aloadn (dc D_cX1_takeWay_0 0 rfl) rfl rfl ?_
  refine r_getI (dc D_cX1_takeWay_0 1 rfl) fw_RX1_53 lC_3 rfl ?_
  refine r_bipush (n := 12) (dc D_cX1_takeWay_0 2 rfl) (by decide +kernel) ?_
  refine r_imul (dc D_cX1_takeWay_0 3 rfl) ?_
  obtain ⟨o1, h⟩ := h
  refine r_name (fun v2 ev2 => ?_)
  have h := h v2 ev2
  have rv2 : Rg v2 := Rg_eq ev2 o1
  refine r_istoren (lv' := [some (.ref (eA E 3)), some (.ref (eA E 1)), some (.int (iz v2)), none, none, none, none, none]) (dc D_cX1_takeWay_0 4 rfl) rfl rfl rfl ?_
  refine r_aloadn (dc D_cX1_takeWay_0 5 rfl) rfl rfl ?_
  refine r_getR (dc D_cX1_takeWay_0 6 rfl) fw_RX1_27 lC_3 rfl ?_
  refine r_aloadn (dc D_cX1_takeWay_0 7 rfl) rfl rfl ?_
  refine r_getI (dc D_cX1_takeWay_0 8 rfl) fw_RX1_56 lC_1 rfl ?_
  obtain ⟨o3, h⟩ := h
  refine r_iald (N := 12) (dc D_cX1_takeWay_0 9 rfl) lC_30 rfl rfl o3 ?_
  refine r_bipush (n := 12) (dc D_cX1_takeWay_0 10 rfl) (by decide +kernel) ?_
  refine r_min (dc D_cX1_takeWay_0 11 rfl) mw_RX1_89 (hs _ _) (Rl rfl) (by decide) rfl ?_
  refine r_name (fun v4 ev4 => ?_)
  have h := h v4 ev4
  have rv4 : Rg v4 := Rg_eq ev4 (Rg_min (hs _ _) (Rl rfl))
  refine r_istoren (lv' := [some (.ref (eA E 3)), some (.ref (eA E 1)), some (.int (iz v2)), some (.int (iz v4)), none, none, none, none]) (dc D_cX1_takeWay_0 12 rfl) rfl rfl rfl ?_
  refine r_aloadn (dc D_cX1_takeWay_0 13 rfl) rfl rfl ?_
  refine r_getI (dc D_cX1_takeWay_0 14 rfl) fw_RX1_56 lC_1 rfl ?_
  refine r_name (fun v5 ev5 => ?_)
  have h := h v5 ev5
  have rv5 : Rg v5 := Rg_eq ev5 (hs _ _)
  refine r_istore (lv' := [some (.ref (eA E 3)), some (.ref (eA E 1)), some (.int (iz v2)), some (.int (iz v4)), some (.int (iz v5)), none, none, none]) (dc D_cX1_takeWay_0 15 rfl) rfl rfl ?_
  refine r_ldc (n := (1000000000)) (dc D_cX1_takeWay_0 16 rfl) kw_RX1_95 ?_
  refine r_istore (lv' := [some (.ref (eA E 3)), some (.ref (eA E 1)), some (.int (iz v2)), some (.int (iz v4)), some (.int (iz v5)), some (.int (iz 1000000000)), none, none]) (dc D_cX1_takeWay_0 17 rfl) rfl rfl ?_
  refine r_iconst (n := 0) (dc D_cX1_takeWay_0 18 rfl) ?_
  refine r_istore (lv' := [some (.ref (eA E 3)), some (.ref (eA E 1)), some (.int (iz v2)), some (.int (iz v4)), some (.int (iz v5)), some (.int (iz 1000000000)), some (.int (iz 0)), none]) (dc D_cX1_takeWay_0 19 rfl) rfl rfl ?_
  obtain ⟨n, h⟩ := h
  exact TX1_takeWay_36 hE x n _ _ _ _ _ _ rv2 rv4 rv5 (Rl rfl) (Rl rfl) hs h
-- end of GateFlow$ByWays.takeWay
def mi_X1_run : MI := (cX1_run, RX1, 3, 5, none, 0)
def LX1_run_123 (K96 : Int → PS → Prop) (x2 s1 s2 : Int) (σ : PS) (Φ : Int → PS → Prop) : Prop :=
  ∀ σ1 : PS, σ1 = up2 σ 3 10 (ior s1 s2) →
  Rg (x2 + 1) ∧
  K96 (x2 + 1) σ1
def BX1_run_96 (K96 : Int → PS → Prop) (x2 : Int) (σ : PS) (Φ : Int → PS → Prop) : Prop :=
  ((12 ≤ x2 →
    Φ 0 σ) ∧
  (¬ 12 ≤ x2 →
    (0 ≤ x2 ∧ x2 < 12) ∧
    ((σ 30 x2.toNat < 0 →
      LX1_run_123 K96 x2 (σ 3 10) 0 σ Φ) ∧
    (¬ σ 30 x2.toNat < 0 →
      LX1_run_123 K96 x2 (σ 3 10) (ishl 1 x2) σ Φ))))
def LX1_run_96 : Nat → Int → PS → (Int → PS → Prop) → Prop
  | 0, _, _, _ => False
  | n + 1, x2, σ, Φ => BX1_run_96 (fun x2 σ => LX1_run_96 n x2 σ Φ) x2 σ Φ
def LX1_run_76 (σ : PS) (Φ : Int → PS → Prop) : Prop :=
  FX1_spreadAlong (σ 1 7) σ (fun z1 σ2 =>
  ∀ σ3 : PS, σ3 = up2 σ2 3 9 z1 →
  ∀ σ4 : PS, σ4 = up2 σ3 3 10 0 →
  ∃ n, LX1_run_96 n 0 σ4 Φ)
def BX1_run_31 (K31 : PS → Prop) (σ : PS) (Φ : Int → PS → Prop) : Prop :=
  ((360 ≤ σ 3 7 →
    LX1_run_76 σ Φ) ∧
  (¬ 360 ≤ σ 3 7 →
    (0 ≤ σ 1 7 ∧ σ 1 7 < 12) ∧
    ((σ 30 (σ 1 7).toNat ≤ 0 →
      LX1_run_76 σ Φ) ∧
    (¬ σ 30 (σ 1 7).toNat ≤ 0 →
      FX1_takeWay σ (fun z4 σ5 =>
      FX1_measure σ5 (fun z6 σ7 =>
      Rg ((σ7 3 7) + 1) ∧
      ∀ σ9 : PS, σ9 = up2 σ7 3 7 ((σ7 3 7) + 1) →
      K31 σ9))))))
def LX1_run_31 : Nat → PS → (Int → PS → Prop) → Prop
  | 0, _, _ => False
  | n + 1, σ, Φ => BX1_run_31 (fun σ => LX1_run_31 n σ Φ) σ Φ
def FX1_run (σ : PS) (Φ : Int → PS → Prop) : Prop :=
  FX3_copyUsable σ (fun z1 σ2 =>
  ∀ σ3 : PS, σ3 = fl2 σ2 25 0 30 0 →
  ∀ σ4 : PS, σ4 = up2 σ3 3 8 0 →
  FX1_measure σ4 (fun z5 σ6 =>
  ∀ σ7 : PS, σ7 = up2 σ6 3 7 0 →
  ∃ n, LX1_run_31 n σ7 Φ))
theorem fp_1_10 : FP 1 10 .int := ⟨RX1, TX1, 11, tyX1, rfl, tyX1_ok, nmX1, rfl, by decide +kernel⟩
theorem cw_RX1_62 : CWV RX1 62 yX1_spreadAlong mi_X1_spreadAlong := tb_r [652, 653, 654, 99, 655] (by decide +kernel)
theorem nm_yX1_spreadAlong : ynm yX1_spreadAlong 2 := ⟨⟨by decide +kernel, by decide +kernel⟩, by decide +kernel⟩
theorem fw_RX1_66 : FW RX1 66 1 9 := ⟨RX1, TX1, 11, rfl, by decide, rfl, tb_1 234 (by decide +kernel), uw_1⟩
theorem fp_1_9 : FP 1 9 .int := ⟨RX1, TX1, 11, tyX1, rfl, tyX1_ok, nmX1, rfl, by decide +kernel⟩
theorem cw_RX1_59 : CWV RX1 59 yX1_takeWay mi_X1_takeWay := tb_r [632, 634, 5, 99, 635] (by decide +kernel)
theorem nm_yX1_takeWay : ynm yX1_takeWay 1 := ⟨⟨by decide +kernel, by decide +kernel⟩, by decide +kernel⟩
theorem cw_RX1_49 : CWV RX1 49 yX1_measure mi_X1_measure := tb_r [620, 622, 2, 99, 623] (by decide +kernel)
theorem nm_yX1_measure : ynm yX1_measure 1 := ⟨⟨by decide +kernel, by decide +kernel⟩, by decide +kernel⟩
theorem fp_1_7 : FP 1 7 .int := ⟨RX1, TX1, 11, tyX1, rfl, tyX1_ok, nmX1, rfl, by decide +kernel⟩
theorem cw_RX1_33 : CWV RX1 33 yX3_copyUsable mi_X3_copyUsable := tb_r [610, 611, 612, 98, 613] (by decide +kernel)
theorem nm_yX3_copyUsable : ynm yX3_copyUsable 1 := ⟨⟨by decide +kernel, by decide +kernel⟩, by decide +kernel⟩
set_option maxRecDepth 100000 in
theorem TX1_run_123 {E : EV} (hE : eOK layC E) {Φ : Int → PS → Prop} {K96 : Int → PS → Prop} (x : CX) (hK96 : ∀ (x2 : Int) (σ : PS), Rg x2 → RS σ → K96 x2 σ → RW layC E mi_X1_run Φ 96 [some (.ref (eA E 3)), none, some (.int (iz x2))] [] σ x) (x2 s1 s2 : Int) (rx2 : Rg x2) (rs1 : Rg s1) (rs2 : Rg s2) (σ : PS) (hs : RS σ) (h : LX1_run_123 K96 x2 s1 s2 σ Φ) : RW layC E mi_X1_run Φ 123 [some (.ref (eA E 3)), none, some (.int (iz x2))] [.int (iz s2), .int (iz s1), .ref (eA E 3)] σ x := by
  refine r_ior (dc D_cX1_run_1 28 rfl) ?_
  refine r_put (dc D_cX1_run_1 29 rfl) fw_RX1_69 fp_1_10 lC_3 rfl (nar_int _) (Rg_of _) ?_
  refine r_sig (fun σ1 eσ1 => ?_)
  have h := h σ1 eσ1
  have hσ1 : RS σ1 := RS_eq eσ1 (RS.up hs (Rg_of _) _ _)
  obtain ⟨o2, h⟩ := h
  refine r_iinc (lv' := [some (.ref (eA E 3)), none, some (.int (iz (x2 + 1)))]) (dc D_cX1_run_1 30 rfl) rfl rfl rfl ?_
  refine r_goto (tgt := 96) (dc D_cX1_run_1 31 rfl) (by decide) ?_
  exact hK96 _ _ o2 hσ1 h
set_option maxRecDepth 100000 in
theorem TBX1_run_96 {E : EV} (hE : eOK layC E) {Φ : Int → PS → Prop} {K96 : Int → PS → Prop} (x : CX) (hK96 : ∀ (x2 : Int) (σ : PS), Rg x2 → RS σ → K96 x2 σ → RW layC E mi_X1_run Φ 96 [some (.ref (eA E 3)), none, some (.int (iz x2))] [] σ x) (x2 : Int) (rx2 : Rg x2) (σ : PS) (hs : RS σ) (h : BX1_run_96 K96 x2 σ Φ) : RW layC E mi_X1_run Φ 96 [some (.ref (eA E 3)), none, some (.int (iz x2))] [] σ x := by
  refine r_iloadn (dc D_cX1_run_1 12 rfl) rfl rfl ?_
  refine r_bipush (n := 12) (dc D_cX1_run_1 13 rfl) (by decide +kernel) ?_
  refine r_icmp_ge (tgt := 133) (dc D_cX1_run_1 14 rfl) (by decide) rx2 (Rl rfl) (fun c1 => ?_) (fun c1 => ?_)
  · have h := h.1 c1
    exact r_vret (dc D_cX1_run_1 32 rfl) rfl h
  · have h := h.2 c1
    refine r_aloadn (dc D_cX1_run_1 15 rfl) rfl rfl ?_
    refine r_dup (dc D_cX1_run_1 16 rfl) rfl ?_
    refine r_getI (dc D_cX1_run_1 17 rfl) fw_RX1_69 lC_3 rfl ?_
    refine r_aloadn (dc D_cX1_run_1 18 rfl) rfl rfl ?_
    refine r_getR (dc D_cX1_run_1 19 rfl) fw_RX1_27 lC_3 rfl ?_
    refine r_iloadn (dc D_cX1_run_1 20 rfl) rfl rfl ?_
    obtain ⟨o2, h⟩ := h
    refine r_iald (N := 12) (dc D_cX1_run_1 21 rfl) lC_30 rfl rfl o2 ?_
    refine r_if_lt (tgt := 122) (dc D_cX1_run_1 22 rfl) (by decide) (hs _ _) (fun c3 => ?_) (fun c3 => ?_)
    · have h := h.1 c3
      refine r_iconst (n := 0) (dc D_cX1_run_1 27 rfl) ?_
      exact TX1_run_123 hE x hK96 _ _ _ rx2 (hs _ _) (Rl rfl) _ hs h
    · have h := h.2 c3
      refine r_iconst (n := 1) (dc D_cX1_run_1 23 rfl) ?_
      refine r_iloadn (dc D_cX1_run_1 24 rfl) rfl rfl ?_
      refine r_ishl (dc D_cX1_run_1 25 rfl) ?_
      refine r_goto (tgt := 123) (dc D_cX1_run_1 26 rfl) (by decide) ?_
      exact TX1_run_123 hE x hK96 _ _ _ rx2 (hs _ _) (Rg_of _) _ hs h
theorem TX1_run_96 {E : EV} (hE : eOK layC E) {Φ : Int → PS → Prop} (x : CX) (n : Nat) : ∀ (x2 : Int) (σ : PS), Rg x2 → RS σ → LX1_run_96 n x2 σ Φ → RW layC E mi_X1_run Φ 96 [some (.ref (eA E 3)), none, some (.int (iz x2))] [] σ x := by
  induction n with
  | zero => intro x2 σ _ _ h; exact h.elim
  | succ n ih => intro x2 σ rx2 hs h; exact TBX1_run_96 hE x ih x2 rx2 σ hs h
set_option maxRecDepth 100000 in
theorem TX1_run_76 {E : EV} (hE : eOK layC E) {Φ : Int → PS → Prop} (x : CX) (σ : PS) (hs : RS σ) (h : LX1_run_76 σ Φ) : RW layC E mi_X1_run Φ 76 [some (.ref (eA E 3)), some (.ref (eA E 1)), none] [] σ x := by
  refine r_aloadn (dc D_cX1_run_1 0 rfl) rfl rfl ?_
  refine r_aloadn (dc D_cX1_run_1 1 rfl) rfl rfl ?_
  refine r_aloadn (dc D_cX1_run_1 2 rfl) rfl rfl ?_
  refine r_aloadn (dc D_cX1_run_1 3 rfl) rfl rfl ?_
  refine r_getI (dc D_cX1_run_1 4 rfl) fw_RX1_56 lC_1 rfl ?_
  refine r_callV (As := [.ref (eA E 1), .int (iz (σ 1 7))]) (st := [.ref (eA E 3)]) (dc D_cX1_run_1 5 rfl) cw_RX1_62 nm_yX1_spreadAlong (CX1_spreadAlong hE _ (hs _ _) _ hs h) lC_3 rfl rfl (by decide) rfl rfl rfl (fun z1 σ2 rz1 hσ2 h => ?_)
  show RW layC E mi_X1_run Φ 86 [some (.ref (eA E 3)), some (.ref (eA E 1)), none] [.int (iz z1), .ref (eA E 3)] σ2 x
  refine r_put (dc D_cX1_run_1 6 rfl) fw_RX1_66 fp_1_9 lC_3 rfl (nar_int _) rz1 ?_
  refine r_sig (fun σ3 eσ3 => ?_)
  have h := h σ3 eσ3
  have hσ3 : RS σ3 := RS_eq eσ3 (RS.up hσ2 rz1 _ _)
  refine r_aloadn (dc D_cX1_run_1 7 rfl) rfl rfl ?_
  refine r_iconst (n := 0) (dc D_cX1_run_1 8 rfl) ?_
  refine r_put (dc D_cX1_run_1 9 rfl) fw_RX1_69 fp_1_10 lC_3 rfl (nar_int _) (Rl rfl) ?_
  refine r_sig (fun σ4 eσ4 => ?_)
  have h := h σ4 eσ4
  have hσ4 : RS σ4 := RS_eq eσ4 (RS.up hσ3 (Rl rfl) _ _)
  refine r_iconst (n := 0) (dc D_cX1_run_1 10 rfl) ?_
  refine r_istoren (lv' := [some (.ref (eA E 3)), some (.ref (eA E 1)), some (.int (iz 0))]) (dc D_cX1_run_1 11 rfl) rfl rfl rfl ?_
  refine r_sub (lv' := [some (.ref (eA E 3)), none, some (.int (iz 0))]) (subL_s (subL_n (subL_s subL_e))) ?_
  obtain ⟨n, h⟩ := h
  exact TX1_run_96 hE x n _ _ (Rl rfl) hσ4 h
set_option maxRecDepth 100000 in
theorem TBX1_run_31 {E : EV} (hE : eOK layC E) {Φ : Int → PS → Prop} {K31 : PS → Prop} (x : CX) (hK31 : ∀ (σ : PS), RS σ → K31 σ → RW layC E mi_X1_run Φ 31 [some (.ref (eA E 3)), some (.ref (eA E 1)), none] [] σ x) (σ : PS) (hs : RS σ) (h : BX1_run_31 K31 σ Φ) : RW layC E mi_X1_run Φ 31 [some (.ref (eA E 3)), some (.ref (eA E 1)), none] [] σ x := by
  refine r_aloadn (dc D_cX1_run_0 17 rfl) rfl rfl ?_
  refine r_getI (dc D_cX1_run_0 18 rfl) fw_RX1_53 lC_3 rfl ?_
  refine r_sipush (n := 360) (dc D_cX1_run_0 19 rfl) (by decide +kernel) ?_
  refine r_icmp_ge (tgt := 76) (dc D_cX1_run_0 20 rfl) (by decide) (hs _ _) (Rl rfl) (fun c1 => ?_) (fun c1 => ?_)
  · have h := h.1 c1
    exact TX1_run_76 hE x  _ hs h
  · have h := h.2 c1
    refine r_aloadn (dc D_cX1_run_0 21 rfl) rfl rfl ?_
    refine r_getR (dc D_cX1_run_0 22 rfl) fw_RX1_27 lC_3 rfl ?_
    refine r_aloadn (dc D_cX1_run_0 23 rfl) rfl rfl ?_
    refine r_getI (dc D_cX1_run_0 24 rfl) fw_RX1_56 lC_1 rfl ?_
    obtain ⟨o2, h⟩ := h
    refine r_iald (N := 12) (dc D_cX1_run_0 25 rfl) lC_30 rfl rfl o2 ?_
    refine r_if_le (tgt := 76) (dc D_cX1_run_0 26 rfl) (by decide) (hs _ _) (fun c3 => ?_) (fun c3 => ?_)
    · have h := h.1 c3
      exact TX1_run_76 hE x  _ hs h
    · have h := h.2 c3
      refine r_aloadn (dc D_cX1_run_0 27 rfl) rfl rfl ?_
      refine r_aloadn (dc D_cX1_run_0 28 rfl) rfl rfl ?_
      refine r_callV (As := [.ref (eA E 1)]) (st := []) (dc D_cX1_run_0 29 rfl) cw_RX1_59 nm_yX1_takeWay (CX1_takeWay hE  _ hs h) lC_3 rfl rfl (by decide) rfl rfl rfl (fun z4 σ5 rz4 hσ5 h => ?_)
      show RW layC E mi_X1_run Φ 58 [some (.ref (eA E 3)), some (.ref (eA E 1)), none] [] σ5 x
      refine r_aloadn (dc D_cX1_run_0 30 rfl) rfl rfl ?_
      refine r_aloadn (dc D_cX1_run_0 31 rfl) rfl rfl ?_
      refine r_callV (As := [.ref (eA E 1)]) (st := []) (dc D_cX1_run_0 32 rfl) cw_RX1_49 nm_yX1_measure (CX1_measure hE  _ hσ5 h) lC_3 rfl rfl (by decide) rfl rfl rfl (fun z6 σ7 rz6 hσ7 h => ?_)
      show RW layC E mi_X1_run Φ 63 [some (.ref (eA E 3)), some (.ref (eA E 1)), none] [] σ7 x
      refine r_aloadn (dc D_cX1_run_0 33 rfl) rfl rfl ?_
      refine r_dup (dc D_cX1_run_0 34 rfl) rfl ?_
      refine r_getI (dc D_cX1_run_0 35 rfl) fw_RX1_53 lC_3 rfl ?_
      refine r_iconst (n := 1) (dc D_cX1_run_0 36 rfl) ?_
      refine r_iadd (dc D_cX1_run_0 37 rfl) ?_
      obtain ⟨o8, h⟩ := h
      refine r_put (dc D_cX1_run_0 38 rfl) fw_RX1_53 fp_1_7 lC_3 rfl (nar_int _) o8 ?_
      refine r_sig (fun σ9 eσ9 => ?_)
      have h := h σ9 eσ9
      have hσ9 : RS σ9 := RS_eq eσ9 (RS.up hσ7 o8 _ _)
      refine r_goto (tgt := 31) (dc D_cX1_run_0 39 rfl) (by decide) ?_
      exact hK31 _  hσ9 h
theorem TX1_run_31 {E : EV} (hE : eOK layC E) {Φ : Int → PS → Prop} (x : CX) (n : Nat) : ∀ (σ : PS), RS σ → LX1_run_31 n σ Φ → RW layC E mi_X1_run Φ 31 [some (.ref (eA E 3)), some (.ref (eA E 1)), none] [] σ x := by
  induction n with
  | zero => intro σ _ h; exact h.elim
  | succ n ih => intro σ hs h; exact TBX1_run_31 hE x ih σ hs h
set_option maxRecDepth 100000 in
theorem CX1_run {E : EV} (hE : eOK layC E) {Φ : Int → PS → Prop} (σ : PS) (hs : RS σ) (h : FX1_run σ Φ) : CT layC E yX1_run mi_X1_run [.ref (eA E 3), .ref (eA E 1)] σ Φ := by
  refine ct_of (by decide +kernel) rfl hE rfl rfl hs (fun x => ?_)
  show RW layC E mi_X1_run Φ 0 [some (.ref (eA E 3)), some (.ref (eA E 1)), none] [] σ x
  refine r_aloadn (dc D_cX1_run_0 0 rfl) rfl rfl ?_
  refine r_aloadn (dc D_cX1_run_0 1 rfl) rfl rfl ?_
  refine r_getR (dc D_cX1_run_0 2 rfl) fw_RX1_24 lC_3 rfl ?_
  refine r_callV (As := [.ref (eA E 29)]) (st := []) (dc D_cX1_run_0 3 rfl) cw_RX1_33 nm_yX3_copyUsable (CX3_copyUsable hE  _ hs h) lC_1 rfl rfl (by decide) rfl rfl rfl (fun z1 σ2 rz1 hσ2 h => ?_)
  show RW layC E mi_X1_run Φ 8 [some (.ref (eA E 3)), some (.ref (eA E 1)), none] [] σ2 x
  refine r_aloadn (dc D_cX1_run_0 4 rfl) rfl rfl ?_
  refine r_getR (dc D_cX1_run_0 5 rfl) fw_RX1_9 lC_3 rfl ?_
  refine r_iconst (n := 0) (dc D_cX1_run_0 6 rfl) ?_
  refine r_fill (n := 30) (dc D_cX1_run_0 7 rfl) cw_RX1_39 lC_25 rfl (Rl rfl) (by decide) rfl ?_
  refine r_sig (fun σ3 eσ3 => ?_)
  have h := h σ3 eσ3
  have hσ3 : RS σ3 := RS_eq eσ3 (RS.fl hσ2 (Rl rfl))
  refine r_aloadn (dc D_cX1_run_0 8 rfl) rfl rfl ?_
  refine r_iconst (n := 0) (dc D_cX1_run_0 9 rfl) ?_
  refine r_put (dc D_cX1_run_0 10 rfl) fw_RX1_45 fp_1_8 lC_3 rfl (nar_int _) (Rl rfl) ?_
  refine r_sig (fun σ4 eσ4 => ?_)
  have h := h σ4 eσ4
  have hσ4 : RS σ4 := RS_eq eσ4 (RS.up hσ3 (Rl rfl) _ _)
  refine r_aloadn (dc D_cX1_run_0 11 rfl) rfl rfl ?_
  refine r_aloadn (dc D_cX1_run_0 12 rfl) rfl rfl ?_
  refine r_callV (As := [.ref (eA E 1)]) (st := []) (dc D_cX1_run_0 13 rfl) cw_RX1_49 nm_yX1_measure (CX1_measure hE  _ hσ4 h) lC_3 rfl rfl (by decide) rfl rfl rfl (fun z5 σ6 rz5 hσ6 h => ?_)
  show RW layC E mi_X1_run Φ 26 [some (.ref (eA E 3)), some (.ref (eA E 1)), none] [] σ6 x
  refine r_aloadn (dc D_cX1_run_0 14 rfl) rfl rfl ?_
  refine r_iconst (n := 0) (dc D_cX1_run_0 15 rfl) ?_
  refine r_put (dc D_cX1_run_0 16 rfl) fw_RX1_53 fp_1_7 lC_3 rfl (nar_int _) (Rl rfl) ?_
  refine r_sig (fun σ7 eσ7 => ?_)
  have h := h σ7 eσ7
  have hσ7 : RS σ7 := RS_eq eσ7 (RS.up hσ6 (Rl rfl) _ _)
  obtain ⟨n, h⟩ := h
  exact TX1_run_31 hE x n _  hσ7 h
-- end of GateFlow$ByWays.run
def mi_X11_freshWays : MI := (cX11_freshWays, RX11, 1, 6, (some (.object "GateFlow$ByWays")), 2)
def FX11_freshWays (σ : PS) (Φ : Int → PS → Prop) : Prop :=
  ((¬ σ 0 4 = 0 →
    Φ 3 σ) ∧
  (σ 0 4 = 0 →
    FX1_run σ (fun z2 σ3 =>
    ∀ σ4 : PS, σ4 = up2 σ3 0 4 1 →
    Φ 3 σ4)))
theorem cw_RX11_342 : CWV RX11 342 yX1_run mi_X1_run := tb_r [606, 607, 608, 99, 609] (by decide +kernel)
theorem nm_yX1_run : ynm yX1_run 1 := ⟨⟨by decide +kernel, by decide +kernel⟩, by decide +kernel⟩
set_option maxRecDepth 100000 in
theorem CX11_freshWays {E : EV} (hE : eOK layC E) {Φ : Int → PS → Prop} (σ : PS) (hs : RS σ) (h : FX11_freshWays σ Φ) : CT layC E yX11_freshWays mi_X11_freshWays [.ref (eA E 0)] σ Φ := by
  refine ct_of (by decide +kernel) rfl hE rfl rfl hs (fun x => ?_)
  show RW layC E mi_X11_freshWays Φ 0 [some (.ref (eA E 0))] [] σ x
  refine r_aloadn (dc D_cX11_freshWays_0 0 rfl) rfl rfl ?_
  refine r_getI (dc D_cX11_freshWays_0 1 rfl) fw_RX11_330 lC_0 rfl ?_
  refine r_if_ne (tgt := 23) (dc D_cX11_freshWays_0 2 rfl) (by decide) (hs _ _) (fun c1 => ?_) (fun c1 => ?_)
  · have h := h.1 c1
    refine r_aloadn (dc D_cX11_freshWays_0 11 rfl) rfl rfl ?_
    refine r_getR (dc D_cX11_freshWays_0 12 rfl) fw_RX11_22 lC_0 rfl ?_
    exact r_aret (z := 3) (dc D_cX11_freshWays_0 13 rfl) rfl rfl (Rl rfl) h
  · have h := h.2 c1
    refine r_aloadn (dc D_cX11_freshWays_0 3 rfl) rfl rfl ?_
    refine r_getR (dc D_cX11_freshWays_0 4 rfl) fw_RX11_22 lC_0 rfl ?_
    refine r_aloadn (dc D_cX11_freshWays_0 5 rfl) rfl rfl ?_
    refine r_getR (dc D_cX11_freshWays_0 6 rfl) fw_RX11_12 lC_0 rfl ?_
    refine r_callV (As := [.ref (eA E 1)]) (st := []) (dc D_cX11_freshWays_0 7 rfl) cw_RX11_342 nm_yX1_run (CX1_run hE  _ hs h) lC_3 rfl rfl (by decide) rfl rfl rfl (fun z2 σ3 rz2 hσ3 h => ?_)
    show RW layC E mi_X11_freshWays Φ 18 [some (.ref (eA E 0))] [] σ3 x
    refine r_aloadn (dc D_cX11_freshWays_0 8 rfl) rfl rfl ?_
    refine r_iconst (n := 1) (dc D_cX11_freshWays_0 9 rfl) ?_
    refine r_put (dc D_cX11_freshWays_0 10 rfl) fw_RX11_330 fp_11_4 lC_0 rfl (nar_bool (by decide)) (Rl rfl) ?_
    refine r_sig (fun σ4 eσ4 => ?_)
    have h := h σ4 eσ4
    have hσ4 : RS σ4 := RS_eq eσ4 (RS.up hσ3 (Rl rfl) _ _)
    refine r_aloadn (dc D_cX11_freshWays_0 11 rfl) rfl rfl ?_
    refine r_getR (dc D_cX11_freshWays_0 12 rfl) fw_RX11_22 lC_0 rfl ?_
    exact r_aret (z := 3) (dc D_cX11_freshWays_0 13 rfl) rfl rfl (Rl rfl) h
-- end of GateFlow.freshWays
def mi_X11_most : MI := (cX11_most, RX11, 1, 7, (some .int), 1)
def FX11_most (σ : PS) (Φ : Int → PS → Prop) : Prop :=
  FX11_freshWays σ (fun z1 σ2 => z1 = 3 ∧ (Φ (σ2 3 8) σ2))
theorem fw_RX11_138 : FW RX11 138 1 8 := ⟨RX1, TX1, 11, rfl, by decide, rfl, tb_1 233 (by decide +kernel), uw_1⟩
theorem cw_RX11_134 : CWV RX11 134 yX11_freshWays mi_X11_freshWays := tb_r [602, 604, 1, 97, 605] (by decide +kernel)
theorem nm_yX11_freshWays : ynm yX11_freshWays 0 := ⟨⟨by decide +kernel, by decide +kernel⟩, by decide +kernel⟩
set_option maxRecDepth 100000 in
theorem CX11_most {E : EV} (hE : eOK layC E) {Φ : Int → PS → Prop} (σ : PS) (hs : RS σ) (h : FX11_most σ Φ) : CT layC E yX11_most mi_X11_most [.ref (eA E 0)] σ Φ := by
  refine ct_of (by decide +kernel) rfl hE rfl rfl hs (fun x => ?_)
  show RW layC E mi_X11_most Φ 0 [some (.ref (eA E 0))] [] σ x
  refine r_aloadn (dc D_cX11_most_0 0 rfl) rfl rfl ?_
  refine r_callV (As := []) (st := []) (dc D_cX11_most_0 1 rfl) cw_RX11_134 nm_yX11_freshWays (CX11_freshWays hE  _ hs h) lC_0 rfl rfl (by decide) rfl rfl rfl (fun z1 σ2 rz1 hσ2 h => ?_)
  obtain ⟨rfl, h⟩ := h
  show RW layC E mi_X11_most Φ 4 [some (.ref (eA E 0))] [.ref (eA E 3)] σ2 x
  refine r_getI (dc D_cX11_most_0 2 rfl) fw_RX11_138 lC_3 rfl ?_
  exact r_iret (dc D_cX11_most_0 3 rfl) rfl (hσ2 _ _) h
-- end of GateFlow.most
def mi_X11_water : MI := (cX11_water, RX11, 2, 7, (some .int), 1)
def FX11_water (a1 : Int) (σ : PS) (Φ : Int → PS → Prop) : Prop :=
  FX3_has a1 σ (fun z1 σ2 =>
  ((z1 = 0 →
    Φ (-1) σ2) ∧
  (¬ z1 = 0 →
    FX11_freshWays σ2 (fun z4 σ5 => z4 = 3 ∧ ((0 ≤ a1 ∧ a1 < 30) ∧
    Φ (σ5 25 a1.toNat) σ5)))))
theorem fw_RX11_141 : FW RX11 141 1 0 := ⟨RX1, TX1, 11, rfl, by decide, rfl, tb_1 219 (by decide +kernel), uw_1⟩
set_option maxRecDepth 100000 in
theorem CX11_water {E : EV} (hE : eOK layC E) {Φ : Int → PS → Prop} (a1 : Int) (ra1 : Rg a1) (σ : PS) (hs : RS σ) (h : FX11_water a1 σ Φ) : CT layC E yX11_water mi_X11_water [.ref (eA E 0), .int (iz a1)] σ Φ := by
  refine ct_of (by decide +kernel) rfl hE rfl rfl hs (fun x => ?_)
  show RW layC E mi_X11_water Φ 0 [some (.ref (eA E 0)), some (.int (iz a1))] [] σ x
  refine r_aloadn (dc D_cX11_water_0 0 rfl) rfl rfl ?_
  refine r_getR (dc D_cX11_water_0 1 rfl) fw_RX11_12 lC_0 rfl ?_
  refine r_iloadn (dc D_cX11_water_0 2 rfl) rfl rfl ?_
  refine r_callV (As := [.int (iz a1)]) (st := []) (dc D_cX11_water_0 3 rfl) cw_RX11_103 nm_yX3_has (CX3_has hE _ ra1 _ hs h) lC_1 rfl rfl (by decide) rfl rfl rfl (fun z1 σ2 rz1 hσ2 h => ?_)
  show RW layC E mi_X11_water Φ 8 [some (.ref (eA E 0)), some (.int (iz a1))] [.int (iz z1)] σ2 x
  refine r_if_eq (tgt := 23) (dc D_cX11_water_0 4 rfl) (by decide) rz1 (fun c3 => ?_) (fun c3 => ?_)
  · have h := h.1 c3
    refine r_iconst (n := (-1)) (dc D_cX11_water_0 11 rfl) ?_
    exact r_iret (dc D_cX11_water_0 12 rfl) rfl (Rl rfl) h
  · have h := h.2 c3
    refine r_aloadn (dc D_cX11_water_0 5 rfl) rfl rfl ?_
    refine r_callV (As := []) (st := []) (dc D_cX11_water_0 6 rfl) cw_RX11_134 nm_yX11_freshWays (CX11_freshWays hE  _ hσ2 h) lC_0 rfl rfl (by decide) rfl rfl rfl (fun z4 σ5 rz4 hσ5 h => ?_)
    obtain ⟨rfl, h⟩ := h
    show RW layC E mi_X11_water Φ 15 [some (.ref (eA E 0)), some (.int (iz a1))] [.ref (eA E 3)] σ5 x
    refine r_getR (dc D_cX11_water_0 7 rfl) fw_RX11_141 lC_3 rfl ?_
    refine r_iloadn (dc D_cX11_water_0 8 rfl) rfl rfl ?_
    obtain ⟨o6, h⟩ := h
    refine r_iald (N := 30) (dc D_cX11_water_0 9 rfl) lC_25 rfl rfl o6 ?_
    refine r_goto (tgt := 24) (dc D_cX11_water_0 10 rfl) (by decide) ?_
    exact r_iret (dc D_cX11_water_0 12 rfl) rfl (hσ5 _ _) h
-- end of GateFlow.water
def mi_X11_ways : MI := (cX11_ways, RX11, 4, 7, (some .int), 1)
def FX11_ways (a1 a2 : Int) (σ : PS) (Φ : Int → PS → Prop) : Prop :=
  FX11_freshWays σ (fun z1 σ2 => z1 = 3 ∧ (((¬ a1 = (-1) →
    ((a1 < 0 →
      Φ (-1) σ2) ∧
    (¬ a1 < 0 →
      ((a1 < σ2 3 7 →
        ((¬ a2 = 0 →
          ((¬ a2 = 1 →
            ((a2 < 10 →
              Φ (-1) σ2) ∧
            (¬ a2 < 10 →
              Rg (a2 - 10) ∧
              (0 ≤ a1 ∧ a1 < 360) ∧
              ((σ2 27 a1.toNat ≤ a2 - 10 →
                Φ (-1) σ2) ∧
              (¬ σ2 27 a1.toNat ≤ a2 - 10 →
                Rg (a1 * 12) ∧
                Rg ((a1 * 12) + a2) ∧
                Rg (((a1 * 12) + a2) - 10) ∧
                (0 ≤ ((a1 * 12) + a2) - 10 ∧ ((a1 * 12) + a2) - 10 < 4320) ∧
                Φ (σ2 28 (((a1 * 12) + a2) - 10).toNat) σ2))))) ∧
          (a2 = 1 →
            (0 ≤ a1 ∧ a1 < 360) ∧
            Φ (σ2 27 a1.toNat) σ2))) ∧
        (a2 = 0 →
          (0 ≤ a1 ∧ a1 < 360) ∧
          Φ (σ2 26 a1.toNat) σ2))) ∧
      (¬ a1 < σ2 3 7 →
        Φ (-1) σ2))))) ∧
  (a1 = (-1) →
    Φ (σ2 3 7) σ2))))
theorem fw_RX11_144 : FW RX11 144 1 7 := ⟨RX1, TX1, 11, rfl, by decide, rfl, tb_1 230 (by decide +kernel), uw_1⟩
theorem fw_RX11_148 : FW RX11 148 1 2 := ⟨RX1, TX1, 11, rfl, by decide, rfl, tb_1 223 (by decide +kernel), uw_1⟩
theorem fw_RX11_151 : FW RX11 151 1 3 := ⟨RX1, TX1, 11, rfl, by decide, rfl, tb_1 225 (by decide +kernel), uw_1⟩
theorem fw_RX11_145 : FW RX11 145 1 1 := ⟨RX1, TX1, 11, rfl, by decide, rfl, tb_1 221 (by decide +kernel), uw_1⟩
set_option maxRecDepth 100000 in
theorem CX11_ways {E : EV} (hE : eOK layC E) {Φ : Int → PS → Prop} (a1 a2 : Int) (ra1 : Rg a1) (ra2 : Rg a2) (σ : PS) (hs : RS σ) (h : FX11_ways a1 a2 σ Φ) : CT layC E yX11_ways mi_X11_ways [.ref (eA E 0), .int (iz a1), .int (iz a2)] σ Φ := by
  refine ct_of (by decide +kernel) rfl hE rfl rfl hs (fun x => ?_)
  show RW layC E mi_X11_ways Φ 0 [some (.ref (eA E 0)), some (.int (iz a1)), some (.int (iz a2)), none] [] σ x
  refine r_aloadn (dc D_cX11_ways_0 0 rfl) rfl rfl ?_
  refine r_callV (As := []) (st := []) (dc D_cX11_ways_0 1 rfl) cw_RX11_134 nm_yX11_freshWays (CX11_freshWays hE  _ hs h) lC_0 rfl rfl (by decide) rfl rfl rfl (fun z1 σ2 rz1 hσ2 h => ?_)
  obtain ⟨rfl, h⟩ := h
  show RW layC E mi_X11_ways Φ 4 [some (.ref (eA E 0)), some (.int (iz a1)), some (.int (iz a2)), none] [.ref (eA E 3)] σ2 x
  refine r_astoren (lv' := [some (.ref (eA E 0)), some (.int (iz a1)), some (.int (iz a2)), some (.ref (eA E 3))]) (dc D_cX11_ways_0 2 rfl) rfl rfl rfl ?_
  refine r_iloadn (dc D_cX11_ways_0 3 rfl) rfl rfl ?_
  refine r_iconst (n := (-1)) (dc D_cX11_ways_0 4 rfl) ?_
  refine r_icmp_ne (tgt := 15) (dc D_cX11_ways_0 5 rfl) (by decide) ra1 (Rl rfl) (fun c3 => ?_) (fun c3 => ?_)
  · have h := h.1 c3
    refine r_iloadn (dc D_cX11_ways_0 9 rfl) rfl rfl ?_
    refine r_if_lt (tgt := 27) (dc D_cX11_ways_0 10 rfl) (by decide) ra1 (fun c4 => ?_) (fun c4 => ?_)
    · have h := h.1 c4
      refine r_iconst (n := (-1)) (dc D_cX11_ways_0 15 rfl) ?_
      exact r_iret (dc D_cX11_ways_0 16 rfl) rfl (Rl rfl) h
    · have h := h.2 c4
      refine r_iloadn (dc D_cX11_ways_0 11 rfl) rfl rfl ?_
      refine r_aloadn (dc D_cX11_ways_0 12 rfl) rfl rfl ?_
      refine r_getI (dc D_cX11_ways_0 13 rfl) fw_RX11_144 lC_3 rfl ?_
      refine r_icmp_lt (tgt := 29) (dc D_cX11_ways_0 14 rfl) (by decide) ra1 (hσ2 _ _) (fun c5 => ?_) (fun c5 => ?_)
      · have h := h.1 c5
        refine r_iloadn (dc D_cX11_ways_0 17 rfl) rfl rfl ?_
        refine r_if_ne (tgt := 40) (dc D_cX11_ways_0 18 rfl) (by decide) ra2 (fun c6 => ?_) (fun c6 => ?_)
        · have h := h.1 c6
          refine r_iloadn (dc D_cX11_ways_0 24 rfl) rfl rfl ?_
          refine r_iconst (n := 1) (dc D_cX11_ways_0 25 rfl) ?_
          refine r_icmp_ne (tgt := 52) (dc D_cX11_ways_0 26 rfl) (by decide) ra2 (Rl rfl) (fun c7 => ?_) (fun c7 => ?_)
          · have h := h.1 c7
            refine r_iloadn (dc D_cX11_ways_0 32 rfl) rfl rfl ?_
            refine r_bipush (n := 10) (dc D_cX11_ways_0 33 rfl) (by decide +kernel) ?_
            refine r_icmp_lt (tgt := 88) (dc D_cX11_ways_0 34 rfl) (by decide) ra2 (Rl rfl) (fun c8 => ?_) (fun c8 => ?_)
            · have h := h.1 c8
              refine r_iconst (n := (-1)) (dc D_cX11_ways_1 14 rfl) ?_
              exact r_iret (dc D_cX11_ways_1 15 rfl) rfl (Rl rfl) h
            · have h := h.2 c8
              refine r_iloadn (dc D_cX11_ways_0 35 rfl) rfl rfl ?_
              refine r_bipush (n := 10) (dc D_cX11_ways_0 36 rfl) (by decide +kernel) ?_
              refine r_isub (dc D_cX11_ways_0 37 rfl) ?_
              obtain ⟨o9, h⟩ := h
              refine r_aloadn (dc D_cX11_ways_0 38 rfl) rfl rfl ?_
              refine r_getR (dc D_cX11_ways_0 39 rfl) fw_RX11_148 lC_3 rfl ?_
              refine r_iloadn (dc D_cX11_ways_1 0 rfl) rfl rfl ?_
              obtain ⟨o10, h⟩ := h
              refine r_iald (N := 360) (dc D_cX11_ways_1 1 rfl) lC_27 rfl rfl o10 ?_
              refine r_icmp_ge (tgt := 88) (dc D_cX11_ways_1 2 rfl) (by decide) o9 (hσ2 _ _) (fun c11 => ?_) (fun c11 => ?_)
              · have h := h.1 c11
                refine r_iconst (n := (-1)) (dc D_cX11_ways_1 14 rfl) ?_
                exact r_iret (dc D_cX11_ways_1 15 rfl) rfl (Rl rfl) h
              · have h := h.2 c11
                refine r_aloadn (dc D_cX11_ways_1 3 rfl) rfl rfl ?_
                refine r_getR (dc D_cX11_ways_1 4 rfl) fw_RX11_151 lC_3 rfl ?_
                refine r_iloadn (dc D_cX11_ways_1 5 rfl) rfl rfl ?_
                refine r_bipush (n := 12) (dc D_cX11_ways_1 6 rfl) (by decide +kernel) ?_
                refine r_imul (dc D_cX11_ways_1 7 rfl) ?_
                obtain ⟨o12, h⟩ := h
                refine r_iloadn (dc D_cX11_ways_1 8 rfl) rfl rfl ?_
                refine r_iadd (dc D_cX11_ways_1 9 rfl) ?_
                obtain ⟨o13, h⟩ := h
                refine r_bipush (n := 10) (dc D_cX11_ways_1 10 rfl) (by decide +kernel) ?_
                refine r_isub (dc D_cX11_ways_1 11 rfl) ?_
                obtain ⟨o14, h⟩ := h
                obtain ⟨o15, h⟩ := h
                refine r_iald (N := 4320) (dc D_cX11_ways_1 12 rfl) lC_28 rfl rfl o15 ?_
                refine r_goto (tgt := 89) (dc D_cX11_ways_1 13 rfl) (by decide) ?_
                exact r_iret (dc D_cX11_ways_1 15 rfl) rfl (hσ2 _ _) h
          · have h := h.2 c7
            refine r_aloadn (dc D_cX11_ways_0 27 rfl) rfl rfl ?_
            refine r_getR (dc D_cX11_ways_0 28 rfl) fw_RX11_148 lC_3 rfl ?_
            refine r_iloadn (dc D_cX11_ways_0 29 rfl) rfl rfl ?_
            obtain ⟨o16, h⟩ := h
            refine r_iald (N := 360) (dc D_cX11_ways_0 30 rfl) lC_27 rfl rfl o16 ?_
            exact r_iret (dc D_cX11_ways_0 31 rfl) rfl (hσ2 _ _) h
        · have h := h.2 c6
          refine r_aloadn (dc D_cX11_ways_0 19 rfl) rfl rfl ?_
          refine r_getR (dc D_cX11_ways_0 20 rfl) fw_RX11_145 lC_3 rfl ?_
          refine r_iloadn (dc D_cX11_ways_0 21 rfl) rfl rfl ?_
          obtain ⟨o17, h⟩ := h
          refine r_iald (N := 360) (dc D_cX11_ways_0 22 rfl) lC_26 rfl rfl o17 ?_
          exact r_iret (dc D_cX11_ways_0 23 rfl) rfl (hσ2 _ _) h
      · have h := h.2 c5
        refine r_iconst (n := (-1)) (dc D_cX11_ways_0 15 rfl) ?_
        exact r_iret (dc D_cX11_ways_0 16 rfl) rfl (Rl rfl) h
  · have h := h.2 c3
    refine r_aloadn (dc D_cX11_ways_0 6 rfl) rfl rfl ?_
    refine r_getI (dc D_cX11_ways_0 7 rfl) fw_RX11_144 lC_3 rfl ?_
    exact r_iret (dc D_cX11_ways_0 8 rfl) rfl (hσ2 _ _) h
-- end of GateFlow.ways
def mi_X3_copyUsable_v2 : MI := (cX3_copyUsable, RX3, 3, 3, none, 0)
def BX3_copyUsable_v2_2 (K2 : Int → PS → Prop) (x2 : Int) (σ : PS) (Φ : Int → PS → Prop) : Prop :=
  ((σ 1 6 ≤ x2 →
    Φ 0 σ) ∧
  (¬ σ 1 6 ≤ x2 →
    ((30 ≤ x2 →
      Φ 0 σ) ∧
    (¬ 30 ≤ x2 →
      FX3_usable x2 σ (fun z3 σ4 =>
      (0 ≤ x2 ∧ x2 < 30) ∧
      ∀ σ6 : PS, σ6 = up2 σ4 36 x2.toNat z3 →
      Rg (x2 + 1) ∧
      K2 (x2 + 1) σ6)))))
def LX3_copyUsable_v2_2 : Nat → Int → PS → (Int → PS → Prop) → Prop
  | 0, _, _, _ => False
  | n + 1, x2, σ, Φ => BX3_copyUsable_v2_2 (fun x2 σ => LX3_copyUsable_v2_2 n x2 σ Φ) x2 σ Φ
def FX3_copyUsable_v2 (σ : PS) (Φ : Int → PS → Prop) : Prop :=
  ∃ n, LX3_copyUsable_v2_2 n 0 σ Φ
theorem fw_RX11_29 : FW RX11 29 11 5 := ⟨RX11, TX11, 16, rfl, by decide, rfl, tb_1 502 (by decide +kernel), uw_11⟩
theorem fw_RX0_24 : FW RX0 24 0 4 := ⟨RX0, TX0, 11, rfl, by decide, rfl, tb_1 275 (by decide +kernel), uw_0⟩
set_option maxRecDepth 100000 in
theorem TBX3_copyUsable_v2_2 {E : EV} (hE : eOK layC E) {Φ : Int → PS → Prop} {K2 : Int → PS → Prop} (x : CX) (hK2 : ∀ (x2 : Int) (σ : PS), Rg x2 → RS σ → K2 x2 σ → RW layC E mi_X3_copyUsable_v2 Φ 2 [some (.ref (eA E 1)), some (.ref (eA E 36)), some (.int (iz x2))] [] σ x) (x2 : Int) (rx2 : Rg x2) (σ : PS) (hs : RS σ) (h : BX3_copyUsable_v2_2 K2 x2 σ Φ) : RW layC E mi_X3_copyUsable_v2 Φ 2 [some (.ref (eA E 1)), some (.ref (eA E 36)), some (.int (iz x2))] [] σ x := by
  refine r_iloadn (dc D_cX3_copyUsable_0 2 rfl) rfl rfl ?_
  refine r_aloadn (dc D_cX3_copyUsable_0 3 rfl) rfl rfl ?_
  refine r_getI (dc D_cX3_copyUsable_0 4 rfl) fw_RX3_34 lC_1 rfl ?_
  refine r_icmp_ge (tgt := 30) (dc D_cX3_copyUsable_0 5 rfl) (by decide) rx2 (hs _ _) (fun c1 => ?_) (fun c1 => ?_)
  · have h := h.1 c1
    exact r_vret (dc D_cX3_copyUsable_0 18 rfl) rfl h
  · have h := h.2 c1
    refine r_iloadn (dc D_cX3_copyUsable_0 6 rfl) rfl rfl ?_
    refine r_aloadn (dc D_cX3_copyUsable_0 7 rfl) rfl rfl ?_
    refine r_alen (N := 30) (dc D_cX3_copyUsable_0 8 rfl) lC_36 rfl rfl ?_
    refine r_icmp_ge (tgt := 30) (dc D_cX3_copyUsable_0 9 rfl) (by decide) rx2 (Rl rfl) (fun c2 => ?_) (fun c2 => ?_)
    · have h := h.1 c2
      exact r_vret (dc D_cX3_copyUsable_0 18 rfl) rfl h
    · have h := h.2 c2
      refine r_aloadn (dc D_cX3_copyUsable_0 10 rfl) rfl rfl ?_
      refine r_iloadn (dc D_cX3_copyUsable_0 11 rfl) rfl rfl ?_
      refine r_aloadn (dc D_cX3_copyUsable_0 12 rfl) rfl rfl ?_
      refine r_iloadn (dc D_cX3_copyUsable_0 13 rfl) rfl rfl ?_
      refine r_callV (As := [.int (iz x2)]) (st := [.int (iz x2), .ref (eA E 36)]) (dc D_cX3_copyUsable_0 14 rfl) cw_RX3_50 nm_yX3_usable (CX3_usable hE _ rx2 _ hs h) lC_1 rfl rfl (by decide) rfl rfl rfl (fun z3 σ4 rz3 hσ4 h => ?_)
      show RW layC E mi_X3_copyUsable_v2 Φ 23 [some (.ref (eA E 1)), some (.ref (eA E 36)), some (.int (iz x2))] [.int (iz z3), .int (iz x2), .ref (eA E 36)] σ4 x
      obtain ⟨o5, h⟩ := h
      refine r_iast (N := 30) (dc D_cX3_copyUsable_0 15 rfl) lC_36 rfl rfl o5 rz3 ?_
      refine r_sig (fun σ6 eσ6 => ?_)
      have h := h σ6 eσ6
      have hσ6 : RS σ6 := RS_eq eσ6 (RS.up hσ4 rz3 _ _)
      obtain ⟨o7, h⟩ := h
      refine r_iinc (lv' := [some (.ref (eA E 1)), some (.ref (eA E 36)), some (.int (iz (x2 + 1)))]) (dc D_cX3_copyUsable_0 16 rfl) rfl rfl rfl ?_
      refine r_goto (tgt := 2) (dc D_cX3_copyUsable_0 17 rfl) (by decide) ?_
      exact hK2 _ _ o7 hσ6 h
theorem TX3_copyUsable_v2_2 {E : EV} (hE : eOK layC E) {Φ : Int → PS → Prop} (x : CX) (n : Nat) : ∀ (x2 : Int) (σ : PS), Rg x2 → RS σ → LX3_copyUsable_v2_2 n x2 σ Φ → RW layC E mi_X3_copyUsable_v2 Φ 2 [some (.ref (eA E 1)), some (.ref (eA E 36)), some (.int (iz x2))] [] σ x := by
  induction n with
  | zero => intro x2 σ _ _ h; exact h.elim
  | succ n ih => intro x2 σ rx2 hs h; exact TBX3_copyUsable_v2_2 hE x ih x2 rx2 σ hs h
set_option maxRecDepth 100000 in
theorem CX3_copyUsable_v2 {E : EV} (hE : eOK layC E) {Φ : Int → PS → Prop} (σ : PS) (hs : RS σ) (h : FX3_copyUsable_v2 σ Φ) : CT layC E yX3_copyUsable mi_X3_copyUsable_v2 [.ref (eA E 1), .ref (eA E 36)] σ Φ := by
  refine ct_of (by decide +kernel) rfl hE rfl rfl hs (fun x => ?_)
  show RW layC E mi_X3_copyUsable_v2 Φ 0 [some (.ref (eA E 1)), some (.ref (eA E 36)), none] [] σ x
  refine r_iconst (n := 0) (dc D_cX3_copyUsable_0 0 rfl) ?_
  refine r_istoren (lv' := [some (.ref (eA E 1)), some (.ref (eA E 36)), some (.int (iz 0))]) (dc D_cX3_copyUsable_0 1 rfl) rfl rfl rfl ?_
  obtain ⟨n, h⟩ := h
  exact TX3_copyUsable_v2_2 hE x n _ _ (Rl rfl) hs h
-- end of GateFlow$Gates.copyUsable
def mi_X0_push : MI := (cX0_push, RX0, 8, 1, none, 0)
def LX0_push_95 (x3 x6 x7 s1 s2 s3 : Int) (σ : PS) (Φ : Int → PS → Prop) : Prop :=
  Rg (s2 + s3) ∧
  (0 ≤ s1 ∧ s1 < 30) ∧
  ∀ σ3 : PS, σ3 = up2 σ 32 s1.toNat (s2 + s3) →
  (0 ≤ x6 ∧ x6 < 12) ∧
  Rg ((σ3 37 x6.toNat) - x3) ∧
  (0 ≤ x6 ∧ x6 < 12) ∧
  ∀ σ7 : PS, σ7 = up2 σ3 37 x6.toNat ((σ3 37 x6.toNat) - x3) →
  (0 ≤ x7 ∧ x7 < 12) ∧
  Rg ((σ7 37 x7.toNat) + x3) ∧
  (0 ≤ x7 ∧ x7 < 12) ∧
  ∀ σ11 : PS, σ11 = up2 σ7 37 x7.toNat ((σ7 37 x7.toNat) + x3) →
  Rg ((σ11 4 10) + 1) ∧
  ∀ σ13 : PS, σ13 = up2 σ11 4 10 ((σ11 4 10) + 1) →
  ((x7 = σ13 1 7 →
    Φ 0 σ13) ∧
  (¬ x7 = σ13 1 7 →
    ((x7 = σ13 1 8 →
      Φ 0 σ13) ∧
    (¬ x7 = σ13 1 8 →
      (0 ≤ x7 ∧ x7 < 12) ∧
      ((¬ σ13 39 x7.toNat = 0 →
        Φ 0 σ13) ∧
      (σ13 39 x7.toNat = 0 →
        ((12 ≤ σ13 4 9 →
          Φ 0 σ13) ∧
        (¬ 12 ≤ σ13 4 9 →
          Rg ((σ13 4 8) + (σ13 4 9)) ∧
          0 ≤ (σ13 4 8) + (σ13 4 9) ∧
          (0 ≤ ((σ13 4 8) + (σ13 4 9)) % 12 ∧ ((σ13 4 8) + (σ13 4 9)) % 12 < 12) ∧
          ∀ σ22 : PS, σ22 = up2 σ13 38 (((σ13 4 8) + (σ13 4 9)) % 12).toNat x7 →
          Rg ((σ22 4 9) + 1) ∧
          ∀ σ24 : PS, σ24 = up2 σ22 4 9 ((σ22 4 9) + 1) →
          (0 ≤ x7 ∧ x7 < 12) ∧
          ∀ σ26 : PS, σ26 = up2 σ24 39 x7.toNat 1 →
          Φ 0 σ26))))))))
def LX0_push_74 (x3 x4 x5 x6 s0 : Int) (σ : PS) (Φ : Int → PS → Prop) : Prop :=
  (0 ≤ x5 ∧ x5 < 30) ∧
  ((x4 = 0 →
    Rg (-x3) ∧
    LX0_push_95 x3 x6 s0 x5 (σ 32 x5.toNat) (-x3) σ Φ) ∧
  (¬ x4 = 0 →
    LX0_push_95 x3 x6 s0 x5 (σ 32 x5.toNat) x3 σ Φ))
def LX0_push_50 (x3 x4 x5 s0 : Int) (σ : PS) (Φ : Int → PS → Prop) : Prop :=
  ((x4 = 0 →
    (0 ≤ x5 ∧ x5 < 30) ∧
    LX0_push_74 x3 x4 x5 s0 (σ 13 x5.toNat) σ Φ) ∧
  (¬ x4 = 0 →
    (0 ≤ x5 ∧ x5 < 30) ∧
    LX0_push_74 x3 x4 x5 s0 (σ 14 x5.toNat) σ Φ))
def LX0_push_26 (x3 x4 s0 : Int) (σ : PS) (Φ : Int → PS → Prop) : Prop :=
  ((x4 = 0 →
    (0 ≤ s0 ∧ s0 < 30) ∧
    LX0_push_50 x3 x4 s0 (σ 14 s0.toNat) σ Φ) ∧
  (¬ x4 = 0 →
    (0 ≤ s0 ∧ s0 < 30) ∧
    LX0_push_50 x3 x4 s0 (σ 13 s0.toNat) σ Φ))
def LX0_push_11 (x2 x3 s0 : Int) (σ : PS) (Φ : Int → PS → Prop) : Prop :=
  ((s0 = 0 →
    Rg (x2 - 100) ∧
    LX0_push_26 x3 s0 (x2 - 100) σ Φ) ∧
  (¬ s0 = 0 →
    LX0_push_26 x3 s0 x2 σ Φ))
def FX0_push (a2 a3 : Int) (σ : PS) (Φ : Int → PS → Prop) : Prop :=
  ((100 ≤ a2 →
    LX0_push_11 a2 a3 0 σ Φ) ∧
  (¬ 100 ≤ a2 →
    LX0_push_11 a2 a3 1 σ Φ))
theorem fw_RX0_9 : FW RX0 9 0 0 := ⟨RX0, TX0, 11, rfl, by decide, rfl, tb_1 267 (by decide +kernel), uw_0⟩
theorem fw_RX0_15 : FW RX0 15 0 1 := ⟨RX0, TX0, 11, rfl, by decide, rfl, tb_1 269 (by decide +kernel), uw_0⟩
theorem fw_RX0_18 : FW RX0 18 0 2 := ⟨RX0, TX0, 11, rfl, by decide, rfl, tb_1 271 (by decide +kernel), uw_0⟩
theorem fw_RX0_21 : FW RX0 21 0 3 := ⟨RX0, TX0, 11, rfl, by decide, rfl, tb_1 273 (by decide +kernel), uw_0⟩
theorem fw_RX0_27 : FW RX0 27 0 5 := ⟨RX0, TX0, 11, rfl, by decide, rfl, tb_1 276 (by decide +kernel), uw_0⟩
theorem fw_RX0_33 : FW RX0 33 0 7 := ⟨RX0, TX0, 11, rfl, by decide, rfl, tb_1 278 (by decide +kernel), uw_0⟩
theorem fw_RX0_67 : FW RX0 67 3 7 := ⟨RX3, TX3, 9, rfl, by decide, rfl, tb_1 180 (by decide +kernel), uw_3⟩
theorem fw_RX0_70 : FW RX0 70 3 6 := ⟨RX3, TX3, 9, rfl, by decide, rfl, tb_1 173 (by decide +kernel), uw_3⟩
theorem fw_RX0_73 : FW RX0 73 3 0 := ⟨RX3, TX3, 9, rfl, by decide, rfl, tb_1 136 (by decide +kernel), uw_3⟩
theorem fw_RX0_98 : FW RX0 98 3 1 := ⟨RX3, TX3, 9, rfl, by decide, rfl, tb_1 146 (by decide +kernel), uw_3⟩
theorem fw_RX0_64 : FW RX0 64 0 10 := ⟨RX0, TX0, 11, rfl, by decide, rfl, tb_1 281 (by decide +kernel), uw_0⟩
theorem fw_RX0_102 : FW RX0 102 3 8 := ⟨RX3, TX3, 9, rfl, by decide, rfl, tb_1 190 (by decide +kernel), uw_3⟩
theorem fw_RX0_41 : FW RX0 41 0 9 := ⟨RX0, TX0, 11, rfl, by decide, rfl, tb_1 280 (by decide +kernel), uw_0⟩
theorem fw_RX0_30 : FW RX0 30 0 6 := ⟨RX0, TX0, 11, rfl, by decide, rfl, tb_1 277 (by decide +kernel), uw_0⟩
theorem fw_RX0_45 : FW RX0 45 0 8 := ⟨RX0, TX0, 11, rfl, by decide, rfl, tb_1 279 (by decide +kernel), uw_0⟩
theorem fp_0_10 : FP 0 10 .int := ⟨RX0, TX0, 11, tyX0, rfl, tyX0_ok, nmX0, rfl, by decide +kernel⟩
theorem fp_0_9 : FP 0 9 .int := ⟨RX0, TX0, 11, tyX0, rfl, tyX0_ok, nmX0, rfl, by decide +kernel⟩
set_option maxRecDepth 100000 in
theorem TX0_push_95 {E : EV} (hE : eOK layC E) {Φ : Int → PS → Prop} (x : CX) (x3 x6 x7 s1 s2 s3 : Int) (rx3 : Rg x3) (rx6 : Rg x6) (rx7 : Rg x7) (rs1 : Rg s1) (rs2 : Rg s2) (rs3 : Rg s3) (σ : PS) (hs : RS σ) (h : LX0_push_95 x3 x6 x7 s1 s2 s3 σ Φ) : RW layC E mi_X0_push Φ 95 [some (.ref (eA E 4)), some (.ref (eA E 1)), none, some (.int (iz x3)), none, none, some (.int (iz x6)), some (.int (iz x7))] [.int (iz s3), .int (iz s2), .int (iz s1), .ref (eA E 32)] σ x := by
  refine r_iadd (dc D_cX0_push_1 10 rfl) ?_
  obtain ⟨o1, h⟩ := h
  obtain ⟨o2, h⟩ := h
  refine r_iast (N := 30) (dc D_cX0_push_1 11 rfl) lC_32 rfl rfl o2 o1 ?_
  refine r_sig (fun σ3 eσ3 => ?_)
  have h := h σ3 eσ3
  have hσ3 : RS σ3 := RS_eq eσ3 (RS.up hs o1 _ _)
  refine r_aloadn (dc D_cX0_push_1 12 rfl) rfl rfl ?_
  refine r_getR (dc D_cX0_push_1 13 rfl) fw_RX0_27 lC_4 rfl ?_
  refine r_iload (dc D_cX0_push_1 14 rfl) rfl ?_
  refine r_dup2 (dc D_cX0_push_1 15 rfl) rfl rfl ?_
  obtain ⟨o4, h⟩ := h
  refine r_iald (N := 12) (dc D_cX0_push_1 16 rfl) lC_37 rfl rfl o4 ?_
  refine r_iloadn (dc D_cX0_push_1 17 rfl) rfl rfl ?_
  refine r_isub (dc D_cX0_push_1 18 rfl) ?_
  obtain ⟨o5, h⟩ := h
  obtain ⟨o6, h⟩ := h
  refine r_iast (N := 12) (dc D_cX0_push_1 19 rfl) lC_37 rfl rfl o6 o5 ?_
  refine r_sig (fun σ7 eσ7 => ?_)
  have h := h σ7 eσ7
  have hσ7 : RS σ7 := RS_eq eσ7 (RS.up hσ3 o5 _ _)
  refine r_aloadn (dc D_cX0_push_1 20 rfl) rfl rfl ?_
  refine r_getR (dc D_cX0_push_1 21 rfl) fw_RX0_27 lC_4 rfl ?_
  refine r_iload (dc D_cX0_push_1 22 rfl) rfl ?_
  refine r_dup2 (dc D_cX0_push_1 23 rfl) rfl rfl ?_
  obtain ⟨o8, h⟩ := h
  refine r_iald (N := 12) (dc D_cX0_push_1 24 rfl) lC_37 rfl rfl o8 ?_
  refine r_iloadn (dc D_cX0_push_1 25 rfl) rfl rfl ?_
  refine r_iadd (dc D_cX0_push_1 26 rfl) ?_
  obtain ⟨o9, h⟩ := h
  obtain ⟨o10, h⟩ := h
  refine r_iast (N := 12) (dc D_cX0_push_1 27 rfl) lC_37 rfl rfl o10 o9 ?_
  refine r_sig (fun σ11 eσ11 => ?_)
  have h := h σ11 eσ11
  have hσ11 : RS σ11 := RS_eq eσ11 (RS.up hσ7 o9 _ _)
  refine r_aloadn (dc D_cX0_push_1 28 rfl) rfl rfl ?_
  refine r_dup (dc D_cX0_push_1 29 rfl) rfl ?_
  refine r_getI (dc D_cX0_push_1 30 rfl) fw_RX0_64 lC_4 rfl ?_
  refine r_iconst (n := 1) (dc D_cX0_push_1 31 rfl) ?_
  refine r_iadd (dc D_cX0_push_1 32 rfl) ?_
  obtain ⟨o12, h⟩ := h
  refine r_put (dc D_cX0_push_1 33 rfl) fw_RX0_64 fp_0_10 lC_4 rfl (nar_int _) o12 ?_
  refine r_sig (fun σ13 eσ13 => ?_)
  have h := h σ13 eσ13
  have hσ13 : RS σ13 := RS_eq eσ13 (RS.up hσ11 o12 _ _)
  refine r_iload (dc D_cX0_push_1 34 rfl) rfl ?_
  refine r_aloadn (dc D_cX0_push_1 35 rfl) rfl rfl ?_
  refine r_getI (dc D_cX0_push_1 36 rfl) fw_RX0_67 lC_1 rfl ?_
  refine r_icmp_eq (tgt := 203) (dc D_cX0_push_1 37 rfl) (by decide) rx7 (hσ13 _ _) (fun c14 => ?_) (fun c14 => ?_)
  · have h := h.1 c14
    exact r_vret (dc D_cX0_push_2 33 rfl) rfl h
  · have h := h.2 c14
    refine r_iload (dc D_cX0_push_1 38 rfl) rfl ?_
    refine r_aloadn (dc D_cX0_push_1 39 rfl) rfl rfl ?_
    refine r_getI (dc D_cX0_push_2 0 rfl) fw_RX0_102 lC_1 rfl ?_
    refine r_icmp_eq (tgt := 203) (dc D_cX0_push_2 1 rfl) (by decide) rx7 (hσ13 _ _) (fun c15 => ?_) (fun c15 => ?_)
    · have h := h.1 c15
      exact r_vret (dc D_cX0_push_2 33 rfl) rfl h
    · have h := h.2 c15
      refine r_aloadn (dc D_cX0_push_2 2 rfl) rfl rfl ?_
      refine r_getR (dc D_cX0_push_2 3 rfl) fw_RX0_33 lC_4 rfl ?_
      refine r_iload (dc D_cX0_push_2 4 rfl) rfl ?_
      obtain ⟨o16, h⟩ := h
      refine r_iald (N := 12) (dc D_cX0_push_2 5 rfl) lC_39 rfl rfl o16 ?_
      refine r_if_ne (tgt := 203) (dc D_cX0_push_2 6 rfl) (by decide) (hσ13 _ _) (fun c17 => ?_) (fun c17 => ?_)
      · have h := h.1 c17
        exact r_vret (dc D_cX0_push_2 33 rfl) rfl h
      · have h := h.2 c17
        refine r_aloadn (dc D_cX0_push_2 7 rfl) rfl rfl ?_
        refine r_getI (dc D_cX0_push_2 8 rfl) fw_RX0_41 lC_4 rfl ?_
        refine r_bipush (n := 12) (dc D_cX0_push_2 9 rfl) (by decide +kernel) ?_
        refine r_icmp_ge (tgt := 203) (dc D_cX0_push_2 10 rfl) (by decide) (hσ13 _ _) (Rl rfl) (fun c18 => ?_) (fun c18 => ?_)
        · have h := h.1 c18
          exact r_vret (dc D_cX0_push_2 33 rfl) rfl h
        · have h := h.2 c18
          refine r_aloadn (dc D_cX0_push_2 11 rfl) rfl rfl ?_
          refine r_getR (dc D_cX0_push_2 12 rfl) fw_RX0_30 lC_4 rfl ?_
          refine r_aloadn (dc D_cX0_push_2 13 rfl) rfl rfl ?_
          refine r_getI (dc D_cX0_push_2 14 rfl) fw_RX0_45 lC_4 rfl ?_
          refine r_aloadn (dc D_cX0_push_2 15 rfl) rfl rfl ?_
          refine r_getI (dc D_cX0_push_2 16 rfl) fw_RX0_41 lC_4 rfl ?_
          refine r_iadd (dc D_cX0_push_2 17 rfl) ?_
          obtain ⟨o19, h⟩ := h
          refine r_bipush (n := 12) (dc D_cX0_push_2 18 rfl) (by decide +kernel) ?_
          obtain ⟨o20, h⟩ := h
          refine r_irem (dc D_cX0_push_2 19 rfl) o19 (Rl rfl) o20 (by decide) ?_
          refine r_iload (dc D_cX0_push_2 20 rfl) rfl ?_
          obtain ⟨o21, h⟩ := h
          refine r_iast (N := 12) (dc D_cX0_push_2 21 rfl) lC_38 rfl rfl o21 rx7 ?_
          refine r_sig (fun σ22 eσ22 => ?_)
          have h := h σ22 eσ22
          have hσ22 : RS σ22 := RS_eq eσ22 (RS.up hσ13 rx7 _ _)
          refine r_aloadn (dc D_cX0_push_2 22 rfl) rfl rfl ?_
          refine r_dup (dc D_cX0_push_2 23 rfl) rfl ?_
          refine r_getI (dc D_cX0_push_2 24 rfl) fw_RX0_41 lC_4 rfl ?_
          refine r_iconst (n := 1) (dc D_cX0_push_2 25 rfl) ?_
          refine r_iadd (dc D_cX0_push_2 26 rfl) ?_
          obtain ⟨o23, h⟩ := h
          refine r_put (dc D_cX0_push_2 27 rfl) fw_RX0_41 fp_0_9 lC_4 rfl (nar_int _) o23 ?_
          refine r_sig (fun σ24 eσ24 => ?_)
          have h := h σ24 eσ24
          have hσ24 : RS σ24 := RS_eq eσ24 (RS.up hσ22 o23 _ _)
          refine r_aloadn (dc D_cX0_push_2 28 rfl) rfl rfl ?_
          refine r_getR (dc D_cX0_push_2 29 rfl) fw_RX0_33 lC_4 rfl ?_
          refine r_iload (dc D_cX0_push_2 30 rfl) rfl ?_
          refine r_iconst (n := 1) (dc D_cX0_push_2 31 rfl) ?_
          obtain ⟨o25, h⟩ := h
          refine r_iast (N := 12) (dc D_cX0_push_2 32 rfl) lC_39 rfl rfl o25 (Rl rfl) ?_
          refine r_sig (fun σ26 eσ26 => ?_)
          have h := h σ26 eσ26
          have hσ26 : RS σ26 := RS_eq eσ26 (RS.up hσ24 (Rl rfl) _ _)
          exact r_vret (dc D_cX0_push_2 33 rfl) rfl h
set_option maxRecDepth 100000 in
theorem TX0_push_74 {E : EV} (hE : eOK layC E) {Φ : Int → PS → Prop} (x : CX) (x3 x4 x5 x6 s0 : Int) (rx3 : Rg x3) (rx4 : Rg x4) (rx5 : Rg x5) (rx6 : Rg x6) (rs0 : Rg s0) (σ : PS) (hs : RS σ) (h : LX0_push_74 x3 x4 x5 x6 s0 σ Φ) : RW layC E mi_X0_push Φ 74 [some (.ref (eA E 4)), some (.ref (eA E 1)), none, some (.int (iz x3)), some (.int (iz x4)), some (.int (iz x5)), some (.int (iz x6)), none] [.int (iz s0)] σ x := by
  refine r_istore (lv' := [some (.ref (eA E 4)), some (.ref (eA E 1)), none, some (.int (iz x3)), some (.int (iz x4)), some (.int (iz x5)), some (.int (iz x6)), some (.int (iz s0))]) (dc D_cX0_push_0 38 rfl) rfl rfl ?_
  refine r_aloadn (dc D_cX0_push_0 39 rfl) rfl rfl ?_
  refine r_getR (dc D_cX0_push_1 0 rfl) fw_RX0_9 lC_4 rfl ?_
  refine r_iload (dc D_cX0_push_1 1 rfl) rfl ?_
  refine r_dup2 (dc D_cX0_push_1 2 rfl) rfl rfl ?_
  obtain ⟨o1, h⟩ := h
  refine r_iald (N := 30) (dc D_cX0_push_1 3 rfl) lC_32 rfl rfl o1 ?_
  refine r_iload (dc D_cX0_push_1 4 rfl) rfl ?_
  refine r_if_eq (tgt := 93) (dc D_cX0_push_1 5 rfl) (by decide) rx4 (fun c2 => ?_) (fun c2 => ?_)
  · have h := h.1 c2
    refine r_iloadn (dc D_cX0_push_1 8 rfl) rfl rfl ?_
    refine r_ineg (dc D_cX0_push_1 9 rfl) ?_
    obtain ⟨o3, h⟩ := h
    refine r_sub (lv' := [some (.ref (eA E 4)), some (.ref (eA E 1)), none, some (.int (iz x3)), none, none, some (.int (iz x6)), some (.int (iz s0))]) (subL_s (subL_s (subL_n (subL_s (subL_n (subL_n (subL_s (subL_s subL_e)))))))) ?_
    exact TX0_push_95 hE x _ _ _ _ _ _ rx3 rx6 rs0 rx5 (hs _ _) o3 _ hs h
  · have h := h.2 c2
    refine r_iloadn (dc D_cX0_push_1 6 rfl) rfl rfl ?_
    refine r_goto (tgt := 95) (dc D_cX0_push_1 7 rfl) (by decide) ?_
    refine r_sub (lv' := [some (.ref (eA E 4)), some (.ref (eA E 1)), none, some (.int (iz x3)), none, none, some (.int (iz x6)), some (.int (iz s0))]) (subL_s (subL_s (subL_n (subL_s (subL_n (subL_n (subL_s (subL_s subL_e)))))))) ?_
    exact TX0_push_95 hE x _ _ _ _ _ _ rx3 rx6 rs0 rx5 (hs _ _) rx3 _ hs h
set_option maxRecDepth 100000 in
theorem TX0_push_50 {E : EV} (hE : eOK layC E) {Φ : Int → PS → Prop} (x : CX) (x3 x4 x5 s0 : Int) (rx3 : Rg x3) (rx4 : Rg x4) (rx5 : Rg x5) (rs0 : Rg s0) (σ : PS) (hs : RS σ) (h : LX0_push_50 x3 x4 x5 s0 σ Φ) : RW layC E mi_X0_push Φ 50 [some (.ref (eA E 4)), some (.ref (eA E 1)), none, some (.int (iz x3)), some (.int (iz x4)), some (.int (iz x5)), none, none] [.int (iz s0)] σ x := by
  refine r_istore (lv' := [some (.ref (eA E 4)), some (.ref (eA E 1)), none, some (.int (iz x3)), some (.int (iz x4)), some (.int (iz x5)), some (.int (iz s0)), none]) (dc D_cX0_push_0 26 rfl) rfl rfl ?_
  refine r_iload (dc D_cX0_push_0 27 rfl) rfl ?_
  refine r_if_eq (tgt := 67) (dc D_cX0_push_0 28 rfl) (by decide) rx4 (fun c1 => ?_) (fun c1 => ?_)
  · have h := h.1 c1
    refine r_aloadn (dc D_cX0_push_0 34 rfl) rfl rfl ?_
    refine r_getR (dc D_cX0_push_0 35 rfl) fw_RX0_73 lC_1 rfl ?_
    refine r_iload (dc D_cX0_push_0 36 rfl) rfl ?_
    obtain ⟨o2, h⟩ := h
    refine r_iald (N := 30) (dc D_cX0_push_0 37 rfl) lC_13 rfl rfl o2 ?_
    exact TX0_push_74 hE x _ _ _ _ _ rx3 rx4 rx5 rs0 (hs _ _) _ hs h
  · have h := h.2 c1
    refine r_aloadn (dc D_cX0_push_0 29 rfl) rfl rfl ?_
    refine r_getR (dc D_cX0_push_0 30 rfl) fw_RX0_98 lC_1 rfl ?_
    refine r_iload (dc D_cX0_push_0 31 rfl) rfl ?_
    obtain ⟨o3, h⟩ := h
    refine r_iald (N := 30) (dc D_cX0_push_0 32 rfl) lC_14 rfl rfl o3 ?_
    refine r_goto (tgt := 74) (dc D_cX0_push_0 33 rfl) (by decide) ?_
    exact TX0_push_74 hE x _ _ _ _ _ rx3 rx4 rx5 rs0 (hs _ _) _ hs h
set_option maxRecDepth 100000 in
theorem TX0_push_26 {E : EV} (hE : eOK layC E) {Φ : Int → PS → Prop} (x : CX) (x3 x4 s0 : Int) (rx3 : Rg x3) (rx4 : Rg x4) (rs0 : Rg s0) (σ : PS) (hs : RS σ) (h : LX0_push_26 x3 x4 s0 σ Φ) : RW layC E mi_X0_push Φ 26 [some (.ref (eA E 4)), some (.ref (eA E 1)), none, some (.int (iz x3)), some (.int (iz x4)), none, none, none] [.int (iz s0)] σ x := by
  refine r_istore (lv' := [some (.ref (eA E 4)), some (.ref (eA E 1)), none, some (.int (iz x3)), some (.int (iz x4)), some (.int (iz s0)), none, none]) (dc D_cX0_push_0 14 rfl) rfl rfl ?_
  refine r_iload (dc D_cX0_push_0 15 rfl) rfl ?_
  refine r_if_eq (tgt := 43) (dc D_cX0_push_0 16 rfl) (by decide) rx4 (fun c1 => ?_) (fun c1 => ?_)
  · have h := h.1 c1
    refine r_aloadn (dc D_cX0_push_0 22 rfl) rfl rfl ?_
    refine r_getR (dc D_cX0_push_0 23 rfl) fw_RX0_98 lC_1 rfl ?_
    refine r_iload (dc D_cX0_push_0 24 rfl) rfl ?_
    obtain ⟨o2, h⟩ := h
    refine r_iald (N := 30) (dc D_cX0_push_0 25 rfl) lC_14 rfl rfl o2 ?_
    exact TX0_push_50 hE x _ _ _ _ rx3 rx4 rs0 (hs _ _) _ hs h
  · have h := h.2 c1
    refine r_aloadn (dc D_cX0_push_0 17 rfl) rfl rfl ?_
    refine r_getR (dc D_cX0_push_0 18 rfl) fw_RX0_73 lC_1 rfl ?_
    refine r_iload (dc D_cX0_push_0 19 rfl) rfl ?_
    obtain ⟨o3, h⟩ := h
    refine r_iald (N := 30) (dc D_cX0_push_0 20 rfl) lC_13 rfl rfl o3 ?_
    refine r_goto (tgt := 50) (dc D_cX0_push_0 21 rfl) (by decide) ?_
    exact TX0_push_50 hE x _ _ _ _ rx3 rx4 rs0 (hs _ _) _ hs h
set_option maxRecDepth 100000 in
theorem TX0_push_11 {E : EV} (hE : eOK layC E) {Φ : Int → PS → Prop} (x : CX) (x2 x3 s0 : Int) (rx2 : Rg x2) (rx3 : Rg x3) (rs0 : Rg s0) (σ : PS) (hs : RS σ) (h : LX0_push_11 x2 x3 s0 σ Φ) : RW layC E mi_X0_push Φ 11 [some (.ref (eA E 4)), some (.ref (eA E 1)), some (.int (iz x2)), some (.int (iz x3)), none, none, none, none] [.int (iz s0)] σ x := by
  refine r_istore (lv' := [some (.ref (eA E 4)), some (.ref (eA E 1)), some (.int (iz x2)), some (.int (iz x3)), some (.int (iz s0)), none, none, none]) (dc D_cX0_push_0 6 rfl) rfl rfl ?_
  refine r_iload (dc D_cX0_push_0 7 rfl) rfl ?_
  refine r_if_eq (tgt := 22) (dc D_cX0_push_0 8 rfl) (by decide) rs0 (fun c1 => ?_) (fun c1 => ?_)
  · have h := h.1 c1
    refine r_iloadn (dc D_cX0_push_0 11 rfl) rfl rfl ?_
    refine r_bipush (n := 100) (dc D_cX0_push_0 12 rfl) (by decide +kernel) ?_
    refine r_isub (dc D_cX0_push_0 13 rfl) ?_
    obtain ⟨o2, h⟩ := h
    refine r_sub (lv' := [some (.ref (eA E 4)), some (.ref (eA E 1)), none, some (.int (iz x3)), some (.int (iz s0)), none, none, none]) (subL_s (subL_s (subL_n (subL_s (subL_s (subL_n (subL_n (subL_n subL_e)))))))) ?_
    exact TX0_push_26 hE x _ _ _ rx3 rs0 o2 _ hs h
  · have h := h.2 c1
    refine r_iloadn (dc D_cX0_push_0 9 rfl) rfl rfl ?_
    refine r_goto (tgt := 26) (dc D_cX0_push_0 10 rfl) (by decide) ?_
    refine r_sub (lv' := [some (.ref (eA E 4)), some (.ref (eA E 1)), none, some (.int (iz x3)), some (.int (iz s0)), none, none, none]) (subL_s (subL_s (subL_n (subL_s (subL_s (subL_n (subL_n (subL_n subL_e)))))))) ?_
    exact TX0_push_26 hE x _ _ _ rx3 rs0 rx2 _ hs h
set_option maxRecDepth 100000 in
theorem CX0_push {E : EV} (hE : eOK layC E) {Φ : Int → PS → Prop} (a2 a3 : Int) (ra2 : Rg a2) (ra3 : Rg a3) (σ : PS) (hs : RS σ) (h : FX0_push a2 a3 σ Φ) : CT layC E yX0_push mi_X0_push [.ref (eA E 4), .ref (eA E 1), .int (iz a2), .int (iz a3)] σ Φ := by
  refine ct_of (by decide +kernel) rfl hE rfl rfl hs (fun x => ?_)
  show RW layC E mi_X0_push Φ 0 [some (.ref (eA E 4)), some (.ref (eA E 1)), some (.int (iz a2)), some (.int (iz a3)), none, none, none, none] [] σ x
  refine r_iloadn (dc D_cX0_push_0 0 rfl) rfl rfl ?_
  refine r_bipush (n := 100) (dc D_cX0_push_0 1 rfl) (by decide +kernel) ?_
  refine r_icmp_ge (tgt := 10) (dc D_cX0_push_0 2 rfl) (by decide) ra2 (Rl rfl) (fun c1 => ?_) (fun c1 => ?_)
  · have h := h.1 c1
    refine r_iconst (n := 0) (dc D_cX0_push_0 5 rfl) ?_
    exact TX0_push_11 hE x _ _ _ ra2 ra3 (Rl rfl) _ hs h
  · have h := h.2 c1
    refine r_iconst (n := 1) (dc D_cX0_push_0 3 rfl) ?_
    refine r_goto (tgt := 11) (dc D_cX0_push_0 4 rfl) (by decide) ?_
    exact TX0_push_11 hE x _ _ _ ra2 ra3 (Rl rfl) _ hs h
-- end of GateFlow$ByHeights.push
def mi_X0_begin : MI := (cX0_begin, RX0, 3, 4, none, 0)
def LX0_begin_126 (K84 : Int → PS → Prop) (x2 : Int) (σ : PS) (Φ : Int → PS → Prop) : Prop :=
  Rg (x2 + 1) ∧
  K84 (x2 + 1) σ
def BX0_begin_84 (K84 : Int → PS → Prop) (x2 : Int) (σ : PS) (Φ : Int → PS → Prop) : Prop :=
  ((σ 1 6 ≤ x2 →
    Φ 0 σ) ∧
  (¬ σ 1 6 ≤ x2 →
    (0 ≤ x2 ∧ x2 < 30) ∧
    ((¬ σ 13 x2.toNat = σ 1 7 →
      LX0_begin_126 K84 x2 σ Φ) ∧
    (σ 13 x2.toNat = σ 1 7 →
      (0 ≤ x2 ∧ x2 < 30) ∧
      ((σ 36 x2.toNat ≤ 0 →
        LX0_begin_126 K84 x2 σ Φ) ∧
      (¬ σ 36 x2.toNat ≤ 0 →
        (0 ≤ x2 ∧ x2 < 30) ∧
        FX0_push x2 (σ 36 x2.toNat) σ (fun z7 σ8 =>
        LX0_begin_126 K84 x2 σ8 Φ)))))))
def LX0_begin_84 : Nat → Int → PS → (Int → PS → Prop) → Prop
  | 0, _, _, _ => False
  | n + 1, x2, σ, Φ => BX0_begin_84 (fun x2 σ => LX0_begin_84 n x2 σ Φ) x2 σ Φ
def FX0_begin (σ : PS) (Φ : Int → PS → Prop) : Prop :=
  FX3_copyUsable_v2 σ (fun z1 σ2 =>
  ∀ σ3 : PS, σ3 = fl2 σ2 32 0 30 0 →
  ∀ σ4 : PS, σ4 = fl2 σ3 33 0 12 0 →
  ∀ σ5 : PS, σ5 = fl2 σ4 34 0 12 0 →
  ∀ σ6 : PS, σ6 = fl2 σ5 35 0 12 0 →
  ∀ σ7 : PS, σ7 = fl2 σ6 37 0 12 0 →
  ∀ σ8 : PS, σ8 = fl2 σ7 39 0 12 0 →
  ∀ σ9 : PS, σ9 = up2 σ8 4 8 0 →
  ∀ σ10 : PS, σ10 = up2 σ9 4 9 0 →
  ∀ σ11 : PS, σ11 = up2 σ10 4 10 0 →
  (0 ≤ σ11 1 7 ∧ σ11 1 7 < 12) ∧
  ∀ σ13 : PS, σ13 = up2 σ11 33 (σ11 1 7).toNat 12 →
  ∃ n, LX0_begin_84 n 0 σ13 Φ)
theorem cw_RX0_76 : CWV RX0 76 yX0_push mi_X0_push := tb_r [685, 687, 11, 100, 688] (by decide +kernel)
theorem nm_yX0_push : ynm yX0_push 3 := ⟨⟨by decide +kernel, by decide +kernel⟩, by decide +kernel⟩
theorem cw_RX0_52_v2 : CWV RX0 52 yX3_copyUsable mi_X3_copyUsable_v2 := tb_r [683, 611, 612, 98, 613] (by decide +kernel)
theorem cw_RX0_58 : CWS RX0 58 yJ7_fill_53178 mi_fill := tb_r [684, 488, 109, 489] (by decide +kernel)
theorem fp_0_8 : FP 0 8 .int := ⟨RX0, TX0, 11, tyX0, rfl, tyX0_ok, nmX0, rfl, by decide +kernel⟩
set_option maxRecDepth 100000 in
theorem TX0_begin_126 {E : EV} (hE : eOK layC E) {Φ : Int → PS → Prop} {K84 : Int → PS → Prop} (x : CX) (hK84 : ∀ (x2 : Int) (σ : PS), Rg x2 → RS σ → K84 x2 σ → RW layC E mi_X0_begin Φ 84 [some (.ref (eA E 4)), some (.ref (eA E 1)), some (.int (iz x2))] [] σ x) (x2 : Int) (rx2 : Rg x2) (σ : PS) (hs : RS σ) (h : LX0_begin_126 K84 x2 σ Φ) : RW layC E mi_X0_begin Φ 126 [some (.ref (eA E 4)), some (.ref (eA E 1)), some (.int (iz x2))] [] σ x := by
  obtain ⟨o1, h⟩ := h
  refine r_iinc (lv' := [some (.ref (eA E 4)), some (.ref (eA E 1)), some (.int (iz (x2 + 1)))]) (dc D_cX0_begin_1 29 rfl) rfl rfl rfl ?_
  refine r_goto (tgt := 84) (dc D_cX0_begin_1 30 rfl) (by decide) ?_
  exact hK84 _ _ o1 hs h
set_option maxRecDepth 100000 in
theorem TBX0_begin_84 {E : EV} (hE : eOK layC E) {Φ : Int → PS → Prop} {K84 : Int → PS → Prop} (x : CX) (hK84 : ∀ (x2 : Int) (σ : PS), Rg x2 → RS σ → K84 x2 σ → RW layC E mi_X0_begin Φ 84 [some (.ref (eA E 4)), some (.ref (eA E 1)), some (.int (iz x2))] [] σ x) (x2 : Int) (rx2 : Rg x2) (σ : PS) (hs : RS σ) (h : BX0_begin_84 K84 x2 σ Φ) : RW layC E mi_X0_begin Φ 84 [some (.ref (eA E 4)), some (.ref (eA E 1)), some (.int (iz x2))] [] σ x := by
  refine r_iloadn (dc D_cX0_begin_1 5 rfl) rfl rfl ?_
  refine r_aloadn (dc D_cX0_begin_1 6 rfl) rfl rfl ?_
  refine r_getI (dc D_cX0_begin_1 7 rfl) fw_RX0_70 lC_1 rfl ?_
  refine r_icmp_ge (tgt := 132) (dc D_cX0_begin_1 8 rfl) (by decide) rx2 (hs _ _) (fun c1 => ?_) (fun c1 => ?_)
  · have h := h.1 c1
    exact r_vret (dc D_cX0_begin_1 31 rfl) rfl h
  · have h := h.2 c1
    refine r_aloadn (dc D_cX0_begin_1 9 rfl) rfl rfl ?_
    refine r_getR (dc D_cX0_begin_1 10 rfl) fw_RX0_73 lC_1 rfl ?_
    refine r_iloadn (dc D_cX0_begin_1 11 rfl) rfl rfl ?_
    obtain ⟨o2, h⟩ := h
    refine r_iald (N := 30) (dc D_cX0_begin_1 12 rfl) lC_13 rfl rfl o2 ?_
    refine r_aloadn (dc D_cX0_begin_1 13 rfl) rfl rfl ?_
    refine r_getI (dc D_cX0_begin_1 14 rfl) fw_RX0_67 lC_1 rfl ?_
    refine r_icmp_ne (tgt := 126) (dc D_cX0_begin_1 15 rfl) (by decide) (hs _ _) (hs _ _) (fun c3 => ?_) (fun c3 => ?_)
    · have h := h.1 c3
      exact TX0_begin_126 hE x hK84 _ rx2 _ hs h
    · have h := h.2 c3
      refine r_aloadn (dc D_cX0_begin_1 16 rfl) rfl rfl ?_
      refine r_getR (dc D_cX0_begin_1 17 rfl) fw_RX0_24 lC_4 rfl ?_
      refine r_iloadn (dc D_cX0_begin_1 18 rfl) rfl rfl ?_
      obtain ⟨o4, h⟩ := h
      refine r_iald (N := 30) (dc D_cX0_begin_1 19 rfl) lC_36 rfl rfl o4 ?_
      refine r_if_le (tgt := 126) (dc D_cX0_begin_1 20 rfl) (by decide) (hs _ _) (fun c5 => ?_) (fun c5 => ?_)
      · have h := h.1 c5
        exact TX0_begin_126 hE x hK84 _ rx2 _ hs h
      · have h := h.2 c5
        refine r_aloadn (dc D_cX0_begin_1 21 rfl) rfl rfl ?_
        refine r_aloadn (dc D_cX0_begin_1 22 rfl) rfl rfl ?_
        refine r_iloadn (dc D_cX0_begin_1 23 rfl) rfl rfl ?_
        refine r_aloadn (dc D_cX0_begin_1 24 rfl) rfl rfl ?_
        refine r_getR (dc D_cX0_begin_1 25 rfl) fw_RX0_24 lC_4 rfl ?_
        refine r_iloadn (dc D_cX0_begin_1 26 rfl) rfl rfl ?_
        obtain ⟨o6, h⟩ := h
        refine r_iald (N := 30) (dc D_cX0_begin_1 27 rfl) lC_36 rfl rfl o6 ?_
        refine r_callV (As := [.ref (eA E 1), .int (iz x2), .int (iz (σ 36 x2.toNat))]) (st := []) (dc D_cX0_begin_1 28 rfl) cw_RX0_76 nm_yX0_push (CX0_push hE _ _ rx2 (hs _ _) _ hs h) lC_4 rfl rfl (by decide) rfl rfl rfl (fun z7 σ8 rz7 hσ8 h => ?_)
        show RW layC E mi_X0_begin Φ 126 [some (.ref (eA E 4)), some (.ref (eA E 1)), some (.int (iz x2))] [] σ8 x
        exact TX0_begin_126 hE x hK84 _ rx2 _ hσ8 h
theorem TX0_begin_84 {E : EV} (hE : eOK layC E) {Φ : Int → PS → Prop} (x : CX) (n : Nat) : ∀ (x2 : Int) (σ : PS), Rg x2 → RS σ → LX0_begin_84 n x2 σ Φ → RW layC E mi_X0_begin Φ 84 [some (.ref (eA E 4)), some (.ref (eA E 1)), some (.int (iz x2))] [] σ x := by
  induction n with
  | zero => intro x2 σ _ _ h; exact h.elim
  | succ n ih => intro x2 σ rx2 hs h; exact TBX0_begin_84 hE x ih x2 rx2 σ hs h
set_option maxRecDepth 100000 in
theorem CX0_begin {E : EV} (hE : eOK layC E) {Φ : Int → PS → Prop} (σ : PS) (hs : RS σ) (h : FX0_begin σ Φ) : CT layC E yX0_begin mi_X0_begin [.ref (eA E 4), .ref (eA E 1)] σ Φ := by
  refine ct_of (by decide +kernel) rfl hE rfl rfl hs (fun x => ?_)
  show RW layC E mi_X0_begin Φ 0 [some (.ref (eA E 4)), some (.ref (eA E 1)), none] [] σ x
  refine r_aloadn (dc D_cX0_begin_0 0 rfl) rfl rfl ?_
  refine r_aloadn (dc D_cX0_begin_0 1 rfl) rfl rfl ?_
  refine r_getR (dc D_cX0_begin_0 2 rfl) fw_RX0_24 lC_4 rfl ?_
  refine r_callV (As := [.ref (eA E 36)]) (st := []) (dc D_cX0_begin_0 3 rfl) cw_RX0_52_v2 nm_yX3_copyUsable (CX3_copyUsable_v2 hE  _ hs h) lC_1 rfl rfl (by decide) rfl rfl rfl (fun z1 σ2 rz1 hσ2 h => ?_)
  show RW layC E mi_X0_begin Φ 8 [some (.ref (eA E 4)), some (.ref (eA E 1)), none] [] σ2 x
  refine r_aloadn (dc D_cX0_begin_0 4 rfl) rfl rfl ?_
  refine r_getR (dc D_cX0_begin_0 5 rfl) fw_RX0_9 lC_4 rfl ?_
  refine r_iconst (n := 0) (dc D_cX0_begin_0 6 rfl) ?_
  refine r_fill (n := 30) (dc D_cX0_begin_0 7 rfl) cw_RX0_58 lC_32 rfl (Rl rfl) (by decide) rfl ?_
  refine r_sig (fun σ3 eσ3 => ?_)
  have h := h σ3 eσ3
  have hσ3 : RS σ3 := RS_eq eσ3 (RS.fl hσ2 (Rl rfl))
  refine r_aloadn (dc D_cX0_begin_0 8 rfl) rfl rfl ?_
  refine r_getR (dc D_cX0_begin_0 9 rfl) fw_RX0_15 lC_4 rfl ?_
  refine r_iconst (n := 0) (dc D_cX0_begin_0 10 rfl) ?_
  refine r_fill (n := 12) (dc D_cX0_begin_0 11 rfl) cw_RX0_58 lC_33 rfl (Rl rfl) (by decide) rfl ?_
  refine r_sig (fun σ4 eσ4 => ?_)
  have h := h σ4 eσ4
  have hσ4 : RS σ4 := RS_eq eσ4 (RS.fl hσ3 (Rl rfl))
  refine r_aloadn (dc D_cX0_begin_0 12 rfl) rfl rfl ?_
  refine r_getR (dc D_cX0_begin_0 13 rfl) fw_RX0_18 lC_4 rfl ?_
  refine r_iconst (n := 0) (dc D_cX0_begin_0 14 rfl) ?_
  refine r_fill (n := 12) (dc D_cX0_begin_0 15 rfl) cw_RX0_58 lC_34 rfl (Rl rfl) (by decide) rfl ?_
  refine r_sig (fun σ5 eσ5 => ?_)
  have h := h σ5 eσ5
  have hσ5 : RS σ5 := RS_eq eσ5 (RS.fl hσ4 (Rl rfl))
  refine r_aloadn (dc D_cX0_begin_0 16 rfl) rfl rfl ?_
  refine r_getR (dc D_cX0_begin_0 17 rfl) fw_RX0_21 lC_4 rfl ?_
  refine r_iconst (n := 0) (dc D_cX0_begin_0 18 rfl) ?_
  refine r_fill (n := 12) (dc D_cX0_begin_0 19 rfl) cw_RX0_58 lC_35 rfl (Rl rfl) (by decide) rfl ?_
  refine r_sig (fun σ6 eσ6 => ?_)
  have h := h σ6 eσ6
  have hσ6 : RS σ6 := RS_eq eσ6 (RS.fl hσ5 (Rl rfl))
  refine r_aloadn (dc D_cX0_begin_0 20 rfl) rfl rfl ?_
  refine r_getR (dc D_cX0_begin_0 21 rfl) fw_RX0_27 lC_4 rfl ?_
  refine r_iconst (n := 0) (dc D_cX0_begin_0 22 rfl) ?_
  refine r_fill (n := 12) (dc D_cX0_begin_0 23 rfl) cw_RX0_58 lC_37 rfl (Rl rfl) (by decide) rfl ?_
  refine r_sig (fun σ7 eσ7 => ?_)
  have h := h σ7 eσ7
  have hσ7 : RS σ7 := RS_eq eσ7 (RS.fl hσ6 (Rl rfl))
  refine r_aloadn (dc D_cX0_begin_0 24 rfl) rfl rfl ?_
  refine r_getR (dc D_cX0_begin_0 25 rfl) fw_RX0_33 lC_4 rfl ?_
  refine r_iconst (n := 0) (dc D_cX0_begin_0 26 rfl) ?_
  refine r_fill (n := 12) (dc D_cX0_begin_0 27 rfl) cw_RX0_58 lC_39 rfl (Rl rfl) (by decide) rfl ?_
  refine r_sig (fun σ8 eσ8 => ?_)
  have h := h σ8 eσ8
  have hσ8 : RS σ8 := RS_eq eσ8 (RS.fl hσ7 (Rl rfl))
  refine r_aloadn (dc D_cX0_begin_0 28 rfl) rfl rfl ?_
  refine r_iconst (n := 0) (dc D_cX0_begin_0 29 rfl) ?_
  refine r_put (dc D_cX0_begin_0 30 rfl) fw_RX0_45 fp_0_8 lC_4 rfl (nar_int _) (Rl rfl) ?_
  refine r_sig (fun σ9 eσ9 => ?_)
  have h := h σ9 eσ9
  have hσ9 : RS σ9 := RS_eq eσ9 (RS.up hσ8 (Rl rfl) _ _)
  refine r_aloadn (dc D_cX0_begin_0 31 rfl) rfl rfl ?_
  refine r_iconst (n := 0) (dc D_cX0_begin_0 32 rfl) ?_
  refine r_put (dc D_cX0_begin_0 33 rfl) fw_RX0_41 fp_0_9 lC_4 rfl (nar_int _) (Rl rfl) ?_
  refine r_sig (fun σ10 eσ10 => ?_)
  have h := h σ10 eσ10
  have hσ10 : RS σ10 := RS_eq eσ10 (RS.up hσ9 (Rl rfl) _ _)
  refine r_aloadn (dc D_cX0_begin_0 34 rfl) rfl rfl ?_
  refine r_iconst (n := 0) (dc D_cX0_begin_0 35 rfl) ?_
  refine r_put (dc D_cX0_begin_0 36 rfl) fw_RX0_64 fp_0_10 lC_4 rfl (nar_int _) (Rl rfl) ?_
  refine r_sig (fun σ11 eσ11 => ?_)
  have h := h σ11 eσ11
  have hσ11 : RS σ11 := RS_eq eσ11 (RS.up hσ10 (Rl rfl) _ _)
  refine r_aloadn (dc D_cX0_begin_0 37 rfl) rfl rfl ?_
  refine r_getR (dc D_cX0_begin_0 38 rfl) fw_RX0_15 lC_4 rfl ?_
  refine r_aloadn (dc D_cX0_begin_0 39 rfl) rfl rfl ?_
  refine r_getI (dc D_cX0_begin_1 0 rfl) fw_RX0_67 lC_1 rfl ?_
  refine r_bipush (n := 12) (dc D_cX0_begin_1 1 rfl) (by decide +kernel) ?_
  obtain ⟨o12, h⟩ := h
  refine r_iast (N := 12) (dc D_cX0_begin_1 2 rfl) lC_33 rfl rfl o12 (Rl rfl) ?_
  refine r_sig (fun σ13 eσ13 => ?_)
  have h := h σ13 eσ13
  have hσ13 : RS σ13 := RS_eq eσ13 (RS.up hσ11 (Rl rfl) _ _)
  refine r_iconst (n := 0) (dc D_cX0_begin_1 3 rfl) ?_
  refine r_istoren (lv' := [some (.ref (eA E 4)), some (.ref (eA E 1)), some (.int (iz 0))]) (dc D_cX0_begin_1 4 rfl) rfl rfl rfl ?_
  obtain ⟨n, h⟩ := h
  exact TX0_begin_84 hE x n _ _ (Rl rfl) hσ13 h
-- end of GateFlow$ByHeights.begin
def mi_X0_downStep : MI := (cX0_downStep, RX0, 4, 1, (some .int), 1)
def LX0_downStep_121 (K67 : Int → Int → PS → Prop) (x2 x3 : Int) (σ : PS) (Φ : Int → PS → Prop) : Prop :=
  Rg (x3 + 1) ∧
  K67 x2 (x3 + 1) σ
def BX0_downStep_67 (K67 : Int → Int → PS → Prop) (x2 x3 : Int) (σ : PS) (Φ : Int → PS → Prop) : Prop :=
  ((σ 1 6 ≤ x3 →
    Φ (-1) σ) ∧
  (¬ σ 1 6 ≤ x3 →
    (0 ≤ x3 ∧ x3 < 30) ∧
    ((¬ σ 14 x3.toNat = x2 →
      LX0_downStep_121 K67 x2 x3 σ Φ) ∧
    (σ 14 x3.toNat = x2 →
      (0 ≤ x3 ∧ x3 < 30) ∧
      ((σ 32 x3.toNat ≤ 0 →
        LX0_downStep_121 K67 x2 x3 σ Φ) ∧
      (¬ σ 32 x3.toNat ≤ 0 →
        (0 ≤ x3 ∧ x3 < 30) ∧
        (0 ≤ σ 13 x3.toNat ∧ σ 13 x3.toNat < 12) ∧
        (0 ≤ x2 ∧ x2 < 12) ∧
        Rg ((σ 33 x2.toNat) - 1) ∧
        ((¬ σ 33 (σ 13 x3.toNat).toNat = (σ 33 x2.toNat) - 1 →
          LX0_downStep_121 K67 x2 x3 σ Φ) ∧
        (σ 33 (σ 13 x3.toNat).toNat = (σ 33 x2.toNat) - 1 →
          Rg (100 + x3) ∧
          Φ (100 + x3) σ))))))))
def LX0_downStep_67 : Nat → Int → Int → PS → (Int → PS → Prop) → Prop
  | 0, _, _, _, _ => False
  | n + 1, x2, x3, σ, Φ => BX0_downStep_67 (fun x2 x3 σ => LX0_downStep_67 n x2 x3 σ Φ) x2 x3 σ Φ
def LX0_downStep_59 (K2 : Int → Int → PS → Prop) (x2 x3 : Int) (σ : PS) (Φ : Int → PS → Prop) : Prop :=
  Rg (x3 + 1) ∧
  K2 x2 (x3 + 1) σ
def BX0_downStep_2 (K2 : Int → Int → PS → Prop) (x2 x3 : Int) (σ : PS) (Φ : Int → PS → Prop) : Prop :=
  ((σ 1 6 ≤ x3 →
    ∃ n, LX0_downStep_67 n x2 0 σ Φ) ∧
  (¬ σ 1 6 ≤ x3 →
    (0 ≤ x3 ∧ x3 < 30) ∧
    ((¬ σ 13 x3.toNat = x2 →
      LX0_downStep_59 K2 x2 x3 σ Φ) ∧
    (σ 13 x3.toNat = x2 →
      (0 ≤ x3 ∧ x3 < 30) ∧
      (0 ≤ x3 ∧ x3 < 30) ∧
      ((σ 36 x3.toNat ≤ σ 32 x3.toNat →
        LX0_downStep_59 K2 x2 x3 σ Φ) ∧
      (¬ σ 36 x3.toNat ≤ σ 32 x3.toNat →
        (0 ≤ x3 ∧ x3 < 30) ∧
        (0 ≤ σ 14 x3.toNat ∧ σ 14 x3.toNat < 12) ∧
        (0 ≤ x2 ∧ x2 < 12) ∧
        Rg ((σ 33 x2.toNat) - 1) ∧
        ((¬ σ 33 (σ 14 x3.toNat).toNat = (σ 33 x2.toNat) - 1 →
          LX0_downStep_59 K2 x2 x3 σ Φ) ∧
        (σ 33 (σ 14 x3.toNat).toNat = (σ 33 x2.toNat) - 1 →
          Φ x3 σ))))))))
def LX0_downStep_2 : Nat → Int → Int → PS → (Int → PS → Prop) → Prop
  | 0, _, _, _, _ => False
  | n + 1, x2, x3, σ, Φ => BX0_downStep_2 (fun x2 x3 σ => LX0_downStep_2 n x2 x3 σ Φ) x2 x3 σ Φ
def FX0_downStep (a2 : Int) (σ : PS) (Φ : Int → PS → Prop) : Prop :=
  ∃ n, LX0_downStep_2 n a2 0 σ Φ
set_option maxRecDepth 100000 in
theorem TX0_downStep_121 {E : EV} (hE : eOK layC E) {Φ : Int → PS → Prop} {K67 : Int → Int → PS → Prop} (x : CX) (hK67 : ∀ (x2 x3 : Int) (σ : PS), Rg x2 → Rg x3 → RS σ → K67 x2 x3 σ → RW layC E mi_X0_downStep Φ 67 [some (.ref (eA E 4)), some (.ref (eA E 1)), some (.int (iz x2)), some (.int (iz x3))] [] σ x) (x2 x3 : Int) (rx2 : Rg x2) (rx3 : Rg x3) (σ : PS) (hs : RS σ) (h : LX0_downStep_121 K67 x2 x3 σ Φ) : RW layC E mi_X0_downStep Φ 121 [some (.ref (eA E 4)), some (.ref (eA E 1)), some (.int (iz x2)), some (.int (iz x3))] [] σ x := by
  obtain ⟨o1, h⟩ := h
  refine r_iinc (lv' := [some (.ref (eA E 4)), some (.ref (eA E 1)), some (.int (iz x2)), some (.int (iz (x3 + 1)))]) (dc D_cX0_downStep_1 34 rfl) rfl rfl rfl ?_
  refine r_goto (tgt := 67) (dc D_cX0_downStep_1 35 rfl) (by decide) ?_
  exact hK67 _ _ _ rx2 o1 hs h
set_option maxRecDepth 100000 in
theorem TBX0_downStep_67 {E : EV} (hE : eOK layC E) {Φ : Int → PS → Prop} {K67 : Int → Int → PS → Prop} (x : CX) (hK67 : ∀ (x2 x3 : Int) (σ : PS), Rg x2 → Rg x3 → RS σ → K67 x2 x3 σ → RW layC E mi_X0_downStep Φ 67 [some (.ref (eA E 4)), some (.ref (eA E 1)), some (.int (iz x2)), some (.int (iz x3))] [] σ x) (x2 x3 : Int) (rx2 : Rg x2) (rx3 : Rg x3) (σ : PS) (hs : RS σ) (h : BX0_downStep_67 K67 x2 x3 σ Φ) : RW layC E mi_X0_downStep Φ 67 [some (.ref (eA E 4)), some (.ref (eA E 1)), some (.int (iz x2)), some (.int (iz x3))] [] σ x := by
  refine r_iloadn (dc D_cX0_downStep_1 1 rfl) rfl rfl ?_
  refine r_aloadn (dc D_cX0_downStep_1 2 rfl) rfl rfl ?_
  refine r_getI (dc D_cX0_downStep_1 3 rfl) fw_RX0_70 lC_1 rfl ?_
  refine r_icmp_ge (tgt := 127) (dc D_cX0_downStep_1 4 rfl) (by decide) rx3 (hs _ _) (fun c1 => ?_) (fun c1 => ?_)
  · have h := h.1 c1
    refine r_iconst (n := (-1)) (dc D_cX0_downStep_1 36 rfl) ?_
    exact r_iret (dc D_cX0_downStep_1 37 rfl) rfl (Rl rfl) h
  · have h := h.2 c1
    refine r_aloadn (dc D_cX0_downStep_1 5 rfl) rfl rfl ?_
    refine r_getR (dc D_cX0_downStep_1 6 rfl) fw_RX0_98 lC_1 rfl ?_
    refine r_iloadn (dc D_cX0_downStep_1 7 rfl) rfl rfl ?_
    obtain ⟨o2, h⟩ := h
    refine r_iald (N := 30) (dc D_cX0_downStep_1 8 rfl) lC_14 rfl rfl o2 ?_
    refine r_iloadn (dc D_cX0_downStep_1 9 rfl) rfl rfl ?_
    refine r_icmp_ne (tgt := 121) (dc D_cX0_downStep_1 10 rfl) (by decide) (hs _ _) rx2 (fun c3 => ?_) (fun c3 => ?_)
    · have h := h.1 c3
      exact TX0_downStep_121 hE x hK67 _ _ rx2 rx3 _ hs h
    · have h := h.2 c3
      refine r_aloadn (dc D_cX0_downStep_1 11 rfl) rfl rfl ?_
      refine r_getR (dc D_cX0_downStep_1 12 rfl) fw_RX0_9 lC_4 rfl ?_
      refine r_iloadn (dc D_cX0_downStep_1 13 rfl) rfl rfl ?_
      obtain ⟨o4, h⟩ := h
      refine r_iald (N := 30) (dc D_cX0_downStep_1 14 rfl) lC_32 rfl rfl o4 ?_
      refine r_if_le (tgt := 121) (dc D_cX0_downStep_1 15 rfl) (by decide) (hs _ _) (fun c5 => ?_) (fun c5 => ?_)
      · have h := h.1 c5
        exact TX0_downStep_121 hE x hK67 _ _ rx2 rx3 _ hs h
      · have h := h.2 c5
        refine r_aloadn (dc D_cX0_downStep_1 16 rfl) rfl rfl ?_
        refine r_getR (dc D_cX0_downStep_1 17 rfl) fw_RX0_15 lC_4 rfl ?_
        refine r_aloadn (dc D_cX0_downStep_1 18 rfl) rfl rfl ?_
        refine r_getR (dc D_cX0_downStep_1 19 rfl) fw_RX0_73 lC_1 rfl ?_
        refine r_iloadn (dc D_cX0_downStep_1 20 rfl) rfl rfl ?_
        obtain ⟨o6, h⟩ := h
        refine r_iald (N := 30) (dc D_cX0_downStep_1 21 rfl) lC_13 rfl rfl o6 ?_
        obtain ⟨o7, h⟩ := h
        refine r_iald (N := 12) (dc D_cX0_downStep_1 22 rfl) lC_33 rfl rfl o7 ?_
        refine r_aloadn (dc D_cX0_downStep_1 23 rfl) rfl rfl ?_
        refine r_getR (dc D_cX0_downStep_1 24 rfl) fw_RX0_15 lC_4 rfl ?_
        refine r_iloadn (dc D_cX0_downStep_1 25 rfl) rfl rfl ?_
        obtain ⟨o8, h⟩ := h
        refine r_iald (N := 12) (dc D_cX0_downStep_1 26 rfl) lC_33 rfl rfl o8 ?_
        refine r_iconst (n := 1) (dc D_cX0_downStep_1 27 rfl) ?_
        refine r_isub (dc D_cX0_downStep_1 28 rfl) ?_
        obtain ⟨o9, h⟩ := h
        refine r_icmp_ne (tgt := 121) (dc D_cX0_downStep_1 29 rfl) (by decide) (hs _ _) o9 (fun c10 => ?_) (fun c10 => ?_)
        · have h := h.1 c10
          exact TX0_downStep_121 hE x hK67 _ _ rx2 rx3 _ hs h
        · have h := h.2 c10
          refine r_bipush (n := 100) (dc D_cX0_downStep_1 30 rfl) (by decide +kernel) ?_
          refine r_iloadn (dc D_cX0_downStep_1 31 rfl) rfl rfl ?_
          refine r_iadd (dc D_cX0_downStep_1 32 rfl) ?_
          obtain ⟨o11, h⟩ := h
          exact r_iret (dc D_cX0_downStep_1 33 rfl) rfl o11 h
theorem TX0_downStep_67 {E : EV} (hE : eOK layC E) {Φ : Int → PS → Prop} (x : CX) (n : Nat) : ∀ (x2 x3 : Int) (σ : PS), Rg x2 → Rg x3 → RS σ → LX0_downStep_67 n x2 x3 σ Φ → RW layC E mi_X0_downStep Φ 67 [some (.ref (eA E 4)), some (.ref (eA E 1)), some (.int (iz x2)), some (.int (iz x3))] [] σ x := by
  induction n with
  | zero => intro x2 x3 σ _ _ _ h; exact h.elim
  | succ n ih => intro x2 x3 σ rx2 rx3 hs h; exact TBX0_downStep_67 hE x ih x2 x3 rx2 rx3 σ hs h
set_option maxRecDepth 100000 in
theorem TX0_downStep_59 {E : EV} (hE : eOK layC E) {Φ : Int → PS → Prop} {K2 : Int → Int → PS → Prop} (x : CX) (hK2 : ∀ (x2 x3 : Int) (σ : PS), Rg x2 → Rg x3 → RS σ → K2 x2 x3 σ → RW layC E mi_X0_downStep Φ 2 [some (.ref (eA E 4)), some (.ref (eA E 1)), some (.int (iz x2)), some (.int (iz x3))] [] σ x) (x2 x3 : Int) (rx2 : Rg x2) (rx3 : Rg x3) (σ : PS) (hs : RS σ) (h : LX0_downStep_59 K2 x2 x3 σ Φ) : RW layC E mi_X0_downStep Φ 59 [some (.ref (eA E 4)), some (.ref (eA E 1)), some (.int (iz x2)), some (.int (iz x3))] [] σ x := by
  obtain ⟨o1, h⟩ := h
  refine r_iinc (lv' := [some (.ref (eA E 4)), some (.ref (eA E 1)), some (.int (iz x2)), some (.int (iz (x3 + 1)))]) (dc D_cX0_downStep_0 37 rfl) rfl rfl rfl ?_
  refine r_goto (tgt := 2) (dc D_cX0_downStep_0 38 rfl) (by decide) ?_
  exact hK2 _ _ _ rx2 o1 hs h
set_option maxRecDepth 100000 in
theorem TBX0_downStep_2 {E : EV} (hE : eOK layC E) {Φ : Int → PS → Prop} {K2 : Int → Int → PS → Prop} (x : CX) (hK2 : ∀ (x2 x3 : Int) (σ : PS), Rg x2 → Rg x3 → RS σ → K2 x2 x3 σ → RW layC E mi_X0_downStep Φ 2 [some (.ref (eA E 4)), some (.ref (eA E 1)), some (.int (iz x2)), some (.int (iz x3))] [] σ x) (x2 x3 : Int) (rx2 : Rg x2) (rx3 : Rg x3) (σ : PS) (hs : RS σ) (h : BX0_downStep_2 K2 x2 x3 σ Φ) : RW layC E mi_X0_downStep Φ 2 [some (.ref (eA E 4)), some (.ref (eA E 1)), some (.int (iz x2)), some (.int (iz x3))] [] σ x := by
  refine r_iloadn (dc D_cX0_downStep_0 2 rfl) rfl rfl ?_
  refine r_aloadn (dc D_cX0_downStep_0 3 rfl) rfl rfl ?_
  refine r_getI (dc D_cX0_downStep_0 4 rfl) fw_RX0_70 lC_1 rfl ?_
  refine r_icmp_ge (tgt := 65) (dc D_cX0_downStep_0 5 rfl) (by decide) rx3 (hs _ _) (fun c1 => ?_) (fun c1 => ?_)
  · have h := h.1 c1
    refine r_iconst (n := 0) (dc D_cX0_downStep_0 39 rfl) ?_
    refine r_istoren (lv' := [some (.ref (eA E 4)), some (.ref (eA E 1)), some (.int (iz x2)), some (.int (iz 0))]) (dc D_cX0_downStep_1 0 rfl) rfl rfl rfl ?_
    obtain ⟨n, h⟩ := h
    exact TX0_downStep_67 hE x n _ _ _ rx2 (Rl rfl) hs h
  · have h := h.2 c1
    refine r_aloadn (dc D_cX0_downStep_0 6 rfl) rfl rfl ?_
    refine r_getR (dc D_cX0_downStep_0 7 rfl) fw_RX0_73 lC_1 rfl ?_
    refine r_iloadn (dc D_cX0_downStep_0 8 rfl) rfl rfl ?_
    obtain ⟨o2, h⟩ := h
    refine r_iald (N := 30) (dc D_cX0_downStep_0 9 rfl) lC_13 rfl rfl o2 ?_
    refine r_iloadn (dc D_cX0_downStep_0 10 rfl) rfl rfl ?_
    refine r_icmp_ne (tgt := 59) (dc D_cX0_downStep_0 11 rfl) (by decide) (hs _ _) rx2 (fun c3 => ?_) (fun c3 => ?_)
    · have h := h.1 c3
      exact TX0_downStep_59 hE x hK2 _ _ rx2 rx3 _ hs h
    · have h := h.2 c3
      refine r_aloadn (dc D_cX0_downStep_0 12 rfl) rfl rfl ?_
      refine r_getR (dc D_cX0_downStep_0 13 rfl) fw_RX0_9 lC_4 rfl ?_
      refine r_iloadn (dc D_cX0_downStep_0 14 rfl) rfl rfl ?_
      obtain ⟨o4, h⟩ := h
      refine r_iald (N := 30) (dc D_cX0_downStep_0 15 rfl) lC_32 rfl rfl o4 ?_
      refine r_aloadn (dc D_cX0_downStep_0 16 rfl) rfl rfl ?_
      refine r_getR (dc D_cX0_downStep_0 17 rfl) fw_RX0_24 lC_4 rfl ?_
      refine r_iloadn (dc D_cX0_downStep_0 18 rfl) rfl rfl ?_
      obtain ⟨o5, h⟩ := h
      refine r_iald (N := 30) (dc D_cX0_downStep_0 19 rfl) lC_36 rfl rfl o5 ?_
      refine r_icmp_ge (tgt := 59) (dc D_cX0_downStep_0 20 rfl) (by decide) (hs _ _) (hs _ _) (fun c6 => ?_) (fun c6 => ?_)
      · have h := h.1 c6
        exact TX0_downStep_59 hE x hK2 _ _ rx2 rx3 _ hs h
      · have h := h.2 c6
        refine r_aloadn (dc D_cX0_downStep_0 21 rfl) rfl rfl ?_
        refine r_getR (dc D_cX0_downStep_0 22 rfl) fw_RX0_15 lC_4 rfl ?_
        refine r_aloadn (dc D_cX0_downStep_0 23 rfl) rfl rfl ?_
        refine r_getR (dc D_cX0_downStep_0 24 rfl) fw_RX0_98 lC_1 rfl ?_
        refine r_iloadn (dc D_cX0_downStep_0 25 rfl) rfl rfl ?_
        obtain ⟨o7, h⟩ := h
        refine r_iald (N := 30) (dc D_cX0_downStep_0 26 rfl) lC_14 rfl rfl o7 ?_
        obtain ⟨o8, h⟩ := h
        refine r_iald (N := 12) (dc D_cX0_downStep_0 27 rfl) lC_33 rfl rfl o8 ?_
        refine r_aloadn (dc D_cX0_downStep_0 28 rfl) rfl rfl ?_
        refine r_getR (dc D_cX0_downStep_0 29 rfl) fw_RX0_15 lC_4 rfl ?_
        refine r_iloadn (dc D_cX0_downStep_0 30 rfl) rfl rfl ?_
        obtain ⟨o9, h⟩ := h
        refine r_iald (N := 12) (dc D_cX0_downStep_0 31 rfl) lC_33 rfl rfl o9 ?_
        refine r_iconst (n := 1) (dc D_cX0_downStep_0 32 rfl) ?_
        refine r_isub (dc D_cX0_downStep_0 33 rfl) ?_
        obtain ⟨o10, h⟩ := h
        refine r_icmp_ne (tgt := 59) (dc D_cX0_downStep_0 34 rfl) (by decide) (hs _ _) o10 (fun c11 => ?_) (fun c11 => ?_)
        · have h := h.1 c11
          exact TX0_downStep_59 hE x hK2 _ _ rx2 rx3 _ hs h
        · have h := h.2 c11
          refine r_iloadn (dc D_cX0_downStep_0 35 rfl) rfl rfl ?_
          exact r_iret (dc D_cX0_downStep_0 36 rfl) rfl rx3 h
theorem TX0_downStep_2 {E : EV} (hE : eOK layC E) {Φ : Int → PS → Prop} (x : CX) (n : Nat) : ∀ (x2 x3 : Int) (σ : PS), Rg x2 → Rg x3 → RS σ → LX0_downStep_2 n x2 x3 σ Φ → RW layC E mi_X0_downStep Φ 2 [some (.ref (eA E 4)), some (.ref (eA E 1)), some (.int (iz x2)), some (.int (iz x3))] [] σ x := by
  induction n with
  | zero => intro x2 x3 σ _ _ _ h; exact h.elim
  | succ n ih => intro x2 x3 σ rx2 rx3 hs h; exact TBX0_downStep_2 hE x ih x2 x3 rx2 rx3 σ hs h
set_option maxRecDepth 100000 in
theorem CX0_downStep {E : EV} (hE : eOK layC E) {Φ : Int → PS → Prop} (a2 : Int) (ra2 : Rg a2) (σ : PS) (hs : RS σ) (h : FX0_downStep a2 σ Φ) : CT layC E yX0_downStep mi_X0_downStep [.ref (eA E 4), .ref (eA E 1), .int (iz a2)] σ Φ := by
  refine ct_of (by decide +kernel) rfl hE rfl rfl hs (fun x => ?_)
  show RW layC E mi_X0_downStep Φ 0 [some (.ref (eA E 4)), some (.ref (eA E 1)), some (.int (iz a2)), none] [] σ x
  refine r_iconst (n := 0) (dc D_cX0_downStep_0 0 rfl) ?_
  refine r_istoren (lv' := [some (.ref (eA E 4)), some (.ref (eA E 1)), some (.int (iz a2)), some (.int (iz 0))]) (dc D_cX0_downStep_0 1 rfl) rfl rfl rfl ?_
  obtain ⟨n, h⟩ := h
  exact TX0_downStep_2 hE x n _ _ _ ra2 (Rl rfl) hs h
-- end of GateFlow$ByHeights.downStep
def mi_X0_lift : MI := (cX0_lift, RX0, 5, 4, (some .boolean), 1)
def LX0_lift_98 (K6 : Int → Int → Int → PS → Prop) (x2 x3 x4 : Int) (σ : PS) (Φ : Int → PS → Prop) : Prop :=
  Rg (x4 + 1) ∧
  K6 x2 x3 (x4 + 1) σ
def LX0_lift_60 (K6 : Int → Int → Int → PS → Prop) (x2 x3 x4 : Int) (σ : PS) (Φ : Int → PS → Prop) : Prop :=
  (0 ≤ x4 ∧ x4 < 30) ∧
  ((¬ σ 14 x4.toNat = x2 →
    LX0_lift_98 K6 x2 x3 x4 σ Φ) ∧
  (σ 14 x4.toNat = x2 →
    (0 ≤ x4 ∧ x4 < 30) ∧
    ((σ 32 x4.toNat ≤ 0 →
      LX0_lift_98 K6 x2 x3 x4 σ Φ) ∧
    (¬ σ 32 x4.toNat ≤ 0 →
      (0 ≤ x4 ∧ x4 < 30) ∧
      (0 ≤ σ 13 x4.toNat ∧ σ 13 x4.toNat < 12) ∧
      ∀ v7 : Int, v7 = min x3 (σ 33 (σ 13 x4.toNat).toNat) →
      LX0_lift_98 K6 x2 v7 x4 σ Φ))))
def BX0_lift_6 (K6 : Int → Int → Int → PS → Prop) (x2 x3 x4 : Int) (σ : PS) (Φ : Int → PS → Prop) : Prop :=
  ((σ 1 6 ≤ x4 →
    ((¬ x3 = 1000000000 →
      Rg (x3 + 1) ∧
      (0 ≤ x2 ∧ x2 < 12) ∧
      ∀ σ5 : PS, σ5 = up2 σ 33 x2.toNat (x3 + 1) →
      (0 ≤ x2 ∧ x2 < 12) ∧
      Rg ((σ5 34 x2.toNat) + 1) ∧
      (0 ≤ x2 ∧ x2 < 12) ∧
      ∀ σ9 : PS, σ9 = up2 σ5 34 x2.toNat ((σ5 34 x2.toNat) + 1) →
      Φ 1 σ9) ∧
    (x3 = 1000000000 →
      Φ 0 σ))) ∧
  (¬ σ 1 6 ≤ x4 →
    (0 ≤ x4 ∧ x4 < 30) ∧
    ((¬ σ 13 x4.toNat = x2 →
      LX0_lift_60 K6 x2 x3 x4 σ Φ) ∧
    (σ 13 x4.toNat = x2 →
      (0 ≤ x4 ∧ x4 < 30) ∧
      (0 ≤ x4 ∧ x4 < 30) ∧
      ((σ 36 x4.toNat ≤ σ 32 x4.toNat →
        LX0_lift_60 K6 x2 x3 x4 σ Φ) ∧
      (¬ σ 36 x4.toNat ≤ σ 32 x4.toNat →
        (0 ≤ x4 ∧ x4 < 30) ∧
        (0 ≤ σ 14 x4.toNat ∧ σ 14 x4.toNat < 12) ∧
        ∀ v17 : Int, v17 = min x3 (σ 33 (σ 14 x4.toNat).toNat) →
        LX0_lift_60 K6 x2 v17 x4 σ Φ))))))
def LX0_lift_6 : Nat → Int → Int → Int → PS → (Int → PS → Prop) → Prop
  | 0, _, _, _, _, _ => False
  | n + 1, x2, x3, x4, σ, Φ => BX0_lift_6 (fun x2 x3 x4 σ => LX0_lift_6 n x2 x3 x4 σ Φ) x2 x3 x4 σ Φ
def FX0_lift (a2 : Int) (σ : PS) (Φ : Int → PS → Prop) : Prop :=
  ∃ n, LX0_lift_6 n a2 1000000000 0 σ Φ
theorem mw_RX0_88 : MW RX0 88 Lib.Math.min.name Lib.Math.min.code := tb_r [702, 637, 111, 638] (by decide +kernel)
theorem kw_RX0_101 : Cond.constant RX0 101 (iz 1000000000) ∈ TB := tb_1 707 (by decide +kernel)
set_option maxRecDepth 100000 in
theorem TX0_lift_98 {E : EV} (hE : eOK layC E) {Φ : Int → PS → Prop} {K6 : Int → Int → Int → PS → Prop} (x : CX) (hK6 : ∀ (x2 x3 x4 : Int) (σ : PS), Rg x2 → Rg x3 → Rg x4 → RS σ → K6 x2 x3 x4 σ → RW layC E mi_X0_lift Φ 6 [some (.ref (eA E 4)), some (.ref (eA E 1)), some (.int (iz x2)), some (.int (iz x3)), some (.int (iz x4))] [] σ x) (x2 x3 x4 : Int) (rx2 : Rg x2) (rx3 : Rg x3) (rx4 : Rg x4) (σ : PS) (hs : RS σ) (h : LX0_lift_98 K6 x2 x3 x4 σ Φ) : RW layC E mi_X0_lift Φ 98 [some (.ref (eA E 4)), some (.ref (eA E 1)), some (.int (iz x2)), some (.int (iz x3)), some (.int (iz x4))] [] σ x := by
  obtain ⟨o1, h⟩ := h
  refine r_iinc (lv' := [some (.ref (eA E 4)), some (.ref (eA E 1)), some (.int (iz x2)), some (.int (iz x3)), some (.int (iz (x4 + 1)))]) (dc D_cX0_lift_1 14 rfl) rfl rfl rfl ?_
  refine r_goto (tgt := 6) (dc D_cX0_lift_1 15 rfl) (by decide) ?_
  exact hK6 _ _ _ _ rx2 rx3 o1 hs h
set_option maxRecDepth 100000 in
theorem TX0_lift_60 {E : EV} (hE : eOK layC E) {Φ : Int → PS → Prop} {K6 : Int → Int → Int → PS → Prop} (x : CX) (hK6 : ∀ (x2 x3 x4 : Int) (σ : PS), Rg x2 → Rg x3 → Rg x4 → RS σ → K6 x2 x3 x4 σ → RW layC E mi_X0_lift Φ 6 [some (.ref (eA E 4)), some (.ref (eA E 1)), some (.int (iz x2)), some (.int (iz x3)), some (.int (iz x4))] [] σ x) (x2 x3 x4 : Int) (rx2 : Rg x2) (rx3 : Rg x3) (rx4 : Rg x4) (σ : PS) (hs : RS σ) (h : LX0_lift_60 K6 x2 x3 x4 σ Φ) : RW layC E mi_X0_lift Φ 60 [some (.ref (eA E 4)), some (.ref (eA E 1)), some (.int (iz x2)), some (.int (iz x3)), some (.int (iz x4))] [] σ x := by
  refine r_aloadn (dc D_cX0_lift_0 33 rfl) rfl rfl ?_
  refine r_getR (dc D_cX0_lift_0 34 rfl) fw_RX0_98 lC_1 rfl ?_
  refine r_iload (dc D_cX0_lift_0 35 rfl) rfl ?_
  obtain ⟨o1, h⟩ := h
  refine r_iald (N := 30) (dc D_cX0_lift_0 36 rfl) lC_14 rfl rfl o1 ?_
  refine r_iloadn (dc D_cX0_lift_0 37 rfl) rfl rfl ?_
  refine r_icmp_ne (tgt := 98) (dc D_cX0_lift_0 38 rfl) (by decide) (hs _ _) rx2 (fun c2 => ?_) (fun c2 => ?_)
  · have h := h.1 c2
    exact TX0_lift_98 hE x hK6 _ _ _ rx2 rx3 rx4 _ hs h
  · have h := h.2 c2
    refine r_aloadn (dc D_cX0_lift_0 39 rfl) rfl rfl ?_
    refine r_getR (dc D_cX0_lift_1 0 rfl) fw_RX0_9 lC_4 rfl ?_
    refine r_iload (dc D_cX0_lift_1 1 rfl) rfl ?_
    obtain ⟨o3, h⟩ := h
    refine r_iald (N := 30) (dc D_cX0_lift_1 2 rfl) lC_32 rfl rfl o3 ?_
    refine r_if_le (tgt := 98) (dc D_cX0_lift_1 3 rfl) (by decide) (hs _ _) (fun c4 => ?_) (fun c4 => ?_)
    · have h := h.1 c4
      exact TX0_lift_98 hE x hK6 _ _ _ rx2 rx3 rx4 _ hs h
    · have h := h.2 c4
      refine r_iloadn (dc D_cX0_lift_1 4 rfl) rfl rfl ?_
      refine r_aloadn (dc D_cX0_lift_1 5 rfl) rfl rfl ?_
      refine r_getR (dc D_cX0_lift_1 6 rfl) fw_RX0_15 lC_4 rfl ?_
      refine r_aloadn (dc D_cX0_lift_1 7 rfl) rfl rfl ?_
      refine r_getR (dc D_cX0_lift_1 8 rfl) fw_RX0_73 lC_1 rfl ?_
      refine r_iload (dc D_cX0_lift_1 9 rfl) rfl ?_
      obtain ⟨o5, h⟩ := h
      refine r_iald (N := 30) (dc D_cX0_lift_1 10 rfl) lC_13 rfl rfl o5 ?_
      obtain ⟨o6, h⟩ := h
      refine r_iald (N := 12) (dc D_cX0_lift_1 11 rfl) lC_33 rfl rfl o6 ?_
      refine r_min (dc D_cX0_lift_1 12 rfl) mw_RX0_88 rx3 (hs _ _) (by decide) rfl ?_
      refine r_name (fun v7 ev7 => ?_)
      have h := h v7 ev7
      have rv7 : Rg v7 := Rg_eq ev7 (Rg_min rx3 (hs _ _))
      refine r_istoren (lv' := [some (.ref (eA E 4)), some (.ref (eA E 1)), some (.int (iz x2)), some (.int (iz v7)), some (.int (iz x4))]) (dc D_cX0_lift_1 13 rfl) rfl rfl rfl ?_
      exact TX0_lift_98 hE x hK6 _ _ _ rx2 rv7 rx4 _ hs h
set_option maxRecDepth 100000 in
theorem TBX0_lift_6 {E : EV} (hE : eOK layC E) {Φ : Int → PS → Prop} {K6 : Int → Int → Int → PS → Prop} (x : CX) (hK6 : ∀ (x2 x3 x4 : Int) (σ : PS), Rg x2 → Rg x3 → Rg x4 → RS σ → K6 x2 x3 x4 σ → RW layC E mi_X0_lift Φ 6 [some (.ref (eA E 4)), some (.ref (eA E 1)), some (.int (iz x2)), some (.int (iz x3)), some (.int (iz x4))] [] σ x) (x2 x3 x4 : Int) (rx2 : Rg x2) (rx3 : Rg x3) (rx4 : Rg x4) (σ : PS) (hs : RS σ) (h : BX0_lift_6 K6 x2 x3 x4 σ Φ) : RW layC E mi_X0_lift Φ 6 [some (.ref (eA E 4)), some (.ref (eA E 1)), some (.int (iz x2)), some (.int (iz x3)), some (.int (iz x4))] [] σ x := by
  refine r_iload (dc D_cX0_lift_0 4 rfl) rfl ?_
  refine r_aloadn (dc D_cX0_lift_0 5 rfl) rfl rfl ?_
  refine r_getI (dc D_cX0_lift_0 6 rfl) fw_RX0_70 lC_1 rfl ?_
  refine r_icmp_ge (tgt := 104) (dc D_cX0_lift_0 7 rfl) (by decide) rx4 (hs _ _) (fun c1 => ?_) (fun c1 => ?_)
  · have h := h.1 c1
    refine r_iloadn (dc D_cX0_lift_1 16 rfl) rfl rfl ?_
    refine r_ldc (n := (1000000000)) (dc D_cX0_lift_1 17 rfl) kw_RX0_101 ?_
    refine r_icmp_ne (tgt := 112) (dc D_cX0_lift_1 18 rfl) (by decide) rx3 (Rl rfl) (fun c2 => ?_) (fun c2 => ?_)
    · have h := h.1 c2
      refine r_aloadn (dc D_cX0_lift_1 21 rfl) rfl rfl ?_
      refine r_getR (dc D_cX0_lift_1 22 rfl) fw_RX0_15 lC_4 rfl ?_
      refine r_iloadn (dc D_cX0_lift_1 23 rfl) rfl rfl ?_
      refine r_iloadn (dc D_cX0_lift_1 24 rfl) rfl rfl ?_
      refine r_iconst (n := 1) (dc D_cX0_lift_1 25 rfl) ?_
      refine r_iadd (dc D_cX0_lift_1 26 rfl) ?_
      obtain ⟨o3, h⟩ := h
      obtain ⟨o4, h⟩ := h
      refine r_iast (N := 12) (dc D_cX0_lift_1 27 rfl) lC_33 rfl rfl o4 o3 ?_
      refine r_sig (fun σ5 eσ5 => ?_)
      have h := h σ5 eσ5
      have hσ5 : RS σ5 := RS_eq eσ5 (RS.up hs o3 _ _)
      refine r_aloadn (dc D_cX0_lift_1 28 rfl) rfl rfl ?_
      refine r_getR (dc D_cX0_lift_1 29 rfl) fw_RX0_18 lC_4 rfl ?_
      refine r_iloadn (dc D_cX0_lift_1 30 rfl) rfl rfl ?_
      refine r_dup2 (dc D_cX0_lift_1 31 rfl) rfl rfl ?_
      obtain ⟨o6, h⟩ := h
      refine r_iald (N := 12) (dc D_cX0_lift_1 32 rfl) lC_34 rfl rfl o6 ?_
      refine r_iconst (n := 1) (dc D_cX0_lift_1 33 rfl) ?_
      refine r_iadd (dc D_cX0_lift_1 34 rfl) ?_
      obtain ⟨o7, h⟩ := h
      obtain ⟨o8, h⟩ := h
      refine r_iast (N := 12) (dc D_cX0_lift_1 35 rfl) lC_34 rfl rfl o8 o7 ?_
      refine r_sig (fun σ9 eσ9 => ?_)
      have h := h σ9 eσ9
      have hσ9 : RS σ9 := RS_eq eσ9 (RS.up hσ5 o7 _ _)
      refine r_iconst (n := 1) (dc D_cX0_lift_1 36 rfl) ?_
      exact r_zret (dc D_cX0_lift_1 37 rfl) rfl (by decide) h
    · have h := h.2 c2
      refine r_iconst (n := 0) (dc D_cX0_lift_1 19 rfl) ?_
      exact r_zret (dc D_cX0_lift_1 20 rfl) rfl (by decide) h
  · have h := h.2 c1
    refine r_aloadn (dc D_cX0_lift_0 8 rfl) rfl rfl ?_
    refine r_getR (dc D_cX0_lift_0 9 rfl) fw_RX0_73 lC_1 rfl ?_
    refine r_iload (dc D_cX0_lift_0 10 rfl) rfl ?_
    obtain ⟨o10, h⟩ := h
    refine r_iald (N := 30) (dc D_cX0_lift_0 11 rfl) lC_13 rfl rfl o10 ?_
    refine r_iloadn (dc D_cX0_lift_0 12 rfl) rfl rfl ?_
    refine r_icmp_ne (tgt := 60) (dc D_cX0_lift_0 13 rfl) (by decide) (hs _ _) rx2 (fun c11 => ?_) (fun c11 => ?_)
    · have h := h.1 c11
      exact TX0_lift_60 hE x hK6 _ _ _ rx2 rx3 rx4 _ hs h
    · have h := h.2 c11
      refine r_aloadn (dc D_cX0_lift_0 14 rfl) rfl rfl ?_
      refine r_getR (dc D_cX0_lift_0 15 rfl) fw_RX0_9 lC_4 rfl ?_
      refine r_iload (dc D_cX0_lift_0 16 rfl) rfl ?_
      obtain ⟨o12, h⟩ := h
      refine r_iald (N := 30) (dc D_cX0_lift_0 17 rfl) lC_32 rfl rfl o12 ?_
      refine r_aloadn (dc D_cX0_lift_0 18 rfl) rfl rfl ?_
      refine r_getR (dc D_cX0_lift_0 19 rfl) fw_RX0_24 lC_4 rfl ?_
      refine r_iload (dc D_cX0_lift_0 20 rfl) rfl ?_
      obtain ⟨o13, h⟩ := h
      refine r_iald (N := 30) (dc D_cX0_lift_0 21 rfl) lC_36 rfl rfl o13 ?_
      refine r_icmp_ge (tgt := 60) (dc D_cX0_lift_0 22 rfl) (by decide) (hs _ _) (hs _ _) (fun c14 => ?_) (fun c14 => ?_)
      · have h := h.1 c14
        exact TX0_lift_60 hE x hK6 _ _ _ rx2 rx3 rx4 _ hs h
      · have h := h.2 c14
        refine r_iloadn (dc D_cX0_lift_0 23 rfl) rfl rfl ?_
        refine r_aloadn (dc D_cX0_lift_0 24 rfl) rfl rfl ?_
        refine r_getR (dc D_cX0_lift_0 25 rfl) fw_RX0_15 lC_4 rfl ?_
        refine r_aloadn (dc D_cX0_lift_0 26 rfl) rfl rfl ?_
        refine r_getR (dc D_cX0_lift_0 27 rfl) fw_RX0_98 lC_1 rfl ?_
        refine r_iload (dc D_cX0_lift_0 28 rfl) rfl ?_
        obtain ⟨o15, h⟩ := h
        refine r_iald (N := 30) (dc D_cX0_lift_0 29 rfl) lC_14 rfl rfl o15 ?_
        obtain ⟨o16, h⟩ := h
        refine r_iald (N := 12) (dc D_cX0_lift_0 30 rfl) lC_33 rfl rfl o16 ?_
        refine r_min (dc D_cX0_lift_0 31 rfl) mw_RX0_88 rx3 (hs _ _) (by decide) rfl ?_
        refine r_name (fun v17 ev17 => ?_)
        have h := h v17 ev17
        have rv17 : Rg v17 := Rg_eq ev17 (Rg_min rx3 (hs _ _))
        refine r_istoren (lv' := [some (.ref (eA E 4)), some (.ref (eA E 1)), some (.int (iz x2)), some (.int (iz v17)), some (.int (iz x4))]) (dc D_cX0_lift_0 32 rfl) rfl rfl rfl ?_
        exact TX0_lift_60 hE x hK6 _ _ _ rx2 rv17 rx4 _ hs h
theorem TX0_lift_6 {E : EV} (hE : eOK layC E) {Φ : Int → PS → Prop} (x : CX) (n : Nat) : ∀ (x2 x3 x4 : Int) (σ : PS), Rg x2 → Rg x3 → Rg x4 → RS σ → LX0_lift_6 n x2 x3 x4 σ Φ → RW layC E mi_X0_lift Φ 6 [some (.ref (eA E 4)), some (.ref (eA E 1)), some (.int (iz x2)), some (.int (iz x3)), some (.int (iz x4))] [] σ x := by
  induction n with
  | zero => intro x2 x3 x4 σ _ _ _ _ h; exact h.elim
  | succ n ih => intro x2 x3 x4 σ rx2 rx3 rx4 hs h; exact TBX0_lift_6 hE x ih x2 x3 x4 rx2 rx3 rx4 σ hs h
set_option maxRecDepth 100000 in
theorem CX0_lift {E : EV} (hE : eOK layC E) {Φ : Int → PS → Prop} (a2 : Int) (ra2 : Rg a2) (σ : PS) (hs : RS σ) (h : FX0_lift a2 σ Φ) : CT layC E yX0_lift mi_X0_lift [.ref (eA E 4), .ref (eA E 1), .int (iz a2)] σ Φ := by
  refine ct_of (by decide +kernel) rfl hE rfl rfl hs (fun x => ?_)
  show RW layC E mi_X0_lift Φ 0 [some (.ref (eA E 4)), some (.ref (eA E 1)), some (.int (iz a2)), none, none] [] σ x
  refine r_ldc (n := (1000000000)) (dc D_cX0_lift_0 0 rfl) kw_RX0_101 ?_
  refine r_istoren (lv' := [some (.ref (eA E 4)), some (.ref (eA E 1)), some (.int (iz a2)), some (.int (iz 1000000000)), none]) (dc D_cX0_lift_0 1 rfl) rfl rfl rfl ?_
  refine r_iconst (n := 0) (dc D_cX0_lift_0 2 rfl) ?_
  refine r_istore (lv' := [some (.ref (eA E 4)), some (.ref (eA E 1)), some (.int (iz a2)), some (.int (iz 1000000000)), some (.int (iz 0))]) (dc D_cX0_lift_0 3 rfl) rfl rfl ?_
  obtain ⟨n, h⟩ := h
  exact TX0_lift_6 hE x n _ _ _ _ ra2 (Rl rfl) (Rl rfl) hs h
-- end of GateFlow$ByHeights.lift
