def mi_X12_in : MI := (cX12_in, RX12, 3, 1, (some .boolean), 1)
def FX12_in (a1 a2 a3 : Int) (σ : PS) (Φ : Int → PS → Prop) : Prop :=
  ((a1 < a2 →
    Φ 0 σ) ∧
  (¬ a1 < a2 →
    ((a3 < a1 →
      Φ 0 σ) ∧
    (¬ a3 < a1 →
      Φ 1 σ))))
set_option maxRecDepth 100000 in
theorem CX12_in {E : EV} (hE : eOK layM E) {Φ : Int → PS → Prop} (a1 a2 a3 : Int) (ra1 : Rg a1) (ra2 : Rg a2) (ra3 : Rg a3) (σ : PS) (hs : RS σ) (h : FX12_in a1 a2 a3 σ Φ) : CT layM E yX12_in mi_X12_in [.int (iz a1), .int (iz a2), .int (iz a3)] σ Φ := by
  refine ct_of (by decide +kernel) rfl hE rfl rfl hs (fun x => ?_)
  show RW layM E mi_X12_in Φ 0 [some (.int (iz a1)), some (.int (iz a2)), some (.int (iz a3))] [] σ x
  refine r_iloadn (dc D_cX12_in_0 0 rfl) rfl rfl ?_
  refine r_iloadn (dc D_cX12_in_0 1 rfl) rfl rfl ?_
  refine r_icmp_lt (tgt := 14) (dc D_cX12_in_0 2 rfl) (by decide) ra1 ra2 (fun c1 => ?_) (fun c1 => ?_)
  · have h := h.1 c1
    refine r_iconst (n := 0) (dc D_cX12_in_0 8 rfl) ?_
    exact r_zret (dc D_cX12_in_0 9 rfl) rfl (by decide) h
  · have h := h.2 c1
    refine r_iloadn (dc D_cX12_in_0 3 rfl) rfl rfl ?_
    refine r_iloadn (dc D_cX12_in_0 4 rfl) rfl rfl ?_
    refine r_icmp_gt (tgt := 14) (dc D_cX12_in_0 5 rfl) (by decide) ra1 ra3 (fun c2 => ?_) (fun c2 => ?_)
    · have h := h.1 c2
      refine r_iconst (n := 0) (dc D_cX12_in_0 8 rfl) ?_
      exact r_zret (dc D_cX12_in_0 9 rfl) rfl (by decide) h
    · have h := h.2 c2
      refine r_iconst (n := 1) (dc D_cX12_in_0 6 rfl) ?_
      refine r_goto (tgt := 15) (dc D_cX12_in_0 7 rfl) (by decide) ?_
      exact r_zret (dc D_cX12_in_0 9 rfl) rfl (by decide) h
-- end of GateFlowModel.in
def mi_X12_isNode : MI := (cX12_isNode, RX12, 1, 2, (some .boolean), 1)
def FX12_isNode (a1 : Int) (σ : PS) (Φ : Int → PS → Prop) : Prop :=
  FX12_in a1 0 11 σ (fun z1 σ2 =>
  (z1 = 0 ∨ z1 = 1) ∧ Φ z1 σ2)
theorem cw_RX12_90 : CWS RX12 90 yX12_in mi_X12_in := tb_r [1345, 1346, 110, 1347] (by decide +kernel)
theorem nm_yX12_in : ynm yX12_in 3 := ⟨⟨by decide +kernel, by decide +kernel⟩, by decide +kernel⟩
set_option maxRecDepth 100000 in
theorem CX12_isNode {E : EV} (hE : eOK layM E) {Φ : Int → PS → Prop} (a1 : Int) (ra1 : Rg a1) (σ : PS) (hs : RS σ) (h : FX12_isNode a1 σ Φ) : CT layM E yX12_isNode mi_X12_isNode [.int (iz a1)] σ Φ := by
  refine ct_of (by decide +kernel) rfl hE rfl rfl hs (fun x => ?_)
  show RW layM E mi_X12_isNode Φ 0 [some (.int (iz a1))] [] σ x
  refine r_iloadn (dc D_cX12_isNode_0 0 rfl) rfl rfl ?_
  refine r_iconst (n := 0) (dc D_cX12_isNode_0 1 rfl) ?_
  refine r_bipush (n := 11) (dc D_cX12_isNode_0 2 rfl) (by decide +kernel) ?_
  refine r_callS (As := [.int (iz a1), .int (iz 0), .int (iz 11)]) (st := []) (dc D_cX12_isNode_0 3 rfl) cw_RX12_90 nm_yX12_in (CX12_in hE _ _ _ ra1 (Rl rfl) (Rl rfl) _ hs h) rfl (by decide) rfl rfl rfl (fun z1 σ2 rz1 hσ2 h => ?_)
  show RW layM E mi_X12_isNode Φ 7 [some (.int (iz a1))] [.int (iz z1)] σ2 x
  exact r_zret (dc D_cX12_isNode_0 4 rfl) rfl h.1 h.2
-- end of GateFlowModel.isNode
def mi_X12_sets : MI := (cX12_sets, RX12, 4, 1, none, 0)
def FX12_sets (a1 a2 a3 : Int) (σ : PS) (Φ : Int → PS → Prop) : Prop :=
  Rg (a1 * 6) ∧
  Rg (3 + (a1 * 6)) ∧
  Rg ((3 + (a1 * 6)) + a2) ∧
  (0 ≤ (3 + (a1 * 6)) + a2 ∧ (3 + (a1 * 6)) + a2 < 183) ∧
  ∀ σ5 : PS, σ5 = up2 σ 1 ((3 + (a1 * 6)) + a2).toNat a3 →
  Φ 0 σ5
theorem fw_RX12_9 : FW RX12 9 12 0 := ⟨RX12, TX12, 39, rfl, by decide, rfl, tb_1 1219 (by decide +kernel), uw_12⟩
set_option maxRecDepth 100000 in
theorem CX12_sets {E : EV} (hE : eOK layM E) {Φ : Int → PS → Prop} (a1 a2 a3 : Int) (ra1 : Rg a1) (ra2 : Rg a2) (ra3 : Rg a3) (σ : PS) (hs : RS σ) (h : FX12_sets a1 a2 a3 σ Φ) : CT layM E yX12_sets mi_X12_sets [.ref (eA E 0), .int (iz a1), .int (iz a2), .int (iz a3)] σ Φ := by
  refine ct_of (by decide +kernel) rfl hE rfl rfl hs (fun x => ?_)
  show RW layM E mi_X12_sets Φ 0 [some (.ref (eA E 0)), some (.int (iz a1)), some (.int (iz a2)), some (.int (iz a3))] [] σ x
  refine r_aloadn (dc D_cX12_sets_0 0 rfl) rfl rfl ?_
  refine r_getR (dc D_cX12_sets_0 1 rfl) fw_RX12_9 lM_0 rfl ?_
  refine r_iconst (n := 3) (dc D_cX12_sets_0 2 rfl) ?_
  refine r_iloadn (dc D_cX12_sets_0 3 rfl) rfl rfl ?_
  refine r_bipush (n := 6) (dc D_cX12_sets_0 4 rfl) (by decide +kernel) ?_
  refine r_imul (dc D_cX12_sets_0 5 rfl) ?_
  obtain ⟨o1, h⟩ := h
  refine r_iadd (dc D_cX12_sets_0 6 rfl) ?_
  obtain ⟨o2, h⟩ := h
  refine r_iloadn (dc D_cX12_sets_0 7 rfl) rfl rfl ?_
  refine r_iadd (dc D_cX12_sets_0 8 rfl) ?_
  obtain ⟨o3, h⟩ := h
  refine r_iloadn (dc D_cX12_sets_0 9 rfl) rfl rfl ?_
  obtain ⟨o4, h⟩ := h
  refine r_iast (N := 183) (dc D_cX12_sets_0 10 rfl) lM_1 rfl rfl o4 ra3 ?_
  refine r_sig (fun σ5 eσ5 => ?_)
  have h := h σ5 eσ5
  have hσ5 : RS σ5 := RS_eq eσ5 (RS.up hs ra3 _ _)
  exact r_vret (dc D_cX12_sets_0 11 rfl) rfl h
-- end of GateFlowModel.sets
def mi_X12_comes : MI := (cX12_comes, RX12, 8, 2, none, 0)
def FX12_comes (a1 a2 a3 a4 a5 a6 : Int) (σ : PS) (Φ : Int → PS → Prop) : Prop :=
  ∀ v1 : Int, v1 = σ 1 2 →
  Rg ((σ 1 2) + 1) ∧
  ∀ σ3 : PS, σ3 = up2 σ 1 2 ((σ 1 2) + 1) →
  FX12_sets v1 0 a1 σ3 (fun z4 σ5 =>
  FX12_sets v1 1 a2 σ5 (fun z6 σ7 =>
  FX12_sets v1 2 a3 σ7 (fun z8 σ9 =>
  FX12_sets v1 3 a4 σ9 (fun z10 σ11 =>
  FX12_sets v1 4 a5 σ11 (fun z12 σ13 =>
  FX12_sets v1 5 a6 σ13 (fun z14 σ15 =>
  Φ 0 σ15))))))
theorem cw_RX12_102 : CWV RX12 102 yX12_sets mi_X12_sets := tb_r [1352, 1354, 42, 110, 1355] (by decide +kernel)
theorem nm_yX12_sets : ynm yX12_sets 3 := ⟨⟨by decide +kernel, by decide +kernel⟩, by decide +kernel⟩
set_option maxRecDepth 100000 in
theorem CX12_comes {E : EV} (hE : eOK layM E) {Φ : Int → PS → Prop} (a1 a2 a3 a4 a5 a6 : Int) (ra1 : Rg a1) (ra2 : Rg a2) (ra3 : Rg a3) (ra4 : Rg a4) (ra5 : Rg a5) (ra6 : Rg a6) (σ : PS) (hs : RS σ) (h : FX12_comes a1 a2 a3 a4 a5 a6 σ Φ) : CT layM E yX12_comes mi_X12_comes [.ref (eA E 0), .int (iz a1), .int (iz a2), .int (iz a3), .int (iz a4), .int (iz a5), .int (iz a6)] σ Φ := by
  refine ct_of (by decide +kernel) rfl hE rfl rfl hs (fun x => ?_)
  show RW layM E mi_X12_comes Φ 0 [some (.ref (eA E 0)), some (.int (iz a1)), some (.int (iz a2)), some (.int (iz a3)), some (.int (iz a4)), some (.int (iz a5)), some (.int (iz a6)), none] [] σ x
  refine r_aloadn (dc D_cX12_comes_0 0 rfl) rfl rfl ?_
  refine r_getR (dc D_cX12_comes_0 1 rfl) fw_RX12_9 lM_0 rfl ?_
  refine r_iconst (n := 2) (dc D_cX12_comes_0 2 rfl) ?_
  refine r_iald (N := 183) (dc D_cX12_comes_0 3 rfl) lM_1 rfl rfl ⟨by decide, by decide⟩ ?_
  refine r_name (fun v1 ev1 => ?_)
  have h := h v1 ev1
  have rv1 : Rg v1 := Rg_eq ev1 (hs _ _)
  refine r_istore (lv' := [some (.ref (eA E 0)), some (.int (iz a1)), some (.int (iz a2)), some (.int (iz a3)), some (.int (iz a4)), some (.int (iz a5)), some (.int (iz a6)), some (.int (iz v1))]) (dc D_cX12_comes_0 4 rfl) rfl rfl ?_
  refine r_aloadn (dc D_cX12_comes_0 5 rfl) rfl rfl ?_
  refine r_getR (dc D_cX12_comes_0 6 rfl) fw_RX12_9 lM_0 rfl ?_
  refine r_iconst (n := 2) (dc D_cX12_comes_0 7 rfl) ?_
  refine r_dup2 (dc D_cX12_comes_0 8 rfl) rfl rfl ?_
  refine r_iald (N := 183) (dc D_cX12_comes_0 9 rfl) lM_1 rfl rfl ⟨by decide, by decide⟩ ?_
  refine r_iconst (n := 1) (dc D_cX12_comes_0 10 rfl) ?_
  refine r_iadd (dc D_cX12_comes_0 11 rfl) ?_
  obtain ⟨o2, h⟩ := h
  refine r_iast (N := 183) (dc D_cX12_comes_0 12 rfl) lM_1 rfl rfl ⟨by decide, by decide⟩ o2 ?_
  refine r_sig (fun σ3 eσ3 => ?_)
  have h := h σ3 eσ3
  have hσ3 : RS σ3 := RS_eq eσ3 (RS.up hs o2 _ _)
  refine r_aloadn (dc D_cX12_comes_0 13 rfl) rfl rfl ?_
  refine r_iload (dc D_cX12_comes_0 14 rfl) rfl ?_
  refine r_iconst (n := 0) (dc D_cX12_comes_0 15 rfl) ?_
  refine r_iloadn (dc D_cX12_comes_0 16 rfl) rfl rfl ?_
  refine r_callV (As := [.int (iz v1), .int (iz 0), .int (iz a1)]) (st := []) (dc D_cX12_comes_0 17 rfl) cw_RX12_102 nm_yX12_sets (CX12_sets hE _ _ _ rv1 (Rl rfl) ra1 _ hσ3 h) lM_0 rfl rfl (by decide) rfl rfl rfl (fun z4 σ5 rz4 hσ5 h => ?_)
  show RW layM E mi_X12_comes Φ 26 [some (.ref (eA E 0)), some (.int (iz a1)), some (.int (iz a2)), some (.int (iz a3)), some (.int (iz a4)), some (.int (iz a5)), some (.int (iz a6)), some (.int (iz v1))] [] σ5 x
  refine r_aloadn (dc D_cX12_comes_0 18 rfl) rfl rfl ?_
  refine r_iload (dc D_cX12_comes_0 19 rfl) rfl ?_
  refine r_iconst (n := 1) (dc D_cX12_comes_0 20 rfl) ?_
  refine r_iloadn (dc D_cX12_comes_0 21 rfl) rfl rfl ?_
  refine r_callV (As := [.int (iz v1), .int (iz 1), .int (iz a2)]) (st := []) (dc D_cX12_comes_0 22 rfl) cw_RX12_102 nm_yX12_sets (CX12_sets hE _ _ _ rv1 (Rl rfl) ra2 _ hσ5 h) lM_0 rfl rfl (by decide) rfl rfl rfl (fun z6 σ7 rz6 hσ7 h => ?_)
  show RW layM E mi_X12_comes Φ 34 [some (.ref (eA E 0)), some (.int (iz a1)), some (.int (iz a2)), some (.int (iz a3)), some (.int (iz a4)), some (.int (iz a5)), some (.int (iz a6)), some (.int (iz v1))] [] σ7 x
  refine r_aloadn (dc D_cX12_comes_0 23 rfl) rfl rfl ?_
  refine r_iload (dc D_cX12_comes_0 24 rfl) rfl ?_
  refine r_iconst (n := 2) (dc D_cX12_comes_0 25 rfl) ?_
  refine r_iloadn (dc D_cX12_comes_0 26 rfl) rfl rfl ?_
  refine r_callV (As := [.int (iz v1), .int (iz 2), .int (iz a3)]) (st := []) (dc D_cX12_comes_0 27 rfl) cw_RX12_102 nm_yX12_sets (CX12_sets hE _ _ _ rv1 (Rl rfl) ra3 _ hσ7 h) lM_0 rfl rfl (by decide) rfl rfl rfl (fun z8 σ9 rz8 hσ9 h => ?_)
  show RW layM E mi_X12_comes Φ 42 [some (.ref (eA E 0)), some (.int (iz a1)), some (.int (iz a2)), some (.int (iz a3)), some (.int (iz a4)), some (.int (iz a5)), some (.int (iz a6)), some (.int (iz v1))] [] σ9 x
  refine r_aloadn (dc D_cX12_comes_0 28 rfl) rfl rfl ?_
  refine r_iload (dc D_cX12_comes_0 29 rfl) rfl ?_
  refine r_iconst (n := 3) (dc D_cX12_comes_0 30 rfl) ?_
  refine r_iload (dc D_cX12_comes_0 31 rfl) rfl ?_
  refine r_callV (As := [.int (iz v1), .int (iz 3), .int (iz a4)]) (st := []) (dc D_cX12_comes_0 32 rfl) cw_RX12_102 nm_yX12_sets (CX12_sets hE _ _ _ rv1 (Rl rfl) ra4 _ hσ9 h) lM_0 rfl rfl (by decide) rfl rfl rfl (fun z10 σ11 rz10 hσ11 h => ?_)
  show RW layM E mi_X12_comes Φ 51 [some (.ref (eA E 0)), some (.int (iz a1)), some (.int (iz a2)), some (.int (iz a3)), some (.int (iz a4)), some (.int (iz a5)), some (.int (iz a6)), some (.int (iz v1))] [] σ11 x
  refine r_aloadn (dc D_cX12_comes_0 33 rfl) rfl rfl ?_
  refine r_iload (dc D_cX12_comes_0 34 rfl) rfl ?_
  refine r_iconst (n := 4) (dc D_cX12_comes_0 35 rfl) ?_
  refine r_iload (dc D_cX12_comes_0 36 rfl) rfl ?_
  refine r_callV (As := [.int (iz v1), .int (iz 4), .int (iz a5)]) (st := []) (dc D_cX12_comes_0 37 rfl) cw_RX12_102 nm_yX12_sets (CX12_sets hE _ _ _ rv1 (Rl rfl) ra5 _ hσ11 h) lM_0 rfl rfl (by decide) rfl rfl rfl (fun z12 σ13 rz12 hσ13 h => ?_)
  show RW layM E mi_X12_comes Φ 60 [some (.ref (eA E 0)), some (.int (iz a1)), some (.int (iz a2)), some (.int (iz a3)), some (.int (iz a4)), some (.int (iz a5)), some (.int (iz a6)), some (.int (iz v1))] [] σ13 x
  refine r_aloadn (dc D_cX12_comes_0 38 rfl) rfl rfl ?_
  refine r_iload (dc D_cX12_comes_0 39 rfl) rfl ?_
  refine r_iconst (n := 5) (dc D_cX12_comes_1 0 rfl) ?_
  refine r_iload (dc D_cX12_comes_1 1 rfl) rfl ?_
  refine r_callV (As := [.int (iz v1), .int (iz 5), .int (iz a6)]) (st := []) (dc D_cX12_comes_1 2 rfl) cw_RX12_102 nm_yX12_sets (CX12_sets hE _ _ _ rv1 (Rl rfl) ra6 _ hσ13 h) lM_0 rfl rfl (by decide) rfl rfl rfl (fun z14 σ15 rz14 hσ15 h => ?_)
  show RW layM E mi_X12_comes Φ 69 [some (.ref (eA E 0)), some (.int (iz a1)), some (.int (iz a2)), some (.int (iz a3)), some (.int (iz a4)), some (.int (iz a5)), some (.int (iz a6)), some (.int (iz v1))] [] σ15 x
  exact r_vret (dc D_cX12_comes_1 3 rfl) rfl h
-- end of GateFlowModel.comes
def mi_X12_gate : MI := (cX12_gate, RX12, 6, 3, (some .int), 1)
def FX12_gate (a1 a2 a3 a4 a5 : Int) (σ : PS) (Φ : Int → PS → Prop) : Prop :=
  FX12_isNode a1 σ (fun z1 σ2 =>
  ((z1 = 0 →
    Φ (-1) σ2) ∧
  (¬ z1 = 0 →
    FX12_isNode a2 σ2 (fun z4 σ5 =>
    ((z4 = 0 →
      Φ (-1) σ5) ∧
    (¬ z4 = 0 →
      ((¬ a1 = a2 →
        FX12_in a4 0 999 σ5 (fun z8 σ9 =>
        ((z8 = 0 →
          Φ (-2) σ9) ∧
        (¬ z8 = 0 →
          FX12_in a3 0 a4 σ9 (fun z11 σ12 =>
          ((z11 = 0 →
            Φ (-2) σ12) ∧
          (¬ z11 = 0 →
            FX12_in a5 1 3 σ12 (fun z14 σ15 =>
            ((¬ z14 = 0 →
              ((¬ σ15 1 2 = 30 →
                FX12_comes a1 a2 a3 a4 a5 1 σ15 (fun z18 σ19 =>
                Rg ((σ19 1 2) - 1) ∧
                Φ ((σ19 1 2) - 1) σ19)) ∧
              (σ15 1 2 = 30 →
                Φ (-4) σ15))) ∧
            (z14 = 0 →
              Φ (-2) σ15)))))))))) ∧
      (a1 = a2 →
        Φ (-1) σ5))))))))
theorem cw_RX12_106 : CWS RX12 106 yX12_isNode mi_X12_isNode := tb_r [1342, 1343, 110, 1344] (by decide +kernel)
theorem nm_yX12_isNode : ynm yX12_isNode 1 := ⟨⟨by decide +kernel, by decide +kernel⟩, by decide +kernel⟩
theorem cw_RX12_109 : CWV RX12 109 yX12_comes mi_X12_comes := tb_r [1348, 1350, 41, 110, 1351] (by decide +kernel)
theorem nm_yX12_comes : ynm yX12_comes 6 := ⟨⟨by decide +kernel, by decide +kernel⟩, by decide +kernel⟩
set_option maxRecDepth 100000 in
theorem CX12_gate {E : EV} (hE : eOK layM E) {Φ : Int → PS → Prop} (a1 a2 a3 a4 a5 : Int) (ra1 : Rg a1) (ra2 : Rg a2) (ra3 : Rg a3) (ra4 : Rg a4) (ra5 : Rg a5) (σ : PS) (hs : RS σ) (h : FX12_gate a1 a2 a3 a4 a5 σ Φ) : CT layM E yX12_gate mi_X12_gate [.ref (eA E 0), .int (iz a1), .int (iz a2), .int (iz a3), .int (iz a4), .int (iz a5)] σ Φ := by
  refine ct_of (by decide +kernel) rfl hE rfl rfl hs (fun x => ?_)
  show RW layM E mi_X12_gate Φ 0 [some (.ref (eA E 0)), some (.int (iz a1)), some (.int (iz a2)), some (.int (iz a3)), some (.int (iz a4)), some (.int (iz a5))] [] σ x
  refine r_iloadn (dc D_cX12_gate_0 0 rfl) rfl rfl ?_
  refine r_callS (As := [.int (iz a1)]) (st := []) (dc D_cX12_gate_0 1 rfl) cw_RX12_106 nm_yX12_isNode (CX12_isNode hE _ ra1 _ hs h) rfl (by decide) rfl rfl rfl (fun z1 σ2 rz1 hσ2 h => ?_)
  show RW layM E mi_X12_gate Φ 4 [some (.ref (eA E 0)), some (.int (iz a1)), some (.int (iz a2)), some (.int (iz a3)), some (.int (iz a4)), some (.int (iz a5))] [.int (iz z1)] σ2 x
  refine r_if_eq (tgt := 19) (dc D_cX12_gate_0 2 rfl) (by decide) rz1 (fun c3 => ?_) (fun c3 => ?_)
  · have h := h.1 c3
    refine r_iconst (n := (-1)) (dc D_cX12_gate_0 9 rfl) ?_
    exact r_iret (dc D_cX12_gate_0 10 rfl) rfl (Rl rfl) h
  · have h := h.2 c3
    refine r_iloadn (dc D_cX12_gate_0 3 rfl) rfl rfl ?_
    refine r_callS (As := [.int (iz a2)]) (st := []) (dc D_cX12_gate_0 4 rfl) cw_RX12_106 nm_yX12_isNode (CX12_isNode hE _ ra2 _ hσ2 h) rfl (by decide) rfl rfl rfl (fun z4 σ5 rz4 hσ5 h => ?_)
    show RW layM E mi_X12_gate Φ 11 [some (.ref (eA E 0)), some (.int (iz a1)), some (.int (iz a2)), some (.int (iz a3)), some (.int (iz a4)), some (.int (iz a5))] [.int (iz z4)] σ5 x
    refine r_if_eq (tgt := 19) (dc D_cX12_gate_0 5 rfl) (by decide) rz4 (fun c6 => ?_) (fun c6 => ?_)
    · have h := h.1 c6
      refine r_iconst (n := (-1)) (dc D_cX12_gate_0 9 rfl) ?_
      exact r_iret (dc D_cX12_gate_0 10 rfl) rfl (Rl rfl) h
    · have h := h.2 c6
      refine r_iloadn (dc D_cX12_gate_0 6 rfl) rfl rfl ?_
      refine r_iloadn (dc D_cX12_gate_0 7 rfl) rfl rfl ?_
      refine r_icmp_ne (tgt := 21) (dc D_cX12_gate_0 8 rfl) (by decide) ra1 ra2 (fun c7 => ?_) (fun c7 => ?_)
      · have h := h.1 c7
        refine r_iload (dc D_cX12_gate_0 11 rfl) rfl ?_
        refine r_iconst (n := 0) (dc D_cX12_gate_0 12 rfl) ?_
        refine r_sipush (n := 999) (dc D_cX12_gate_0 13 rfl) (by decide +kernel) ?_
        refine r_callS (As := [.int (iz a4), .int (iz 0), .int (iz 999)]) (st := []) (dc D_cX12_gate_0 14 rfl) cw_RX12_90 nm_yX12_in (CX12_in hE _ _ _ ra4 (Rl rfl) (Rl rfl) _ hσ5 h) rfl (by decide) rfl rfl rfl (fun z8 σ9 rz8 hσ9 h => ?_)
        show RW layM E mi_X12_gate Φ 30 [some (.ref (eA E 0)), some (.int (iz a1)), some (.int (iz a2)), some (.int (iz a3)), some (.int (iz a4)), some (.int (iz a5))] [.int (iz z8)] σ9 x
        refine r_if_eq (tgt := 53) (dc D_cX12_gate_0 15 rfl) (by decide) rz8 (fun c10 => ?_) (fun c10 => ?_)
        · have h := h.1 c10
          refine r_bipush (n := (-2)) (dc D_cX12_gate_0 26 rfl) (by decide +kernel) ?_
          exact r_iret (dc D_cX12_gate_0 27 rfl) rfl (Rl rfl) h
        · have h := h.2 c10
          refine r_iloadn (dc D_cX12_gate_0 16 rfl) rfl rfl ?_
          refine r_iconst (n := 0) (dc D_cX12_gate_0 17 rfl) ?_
          refine r_iload (dc D_cX12_gate_0 18 rfl) rfl ?_
          refine r_callS (As := [.int (iz a3), .int (iz 0), .int (iz a4)]) (st := []) (dc D_cX12_gate_0 19 rfl) cw_RX12_90 nm_yX12_in (CX12_in hE _ _ _ ra3 (Rl rfl) ra4 _ hσ9 h) rfl (by decide) rfl rfl rfl (fun z11 σ12 rz11 hσ12 h => ?_)
          show RW layM E mi_X12_gate Φ 40 [some (.ref (eA E 0)), some (.int (iz a1)), some (.int (iz a2)), some (.int (iz a3)), some (.int (iz a4)), some (.int (iz a5))] [.int (iz z11)] σ12 x
          refine r_if_eq (tgt := 53) (dc D_cX12_gate_0 20 rfl) (by decide) rz11 (fun c13 => ?_) (fun c13 => ?_)
          · have h := h.1 c13
            refine r_bipush (n := (-2)) (dc D_cX12_gate_0 26 rfl) (by decide +kernel) ?_
            exact r_iret (dc D_cX12_gate_0 27 rfl) rfl (Rl rfl) h
          · have h := h.2 c13
            refine r_iload (dc D_cX12_gate_0 21 rfl) rfl ?_
            refine r_iconst (n := 1) (dc D_cX12_gate_0 22 rfl) ?_
            refine r_iconst (n := 3) (dc D_cX12_gate_0 23 rfl) ?_
            refine r_callS (As := [.int (iz a5), .int (iz 1), .int (iz 3)]) (st := []) (dc D_cX12_gate_0 24 rfl) cw_RX12_90 nm_yX12_in (CX12_in hE _ _ _ ra5 (Rl rfl) (Rl rfl) _ hσ12 h) rfl (by decide) rfl rfl rfl (fun z14 σ15 rz14 hσ15 h => ?_)
            show RW layM E mi_X12_gate Φ 50 [some (.ref (eA E 0)), some (.int (iz a1)), some (.int (iz a2)), some (.int (iz a3)), some (.int (iz a4)), some (.int (iz a5))] [.int (iz z14)] σ15 x
            refine r_if_ne (tgt := 56) (dc D_cX12_gate_0 25 rfl) (by decide) rz14 (fun c16 => ?_) (fun c16 => ?_)
            · have h := h.1 c16
              refine r_aloadn (dc D_cX12_gate_0 28 rfl) rfl rfl ?_
              refine r_getR (dc D_cX12_gate_0 29 rfl) fw_RX12_9 lM_0 rfl ?_
              refine r_iconst (n := 2) (dc D_cX12_gate_0 30 rfl) ?_
              refine r_iald (N := 183) (dc D_cX12_gate_0 31 rfl) lM_1 rfl rfl ⟨by decide, by decide⟩ ?_
              refine r_bipush (n := 30) (dc D_cX12_gate_0 32 rfl) (by decide +kernel) ?_
              refine r_icmp_ne (tgt := 70) (dc D_cX12_gate_0 33 rfl) (by decide) (hσ15 _ _) (Rl rfl) (fun c17 => ?_) (fun c17 => ?_)
              · have h := h.1 c17
                refine r_aloadn (dc D_cX12_gate_0 36 rfl) rfl rfl ?_
                refine r_iloadn (dc D_cX12_gate_0 37 rfl) rfl rfl ?_
                refine r_iloadn (dc D_cX12_gate_0 38 rfl) rfl rfl ?_
                refine r_iloadn (dc D_cX12_gate_0 39 rfl) rfl rfl ?_
                refine r_iload (dc D_cX12_gate_1 0 rfl) rfl ?_
                refine r_iload (dc D_cX12_gate_1 1 rfl) rfl ?_
                refine r_iconst (n := 1) (dc D_cX12_gate_1 2 rfl) ?_
                refine r_callV (As := [.int (iz a1), .int (iz a2), .int (iz a3), .int (iz a4), .int (iz a5), .int (iz 1)]) (st := []) (dc D_cX12_gate_1 3 rfl) cw_RX12_109 nm_yX12_comes (CX12_comes hE _ _ _ _ _ _ ra1 ra2 ra3 ra4 ra5 (Rl rfl) _ hσ15 h) lM_0 rfl rfl (by decide) rfl rfl rfl (fun z18 σ19 rz18 hσ19 h => ?_)
                show RW layM E mi_X12_gate Φ 82 [some (.ref (eA E 0)), some (.int (iz a1)), some (.int (iz a2)), some (.int (iz a3)), some (.int (iz a4)), some (.int (iz a5))] [] σ19 x
                refine r_aloadn (dc D_cX12_gate_1 4 rfl) rfl rfl ?_
                refine r_getR (dc D_cX12_gate_1 5 rfl) fw_RX12_9 lM_0 rfl ?_
                refine r_iconst (n := 2) (dc D_cX12_gate_1 6 rfl) ?_
                refine r_iald (N := 183) (dc D_cX12_gate_1 7 rfl) lM_1 rfl rfl ⟨by decide, by decide⟩ ?_
                refine r_iconst (n := 1) (dc D_cX12_gate_1 8 rfl) ?_
                refine r_isub (dc D_cX12_gate_1 9 rfl) ?_
                obtain ⟨o20, h⟩ := h
                exact r_iret (dc D_cX12_gate_1 10 rfl) rfl o20 h
              · have h := h.2 c17
                refine r_bipush (n := (-4)) (dc D_cX12_gate_0 34 rfl) (by decide +kernel) ?_
                exact r_iret (dc D_cX12_gate_0 35 rfl) rfl (Rl rfl) h
            · have h := h.2 c16
              refine r_bipush (n := (-2)) (dc D_cX12_gate_0 26 rfl) (by decide +kernel) ?_
              exact r_iret (dc D_cX12_gate_0 27 rfl) rfl (Rl rfl) h
      · have h := h.2 c7
        refine r_iconst (n := (-1)) (dc D_cX12_gate_0 9 rfl) ?_
        exact r_iret (dc D_cX12_gate_0 10 rfl) rfl (Rl rfl) h
-- end of GateFlowModel.gate
def mi_X12_isGate : MI := (cX12_isGate, RX12, 2, 2, (some .boolean), 1)
def FX12_isGate (a1 : Int) (σ : PS) (Φ : Int → PS → Prop) : Prop :=
  Rg ((σ 1 2) - 1) ∧
  FX12_in a1 0 ((σ 1 2) - 1) σ (fun z2 σ3 =>
  (z2 = 0 ∨ z2 = 1) ∧ Φ z2 σ3)
set_option maxRecDepth 100000 in
theorem CX12_isGate {E : EV} (hE : eOK layM E) {Φ : Int → PS → Prop} (a1 : Int) (ra1 : Rg a1) (σ : PS) (hs : RS σ) (h : FX12_isGate a1 σ Φ) : CT layM E yX12_isGate mi_X12_isGate [.ref (eA E 0), .int (iz a1)] σ Φ := by
  refine ct_of (by decide +kernel) rfl hE rfl rfl hs (fun x => ?_)
  show RW layM E mi_X12_isGate Φ 0 [some (.ref (eA E 0)), some (.int (iz a1))] [] σ x
  refine r_iloadn (dc D_cX12_isGate_0 0 rfl) rfl rfl ?_
  refine r_iconst (n := 0) (dc D_cX12_isGate_0 1 rfl) ?_
  refine r_aloadn (dc D_cX12_isGate_0 2 rfl) rfl rfl ?_
  refine r_getR (dc D_cX12_isGate_0 3 rfl) fw_RX12_9 lM_0 rfl ?_
  refine r_iconst (n := 2) (dc D_cX12_isGate_0 4 rfl) ?_
  refine r_iald (N := 183) (dc D_cX12_isGate_0 5 rfl) lM_1 rfl rfl ⟨by decide, by decide⟩ ?_
  refine r_iconst (n := 1) (dc D_cX12_isGate_0 6 rfl) ?_
  refine r_isub (dc D_cX12_isGate_0 7 rfl) ?_
  obtain ⟨o1, h⟩ := h
  refine r_callS (As := [.int (iz a1), .int (iz 0), .int (iz ((σ 1 2) - 1))]) (st := []) (dc D_cX12_isGate_0 8 rfl) cw_RX12_90 nm_yX12_in (CX12_in hE _ _ _ ra1 (Rl rfl) o1 _ hs h) rfl (by decide) rfl rfl rfl (fun z2 σ3 rz2 hσ3 h => ?_)
  show RW layM E mi_X12_isGate Φ 13 [some (.ref (eA E 0)), some (.int (iz a1))] [.int (iz z2)] σ3 x
  exact r_zret (dc D_cX12_isGate_0 9 rfl) rfl h.1 h.2
-- end of GateFlowModel.isGate
def mi_X12_at : MI := (cX12_at, RX12, 3, 1, (some .int), 1)
def FX12_at (a1 a2 : Int) (σ : PS) (Φ : Int → PS → Prop) : Prop :=
  Rg (a1 * 6) ∧
  Rg (3 + (a1 * 6)) ∧
  Rg ((3 + (a1 * 6)) + a2) ∧
  (0 ≤ (3 + (a1 * 6)) + a2 ∧ (3 + (a1 * 6)) + a2 < 183) ∧
  Φ (σ 1 ((3 + (a1 * 6)) + a2).toNat) σ
set_option maxRecDepth 100000 in
theorem CX12_at {E : EV} (hE : eOK layM E) {Φ : Int → PS → Prop} (a1 a2 : Int) (ra1 : Rg a1) (ra2 : Rg a2) (σ : PS) (hs : RS σ) (h : FX12_at a1 a2 σ Φ) : CT layM E yX12_at mi_X12_at [.ref (eA E 0), .int (iz a1), .int (iz a2)] σ Φ := by
  refine ct_of (by decide +kernel) rfl hE rfl rfl hs (fun x => ?_)
  show RW layM E mi_X12_at Φ 0 [some (.ref (eA E 0)), some (.int (iz a1)), some (.int (iz a2))] [] σ x
  refine r_aloadn (dc D_cX12_at_0 0 rfl) rfl rfl ?_
  refine r_getR (dc D_cX12_at_0 1 rfl) fw_RX12_9 lM_0 rfl ?_
  refine r_iconst (n := 3) (dc D_cX12_at_0 2 rfl) ?_
  refine r_iloadn (dc D_cX12_at_0 3 rfl) rfl rfl ?_
  refine r_bipush (n := 6) (dc D_cX12_at_0 4 rfl) (by decide +kernel) ?_
  refine r_imul (dc D_cX12_at_0 5 rfl) ?_
  obtain ⟨o1, h⟩ := h
  refine r_iadd (dc D_cX12_at_0 6 rfl) ?_
  obtain ⟨o2, h⟩ := h
  refine r_iloadn (dc D_cX12_at_0 7 rfl) rfl rfl ?_
  refine r_iadd (dc D_cX12_at_0 8 rfl) ?_
  obtain ⟨o3, h⟩ := h
  obtain ⟨o4, h⟩ := h
  refine r_iald (N := 183) (dc D_cX12_at_0 9 rfl) lM_1 rfl rfl o4 ?_
  exact r_iret (dc D_cX12_at_0 10 rfl) rfl (hs _ _) h
-- end of GateFlowModel.at
def mi_X12_of : MI := (cX12_of, RX12, 3, 3, (some .int), 1)
def FX12_of (a1 a2 : Int) (σ : PS) (Φ : Int → PS → Prop) : Prop :=
  FX12_isGate a1 σ (fun z1 σ2 =>
  ((z1 = 0 →
    Φ (-1) σ2) ∧
  (¬ z1 = 0 →
    FX12_in a2 0 5 σ2 (fun z4 σ5 =>
    ((z4 = 0 →
      Φ (-1) σ5) ∧
    (¬ z4 = 0 →
      FX12_at a1 a2 σ5 (fun z7 σ8 =>
      Φ z7 σ8)))))))
theorem cw_RX12_113 : CWV RX12 113 yX12_isGate mi_X12_isGate := tb_r [1360, 1362, 43, 110, 1363] (by decide +kernel)
theorem nm_yX12_isGate : ynm yX12_isGate 1 := ⟨⟨by decide +kernel, by decide +kernel⟩, by decide +kernel⟩
theorem cw_RX12_94 : CWV RX12 94 yX12_at mi_X12_at := tb_r [1364, 1366, 44, 110, 1367] (by decide +kernel)
theorem nm_yX12_at : ynm yX12_at 2 := ⟨⟨by decide +kernel, by decide +kernel⟩, by decide +kernel⟩
set_option maxRecDepth 100000 in
theorem CX12_of {E : EV} (hE : eOK layM E) {Φ : Int → PS → Prop} (a1 a2 : Int) (ra1 : Rg a1) (ra2 : Rg a2) (σ : PS) (hs : RS σ) (h : FX12_of a1 a2 σ Φ) : CT layM E yX12_of mi_X12_of [.ref (eA E 0), .int (iz a1), .int (iz a2)] σ Φ := by
  refine ct_of (by decide +kernel) rfl hE rfl rfl hs (fun x => ?_)
  show RW layM E mi_X12_of Φ 0 [some (.ref (eA E 0)), some (.int (iz a1)), some (.int (iz a2))] [] σ x
  refine r_aloadn (dc D_cX12_of_0 0 rfl) rfl rfl ?_
  refine r_iloadn (dc D_cX12_of_0 1 rfl) rfl rfl ?_
  refine r_callV (As := [.int (iz a1)]) (st := []) (dc D_cX12_of_0 2 rfl) cw_RX12_113 nm_yX12_isGate (CX12_isGate hE _ ra1 _ hs h) lM_0 rfl rfl (by decide) rfl rfl rfl (fun z1 σ2 rz1 hσ2 h => ?_)
  show RW layM E mi_X12_of Φ 5 [some (.ref (eA E 0)), some (.int (iz a1)), some (.int (iz a2))] [.int (iz z1)] σ2 x
  refine r_if_eq (tgt := 26) (dc D_cX12_of_0 3 rfl) (by decide) rz1 (fun c3 => ?_) (fun c3 => ?_)
  · have h := h.1 c3
    refine r_iconst (n := (-1)) (dc D_cX12_of_0 14 rfl) ?_
    exact r_iret (dc D_cX12_of_0 15 rfl) rfl (Rl rfl) h
  · have h := h.2 c3
    refine r_iloadn (dc D_cX12_of_0 4 rfl) rfl rfl ?_
    refine r_iconst (n := 0) (dc D_cX12_of_0 5 rfl) ?_
    refine r_iconst (n := 5) (dc D_cX12_of_0 6 rfl) ?_
    refine r_callS (As := [.int (iz a2), .int (iz 0), .int (iz 5)]) (st := []) (dc D_cX12_of_0 7 rfl) cw_RX12_90 nm_yX12_in (CX12_in hE _ _ _ ra2 (Rl rfl) (Rl rfl) _ hσ2 h) rfl (by decide) rfl rfl rfl (fun z4 σ5 rz4 hσ5 h => ?_)
    show RW layM E mi_X12_of Φ 14 [some (.ref (eA E 0)), some (.int (iz a1)), some (.int (iz a2))] [.int (iz z4)] σ5 x
    refine r_if_eq (tgt := 26) (dc D_cX12_of_0 8 rfl) (by decide) rz4 (fun c6 => ?_) (fun c6 => ?_)
    · have h := h.1 c6
      refine r_iconst (n := (-1)) (dc D_cX12_of_0 14 rfl) ?_
      exact r_iret (dc D_cX12_of_0 15 rfl) rfl (Rl rfl) h
    · have h := h.2 c6
      refine r_aloadn (dc D_cX12_of_0 9 rfl) rfl rfl ?_
      refine r_iloadn (dc D_cX12_of_0 10 rfl) rfl rfl ?_
      refine r_iloadn (dc D_cX12_of_0 11 rfl) rfl rfl ?_
      refine r_callV (As := [.int (iz a1), .int (iz a2)]) (st := []) (dc D_cX12_of_0 12 rfl) cw_RX12_94 nm_yX12_at (CX12_at hE _ _ ra1 ra2 _ hσ5 h) lM_0 rfl rfl (by decide) rfl rfl rfl (fun z7 σ8 rz7 hσ8 h => ?_)
      show RW layM E mi_X12_of Φ 23 [some (.ref (eA E 0)), some (.int (iz a1)), some (.int (iz a2))] [.int (iz z7)] σ8 x
      refine r_goto (tgt := 27) (dc D_cX12_of_0 13 rfl) (by decide) ?_
      exact r_iret (dc D_cX12_of_0 15 rfl) rfl rz7 h
-- end of GateFlowModel.of
def mi_X12_becomes : MI := (cX12_becomes, RX12, 5, 2, (some .int), 1)
def FX12_becomes (a1 a2 a3 : Int) (σ : PS) (Φ : Int → PS → Prop) : Prop :=
  FX12_at a1 a2 σ (fun z1 σ2 =>
  FX12_sets a1 a2 a3 σ2 (fun z3 σ4 =>
  Φ z1 σ4))
set_option maxRecDepth 100000 in
theorem CX12_becomes {E : EV} (hE : eOK layM E) {Φ : Int → PS → Prop} (a1 a2 a3 : Int) (ra1 : Rg a1) (ra2 : Rg a2) (ra3 : Rg a3) (σ : PS) (hs : RS σ) (h : FX12_becomes a1 a2 a3 σ Φ) : CT layM E yX12_becomes mi_X12_becomes [.ref (eA E 0), .int (iz a1), .int (iz a2), .int (iz a3)] σ Φ := by
  refine ct_of (by decide +kernel) rfl hE rfl rfl hs (fun x => ?_)
  show RW layM E mi_X12_becomes Φ 0 [some (.ref (eA E 0)), some (.int (iz a1)), some (.int (iz a2)), some (.int (iz a3)), none] [] σ x
  refine r_aloadn (dc D_cX12_becomes_0 0 rfl) rfl rfl ?_
  refine r_iloadn (dc D_cX12_becomes_0 1 rfl) rfl rfl ?_
  refine r_iloadn (dc D_cX12_becomes_0 2 rfl) rfl rfl ?_
  refine r_callV (As := [.int (iz a1), .int (iz a2)]) (st := []) (dc D_cX12_becomes_0 3 rfl) cw_RX12_94 nm_yX12_at (CX12_at hE _ _ ra1 ra2 _ hs h) lM_0 rfl rfl (by decide) rfl rfl rfl (fun z1 σ2 rz1 hσ2 h => ?_)
  show RW layM E mi_X12_becomes Φ 6 [some (.ref (eA E 0)), some (.int (iz a1)), some (.int (iz a2)), some (.int (iz a3)), none] [.int (iz z1)] σ2 x
  refine r_istore (lv' := [some (.ref (eA E 0)), some (.int (iz a1)), some (.int (iz a2)), some (.int (iz a3)), some (.int (iz z1))]) (dc D_cX12_becomes_0 4 rfl) rfl rfl ?_
  refine r_aloadn (dc D_cX12_becomes_0 5 rfl) rfl rfl ?_
  refine r_iloadn (dc D_cX12_becomes_0 6 rfl) rfl rfl ?_
  refine r_iloadn (dc D_cX12_becomes_0 7 rfl) rfl rfl ?_
  refine r_iloadn (dc D_cX12_becomes_0 8 rfl) rfl rfl ?_
  refine r_callV (As := [.int (iz a1), .int (iz a2), .int (iz a3)]) (st := []) (dc D_cX12_becomes_0 9 rfl) cw_RX12_102 nm_yX12_sets (CX12_sets hE _ _ _ ra1 ra2 ra3 _ hσ2 h) lM_0 rfl rfl (by decide) rfl rfl rfl (fun z3 σ4 rz3 hσ4 h => ?_)
  show RW layM E mi_X12_becomes Φ 15 [some (.ref (eA E 0)), some (.int (iz a1)), some (.int (iz a2)), some (.int (iz a3)), some (.int (iz z1))] [] σ4 x
  refine r_iload (dc D_cX12_becomes_0 10 rfl) rfl ?_
  exact r_iret (dc D_cX12_becomes_0 11 rfl) rfl rz1 h
-- end of GateFlowModel.becomes
def mi_X12_widen : MI := (cX12_widen, RX12, 3, 3, (some .int), 1)
def FX12_widen (a1 a2 : Int) (σ : PS) (Φ : Int → PS → Prop) : Prop :=
  FX12_isGate a1 σ (fun z1 σ2 =>
  ((¬ z1 = 0 →
    FX12_at a1 2 σ2 (fun z4 σ5 =>
    FX12_in a2 z4 999 σ5 (fun z6 σ7 =>
    ((z6 = 0 →
      Φ (-2) σ7) ∧
    (¬ z6 = 0 →
      FX12_becomes a1 3 a2 σ7 (fun z9 σ10 =>
      Φ z9 σ10)))))) ∧
  (z1 = 0 →
    Φ (-1) σ2)))
theorem cw_RX12_116 : CWV RX12 116 yX12_becomes mi_X12_becomes := tb_r [1372, 1374, 45, 110, 1375] (by decide +kernel)
theorem nm_yX12_becomes : ynm yX12_becomes 3 := ⟨⟨by decide +kernel, by decide +kernel⟩, by decide +kernel⟩
set_option maxRecDepth 100000 in
theorem CX12_widen {E : EV} (hE : eOK layM E) {Φ : Int → PS → Prop} (a1 a2 : Int) (ra1 : Rg a1) (ra2 : Rg a2) (σ : PS) (hs : RS σ) (h : FX12_widen a1 a2 σ Φ) : CT layM E yX12_widen mi_X12_widen [.ref (eA E 0), .int (iz a1), .int (iz a2)] σ Φ := by
  refine ct_of (by decide +kernel) rfl hE rfl rfl hs (fun x => ?_)
  show RW layM E mi_X12_widen Φ 0 [some (.ref (eA E 0)), some (.int (iz a1)), some (.int (iz a2))] [] σ x
  refine r_aloadn (dc D_cX12_widen_0 0 rfl) rfl rfl ?_
  refine r_iloadn (dc D_cX12_widen_0 1 rfl) rfl rfl ?_
  refine r_callV (As := [.int (iz a1)]) (st := []) (dc D_cX12_widen_0 2 rfl) cw_RX12_113 nm_yX12_isGate (CX12_isGate hE _ ra1 _ hs h) lM_0 rfl rfl (by decide) rfl rfl rfl (fun z1 σ2 rz1 hσ2 h => ?_)
  show RW layM E mi_X12_widen Φ 5 [some (.ref (eA E 0)), some (.int (iz a1)), some (.int (iz a2))] [.int (iz z1)] σ2 x
  refine r_if_ne (tgt := 10) (dc D_cX12_widen_0 3 rfl) (by decide) rz1 (fun c3 => ?_) (fun c3 => ?_)
  · have h := h.1 c3
    refine r_iloadn (dc D_cX12_widen_0 6 rfl) rfl rfl ?_
    refine r_aloadn (dc D_cX12_widen_0 7 rfl) rfl rfl ?_
    refine r_iloadn (dc D_cX12_widen_0 8 rfl) rfl rfl ?_
    refine r_iconst (n := 2) (dc D_cX12_widen_0 9 rfl) ?_
    refine r_callV (As := [.int (iz a1), .int (iz 2)]) (st := [.int (iz a2)]) (dc D_cX12_widen_0 10 rfl) cw_RX12_94 nm_yX12_at (CX12_at hE _ _ ra1 (Rl rfl) _ hσ2 h) lM_0 rfl rfl (by decide) rfl rfl rfl (fun z4 σ5 rz4 hσ5 h => ?_)
    show RW layM E mi_X12_widen Φ 17 [some (.ref (eA E 0)), some (.int (iz a1)), some (.int (iz a2))] [.int (iz z4), .int (iz a2)] σ5 x
    refine r_sipush (n := 999) (dc D_cX12_widen_0 11 rfl) (by decide +kernel) ?_
    refine r_callS (As := [.int (iz a2), .int (iz z4), .int (iz 999)]) (st := []) (dc D_cX12_widen_0 12 rfl) cw_RX12_90 nm_yX12_in (CX12_in hE _ _ _ ra2 rz4 (Rl rfl) _ hσ5 h) rfl (by decide) rfl rfl rfl (fun z6 σ7 rz6 hσ7 h => ?_)
    show RW layM E mi_X12_widen Φ 23 [some (.ref (eA E 0)), some (.int (iz a1)), some (.int (iz a2))] [.int (iz z6)] σ7 x
    refine r_if_eq (tgt := 36) (dc D_cX12_widen_0 13 rfl) (by decide) rz6 (fun c8 => ?_) (fun c8 => ?_)
    · have h := h.1 c8
      refine r_bipush (n := (-2)) (dc D_cX12_widen_0 20 rfl) (by decide +kernel) ?_
      exact r_iret (dc D_cX12_widen_0 21 rfl) rfl (Rl rfl) h
    · have h := h.2 c8
      refine r_aloadn (dc D_cX12_widen_0 14 rfl) rfl rfl ?_
      refine r_iloadn (dc D_cX12_widen_0 15 rfl) rfl rfl ?_
      refine r_iconst (n := 3) (dc D_cX12_widen_0 16 rfl) ?_
      refine r_iloadn (dc D_cX12_widen_0 17 rfl) rfl rfl ?_
      refine r_callV (As := [.int (iz a1), .int (iz 3), .int (iz a2)]) (st := []) (dc D_cX12_widen_0 18 rfl) cw_RX12_116 nm_yX12_becomes (CX12_becomes hE _ _ _ ra1 (Rl rfl) ra2 _ hσ7 h) lM_0 rfl rfl (by decide) rfl rfl rfl (fun z9 σ10 rz9 hσ10 h => ?_)
      show RW layM E mi_X12_widen Φ 33 [some (.ref (eA E 0)), some (.int (iz a1)), some (.int (iz a2))] [.int (iz z9)] σ10 x
      refine r_goto (tgt := 38) (dc D_cX12_widen_0 19 rfl) (by decide) ?_
      exact r_iret (dc D_cX12_widen_0 21 rfl) rfl rz9 h
  · have h := h.2 c3
    refine r_iconst (n := (-1)) (dc D_cX12_widen_0 4 rfl) ?_
    exact r_iret (dc D_cX12_widen_0 5 rfl) rfl (Rl rfl) h
-- end of GateFlowModel.widen
def mi_X12_bind : MI := (cX12_bind, RX12, 3, 3, (some .int), 1)
def FX12_bind (a1 a2 : Int) (σ : PS) (Φ : Int → PS → Prop) : Prop :=
  FX12_isGate a1 σ (fun z1 σ2 =>
  ((¬ z1 = 0 →
    FX12_at a1 3 σ2 (fun z4 σ5 =>
    FX12_in a2 0 z4 σ5 (fun z6 σ7 =>
    ((z6 = 0 →
      Φ (-2) σ7) ∧
    (¬ z6 = 0 →
      FX12_becomes a1 2 a2 σ7 (fun z9 σ10 =>
      Φ z9 σ10)))))) ∧
  (z1 = 0 →
    Φ (-1) σ2)))
set_option maxRecDepth 100000 in
theorem CX12_bind {E : EV} (hE : eOK layM E) {Φ : Int → PS → Prop} (a1 a2 : Int) (ra1 : Rg a1) (ra2 : Rg a2) (σ : PS) (hs : RS σ) (h : FX12_bind a1 a2 σ Φ) : CT layM E yX12_bind mi_X12_bind [.ref (eA E 0), .int (iz a1), .int (iz a2)] σ Φ := by
  refine ct_of (by decide +kernel) rfl hE rfl rfl hs (fun x => ?_)
  show RW layM E mi_X12_bind Φ 0 [some (.ref (eA E 0)), some (.int (iz a1)), some (.int (iz a2))] [] σ x
  refine r_aloadn (dc D_cX12_bind_0 0 rfl) rfl rfl ?_
  refine r_iloadn (dc D_cX12_bind_0 1 rfl) rfl rfl ?_
  refine r_callV (As := [.int (iz a1)]) (st := []) (dc D_cX12_bind_0 2 rfl) cw_RX12_113 nm_yX12_isGate (CX12_isGate hE _ ra1 _ hs h) lM_0 rfl rfl (by decide) rfl rfl rfl (fun z1 σ2 rz1 hσ2 h => ?_)
  show RW layM E mi_X12_bind Φ 5 [some (.ref (eA E 0)), some (.int (iz a1)), some (.int (iz a2))] [.int (iz z1)] σ2 x
  refine r_if_ne (tgt := 10) (dc D_cX12_bind_0 3 rfl) (by decide) rz1 (fun c3 => ?_) (fun c3 => ?_)
  · have h := h.1 c3
    refine r_iloadn (dc D_cX12_bind_0 6 rfl) rfl rfl ?_
    refine r_iconst (n := 0) (dc D_cX12_bind_0 7 rfl) ?_
    refine r_aloadn (dc D_cX12_bind_0 8 rfl) rfl rfl ?_
    refine r_iloadn (dc D_cX12_bind_0 9 rfl) rfl rfl ?_
    refine r_iconst (n := 3) (dc D_cX12_bind_0 10 rfl) ?_
    refine r_callV (As := [.int (iz a1), .int (iz 3)]) (st := [.int (iz 0), .int (iz a2)]) (dc D_cX12_bind_0 11 rfl) cw_RX12_94 nm_yX12_at (CX12_at hE _ _ ra1 (Rl rfl) _ hσ2 h) lM_0 rfl rfl (by decide) rfl rfl rfl (fun z4 σ5 rz4 hσ5 h => ?_)
    show RW layM E mi_X12_bind Φ 18 [some (.ref (eA E 0)), some (.int (iz a1)), some (.int (iz a2))] [.int (iz z4), .int (iz 0), .int (iz a2)] σ5 x
    refine r_callS (As := [.int (iz a2), .int (iz 0), .int (iz z4)]) (st := []) (dc D_cX12_bind_0 12 rfl) cw_RX12_90 nm_yX12_in (CX12_in hE _ _ _ ra2 (Rl rfl) rz4 _ hσ5 h) rfl (by decide) rfl rfl rfl (fun z6 σ7 rz6 hσ7 h => ?_)
    show RW layM E mi_X12_bind Φ 21 [some (.ref (eA E 0)), some (.int (iz a1)), some (.int (iz a2))] [.int (iz z6)] σ7 x
    refine r_if_eq (tgt := 34) (dc D_cX12_bind_0 13 rfl) (by decide) rz6 (fun c8 => ?_) (fun c8 => ?_)
    · have h := h.1 c8
      refine r_bipush (n := (-2)) (dc D_cX12_bind_0 20 rfl) (by decide +kernel) ?_
      exact r_iret (dc D_cX12_bind_0 21 rfl) rfl (Rl rfl) h
    · have h := h.2 c8
      refine r_aloadn (dc D_cX12_bind_0 14 rfl) rfl rfl ?_
      refine r_iloadn (dc D_cX12_bind_0 15 rfl) rfl rfl ?_
      refine r_iconst (n := 2) (dc D_cX12_bind_0 16 rfl) ?_
      refine r_iloadn (dc D_cX12_bind_0 17 rfl) rfl rfl ?_
      refine r_callV (As := [.int (iz a1), .int (iz 2), .int (iz a2)]) (st := []) (dc D_cX12_bind_0 18 rfl) cw_RX12_116 nm_yX12_becomes (CX12_becomes hE _ _ _ ra1 (Rl rfl) ra2 _ hσ7 h) lM_0 rfl rfl (by decide) rfl rfl rfl (fun z9 σ10 rz9 hσ10 h => ?_)
      show RW layM E mi_X12_bind Φ 31 [some (.ref (eA E 0)), some (.int (iz a1)), some (.int (iz a2))] [.int (iz z9)] σ10 x
      refine r_goto (tgt := 36) (dc D_cX12_bind_0 19 rfl) (by decide) ?_
      exact r_iret (dc D_cX12_bind_0 21 rfl) rfl rz9 h
  · have h := h.2 c3
    refine r_iconst (n := (-1)) (dc D_cX12_bind_0 4 rfl) ?_
    exact r_iret (dc D_cX12_bind_0 5 rfl) rfl (Rl rfl) h
-- end of GateFlowModel.bind
def mi_X12_turn : MI := (cX12_turn, RX12, 3, 3, (some .int), 1)
def FX12_turn (a1 a2 : Int) (σ : PS) (Φ : Int → PS → Prop) : Prop :=
  FX12_isGate a1 σ (fun z1 σ2 =>
  ((z1 = 0 →
    Φ (-1) σ2) ∧
  (¬ z1 = 0 →
    FX12_in a2 0 1 σ2 (fun z4 σ5 =>
    ((z4 = 0 →
      Φ (-1) σ5) ∧
    (¬ z4 = 0 →
      FX12_becomes a1 5 a2 σ5 (fun z7 σ8 =>
      Φ z7 σ8)))))))
set_option maxRecDepth 100000 in
theorem CX12_turn {E : EV} (hE : eOK layM E) {Φ : Int → PS → Prop} (a1 a2 : Int) (ra1 : Rg a1) (ra2 : Rg a2) (σ : PS) (hs : RS σ) (h : FX12_turn a1 a2 σ Φ) : CT layM E yX12_turn mi_X12_turn [.ref (eA E 0), .int (iz a1), .int (iz a2)] σ Φ := by
  refine ct_of (by decide +kernel) rfl hE rfl rfl hs (fun x => ?_)
  show RW layM E mi_X12_turn Φ 0 [some (.ref (eA E 0)), some (.int (iz a1)), some (.int (iz a2))] [] σ x
  refine r_aloadn (dc D_cX12_turn_0 0 rfl) rfl rfl ?_
  refine r_iloadn (dc D_cX12_turn_0 1 rfl) rfl rfl ?_
  refine r_callV (As := [.int (iz a1)]) (st := []) (dc D_cX12_turn_0 2 rfl) cw_RX12_113 nm_yX12_isGate (CX12_isGate hE _ ra1 _ hs h) lM_0 rfl rfl (by decide) rfl rfl rfl (fun z1 σ2 rz1 hσ2 h => ?_)
  show RW layM E mi_X12_turn Φ 5 [some (.ref (eA E 0)), some (.int (iz a1)), some (.int (iz a2))] [.int (iz z1)] σ2 x
  refine r_if_eq (tgt := 27) (dc D_cX12_turn_0 3 rfl) (by decide) rz1 (fun c3 => ?_) (fun c3 => ?_)
  · have h := h.1 c3
    refine r_iconst (n := (-1)) (dc D_cX12_turn_0 15 rfl) ?_
    exact r_iret (dc D_cX12_turn_0 16 rfl) rfl (Rl rfl) h
  · have h := h.2 c3
    refine r_iloadn (dc D_cX12_turn_0 4 rfl) rfl rfl ?_
    refine r_iconst (n := 0) (dc D_cX12_turn_0 5 rfl) ?_
    refine r_iconst (n := 1) (dc D_cX12_turn_0 6 rfl) ?_
    refine r_callS (As := [.int (iz a2), .int (iz 0), .int (iz 1)]) (st := []) (dc D_cX12_turn_0 7 rfl) cw_RX12_90 nm_yX12_in (CX12_in hE _ _ _ ra2 (Rl rfl) (Rl rfl) _ hσ2 h) rfl (by decide) rfl rfl rfl (fun z4 σ5 rz4 hσ5 h => ?_)
    show RW layM E mi_X12_turn Φ 14 [some (.ref (eA E 0)), some (.int (iz a1)), some (.int (iz a2))] [.int (iz z4)] σ5 x
    refine r_if_eq (tgt := 27) (dc D_cX12_turn_0 8 rfl) (by decide) rz4 (fun c6 => ?_) (fun c6 => ?_)
    · have h := h.1 c6
      refine r_iconst (n := (-1)) (dc D_cX12_turn_0 15 rfl) ?_
      exact r_iret (dc D_cX12_turn_0 16 rfl) rfl (Rl rfl) h
    · have h := h.2 c6
      refine r_aloadn (dc D_cX12_turn_0 9 rfl) rfl rfl ?_
      refine r_iloadn (dc D_cX12_turn_0 10 rfl) rfl rfl ?_
      refine r_iconst (n := 5) (dc D_cX12_turn_0 11 rfl) ?_
      refine r_iloadn (dc D_cX12_turn_0 12 rfl) rfl rfl ?_
      refine r_callV (As := [.int (iz a1), .int (iz 5), .int (iz a2)]) (st := []) (dc D_cX12_turn_0 13 rfl) cw_RX12_116 nm_yX12_becomes (CX12_becomes hE _ _ _ ra1 (Rl rfl) ra2 _ hσ5 h) lM_0 rfl rfl (by decide) rfl rfl rfl (fun z7 σ8 rz7 hσ8 h => ?_)
      show RW layM E mi_X12_turn Φ 24 [some (.ref (eA E 0)), some (.int (iz a1)), some (.int (iz a2))] [.int (iz z7)] σ8 x
      refine r_goto (tgt := 28) (dc D_cX12_turn_0 14 rfl) (by decide) ?_
      exact r_iret (dc D_cX12_turn_0 16 rfl) rfl rz7 h
-- end of GateFlowModel.turn
def mi_X12_drop : MI := (cX12_drop, RX12, 1, 1, (some .int), 1)
def FX12_drop (σ : PS) (Φ : Int → PS → Prop) : Prop :=
  ((¬ σ 1 2 = 0 →
    Rg ((σ 1 2) - 1) ∧
    ∀ σ3 : PS, σ3 = up2 σ 1 2 ((σ 1 2) - 1) →
    Φ (σ3 1 2) σ3) ∧
  (σ 1 2 = 0 →
    Φ (-3) σ))
set_option maxRecDepth 100000 in
theorem CX12_drop {E : EV} (hE : eOK layM E) {Φ : Int → PS → Prop} (σ : PS) (hs : RS σ) (h : FX12_drop σ Φ) : CT layM E yX12_drop mi_X12_drop [.ref (eA E 0)] σ Φ := by
  refine ct_of (by decide +kernel) rfl hE rfl rfl hs (fun x => ?_)
  show RW layM E mi_X12_drop Φ 0 [some (.ref (eA E 0))] [] σ x
  refine r_aloadn (dc D_cX12_drop_0 0 rfl) rfl rfl ?_
  refine r_getR (dc D_cX12_drop_0 1 rfl) fw_RX12_9 lM_0 rfl ?_
  refine r_iconst (n := 2) (dc D_cX12_drop_0 2 rfl) ?_
  refine r_iald (N := 183) (dc D_cX12_drop_0 3 rfl) lM_1 rfl rfl ⟨by decide, by decide⟩ ?_
  refine r_if_ne (tgt := 12) (dc D_cX12_drop_0 4 rfl) (by decide) (hs _ _) (fun c1 => ?_) (fun c1 => ?_)
  · have h := h.1 c1
    refine r_aloadn (dc D_cX12_drop_0 7 rfl) rfl rfl ?_
    refine r_getR (dc D_cX12_drop_0 8 rfl) fw_RX12_9 lM_0 rfl ?_
    refine r_iconst (n := 2) (dc D_cX12_drop_0 9 rfl) ?_
    refine r_dup2 (dc D_cX12_drop_0 10 rfl) rfl rfl ?_
    refine r_iald (N := 183) (dc D_cX12_drop_0 11 rfl) lM_1 rfl rfl ⟨by decide, by decide⟩ ?_
    refine r_iconst (n := 1) (dc D_cX12_drop_0 12 rfl) ?_
    refine r_isub (dc D_cX12_drop_0 13 rfl) ?_
    obtain ⟨o2, h⟩ := h
    refine r_iast (N := 183) (dc D_cX12_drop_0 14 rfl) lM_1 rfl rfl ⟨by decide, by decide⟩ o2 ?_
    refine r_sig (fun σ3 eσ3 => ?_)
    have h := h σ3 eσ3
    have hσ3 : RS σ3 := RS_eq eσ3 (RS.up hs o2 _ _)
    refine r_aloadn (dc D_cX12_drop_0 15 rfl) rfl rfl ?_
    refine r_getR (dc D_cX12_drop_0 16 rfl) fw_RX12_9 lM_0 rfl ?_
    refine r_iconst (n := 2) (dc D_cX12_drop_0 17 rfl) ?_
    refine r_iald (N := 183) (dc D_cX12_drop_0 18 rfl) lM_1 rfl rfl ⟨by decide, by decide⟩ ?_
    exact r_iret (dc D_cX12_drop_0 19 rfl) rfl (hσ3 _ _) h
  · have h := h.2 c1
    refine r_bipush (n := (-3)) (dc D_cX12_drop_0 5 rfl) (by decide +kernel) ?_
    exact r_iret (dc D_cX12_drop_0 6 rfl) rfl (Rl rfl) h
-- end of GateFlowModel.drop
def mi_X12_ends : MI := (cX12_ends, RX12, 3, 3, (some .int), 1)
def FX12_ends (a1 a2 : Int) (σ : PS) (Φ : Int → PS → Prop) : Prop :=
  FX12_isNode a1 σ (fun z1 σ2 =>
  ((z1 = 0 →
    Φ (-1) σ2) ∧
  (¬ z1 = 0 →
    FX12_isNode a2 σ2 (fun z4 σ5 =>
    ((z4 = 0 →
      Φ (-1) σ5) ∧
    (¬ z4 = 0 →
      ((¬ a1 = a2 →
        ∀ σ8 : PS, σ8 = up2 σ5 1 0 a1 →
        ∀ σ9 : PS, σ9 = up2 σ8 1 1 a2 →
        Φ 1 σ9) ∧
      (a1 = a2 →
        Φ (-1) σ5))))))))
set_option maxRecDepth 100000 in
theorem CX12_ends {E : EV} (hE : eOK layM E) {Φ : Int → PS → Prop} (a1 a2 : Int) (ra1 : Rg a1) (ra2 : Rg a2) (σ : PS) (hs : RS σ) (h : FX12_ends a1 a2 σ Φ) : CT layM E yX12_ends mi_X12_ends [.ref (eA E 0), .int (iz a1), .int (iz a2)] σ Φ := by
  refine ct_of (by decide +kernel) rfl hE rfl rfl hs (fun x => ?_)
  show RW layM E mi_X12_ends Φ 0 [some (.ref (eA E 0)), some (.int (iz a1)), some (.int (iz a2))] [] σ x
  refine r_iloadn (dc D_cX12_ends_0 0 rfl) rfl rfl ?_
  refine r_callS (As := [.int (iz a1)]) (st := []) (dc D_cX12_ends_0 1 rfl) cw_RX12_106 nm_yX12_isNode (CX12_isNode hE _ ra1 _ hs h) rfl (by decide) rfl rfl rfl (fun z1 σ2 rz1 hσ2 h => ?_)
  show RW layM E mi_X12_ends Φ 4 [some (.ref (eA E 0)), some (.int (iz a1)), some (.int (iz a2))] [.int (iz z1)] σ2 x
  refine r_if_eq (tgt := 19) (dc D_cX12_ends_0 2 rfl) (by decide) rz1 (fun c3 => ?_) (fun c3 => ?_)
  · have h := h.1 c3
    refine r_iconst (n := (-1)) (dc D_cX12_ends_0 9 rfl) ?_
    exact r_iret (dc D_cX12_ends_0 10 rfl) rfl (Rl rfl) h
  · have h := h.2 c3
    refine r_iloadn (dc D_cX12_ends_0 3 rfl) rfl rfl ?_
    refine r_callS (As := [.int (iz a2)]) (st := []) (dc D_cX12_ends_0 4 rfl) cw_RX12_106 nm_yX12_isNode (CX12_isNode hE _ ra2 _ hσ2 h) rfl (by decide) rfl rfl rfl (fun z4 σ5 rz4 hσ5 h => ?_)
    show RW layM E mi_X12_ends Φ 11 [some (.ref (eA E 0)), some (.int (iz a1)), some (.int (iz a2))] [.int (iz z4)] σ5 x
    refine r_if_eq (tgt := 19) (dc D_cX12_ends_0 5 rfl) (by decide) rz4 (fun c6 => ?_) (fun c6 => ?_)
    · have h := h.1 c6
      refine r_iconst (n := (-1)) (dc D_cX12_ends_0 9 rfl) ?_
      exact r_iret (dc D_cX12_ends_0 10 rfl) rfl (Rl rfl) h
    · have h := h.2 c6
      refine r_iloadn (dc D_cX12_ends_0 6 rfl) rfl rfl ?_
      refine r_iloadn (dc D_cX12_ends_0 7 rfl) rfl rfl ?_
      refine r_icmp_ne (tgt := 21) (dc D_cX12_ends_0 8 rfl) (by decide) ra1 ra2 (fun c7 => ?_) (fun c7 => ?_)
      · have h := h.1 c7
        refine r_aloadn (dc D_cX12_ends_0 11 rfl) rfl rfl ?_
        refine r_getR (dc D_cX12_ends_0 12 rfl) fw_RX12_9 lM_0 rfl ?_
        refine r_iconst (n := 0) (dc D_cX12_ends_0 13 rfl) ?_
        refine r_iloadn (dc D_cX12_ends_0 14 rfl) rfl rfl ?_
        refine r_iast (N := 183) (dc D_cX12_ends_0 15 rfl) lM_1 rfl rfl ⟨by decide, by decide⟩ ra1 ?_
        refine r_sig (fun σ8 eσ8 => ?_)
        have h := h σ8 eσ8
        have hσ8 : RS σ8 := RS_eq eσ8 (RS.up hσ5 ra1 _ _)
        refine r_aloadn (dc D_cX12_ends_0 16 rfl) rfl rfl ?_
        refine r_getR (dc D_cX12_ends_0 17 rfl) fw_RX12_9 lM_0 rfl ?_
        refine r_iconst (n := 1) (dc D_cX12_ends_0 18 rfl) ?_
        refine r_iloadn (dc D_cX12_ends_0 19 rfl) rfl rfl ?_
        refine r_iast (N := 183) (dc D_cX12_ends_0 20 rfl) lM_1 rfl rfl ⟨by decide, by decide⟩ ra2 ?_
        refine r_sig (fun σ9 eσ9 => ?_)
        have h := h σ9 eσ9
        have hσ9 : RS σ9 := RS_eq eσ9 (RS.up hσ8 ra2 _ _)
        refine r_iconst (n := 1) (dc D_cX12_ends_0 21 rfl) ?_
        exact r_iret (dc D_cX12_ends_0 22 rfl) rfl (Rl rfl) h
      · have h := h.2 c7
        refine r_iconst (n := (-1)) (dc D_cX12_ends_0 9 rfl) ?_
        exact r_iret (dc D_cX12_ends_0 10 rfl) rfl (Rl rfl) h
-- end of GateFlowModel.ends
def mi_X12_isOpen : MI := (cX12_isOpen, RX12, 2, 2, (some .boolean), 1)
def FX12_isOpen (a1 : Int) (σ : PS) (Φ : Int → PS → Prop) : Prop :=
  FX12_at a1 5 σ (fun z1 σ2 =>
  ((¬ z1 = 1 →
    Φ 0 σ2) ∧
  (z1 = 1 →
    Φ 1 σ2)))
theorem fw_RX12_16 : FW RX12 16 12 3 := ⟨RX12, TX12, 39, rfl, by decide, rfl, tb_1 1222 (by decide +kernel), uw_12⟩
set_option maxRecDepth 100000 in
theorem CX12_isOpen {E : EV} (hE : eOK layM E) {Φ : Int → PS → Prop} (a1 : Int) (ra1 : Rg a1) (σ : PS) (hs : RS σ) (h : FX12_isOpen a1 σ Φ) : CT layM E yX12_isOpen mi_X12_isOpen [.ref (eA E 0), .int (iz a1)] σ Φ := by
  refine ct_of (by decide +kernel) rfl hE rfl rfl hs (fun x => ?_)
  show RW layM E mi_X12_isOpen Φ 0 [some (.ref (eA E 0)), some (.int (iz a1))] [] σ x
  refine r_aloadn (dc D_cX12_isOpen_0 0 rfl) rfl rfl ?_
  refine r_iloadn (dc D_cX12_isOpen_0 1 rfl) rfl rfl ?_
  refine r_iconst (n := 5) (dc D_cX12_isOpen_0 2 rfl) ?_
  refine r_callV (As := [.int (iz a1), .int (iz 5)]) (st := []) (dc D_cX12_isOpen_0 3 rfl) cw_RX12_94 nm_yX12_at (CX12_at hE _ _ ra1 (Rl rfl) _ hs h) lM_0 rfl rfl (by decide) rfl rfl rfl (fun z1 σ2 rz1 hσ2 h => ?_)
  show RW layM E mi_X12_isOpen Φ 6 [some (.ref (eA E 0)), some (.int (iz a1))] [.int (iz z1)] σ2 x
  refine r_iconst (n := 1) (dc D_cX12_isOpen_0 4 rfl) ?_
  refine r_icmp_ne (tgt := 14) (dc D_cX12_isOpen_0 5 rfl) (by decide) rz1 (Rl rfl) (fun c3 => ?_) (fun c3 => ?_)
  · have h := h.1 c3
    refine r_iconst (n := 0) (dc D_cX12_isOpen_0 8 rfl) ?_
    exact r_zret (dc D_cX12_isOpen_0 9 rfl) rfl (by decide) h
  · have h := h.2 c3
    refine r_iconst (n := 1) (dc D_cX12_isOpen_0 6 rfl) ?_
    refine r_goto (tgt := 15) (dc D_cX12_isOpen_0 7 rfl) (by decide) ?_
    exact r_zret (dc D_cX12_isOpen_0 9 rfl) rfl (by decide) h
-- end of GateFlowModel.isOpen
def mi_X12_capacity : MI := (cX12_capacity, RX12, 2, 3, (some .int), 1)
def FX12_capacity (a1 : Int) (σ : PS) (Φ : Int → PS → Prop) : Prop :=
  FX12_isOpen a1 σ (fun z1 σ2 =>
  ((z1 = 0 →
    Φ 0 σ2) ∧
  (¬ z1 = 0 →
    FX12_at a1 3 σ2 (fun z4 σ5 =>
    Φ z4 σ5))))
theorem cw_RX12_98 : CWV RX12 98 yX12_isOpen mi_X12_isOpen := tb_r [1408, 1410, 49, 110, 1411] (by decide +kernel)
theorem nm_yX12_isOpen : ynm yX12_isOpen 1 := ⟨⟨by decide +kernel, by decide +kernel⟩, by decide +kernel⟩
set_option maxRecDepth 100000 in
theorem CX12_capacity {E : EV} (hE : eOK layM E) {Φ : Int → PS → Prop} (a1 : Int) (ra1 : Rg a1) (σ : PS) (hs : RS σ) (h : FX12_capacity a1 σ Φ) : CT layM E yX12_capacity mi_X12_capacity [.ref (eA E 0), .int (iz a1)] σ Φ := by
  refine ct_of (by decide +kernel) rfl hE rfl rfl hs (fun x => ?_)
  show RW layM E mi_X12_capacity Φ 0 [some (.ref (eA E 0)), some (.int (iz a1))] [] σ x
  refine r_aloadn (dc D_cX12_capacity_0 0 rfl) rfl rfl ?_
  refine r_iloadn (dc D_cX12_capacity_0 1 rfl) rfl rfl ?_
  refine r_callV (As := [.int (iz a1)]) (st := []) (dc D_cX12_capacity_0 2 rfl) cw_RX12_98 nm_yX12_isOpen (CX12_isOpen hE _ ra1 _ hs h) lM_0 rfl rfl (by decide) rfl rfl rfl (fun z1 σ2 rz1 hσ2 h => ?_)
  show RW layM E mi_X12_capacity Φ 5 [some (.ref (eA E 0)), some (.int (iz a1))] [.int (iz z1)] σ2 x
  refine r_if_eq (tgt := 17) (dc D_cX12_capacity_0 3 rfl) (by decide) rz1 (fun c3 => ?_) (fun c3 => ?_)
  · have h := h.1 c3
    refine r_iconst (n := 0) (dc D_cX12_capacity_0 9 rfl) ?_
    exact r_iret (dc D_cX12_capacity_0 10 rfl) rfl (Rl rfl) h
  · have h := h.2 c3
    refine r_aloadn (dc D_cX12_capacity_0 4 rfl) rfl rfl ?_
    refine r_iloadn (dc D_cX12_capacity_0 5 rfl) rfl rfl ?_
    refine r_iconst (n := 3) (dc D_cX12_capacity_0 6 rfl) ?_
    refine r_callV (As := [.int (iz a1), .int (iz 3)]) (st := []) (dc D_cX12_capacity_0 7 rfl) cw_RX12_94 nm_yX12_at (CX12_at hE _ _ ra1 (Rl rfl) _ hσ2 h) lM_0 rfl rfl (by decide) rfl rfl rfl (fun z4 σ5 rz4 hσ5 h => ?_)
    show RW layM E mi_X12_capacity Φ 14 [some (.ref (eA E 0)), some (.int (iz a1))] [.int (iz z4)] σ5 x
    refine r_goto (tgt := 18) (dc D_cX12_capacity_0 8 rfl) (by decide) ?_
    exact r_iret (dc D_cX12_capacity_0 10 rfl) rfl rz4 h
-- end of GateFlowModel.capacity
def mi_X12_mayAll : MI := (cX12_mayAll, RX12, 2, 4, none, 0)
def BX12_mayAll_2 (K2 : Int → PS → Prop) (x1 : Int) (σ : PS) (Φ : Int → PS → Prop) : Prop :=
  ((σ 1 2 ≤ x1 →
    Φ 0 σ) ∧
  (¬ σ 1 2 ≤ x1 →
    FX12_capacity x1 σ (fun z2 σ3 =>
    (0 ≤ x1 ∧ x1 < 30) ∧
    ∀ σ5 : PS, σ5 = up2 σ3 3 x1.toNat z2 →
    Rg (x1 + 1) ∧
    K2 (x1 + 1) σ5)))
def LX12_mayAll_2 : Nat → Int → PS → (Int → PS → Prop) → Prop
  | 0, _, _, _ => False
  | n + 1, x1, σ, Φ => BX12_mayAll_2 (fun x1 σ => LX12_mayAll_2 n x1 σ Φ) x1 σ Φ
def FX12_mayAll (σ : PS) (Φ : Int → PS → Prop) : Prop :=
  ∃ n, LX12_mayAll_2 n 0 σ Φ
theorem cw_RX12_150 : CWV RX12 150 yX12_capacity mi_X12_capacity := tb_r [1404, 1406, 48, 110, 1407] (by decide +kernel)
theorem nm_yX12_capacity : ynm yX12_capacity 1 := ⟨⟨by decide +kernel, by decide +kernel⟩, by decide +kernel⟩
set_option maxRecDepth 100000 in
theorem TBX12_mayAll_2 {E : EV} (hE : eOK layM E) {Φ : Int → PS → Prop} {K2 : Int → PS → Prop} (x : CX) (hK2 : ∀ (x1 : Int) (σ : PS), Rg x1 → RS σ → K2 x1 σ → RW layM E mi_X12_mayAll Φ 2 [some (.ref (eA E 0)), some (.int (iz x1))] [] σ x) (x1 : Int) (rx1 : Rg x1) (σ : PS) (hs : RS σ) (h : BX12_mayAll_2 K2 x1 σ Φ) : RW layM E mi_X12_mayAll Φ 2 [some (.ref (eA E 0)), some (.int (iz x1))] [] σ x := by
  refine r_iloadn (dc D_cX12_mayAll_0 2 rfl) rfl rfl ?_
  refine r_aloadn (dc D_cX12_mayAll_0 3 rfl) rfl rfl ?_
  refine r_getR (dc D_cX12_mayAll_0 4 rfl) fw_RX12_9 lM_0 rfl ?_
  refine r_iconst (n := 2) (dc D_cX12_mayAll_0 5 rfl) ?_
  refine r_iald (N := 183) (dc D_cX12_mayAll_0 6 rfl) lM_1 rfl rfl ⟨by decide, by decide⟩ ?_
  refine r_icmp_ge (tgt := 29) (dc D_cX12_mayAll_0 7 rfl) (by decide) rx1 (hs _ _) (fun c1 => ?_) (fun c1 => ?_)
  · have h := h.1 c1
    exact r_vret (dc D_cX12_mayAll_0 17 rfl) rfl h
  · have h := h.2 c1
    refine r_aloadn (dc D_cX12_mayAll_0 8 rfl) rfl rfl ?_
    refine r_getR (dc D_cX12_mayAll_0 9 rfl) fw_RX12_16 lM_0 rfl ?_
    refine r_iloadn (dc D_cX12_mayAll_0 10 rfl) rfl rfl ?_
    refine r_aloadn (dc D_cX12_mayAll_0 11 rfl) rfl rfl ?_
    refine r_iloadn (dc D_cX12_mayAll_0 12 rfl) rfl rfl ?_
    refine r_callV (As := [.int (iz x1)]) (st := [.int (iz x1), .ref (eA E 3)]) (dc D_cX12_mayAll_0 13 rfl) cw_RX12_150 nm_yX12_capacity (CX12_capacity hE _ rx1 _ hs h) lM_0 rfl rfl (by decide) rfl rfl rfl (fun z2 σ3 rz2 hσ3 h => ?_)
    show RW layM E mi_X12_mayAll Φ 22 [some (.ref (eA E 0)), some (.int (iz x1))] [.int (iz z2), .int (iz x1), .ref (eA E 3)] σ3 x
    obtain ⟨o4, h⟩ := h
    refine r_iast (N := 30) (dc D_cX12_mayAll_0 14 rfl) lM_3 rfl rfl o4 rz2 ?_
    refine r_sig (fun σ5 eσ5 => ?_)
    have h := h σ5 eσ5
    have hσ5 : RS σ5 := RS_eq eσ5 (RS.up hσ3 rz2 _ _)
    obtain ⟨o6, h⟩ := h
    refine r_iinc (lv' := [some (.ref (eA E 0)), some (.int (iz (x1 + 1)))]) (dc D_cX12_mayAll_0 15 rfl) rfl rfl rfl ?_
    refine r_goto (tgt := 2) (dc D_cX12_mayAll_0 16 rfl) (by decide) ?_
    exact hK2 _ _ o6 hσ5 h
theorem TX12_mayAll_2 {E : EV} (hE : eOK layM E) {Φ : Int → PS → Prop} (x : CX) (n : Nat) : ∀ (x1 : Int) (σ : PS), Rg x1 → RS σ → LX12_mayAll_2 n x1 σ Φ → RW layM E mi_X12_mayAll Φ 2 [some (.ref (eA E 0)), some (.int (iz x1))] [] σ x := by
  induction n with
  | zero => intro x1 σ _ _ h; exact h.elim
  | succ n ih => intro x1 σ rx1 hs h; exact TBX12_mayAll_2 hE x ih x1 rx1 σ hs h
set_option maxRecDepth 100000 in
theorem CX12_mayAll {E : EV} (hE : eOK layM E) {Φ : Int → PS → Prop} (σ : PS) (hs : RS σ) (h : FX12_mayAll σ Φ) : CT layM E yX12_mayAll mi_X12_mayAll [.ref (eA E 0)] σ Φ := by
  refine ct_of (by decide +kernel) rfl hE rfl rfl hs (fun x => ?_)
  show RW layM E mi_X12_mayAll Φ 0 [some (.ref (eA E 0)), none] [] σ x
  refine r_iconst (n := 0) (dc D_cX12_mayAll_0 0 rfl) ?_
  refine r_istoren (lv' := [some (.ref (eA E 0)), some (.int (iz 0))]) (dc D_cX12_mayAll_0 1 rfl) rfl rfl rfl ?_
  obtain ⟨n, h⟩ := h
  exact TX12_mayAll_2 hE x n _ _ (Rl rfl) hs h
-- end of GateFlowModel.mayAll
def mi_X12_stepAt : MI := (cX12_stepAt, RX12, 2, 1, (some .int), 1)
def FX12_stepAt (a1 : Int) (σ : PS) (Φ : Int → PS → Prop) : Prop :=
  ((σ 1 2 ≤ a1 →
    Rg (100 + a1) ∧
    Rg ((100 + a1) - (σ 1 2)) ∧
    Φ ((100 + a1) - (σ 1 2)) σ) ∧
  (¬ σ 1 2 ≤ a1 →
    Φ a1 σ))
theorem fw_RX12_22 : FW RX12 22 12 5 := ⟨RX12, TX12, 39, rfl, by decide, rfl, tb_1 1224 (by decide +kernel), uw_12⟩
theorem fw_RX12_25 : FW RX12 25 12 6 := ⟨RX12, TX12, 39, rfl, by decide, rfl, tb_1 1225 (by decide +kernel), uw_12⟩
set_option maxRecDepth 100000 in
theorem CX12_stepAt {E : EV} (hE : eOK layM E) {Φ : Int → PS → Prop} (a1 : Int) (ra1 : Rg a1) (σ : PS) (hs : RS σ) (h : FX12_stepAt a1 σ Φ) : CT layM E yX12_stepAt mi_X12_stepAt [.ref (eA E 0), .int (iz a1)] σ Φ := by
  refine ct_of (by decide +kernel) rfl hE rfl rfl hs (fun x => ?_)
  show RW layM E mi_X12_stepAt Φ 0 [some (.ref (eA E 0)), some (.int (iz a1))] [] σ x
  refine r_iloadn (dc D_cX12_stepAt_0 0 rfl) rfl rfl ?_
  refine r_aloadn (dc D_cX12_stepAt_0 1 rfl) rfl rfl ?_
  refine r_getR (dc D_cX12_stepAt_0 2 rfl) fw_RX12_9 lM_0 rfl ?_
  refine r_iconst (n := 2) (dc D_cX12_stepAt_0 3 rfl) ?_
  refine r_iald (N := 183) (dc D_cX12_stepAt_0 4 rfl) lM_1 rfl rfl ⟨by decide, by decide⟩ ?_
  refine r_icmp_ge (tgt := 14) (dc D_cX12_stepAt_0 5 rfl) (by decide) ra1 (hs _ _) (fun c1 => ?_) (fun c1 => ?_)
  · have h := h.1 c1
    refine r_bipush (n := 100) (dc D_cX12_stepAt_0 8 rfl) (by decide +kernel) ?_
    refine r_iloadn (dc D_cX12_stepAt_0 9 rfl) rfl rfl ?_
    refine r_iadd (dc D_cX12_stepAt_0 10 rfl) ?_
    obtain ⟨o2, h⟩ := h
    refine r_aloadn (dc D_cX12_stepAt_0 11 rfl) rfl rfl ?_
    refine r_getR (dc D_cX12_stepAt_0 12 rfl) fw_RX12_9 lM_0 rfl ?_
    refine r_iconst (n := 2) (dc D_cX12_stepAt_0 13 rfl) ?_
    refine r_iald (N := 183) (dc D_cX12_stepAt_0 14 rfl) lM_1 rfl rfl ⟨by decide, by decide⟩ ?_
    refine r_isub (dc D_cX12_stepAt_0 15 rfl) ?_
    obtain ⟨o3, h⟩ := h
    exact r_iret (dc D_cX12_stepAt_0 16 rfl) rfl o3 h
  · have h := h.2 c1
    refine r_iloadn (dc D_cX12_stepAt_0 6 rfl) rfl rfl ?_
    refine r_goto (tgt := 25) (dc D_cX12_stepAt_0 7 rfl) (by decide) ?_
    exact r_iret (dc D_cX12_stepAt_0 16 rfl) rfl ra1 h
-- end of GateFlowModel.stepAt
def mi_X12_stepFrom : MI := (cX12_stepFrom, RX12, 2, 2, (some .int), 1)
def FX12_stepFrom (a1 : Int) (σ : PS) (Φ : Int → PS → Prop) : Prop :=
  ((100 ≤ a1 →
    Rg (a1 - 100) ∧
    FX12_at (a1 - 100) 1 σ (fun z3 σ4 =>
    Φ z3 σ4)) ∧
  (¬ 100 ≤ a1 →
    FX12_at a1 0 σ (fun z5 σ6 =>
    Φ z5 σ6)))
set_option maxRecDepth 100000 in
theorem CX12_stepFrom {E : EV} (hE : eOK layM E) {Φ : Int → PS → Prop} (a1 : Int) (ra1 : Rg a1) (σ : PS) (hs : RS σ) (h : FX12_stepFrom a1 σ Φ) : CT layM E yX12_stepFrom mi_X12_stepFrom [.ref (eA E 0), .int (iz a1)] σ Φ := by
  refine ct_of (by decide +kernel) rfl hE rfl rfl hs (fun x => ?_)
  show RW layM E mi_X12_stepFrom Φ 0 [some (.ref (eA E 0)), some (.int (iz a1))] [] σ x
  refine r_iloadn (dc D_cX12_stepFrom_0 0 rfl) rfl rfl ?_
  refine r_bipush (n := 100) (dc D_cX12_stepFrom_0 1 rfl) (by decide +kernel) ?_
  refine r_icmp_ge (tgt := 15) (dc D_cX12_stepFrom_0 2 rfl) (by decide) ra1 (Rl rfl) (fun c1 => ?_) (fun c1 => ?_)
  · have h := h.1 c1
    refine r_aloadn (dc D_cX12_stepFrom_0 8 rfl) rfl rfl ?_
    refine r_iloadn (dc D_cX12_stepFrom_0 9 rfl) rfl rfl ?_
    refine r_bipush (n := 100) (dc D_cX12_stepFrom_0 10 rfl) (by decide +kernel) ?_
    refine r_isub (dc D_cX12_stepFrom_0 11 rfl) ?_
    obtain ⟨o2, h⟩ := h
    refine r_iconst (n := 1) (dc D_cX12_stepFrom_0 12 rfl) ?_
    refine r_callV (As := [.int (iz (a1 - 100)), .int (iz 1)]) (st := []) (dc D_cX12_stepFrom_0 13 rfl) cw_RX12_94 nm_yX12_at (CX12_at hE _ _ o2 (Rl rfl) _ hs h) lM_0 rfl rfl (by decide) rfl rfl rfl (fun z3 σ4 rz3 hσ4 h => ?_)
    show RW layM E mi_X12_stepFrom Φ 24 [some (.ref (eA E 0)), some (.int (iz a1))] [.int (iz z3)] σ4 x
    exact r_iret (dc D_cX12_stepFrom_0 14 rfl) rfl rz3 h
  · have h := h.2 c1
    refine r_aloadn (dc D_cX12_stepFrom_0 3 rfl) rfl rfl ?_
    refine r_iloadn (dc D_cX12_stepFrom_0 4 rfl) rfl rfl ?_
    refine r_iconst (n := 0) (dc D_cX12_stepFrom_0 5 rfl) ?_
    refine r_callV (As := [.int (iz a1), .int (iz 0)]) (st := []) (dc D_cX12_stepFrom_0 6 rfl) cw_RX12_94 nm_yX12_at (CX12_at hE _ _ ra1 (Rl rfl) _ hs h) lM_0 rfl rfl (by decide) rfl rfl rfl (fun z5 σ6 rz5 hσ6 h => ?_)
    show RW layM E mi_X12_stepFrom Φ 12 [some (.ref (eA E 0)), some (.int (iz a1))] [.int (iz z5)] σ6 x
    refine r_goto (tgt := 24) (dc D_cX12_stepFrom_0 7 rfl) (by decide) ?_
    exact r_iret (dc D_cX12_stepFrom_0 14 rfl) rfl rz5 h
-- end of GateFlowModel.stepFrom
def mi_X12_stepTo : MI := (cX12_stepTo, RX12, 2, 2, (some .int), 1)
def FX12_stepTo (a1 : Int) (σ : PS) (Φ : Int → PS → Prop) : Prop :=
  ((100 ≤ a1 →
    Rg (a1 - 100) ∧
    FX12_at (a1 - 100) 0 σ (fun z3 σ4 =>
    Φ z3 σ4)) ∧
  (¬ 100 ≤ a1 →
    FX12_at a1 1 σ (fun z5 σ6 =>
    Φ z5 σ6)))
set_option maxRecDepth 100000 in
theorem CX12_stepTo {E : EV} (hE : eOK layM E) {Φ : Int → PS → Prop} (a1 : Int) (ra1 : Rg a1) (σ : PS) (hs : RS σ) (h : FX12_stepTo a1 σ Φ) : CT layM E yX12_stepTo mi_X12_stepTo [.ref (eA E 0), .int (iz a1)] σ Φ := by
  refine ct_of (by decide +kernel) rfl hE rfl rfl hs (fun x => ?_)
  show RW layM E mi_X12_stepTo Φ 0 [some (.ref (eA E 0)), some (.int (iz a1))] [] σ x
  refine r_iloadn (dc D_cX12_stepTo_0 0 rfl) rfl rfl ?_
  refine r_bipush (n := 100) (dc D_cX12_stepTo_0 1 rfl) (by decide +kernel) ?_
  refine r_icmp_ge (tgt := 15) (dc D_cX12_stepTo_0 2 rfl) (by decide) ra1 (Rl rfl) (fun c1 => ?_) (fun c1 => ?_)
  · have h := h.1 c1
    refine r_aloadn (dc D_cX12_stepTo_0 8 rfl) rfl rfl ?_
    refine r_iloadn (dc D_cX12_stepTo_0 9 rfl) rfl rfl ?_
    refine r_bipush (n := 100) (dc D_cX12_stepTo_0 10 rfl) (by decide +kernel) ?_
    refine r_isub (dc D_cX12_stepTo_0 11 rfl) ?_
    obtain ⟨o2, h⟩ := h
    refine r_iconst (n := 0) (dc D_cX12_stepTo_0 12 rfl) ?_
    refine r_callV (As := [.int (iz (a1 - 100)), .int (iz 0)]) (st := []) (dc D_cX12_stepTo_0 13 rfl) cw_RX12_94 nm_yX12_at (CX12_at hE _ _ o2 (Rl rfl) _ hs h) lM_0 rfl rfl (by decide) rfl rfl rfl (fun z3 σ4 rz3 hσ4 h => ?_)
    show RW layM E mi_X12_stepTo Φ 24 [some (.ref (eA E 0)), some (.int (iz a1))] [.int (iz z3)] σ4 x
    exact r_iret (dc D_cX12_stepTo_0 14 rfl) rfl rz3 h
  · have h := h.2 c1
    refine r_aloadn (dc D_cX12_stepTo_0 3 rfl) rfl rfl ?_
    refine r_iloadn (dc D_cX12_stepTo_0 4 rfl) rfl rfl ?_
    refine r_iconst (n := 1) (dc D_cX12_stepTo_0 5 rfl) ?_
    refine r_callV (As := [.int (iz a1), .int (iz 1)]) (st := []) (dc D_cX12_stepTo_0 6 rfl) cw_RX12_94 nm_yX12_at (CX12_at hE _ _ ra1 (Rl rfl) _ hs h) lM_0 rfl rfl (by decide) rfl rfl rfl (fun z5 σ6 rz5 hσ6 h => ?_)
    show RW layM E mi_X12_stepTo Φ 12 [some (.ref (eA E 0)), some (.int (iz a1))] [.int (iz z5)] σ6 x
    refine r_goto (tgt := 24) (dc D_cX12_stepTo_0 7 rfl) (by decide) ?_
    exact r_iret (dc D_cX12_stepTo_0 14 rfl) rfl rz5 h
-- end of GateFlowModel.stepTo
def mi_X12_room : MI := (cX12_room, RX12, 2, 1, (some .int), 1)
def FX12_room (a1 : Int) (σ : PS) (Φ : Int → PS → Prop) : Prop :=
  ((100 ≤ a1 →
    Rg (a1 - 100) ∧
    (0 ≤ a1 - 100 ∧ a1 - 100 < 30) ∧
    Φ (σ 4 (a1 - 100).toNat) σ) ∧
  (¬ 100 ≤ a1 →
    (0 ≤ a1 ∧ a1 < 30) ∧
    (0 ≤ a1 ∧ a1 < 30) ∧
    Rg ((σ 3 a1.toNat) - (σ 4 a1.toNat)) ∧
    Φ ((σ 3 a1.toNat) - (σ 4 a1.toNat)) σ))
theorem fw_RX12_19 : FW RX12 19 12 4 := ⟨RX12, TX12, 39, rfl, by decide, rfl, tb_1 1223 (by decide +kernel), uw_12⟩
set_option maxRecDepth 100000 in
theorem CX12_room {E : EV} (hE : eOK layM E) {Φ : Int → PS → Prop} (a1 : Int) (ra1 : Rg a1) (σ : PS) (hs : RS σ) (h : FX12_room a1 σ Φ) : CT layM E yX12_room mi_X12_room [.ref (eA E 0), .int (iz a1)] σ Φ := by
  refine ct_of (by decide +kernel) rfl hE rfl rfl hs (fun x => ?_)
  show RW layM E mi_X12_room Φ 0 [some (.ref (eA E 0)), some (.int (iz a1))] [] σ x
  refine r_iloadn (dc D_cX12_room_0 0 rfl) rfl rfl ?_
  refine r_bipush (n := 100) (dc D_cX12_room_0 1 rfl) (by decide +kernel) ?_
  refine r_icmp_ge (tgt := 22) (dc D_cX12_room_0 2 rfl) (by decide) ra1 (Rl rfl) (fun c1 => ?_) (fun c1 => ?_)
  · have h := h.1 c1
    refine r_aloadn (dc D_cX12_room_0 13 rfl) rfl rfl ?_
    refine r_getR (dc D_cX12_room_0 14 rfl) fw_RX12_19 lM_0 rfl ?_
    refine r_iloadn (dc D_cX12_room_0 15 rfl) rfl rfl ?_
    refine r_bipush (n := 100) (dc D_cX12_room_0 16 rfl) (by decide +kernel) ?_
    refine r_isub (dc D_cX12_room_0 17 rfl) ?_
    obtain ⟨o2, h⟩ := h
    obtain ⟨o3, h⟩ := h
    refine r_iald (N := 30) (dc D_cX12_room_0 18 rfl) lM_4 rfl rfl o3 ?_
    exact r_iret (dc D_cX12_room_0 19 rfl) rfl (hs _ _) h
  · have h := h.2 c1
    refine r_aloadn (dc D_cX12_room_0 3 rfl) rfl rfl ?_
    refine r_getR (dc D_cX12_room_0 4 rfl) fw_RX12_16 lM_0 rfl ?_
    refine r_iloadn (dc D_cX12_room_0 5 rfl) rfl rfl ?_
    obtain ⟨o4, h⟩ := h
    refine r_iald (N := 30) (dc D_cX12_room_0 6 rfl) lM_3 rfl rfl o4 ?_
    refine r_aloadn (dc D_cX12_room_0 7 rfl) rfl rfl ?_
    refine r_getR (dc D_cX12_room_0 8 rfl) fw_RX12_19 lM_0 rfl ?_
    refine r_iloadn (dc D_cX12_room_0 9 rfl) rfl rfl ?_
    obtain ⟨o5, h⟩ := h
    refine r_iald (N := 30) (dc D_cX12_room_0 10 rfl) lM_4 rfl rfl o5 ?_
    refine r_isub (dc D_cX12_room_0 11 rfl) ?_
    obtain ⟨o6, h⟩ := h
    refine r_goto (tgt := 31) (dc D_cX12_room_0 12 rfl) (by decide) ?_
    exact r_iret (dc D_cX12_room_0 19 rfl) rfl o6 h
-- end of GateFlowModel.room
def mi_X12_measures : MI := (cX12_measures, RX12, 9, 3, none, 0)
def LX12_measures_170 (K40 : Int → Int → Int → PS → Prop) (K49 : Int → Int → Int → Int → PS → Prop) (x2 x3 x4 x5 : Int) (σ : PS) (Φ : Int → PS → Prop) : Prop :=
  Rg (x5 + 1) ∧
  K49 x2 x3 x4 (x5 + 1) σ
def LX12_measures_110 (K40 : Int → Int → Int → PS → Prop) (K49 : Int → Int → Int → Int → PS → Prop) (x2 x3 x4 x5 x6 x7 s0 : Int) (σ : PS) (Φ : Int → PS → Prop) : Prop :=
  (0 ≤ x4 ∧ x4 < 108) ∧
  ((¬ x7 = σ 6 x4.toNat →
    LX12_measures_170 K40 K49 x2 x3 x4 x5 σ Φ) ∧
  (x7 = σ 6 x4.toNat →
    (0 ≤ s0 ∧ s0 < 12) ∧
    ((0 ≤ σ 5 s0.toNat →
      LX12_measures_170 K40 K49 x2 x3 x4 x5 σ Φ) ∧
    (¬ 0 ≤ σ 5 s0.toNat →
      FX12_room x6 σ (fun z5 σ6 =>
      ((z5 ≤ 0 →
        LX12_measures_170 K40 K49 x2 x3 x4 x5 σ6 Φ) ∧
      (¬ z5 ≤ 0 →
        (0 ≤ x7 ∧ x7 < 12) ∧
        Rg ((σ6 5 x7.toNat) + 1) ∧
        (0 ≤ s0 ∧ s0 < 12) ∧
        ∀ σ11 : PS, σ11 = up2 σ6 5 s0.toNat ((σ6 5 x7.toNat) + 1) →
        (0 ≤ x3 ∧ x3 < 108) ∧
        ∀ σ13 : PS, σ13 = up2 σ11 6 x3.toNat s0 →
        Rg (x3 + 1) ∧
        LX12_measures_170 K40 K49 x2 (x3 + 1) x4 x5 σ13 Φ)))))))
def LX12_measures_89 (K40 : Int → Int → Int → PS → Prop) (K49 : Int → Int → Int → Int → PS → Prop) (x2 x3 x4 x5 x6 s0 : Int) (σ : PS) (Φ : Int → PS → Prop) : Prop :=
  ((x2 = 0 →
    FX12_stepTo x6 σ (fun z2 σ3 =>
    LX12_measures_110 K40 K49 x2 x3 x4 x5 x6 s0 z2 σ3 Φ)) ∧
  (¬ x2 = 0 →
    FX12_stepFrom x6 σ (fun z4 σ5 =>
    LX12_measures_110 K40 K49 x2 x3 x4 x5 x6 s0 z4 σ5 Φ)))
def BX12_measures_49 (K40 : Int → Int → Int → PS → Prop) (K49 : Int → Int → Int → Int → PS → Prop) (x2 x3 x4 x5 : Int) (σ : PS) (Φ : Int → PS → Prop) : Prop :=
  Rg (2 * (σ 1 2)) ∧
  ((2 * (σ 1 2) ≤ x5 →
    Rg (x4 + 1) ∧
    K40 x2 x3 (x4 + 1) σ) ∧
  (¬ 2 * (σ 1 2) ≤ x5 →
    FX12_stepAt x5 σ (fun z4 σ5 =>
    ((x2 = 0 →
      FX12_stepFrom z4 σ5 (fun z7 σ8 =>
      LX12_measures_89 K40 K49 x2 x3 x4 x5 z4 z7 σ8 Φ)) ∧
    (¬ x2 = 0 →
      FX12_stepTo z4 σ5 (fun z9 σ10 =>
      LX12_measures_89 K40 K49 x2 x3 x4 x5 z4 z9 σ10 Φ))))))
def LX12_measures_49 (K40 : Int → Int → Int → PS → Prop) : Nat → Int → Int → Int → Int → PS → (Int → PS → Prop) → Prop
  | 0, _, _, _, _, _, _ => False
  | n + 1, x2, x3, x4, x5, σ, Φ => BX12_measures_49 K40 (fun x2 x3 x4 x5 σ => LX12_measures_49 K40 n x2 x3 x4 x5 σ Φ) x2 x3 x4 x5 σ Φ
def BX12_measures_40 (K40 : Int → Int → Int → PS → Prop) (x2 x3 x4 : Int) (σ : PS) (Φ : Int → PS → Prop) : Prop :=
  ((x3 ≤ x4 →
    Φ 0 σ) ∧
  (¬ x3 ≤ x4 →
    ∃ n, LX12_measures_49 K40 n x2 x3 x4 0 σ Φ))
def LX12_measures_40 : Nat → Int → Int → Int → PS → (Int → PS → Prop) → Prop
  | 0, _, _, _, _, _ => False
  | n + 1, x2, x3, x4, σ, Φ => BX12_measures_40 (fun x2 x3 x4 σ => LX12_measures_40 n x2 x3 x4 σ Φ) x2 x3 x4 σ Φ
def BX12_measures_2 (K2 : Int → Int → Int → PS → Prop) (x1 x2 x3 : Int) (σ : PS) (Φ : Int → PS → Prop) : Prop :=
  ((12 ≤ x3 →
    (0 ≤ x1 ∧ x1 < 12) ∧
    ∀ σ3 : PS, σ3 = up2 σ 5 x1.toNat 0 →
    ∀ σ4 : PS, σ4 = up2 σ3 6 0 x1 →
    ∃ n, LX12_measures_40 n x2 1 0 σ4 Φ) ∧
  (¬ 12 ≤ x3 →
    (0 ≤ x3 ∧ x3 < 12) ∧
    ∀ σ6 : PS, σ6 = up2 σ 5 x3.toNat (-1) →
    Rg (x3 + 1) ∧
    K2 x1 x2 (x3 + 1) σ6))
def LX12_measures_2 : Nat → Int → Int → Int → PS → (Int → PS → Prop) → Prop
  | 0, _, _, _, _, _ => False
  | n + 1, x1, x2, x3, σ, Φ => BX12_measures_2 (fun x1 x2 x3 σ => LX12_measures_2 n x1 x2 x3 σ Φ) x1 x2 x3 σ Φ
def FX12_measures (a1 a2 : Int) (σ : PS) (Φ : Int → PS → Prop) : Prop :=
  ∃ n, LX12_measures_2 n a1 a2 0 σ Φ
theorem cw_RX12_130 : CWV RX12 130 yX12_room mi_X12_room := tb_r [1432, 1434, 55, 110, 1435] (by decide +kernel)
theorem nm_yX12_room : ynm yX12_room 1 := ⟨⟨by decide +kernel, by decide +kernel⟩, by decide +kernel⟩
theorem cw_RX12_124 : CWV RX12 124 yX12_stepTo mi_X12_stepTo := tb_r [1424, 1426, 53, 110, 1427] (by decide +kernel)
theorem nm_yX12_stepTo : ynm yX12_stepTo 1 := ⟨⟨by decide +kernel, by decide +kernel⟩, by decide +kernel⟩
theorem cw_RX12_127 : CWV RX12 127 yX12_stepFrom mi_X12_stepFrom := tb_r [1428, 1430, 54, 110, 1431] (by decide +kernel)
theorem nm_yX12_stepFrom : ynm yX12_stepFrom 1 := ⟨⟨by decide +kernel, by decide +kernel⟩, by decide +kernel⟩
theorem cw_RX12_120 : CWV RX12 120 yX12_stepAt mi_X12_stepAt := tb_r [1420, 1422, 52, 110, 1423] (by decide +kernel)
theorem nm_yX12_stepAt : ynm yX12_stepAt 1 := ⟨⟨by decide +kernel, by decide +kernel⟩, by decide +kernel⟩
set_option maxRecDepth 100000 in
theorem TX12_measures_170 {E : EV} (hE : eOK layM E) {Φ : Int → PS → Prop} {K40 : Int → Int → Int → PS → Prop} {K49 : Int → Int → Int → Int → PS → Prop} (x : CX) (hK40 : ∀ (x2 x3 x4 : Int) (σ : PS), Rg x2 → Rg x3 → Rg x4 → RS σ → K40 x2 x3 x4 σ → RW layM E mi_X12_measures Φ 40 [some (.ref (eA E 0)), none, some (.int (iz x2)), some (.int (iz x3)), some (.int (iz x4)), none, none, none, none] [] σ x) (hK49 : ∀ (x2 x3 x4 x5 : Int) (σ : PS), Rg x2 → Rg x3 → Rg x4 → Rg x5 → RS σ → K49 x2 x3 x4 x5 σ → RW layM E mi_X12_measures Φ 49 [some (.ref (eA E 0)), none, some (.int (iz x2)), some (.int (iz x3)), some (.int (iz x4)), some (.int (iz x5)), none, none, none] [] σ x) (x2 x3 x4 x5 : Int) (rx2 : Rg x2) (rx3 : Rg x3) (rx4 : Rg x4) (rx5 : Rg x5) (σ : PS) (hs : RS σ) (h : LX12_measures_170 K40 K49 x2 x3 x4 x5 σ Φ) : RW layM E mi_X12_measures Φ 170 [some (.ref (eA E 0)), none, some (.int (iz x2)), some (.int (iz x3)), some (.int (iz x4)), some (.int (iz x5)), none, none, none] [] σ x := by
  obtain ⟨o1, h⟩ := h
  refine r_iinc (lv' := [some (.ref (eA E 0)), none, some (.int (iz x2)), some (.int (iz x3)), some (.int (iz x4)), some (.int (iz (x5 + 1))), none, none, none]) (dc D_cX12_measures_2 14 rfl) rfl rfl rfl ?_
  refine r_goto (tgt := 49) (dc D_cX12_measures_2 15 rfl) (by decide) ?_
  exact hK49 _ _ _ _ _ rx2 rx3 rx4 o1 hs h
set_option maxRecDepth 100000 in
theorem TX12_measures_110 {E : EV} (hE : eOK layM E) {Φ : Int → PS → Prop} {K40 : Int → Int → Int → PS → Prop} {K49 : Int → Int → Int → Int → PS → Prop} (x : CX) (hK40 : ∀ (x2 x3 x4 : Int) (σ : PS), Rg x2 → Rg x3 → Rg x4 → RS σ → K40 x2 x3 x4 σ → RW layM E mi_X12_measures Φ 40 [some (.ref (eA E 0)), none, some (.int (iz x2)), some (.int (iz x3)), some (.int (iz x4)), none, none, none, none] [] σ x) (hK49 : ∀ (x2 x3 x4 x5 : Int) (σ : PS), Rg x2 → Rg x3 → Rg x4 → Rg x5 → RS σ → K49 x2 x3 x4 x5 σ → RW layM E mi_X12_measures Φ 49 [some (.ref (eA E 0)), none, some (.int (iz x2)), some (.int (iz x3)), some (.int (iz x4)), some (.int (iz x5)), none, none, none] [] σ x) (x2 x3 x4 x5 x6 x7 s0 : Int) (rx2 : Rg x2) (rx3 : Rg x3) (rx4 : Rg x4) (rx5 : Rg x5) (rx6 : Rg x6) (rx7 : Rg x7) (rs0 : Rg s0) (σ : PS) (hs : RS σ) (h : LX12_measures_110 K40 K49 x2 x3 x4 x5 x6 x7 s0 σ Φ) : RW layM E mi_X12_measures Φ 110 [some (.ref (eA E 0)), none, some (.int (iz x2)), some (.int (iz x3)), some (.int (iz x4)), some (.int (iz x5)), some (.int (iz x6)), some (.int (iz x7)), none] [.int (iz s0)] σ x := by
  refine r_istore (lv' := [some (.ref (eA E 0)), none, some (.int (iz x2)), some (.int (iz x3)), some (.int (iz x4)), some (.int (iz x5)), some (.int (iz x6)), some (.int (iz x7)), some (.int (iz s0))]) (dc D_cX12_measures_1 22 rfl) rfl rfl ?_
  refine r_iload (dc D_cX12_measures_1 23 rfl) rfl ?_
  refine r_aloadn (dc D_cX12_measures_1 24 rfl) rfl rfl ?_
  refine r_getR (dc D_cX12_measures_1 25 rfl) fw_RX12_25 lM_0 rfl ?_
  refine r_iload (dc D_cX12_measures_1 26 rfl) rfl ?_
  obtain ⟨o1, h⟩ := h
  refine r_iald (N := 108) (dc D_cX12_measures_1 27 rfl) lM_6 rfl rfl o1 ?_
  refine r_icmp_ne (tgt := 170) (dc D_cX12_measures_1 28 rfl) (by decide) rx7 (hs _ _) (fun c2 => ?_) (fun c2 => ?_)
  · have h := h.1 c2
    refine r_sub (lv' := [some (.ref (eA E 0)), none, some (.int (iz x2)), some (.int (iz x3)), some (.int (iz x4)), some (.int (iz x5)), none, none, none]) (subL_s (subL_n (subL_s (subL_s (subL_s (subL_s (subL_n (subL_n (subL_n subL_e))))))))) ?_
    exact TX12_measures_170 hE x hK40 hK49 _ _ _ _ rx2 rx3 rx4 rx5 _ hs h
  · have h := h.2 c2
    refine r_aloadn (dc D_cX12_measures_1 29 rfl) rfl rfl ?_
    refine r_getR (dc D_cX12_measures_1 30 rfl) fw_RX12_22 lM_0 rfl ?_
    refine r_iload (dc D_cX12_measures_1 31 rfl) rfl ?_
    obtain ⟨o3, h⟩ := h
    refine r_iald (N := 12) (dc D_cX12_measures_1 32 rfl) lM_5 rfl rfl o3 ?_
    refine r_if_ge (tgt := 170) (dc D_cX12_measures_1 33 rfl) (by decide) (hs _ _) (fun c4 => ?_) (fun c4 => ?_)
    · have h := h.1 c4
      refine r_sub (lv' := [some (.ref (eA E 0)), none, some (.int (iz x2)), some (.int (iz x3)), some (.int (iz x4)), some (.int (iz x5)), none, none, none]) (subL_s (subL_n (subL_s (subL_s (subL_s (subL_s (subL_n (subL_n (subL_n subL_e))))))))) ?_
      exact TX12_measures_170 hE x hK40 hK49 _ _ _ _ rx2 rx3 rx4 rx5 _ hs h
    · have h := h.2 c4
      refine r_aloadn (dc D_cX12_measures_1 34 rfl) rfl rfl ?_
      refine r_iload (dc D_cX12_measures_1 35 rfl) rfl ?_
      refine r_callV (As := [.int (iz x6)]) (st := []) (dc D_cX12_measures_1 36 rfl) cw_RX12_130 nm_yX12_room (CX12_room hE _ rx6 _ hs h) lM_0 rfl rfl (by decide) rfl rfl rfl (fun z5 σ6 rz5 hσ6 h => ?_)
      show RW layM E mi_X12_measures Φ 140 [some (.ref (eA E 0)), none, some (.int (iz x2)), some (.int (iz x3)), some (.int (iz x4)), some (.int (iz x5)), some (.int (iz x6)), some (.int (iz x7)), some (.int (iz s0))] [.int (iz z5)] σ6 x
      refine r_if_le (tgt := 170) (dc D_cX12_measures_1 37 rfl) (by decide) rz5 (fun c7 => ?_) (fun c7 => ?_)
      · have h := h.1 c7
        refine r_sub (lv' := [some (.ref (eA E 0)), none, some (.int (iz x2)), some (.int (iz x3)), some (.int (iz x4)), some (.int (iz x5)), none, none, none]) (subL_s (subL_n (subL_s (subL_s (subL_s (subL_s (subL_n (subL_n (subL_n subL_e))))))))) ?_
        exact TX12_measures_170 hE x hK40 hK49 _ _ _ _ rx2 rx3 rx4 rx5 _ hσ6 h
      · have h := h.2 c7
        refine r_aloadn (dc D_cX12_measures_1 38 rfl) rfl rfl ?_
        refine r_getR (dc D_cX12_measures_1 39 rfl) fw_RX12_22 lM_0 rfl ?_
        refine r_iload (dc D_cX12_measures_2 0 rfl) rfl ?_
        refine r_aloadn (dc D_cX12_measures_2 1 rfl) rfl rfl ?_
        refine r_getR (dc D_cX12_measures_2 2 rfl) fw_RX12_22 lM_0 rfl ?_
        refine r_iload (dc D_cX12_measures_2 3 rfl) rfl ?_
        obtain ⟨o8, h⟩ := h
        refine r_iald (N := 12) (dc D_cX12_measures_2 4 rfl) lM_5 rfl rfl o8 ?_
        refine r_iconst (n := 1) (dc D_cX12_measures_2 5 rfl) ?_
        refine r_iadd (dc D_cX12_measures_2 6 rfl) ?_
        obtain ⟨o9, h⟩ := h
        obtain ⟨o10, h⟩ := h
        refine r_iast (N := 12) (dc D_cX12_measures_2 7 rfl) lM_5 rfl rfl o10 o9 ?_
        refine r_sig (fun σ11 eσ11 => ?_)
        have h := h σ11 eσ11
        have hσ11 : RS σ11 := RS_eq eσ11 (RS.up hσ6 o9 _ _)
        refine r_aloadn (dc D_cX12_measures_2 8 rfl) rfl rfl ?_
        refine r_getR (dc D_cX12_measures_2 9 rfl) fw_RX12_25 lM_0 rfl ?_
        refine r_iloadn (dc D_cX12_measures_2 10 rfl) rfl rfl ?_
        refine r_iload (dc D_cX12_measures_2 11 rfl) rfl ?_
        obtain ⟨o12, h⟩ := h
        refine r_iast (N := 108) (dc D_cX12_measures_2 12 rfl) lM_6 rfl rfl o12 rs0 ?_
        refine r_sig (fun σ13 eσ13 => ?_)
        have h := h σ13 eσ13
        have hσ13 : RS σ13 := RS_eq eσ13 (RS.up hσ11 rs0 _ _)
        obtain ⟨o14, h⟩ := h
        refine r_iinc (lv' := [some (.ref (eA E 0)), none, some (.int (iz x2)), some (.int (iz (x3 + 1))), some (.int (iz x4)), some (.int (iz x5)), some (.int (iz x6)), some (.int (iz x7)), some (.int (iz s0))]) (dc D_cX12_measures_2 13 rfl) rfl rfl rfl ?_
        refine r_sub (lv' := [some (.ref (eA E 0)), none, some (.int (iz x2)), some (.int (iz (x3 + 1))), some (.int (iz x4)), some (.int (iz x5)), none, none, none]) (subL_s (subL_n (subL_s (subL_s (subL_s (subL_s (subL_n (subL_n (subL_n subL_e))))))))) ?_
        exact TX12_measures_170 hE x hK40 hK49 _ _ _ _ rx2 o14 rx4 rx5 _ hσ13 h
set_option maxRecDepth 100000 in
theorem TX12_measures_89 {E : EV} (hE : eOK layM E) {Φ : Int → PS → Prop} {K40 : Int → Int → Int → PS → Prop} {K49 : Int → Int → Int → Int → PS → Prop} (x : CX) (hK40 : ∀ (x2 x3 x4 : Int) (σ : PS), Rg x2 → Rg x3 → Rg x4 → RS σ → K40 x2 x3 x4 σ → RW layM E mi_X12_measures Φ 40 [some (.ref (eA E 0)), none, some (.int (iz x2)), some (.int (iz x3)), some (.int (iz x4)), none, none, none, none] [] σ x) (hK49 : ∀ (x2 x3 x4 x5 : Int) (σ : PS), Rg x2 → Rg x3 → Rg x4 → Rg x5 → RS σ → K49 x2 x3 x4 x5 σ → RW layM E mi_X12_measures Φ 49 [some (.ref (eA E 0)), none, some (.int (iz x2)), some (.int (iz x3)), some (.int (iz x4)), some (.int (iz x5)), none, none, none] [] σ x) (x2 x3 x4 x5 x6 s0 : Int) (rx2 : Rg x2) (rx3 : Rg x3) (rx4 : Rg x4) (rx5 : Rg x5) (rx6 : Rg x6) (rs0 : Rg s0) (σ : PS) (hs : RS σ) (h : LX12_measures_89 K40 K49 x2 x3 x4 x5 x6 s0 σ Φ) : RW layM E mi_X12_measures Φ 89 [some (.ref (eA E 0)), none, some (.int (iz x2)), some (.int (iz x3)), some (.int (iz x4)), some (.int (iz x5)), some (.int (iz x6)), none, none] [.int (iz s0)] σ x := by
  refine r_istore (lv' := [some (.ref (eA E 0)), none, some (.int (iz x2)), some (.int (iz x3)), some (.int (iz x4)), some (.int (iz x5)), some (.int (iz x6)), some (.int (iz s0)), none]) (dc D_cX12_measures_1 12 rfl) rfl rfl ?_
  refine r_iloadn (dc D_cX12_measures_1 13 rfl) rfl rfl ?_
  refine r_if_eq (tgt := 104) (dc D_cX12_measures_1 14 rfl) (by decide) rx2 (fun c1 => ?_) (fun c1 => ?_)
  · have h := h.1 c1
    refine r_aloadn (dc D_cX12_measures_1 19 rfl) rfl rfl ?_
    refine r_iload (dc D_cX12_measures_1 20 rfl) rfl ?_
    refine r_callV (As := [.int (iz x6)]) (st := []) (dc D_cX12_measures_1 21 rfl) cw_RX12_124 nm_yX12_stepTo (CX12_stepTo hE _ rx6 _ hs h) lM_0 rfl rfl (by decide) rfl rfl rfl (fun z2 σ3 rz2 hσ3 h => ?_)
    show RW layM E mi_X12_measures Φ 110 [some (.ref (eA E 0)), none, some (.int (iz x2)), some (.int (iz x3)), some (.int (iz x4)), some (.int (iz x5)), some (.int (iz x6)), some (.int (iz s0)), none] [.int (iz z2)] σ3 x
    exact TX12_measures_110 hE x hK40 hK49 _ _ _ _ _ _ _ rx2 rx3 rx4 rx5 rx6 rs0 rz2 _ hσ3 h
  · have h := h.2 c1
    refine r_aloadn (dc D_cX12_measures_1 15 rfl) rfl rfl ?_
    refine r_iload (dc D_cX12_measures_1 16 rfl) rfl ?_
    refine r_callV (As := [.int (iz x6)]) (st := []) (dc D_cX12_measures_1 17 rfl) cw_RX12_127 nm_yX12_stepFrom (CX12_stepFrom hE _ rx6 _ hs h) lM_0 rfl rfl (by decide) rfl rfl rfl (fun z4 σ5 rz4 hσ5 h => ?_)
    show RW layM E mi_X12_measures Φ 101 [some (.ref (eA E 0)), none, some (.int (iz x2)), some (.int (iz x3)), some (.int (iz x4)), some (.int (iz x5)), some (.int (iz x6)), some (.int (iz s0)), none] [.int (iz z4)] σ5 x
    refine r_goto (tgt := 110) (dc D_cX12_measures_1 18 rfl) (by decide) ?_
    exact TX12_measures_110 hE x hK40 hK49 _ _ _ _ _ _ _ rx2 rx3 rx4 rx5 rx6 rs0 rz4 _ hσ5 h
set_option maxRecDepth 100000 in
theorem TBX12_measures_49 {E : EV} (hE : eOK layM E) {Φ : Int → PS → Prop} {K40 : Int → Int → Int → PS → Prop} {K49 : Int → Int → Int → Int → PS → Prop} (x : CX) (hK40 : ∀ (x2 x3 x4 : Int) (σ : PS), Rg x2 → Rg x3 → Rg x4 → RS σ → K40 x2 x3 x4 σ → RW layM E mi_X12_measures Φ 40 [some (.ref (eA E 0)), none, some (.int (iz x2)), some (.int (iz x3)), some (.int (iz x4)), none, none, none, none] [] σ x) (hK49 : ∀ (x2 x3 x4 x5 : Int) (σ : PS), Rg x2 → Rg x3 → Rg x4 → Rg x5 → RS σ → K49 x2 x3 x4 x5 σ → RW layM E mi_X12_measures Φ 49 [some (.ref (eA E 0)), none, some (.int (iz x2)), some (.int (iz x3)), some (.int (iz x4)), some (.int (iz x5)), none, none, none] [] σ x) (x2 x3 x4 x5 : Int) (rx2 : Rg x2) (rx3 : Rg x3) (rx4 : Rg x4) (rx5 : Rg x5) (σ : PS) (hs : RS σ) (h : BX12_measures_49 K40 K49 x2 x3 x4 x5 σ Φ) : RW layM E mi_X12_measures Φ 49 [some (.ref (eA E 0)), none, some (.int (iz x2)), some (.int (iz x3)), some (.int (iz x4)), some (.int (iz x5)), none, none, none] [] σ x := by
  refine r_iload (dc D_cX12_measures_0 31 rfl) rfl ?_
  refine r_iconst (n := 2) (dc D_cX12_measures_0 32 rfl) ?_
  refine r_aloadn (dc D_cX12_measures_0 33 rfl) rfl rfl ?_
  refine r_getR (dc D_cX12_measures_0 34 rfl) fw_RX12_9 lM_0 rfl ?_
  refine r_iconst (n := 2) (dc D_cX12_measures_0 35 rfl) ?_
  refine r_iald (N := 183) (dc D_cX12_measures_0 36 rfl) lM_1 rfl rfl ⟨by decide, by decide⟩ ?_
  refine r_imul (dc D_cX12_measures_0 37 rfl) ?_
  obtain ⟨o1, h⟩ := h
  refine r_icmp_ge (tgt := 176) (dc D_cX12_measures_0 38 rfl) (by decide) rx5 o1 (fun c2 => ?_) (fun c2 => ?_)
  · have h := h.1 c2
    obtain ⟨o3, h⟩ := h
    refine r_iinc (lv' := [some (.ref (eA E 0)), none, some (.int (iz x2)), some (.int (iz x3)), some (.int (iz (x4 + 1))), some (.int (iz x5)), none, none, none]) (dc D_cX12_measures_2 16 rfl) rfl rfl rfl ?_
    refine r_goto (tgt := 40) (dc D_cX12_measures_2 17 rfl) (by decide) ?_
    refine r_sub (lv' := [some (.ref (eA E 0)), none, some (.int (iz x2)), some (.int (iz x3)), some (.int (iz (x4 + 1))), none, none, none, none]) (subL_s (subL_n (subL_s (subL_s (subL_s (subL_n (subL_n (subL_n (subL_n subL_e))))))))) ?_
    exact hK40 _ _ _ _ rx2 rx3 o3 hs h
  · have h := h.2 c2
    refine r_aloadn (dc D_cX12_measures_0 39 rfl) rfl rfl ?_
    refine r_iload (dc D_cX12_measures_1 0 rfl) rfl ?_
    refine r_callV (As := [.int (iz x5)]) (st := []) (dc D_cX12_measures_1 1 rfl) cw_RX12_120 nm_yX12_stepAt (CX12_stepAt hE _ rx5 _ hs h) lM_0 rfl rfl (by decide) rfl rfl rfl (fun z4 σ5 rz4 hσ5 h => ?_)
    show RW layM E mi_X12_measures Φ 68 [some (.ref (eA E 0)), none, some (.int (iz x2)), some (.int (iz x3)), some (.int (iz x4)), some (.int (iz x5)), none, none, none] [.int (iz z4)] σ5 x
    refine r_istore (lv' := [some (.ref (eA E 0)), none, some (.int (iz x2)), some (.int (iz x3)), some (.int (iz x4)), some (.int (iz x5)), some (.int (iz z4)), none, none]) (dc D_cX12_measures_1 2 rfl) rfl rfl ?_
    refine r_iloadn (dc D_cX12_measures_1 3 rfl) rfl rfl ?_
    refine r_if_eq (tgt := 83) (dc D_cX12_measures_1 4 rfl) (by decide) rx2 (fun c6 => ?_) (fun c6 => ?_)
    · have h := h.1 c6
      refine r_aloadn (dc D_cX12_measures_1 9 rfl) rfl rfl ?_
      refine r_iload (dc D_cX12_measures_1 10 rfl) rfl ?_
      refine r_callV (As := [.int (iz z4)]) (st := []) (dc D_cX12_measures_1 11 rfl) cw_RX12_127 nm_yX12_stepFrom (CX12_stepFrom hE _ rz4 _ hσ5 h) lM_0 rfl rfl (by decide) rfl rfl rfl (fun z7 σ8 rz7 hσ8 h => ?_)
      show RW layM E mi_X12_measures Φ 89 [some (.ref (eA E 0)), none, some (.int (iz x2)), some (.int (iz x3)), some (.int (iz x4)), some (.int (iz x5)), some (.int (iz z4)), none, none] [.int (iz z7)] σ8 x
      exact TX12_measures_89 hE x hK40 hK49 _ _ _ _ _ _ rx2 rx3 rx4 rx5 rz4 rz7 _ hσ8 h
    · have h := h.2 c6
      refine r_aloadn (dc D_cX12_measures_1 5 rfl) rfl rfl ?_
      refine r_iload (dc D_cX12_measures_1 6 rfl) rfl ?_
      refine r_callV (As := [.int (iz z4)]) (st := []) (dc D_cX12_measures_1 7 rfl) cw_RX12_124 nm_yX12_stepTo (CX12_stepTo hE _ rz4 _ hσ5 h) lM_0 rfl rfl (by decide) rfl rfl rfl (fun z9 σ10 rz9 hσ10 h => ?_)
      show RW layM E mi_X12_measures Φ 80 [some (.ref (eA E 0)), none, some (.int (iz x2)), some (.int (iz x3)), some (.int (iz x4)), some (.int (iz x5)), some (.int (iz z4)), none, none] [.int (iz z9)] σ10 x
      refine r_goto (tgt := 89) (dc D_cX12_measures_1 8 rfl) (by decide) ?_
      exact TX12_measures_89 hE x hK40 hK49 _ _ _ _ _ _ rx2 rx3 rx4 rx5 rz4 rz9 _ hσ10 h
theorem TX12_measures_49 {E : EV} (hE : eOK layM E) {Φ : Int → PS → Prop} {K40 : Int → Int → Int → PS → Prop} (x : CX) (hK40 : ∀ (x2 x3 x4 : Int) (σ : PS), Rg x2 → Rg x3 → Rg x4 → RS σ → K40 x2 x3 x4 σ → RW layM E mi_X12_measures Φ 40 [some (.ref (eA E 0)), none, some (.int (iz x2)), some (.int (iz x3)), some (.int (iz x4)), none, none, none, none] [] σ x) (n : Nat) : ∀ (x2 x3 x4 x5 : Int) (σ : PS), Rg x2 → Rg x3 → Rg x4 → Rg x5 → RS σ → LX12_measures_49 K40 n x2 x3 x4 x5 σ Φ → RW layM E mi_X12_measures Φ 49 [some (.ref (eA E 0)), none, some (.int (iz x2)), some (.int (iz x3)), some (.int (iz x4)), some (.int (iz x5)), none, none, none] [] σ x := by
  induction n with
  | zero => intro x2 x3 x4 x5 σ _ _ _ _ _ h; exact h.elim
  | succ n ih => intro x2 x3 x4 x5 σ rx2 rx3 rx4 rx5 hs h; exact TBX12_measures_49 hE x hK40 ih x2 x3 x4 x5 rx2 rx3 rx4 rx5 σ hs h
set_option maxRecDepth 100000 in
theorem TBX12_measures_40 {E : EV} (hE : eOK layM E) {Φ : Int → PS → Prop} {K40 : Int → Int → Int → PS → Prop} (x : CX) (hK40 : ∀ (x2 x3 x4 : Int) (σ : PS), Rg x2 → Rg x3 → Rg x4 → RS σ → K40 x2 x3 x4 σ → RW layM E mi_X12_measures Φ 40 [some (.ref (eA E 0)), none, some (.int (iz x2)), some (.int (iz x3)), some (.int (iz x4)), none, none, none, none] [] σ x) (x2 x3 x4 : Int) (rx2 : Rg x2) (rx3 : Rg x3) (rx4 : Rg x4) (σ : PS) (hs : RS σ) (h : BX12_measures_40 K40 x2 x3 x4 σ Φ) : RW layM E mi_X12_measures Φ 40 [some (.ref (eA E 0)), none, some (.int (iz x2)), some (.int (iz x3)), some (.int (iz x4)), none, none, none, none] [] σ x := by
  refine r_iload (dc D_cX12_measures_0 26 rfl) rfl ?_
  refine r_iloadn (dc D_cX12_measures_0 27 rfl) rfl rfl ?_
  refine r_icmp_ge (tgt := 182) (dc D_cX12_measures_0 28 rfl) (by decide) rx4 rx3 (fun c1 => ?_) (fun c1 => ?_)
  · have h := h.1 c1
    exact r_vret (dc D_cX12_measures_2 18 rfl) rfl h
  · have h := h.2 c1
    refine r_iconst (n := 0) (dc D_cX12_measures_0 29 rfl) ?_
    refine r_istore (lv' := [some (.ref (eA E 0)), none, some (.int (iz x2)), some (.int (iz x3)), some (.int (iz x4)), some (.int (iz 0)), none, none, none]) (dc D_cX12_measures_0 30 rfl) rfl rfl ?_
    obtain ⟨n, h⟩ := h
    exact TX12_measures_49 hE x hK40 n _ _ _ _ _ rx2 rx3 rx4 (Rl rfl) hs h
theorem TX12_measures_40 {E : EV} (hE : eOK layM E) {Φ : Int → PS → Prop} (x : CX) (n : Nat) : ∀ (x2 x3 x4 : Int) (σ : PS), Rg x2 → Rg x3 → Rg x4 → RS σ → LX12_measures_40 n x2 x3 x4 σ Φ → RW layM E mi_X12_measures Φ 40 [some (.ref (eA E 0)), none, some (.int (iz x2)), some (.int (iz x3)), some (.int (iz x4)), none, none, none, none] [] σ x := by
  induction n with
  | zero => intro x2 x3 x4 σ _ _ _ _ h; exact h.elim
  | succ n ih => intro x2 x3 x4 σ rx2 rx3 rx4 hs h; exact TBX12_measures_40 hE x ih x2 x3 x4 rx2 rx3 rx4 σ hs h
set_option maxRecDepth 100000 in
theorem TBX12_measures_2 {E : EV} (hE : eOK layM E) {Φ : Int → PS → Prop} {K2 : Int → Int → Int → PS → Prop} (x : CX) (hK2 : ∀ (x1 x2 x3 : Int) (σ : PS), Rg x1 → Rg x2 → Rg x3 → RS σ → K2 x1 x2 x3 σ → RW layM E mi_X12_measures Φ 2 [some (.ref (eA E 0)), some (.int (iz x1)), some (.int (iz x2)), some (.int (iz x3)), none, none, none, none, none] [] σ x) (x1 x2 x3 : Int) (rx1 : Rg x1) (rx2 : Rg x2) (rx3 : Rg x3) (σ : PS) (hs : RS σ) (h : BX12_measures_2 K2 x1 x2 x3 σ Φ) : RW layM E mi_X12_measures Φ 2 [some (.ref (eA E 0)), some (.int (iz x1)), some (.int (iz x2)), some (.int (iz x3)), none, none, none, none, none] [] σ x := by
  refine r_iloadn (dc D_cX12_measures_0 2 rfl) rfl rfl ?_
  refine r_bipush (n := 12) (dc D_cX12_measures_0 3 rfl) (by decide +kernel) ?_
  refine r_icmp_ge (tgt := 21) (dc D_cX12_measures_0 4 rfl) (by decide) rx3 (Rl rfl) (fun c1 => ?_) (fun c1 => ?_)
  · have h := h.1 c1
    refine r_aloadn (dc D_cX12_measures_0 12 rfl) rfl rfl ?_
    refine r_getR (dc D_cX12_measures_0 13 rfl) fw_RX12_22 lM_0 rfl ?_
    refine r_iloadn (dc D_cX12_measures_0 14 rfl) rfl rfl ?_
    refine r_iconst (n := 0) (dc D_cX12_measures_0 15 rfl) ?_
    obtain ⟨o2, h⟩ := h
    refine r_iast (N := 12) (dc D_cX12_measures_0 16 rfl) lM_5 rfl rfl o2 (Rl rfl) ?_
    refine r_sig (fun σ3 eσ3 => ?_)
    have h := h σ3 eσ3
    have hσ3 : RS σ3 := RS_eq eσ3 (RS.up hs (Rl rfl) _ _)
    refine r_aloadn (dc D_cX12_measures_0 17 rfl) rfl rfl ?_
    refine r_getR (dc D_cX12_measures_0 18 rfl) fw_RX12_25 lM_0 rfl ?_
    refine r_iconst (n := 0) (dc D_cX12_measures_0 19 rfl) ?_
    refine r_iloadn (dc D_cX12_measures_0 20 rfl) rfl rfl ?_
    refine r_iast (N := 108) (dc D_cX12_measures_0 21 rfl) lM_6 rfl rfl ⟨by decide, by decide⟩ rx1 ?_
    refine r_sig (fun σ4 eσ4 => ?_)
    have h := h σ4 eσ4
    have hσ4 : RS σ4 := RS_eq eσ4 (RS.up hσ3 rx1 _ _)
    refine r_iconst (n := 1) (dc D_cX12_measures_0 22 rfl) ?_
    refine r_istoren (lv' := [some (.ref (eA E 0)), some (.int (iz x1)), some (.int (iz x2)), some (.int (iz 1)), none, none, none, none, none]) (dc D_cX12_measures_0 23 rfl) rfl rfl rfl ?_
    refine r_iconst (n := 0) (dc D_cX12_measures_0 24 rfl) ?_
    refine r_istore (lv' := [some (.ref (eA E 0)), some (.int (iz x1)), some (.int (iz x2)), some (.int (iz 1)), some (.int (iz 0)), none, none, none, none]) (dc D_cX12_measures_0 25 rfl) rfl rfl ?_
    refine r_sub (lv' := [some (.ref (eA E 0)), none, some (.int (iz x2)), some (.int (iz 1)), some (.int (iz 0)), none, none, none, none]) (subL_s (subL_n (subL_s (subL_s (subL_s (subL_n (subL_n (subL_n (subL_n subL_e))))))))) ?_
    obtain ⟨n, h⟩ := h
    exact TX12_measures_40 hE x n _ _ _ _ rx2 (Rl rfl) (Rl rfl) hσ4 h
  · have h := h.2 c1
    refine r_aloadn (dc D_cX12_measures_0 5 rfl) rfl rfl ?_
    refine r_getR (dc D_cX12_measures_0 6 rfl) fw_RX12_22 lM_0 rfl ?_
    refine r_iloadn (dc D_cX12_measures_0 7 rfl) rfl rfl ?_
    refine r_iconst (n := (-1)) (dc D_cX12_measures_0 8 rfl) ?_
    obtain ⟨o5, h⟩ := h
    refine r_iast (N := 12) (dc D_cX12_measures_0 9 rfl) lM_5 rfl rfl o5 (Rl rfl) ?_
    refine r_sig (fun σ6 eσ6 => ?_)
    have h := h σ6 eσ6
    have hσ6 : RS σ6 := RS_eq eσ6 (RS.up hs (Rl rfl) _ _)
    obtain ⟨o7, h⟩ := h
    refine r_iinc (lv' := [some (.ref (eA E 0)), some (.int (iz x1)), some (.int (iz x2)), some (.int (iz (x3 + 1))), none, none, none, none, none]) (dc D_cX12_measures_0 10 rfl) rfl rfl rfl ?_
    refine r_goto (tgt := 2) (dc D_cX12_measures_0 11 rfl) (by decide) ?_
    exact hK2 _ _ _ _ rx1 rx2 o7 hσ6 h
theorem TX12_measures_2 {E : EV} (hE : eOK layM E) {Φ : Int → PS → Prop} (x : CX) (n : Nat) : ∀ (x1 x2 x3 : Int) (σ : PS), Rg x1 → Rg x2 → Rg x3 → RS σ → LX12_measures_2 n x1 x2 x3 σ Φ → RW layM E mi_X12_measures Φ 2 [some (.ref (eA E 0)), some (.int (iz x1)), some (.int (iz x2)), some (.int (iz x3)), none, none, none, none, none] [] σ x := by
  induction n with
  | zero => intro x1 x2 x3 σ _ _ _ _ h; exact h.elim
  | succ n ih => intro x1 x2 x3 σ rx1 rx2 rx3 hs h; exact TBX12_measures_2 hE x ih x1 x2 x3 rx1 rx2 rx3 σ hs h
set_option maxRecDepth 100000 in
theorem CX12_measures {E : EV} (hE : eOK layM E) {Φ : Int → PS → Prop} (a1 a2 : Int) (ra1 : Rg a1) (ra2 : Rg a2) (σ : PS) (hs : RS σ) (h : FX12_measures a1 a2 σ Φ) : CT layM E yX12_measures mi_X12_measures [.ref (eA E 0), .int (iz a1), .int (iz a2)] σ Φ := by
  refine ct_of (by decide +kernel) rfl hE rfl rfl hs (fun x => ?_)
  show RW layM E mi_X12_measures Φ 0 [some (.ref (eA E 0)), some (.int (iz a1)), some (.int (iz a2)), none, none, none, none, none, none] [] σ x
  refine r_iconst (n := 0) (dc D_cX12_measures_0 0 rfl) ?_
  refine r_istoren (lv' := [some (.ref (eA E 0)), some (.int (iz a1)), some (.int (iz a2)), some (.int (iz 0)), none, none, none, none, none]) (dc D_cX12_measures_0 1 rfl) rfl rfl rfl ?_
  obtain ⟨n, h⟩ := h
  exact TX12_measures_2 hE x n _ _ _ _ ra1 ra2 (Rl rfl) hs h
-- end of GateFlowModel.measures
def mi_X12_stepOn : MI := (cX12_stepOn, RX12, 4, 3, (some .int), 1)
def LX12_stepOn_60 (K2 : Int → Int → PS → Prop) (x1 x2 : Int) (σ : PS) (Φ : Int → PS → Prop) : Prop :=
  Rg (x2 + 1) ∧
  K2 x1 (x2 + 1) σ
def BX12_stepOn_2 (K2 : Int → Int → PS → Prop) (x1 x2 : Int) (σ : PS) (Φ : Int → PS → Prop) : Prop :=
  Rg (2 * (σ 1 2)) ∧
  ((2 * (σ 1 2) ≤ x2 →
    Φ (-1) σ) ∧
  (¬ 2 * (σ 1 2) ≤ x2 →
    FX12_stepAt x2 σ (fun z3 σ4 =>
    FX12_stepFrom z3 σ4 (fun z5 σ6 =>
    ((¬ z5 = x1 →
      LX12_stepOn_60 K2 x1 x2 σ6 Φ) ∧
    (z5 = x1 →
      FX12_room z3 σ6 (fun z8 σ9 =>
      ((z8 ≤ 0 →
        LX12_stepOn_60 K2 x1 x2 σ9 Φ) ∧
      (¬ z8 ≤ 0 →
        FX12_stepTo z3 σ9 (fun z11 σ12 =>
        (0 ≤ z11 ∧ z11 < 12) ∧
        (0 ≤ x1 ∧ x1 < 12) ∧
        Rg ((σ12 5 x1.toNat) - 1) ∧
        ((¬ σ12 5 z11.toNat = (σ12 5 x1.toNat) - 1 →
          LX12_stepOn_60 K2 x1 x2 σ12 Φ) ∧
        (σ12 5 z11.toNat = (σ12 5 x1.toNat) - 1 →
          Φ z3 σ12))))))))))))
def LX12_stepOn_2 : Nat → Int → Int → PS → (Int → PS → Prop) → Prop
  | 0, _, _, _, _ => False
  | n + 1, x1, x2, σ, Φ => BX12_stepOn_2 (fun x1 x2 σ => LX12_stepOn_2 n x1 x2 σ Φ) x1 x2 σ Φ
def FX12_stepOn (a1 : Int) (σ : PS) (Φ : Int → PS → Prop) : Prop :=
  ∃ n, LX12_stepOn_2 n a1 0 σ Φ
theorem fw_RX12_31 : FW RX12 31 12 9 := ⟨RX12, TX12, 39, rfl, by decide, rfl, tb_1 1228 (by decide +kernel), uw_12⟩
theorem fw_RX12_133 : FW RX12 133 12 7 := ⟨RX12, TX12, 39, rfl, by decide, rfl, tb_1 1226 (by decide +kernel), uw_12⟩
theorem fw_RX12_28 : FW RX12 28 12 8 := ⟨RX12, TX12, 39, rfl, by decide, rfl, tb_1 1227 (by decide +kernel), uw_12⟩
theorem fw_RX12_34 : FW RX12 34 12 10 := ⟨RX12, TX12, 39, rfl, by decide, rfl, tb_1 1229 (by decide +kernel), uw_12⟩
set_option maxRecDepth 100000 in
theorem TX12_stepOn_60 {E : EV} (hE : eOK layM E) {Φ : Int → PS → Prop} {K2 : Int → Int → PS → Prop} (x : CX) (hK2 : ∀ (x1 x2 : Int) (σ : PS), Rg x1 → Rg x2 → RS σ → K2 x1 x2 σ → RW layM E mi_X12_stepOn Φ 2 [some (.ref (eA E 0)), some (.int (iz x1)), some (.int (iz x2)), none] [] σ x) (x1 x2 : Int) (rx1 : Rg x1) (rx2 : Rg x2) (σ : PS) (hs : RS σ) (h : LX12_stepOn_60 K2 x1 x2 σ Φ) : RW layM E mi_X12_stepOn Φ 60 [some (.ref (eA E 0)), some (.int (iz x1)), some (.int (iz x2)), none] [] σ x := by
  obtain ⟨o1, h⟩ := h
  refine r_iinc (lv' := [some (.ref (eA E 0)), some (.int (iz x1)), some (.int (iz (x2 + 1))), none]) (dc D_cX12_stepOn_0 38 rfl) rfl rfl rfl ?_
  refine r_goto (tgt := 2) (dc D_cX12_stepOn_0 39 rfl) (by decide) ?_
  exact hK2 _ _ _ rx1 o1 hs h
set_option maxRecDepth 100000 in
theorem TBX12_stepOn_2 {E : EV} (hE : eOK layM E) {Φ : Int → PS → Prop} {K2 : Int → Int → PS → Prop} (x : CX) (hK2 : ∀ (x1 x2 : Int) (σ : PS), Rg x1 → Rg x2 → RS σ → K2 x1 x2 σ → RW layM E mi_X12_stepOn Φ 2 [some (.ref (eA E 0)), some (.int (iz x1)), some (.int (iz x2)), none] [] σ x) (x1 x2 : Int) (rx1 : Rg x1) (rx2 : Rg x2) (σ : PS) (hs : RS σ) (h : BX12_stepOn_2 K2 x1 x2 σ Φ) : RW layM E mi_X12_stepOn Φ 2 [some (.ref (eA E 0)), some (.int (iz x1)), some (.int (iz x2)), none] [] σ x := by
  refine r_iloadn (dc D_cX12_stepOn_0 2 rfl) rfl rfl ?_
  refine r_iconst (n := 2) (dc D_cX12_stepOn_0 3 rfl) ?_
  refine r_aloadn (dc D_cX12_stepOn_0 4 rfl) rfl rfl ?_
  refine r_getR (dc D_cX12_stepOn_0 5 rfl) fw_RX12_9 lM_0 rfl ?_
  refine r_iconst (n := 2) (dc D_cX12_stepOn_0 6 rfl) ?_
  refine r_iald (N := 183) (dc D_cX12_stepOn_0 7 rfl) lM_1 rfl rfl ⟨by decide, by decide⟩ ?_
  refine r_imul (dc D_cX12_stepOn_0 8 rfl) ?_
  obtain ⟨o1, h⟩ := h
  refine r_icmp_ge (tgt := 66) (dc D_cX12_stepOn_0 9 rfl) (by decide) rx2 o1 (fun c2 => ?_) (fun c2 => ?_)
  · have h := h.1 c2
    refine r_iconst (n := (-1)) (dc D_cX12_stepOn_1 0 rfl) ?_
    exact r_iret (dc D_cX12_stepOn_1 1 rfl) rfl (Rl rfl) h
  · have h := h.2 c2
    refine r_aloadn (dc D_cX12_stepOn_0 10 rfl) rfl rfl ?_
    refine r_iloadn (dc D_cX12_stepOn_0 11 rfl) rfl rfl ?_
    refine r_callV (As := [.int (iz x2)]) (st := []) (dc D_cX12_stepOn_0 12 rfl) cw_RX12_120 nm_yX12_stepAt (CX12_stepAt hE _ rx2 _ hs h) lM_0 rfl rfl (by decide) rfl rfl rfl (fun z3 σ4 rz3 hσ4 h => ?_)
    show RW layM E mi_X12_stepOn Φ 19 [some (.ref (eA E 0)), some (.int (iz x1)), some (.int (iz x2)), none] [.int (iz z3)] σ4 x
    refine r_istoren (lv' := [some (.ref (eA E 0)), some (.int (iz x1)), some (.int (iz x2)), some (.int (iz z3))]) (dc D_cX12_stepOn_0 13 rfl) rfl rfl rfl ?_
    refine r_aloadn (dc D_cX12_stepOn_0 14 rfl) rfl rfl ?_
    refine r_iloadn (dc D_cX12_stepOn_0 15 rfl) rfl rfl ?_
    refine r_callV (As := [.int (iz z3)]) (st := []) (dc D_cX12_stepOn_0 16 rfl) cw_RX12_127 nm_yX12_stepFrom (CX12_stepFrom hE _ rz3 _ hσ4 h) lM_0 rfl rfl (by decide) rfl rfl rfl (fun z5 σ6 rz5 hσ6 h => ?_)
    show RW layM E mi_X12_stepOn Φ 25 [some (.ref (eA E 0)), some (.int (iz x1)), some (.int (iz x2)), some (.int (iz z3))] [.int (iz z5)] σ6 x
    refine r_iloadn (dc D_cX12_stepOn_0 17 rfl) rfl rfl ?_
    refine r_icmp_ne (tgt := 60) (dc D_cX12_stepOn_0 18 rfl) (by decide) rz5 rx1 (fun c7 => ?_) (fun c7 => ?_)
    · have h := h.1 c7
      refine r_sub (lv' := [some (.ref (eA E 0)), some (.int (iz x1)), some (.int (iz x2)), none]) (subL_s (subL_s (subL_s (subL_n subL_e)))) ?_
      exact TX12_stepOn_60 hE x hK2 _ _ rx1 rx2 _ hσ6 h
    · have h := h.2 c7
      refine r_aloadn (dc D_cX12_stepOn_0 19 rfl) rfl rfl ?_
      refine r_iloadn (dc D_cX12_stepOn_0 20 rfl) rfl rfl ?_
      refine r_callV (As := [.int (iz z3)]) (st := []) (dc D_cX12_stepOn_0 21 rfl) cw_RX12_130 nm_yX12_room (CX12_room hE _ rz3 _ hσ6 h) lM_0 rfl rfl (by decide) rfl rfl rfl (fun z8 σ9 rz8 hσ9 h => ?_)
      show RW layM E mi_X12_stepOn Φ 34 [some (.ref (eA E 0)), some (.int (iz x1)), some (.int (iz x2)), some (.int (iz z3))] [.int (iz z8)] σ9 x
      refine r_if_le (tgt := 60) (dc D_cX12_stepOn_0 22 rfl) (by decide) rz8 (fun c10 => ?_) (fun c10 => ?_)
      · have h := h.1 c10
        refine r_sub (lv' := [some (.ref (eA E 0)), some (.int (iz x1)), some (.int (iz x2)), none]) (subL_s (subL_s (subL_s (subL_n subL_e)))) ?_
        exact TX12_stepOn_60 hE x hK2 _ _ rx1 rx2 _ hσ9 h
      · have h := h.2 c10
        refine r_aloadn (dc D_cX12_stepOn_0 23 rfl) rfl rfl ?_
        refine r_getR (dc D_cX12_stepOn_0 24 rfl) fw_RX12_22 lM_0 rfl ?_
        refine r_aloadn (dc D_cX12_stepOn_0 25 rfl) rfl rfl ?_
        refine r_iloadn (dc D_cX12_stepOn_0 26 rfl) rfl rfl ?_
        refine r_callV (As := [.int (iz z3)]) (st := [.ref (eA E 5)]) (dc D_cX12_stepOn_0 27 rfl) cw_RX12_124 nm_yX12_stepTo (CX12_stepTo hE _ rz3 _ hσ9 h) lM_0 rfl rfl (by decide) rfl rfl rfl (fun z11 σ12 rz11 hσ12 h => ?_)
        show RW layM E mi_X12_stepOn Φ 46 [some (.ref (eA E 0)), some (.int (iz x1)), some (.int (iz x2)), some (.int (iz z3))] [.int (iz z11), .ref (eA E 5)] σ12 x
        obtain ⟨o13, h⟩ := h
        refine r_iald (N := 12) (dc D_cX12_stepOn_0 28 rfl) lM_5 rfl rfl o13 ?_
        refine r_aloadn (dc D_cX12_stepOn_0 29 rfl) rfl rfl ?_
        refine r_getR (dc D_cX12_stepOn_0 30 rfl) fw_RX12_22 lM_0 rfl ?_
        refine r_iloadn (dc D_cX12_stepOn_0 31 rfl) rfl rfl ?_
        obtain ⟨o14, h⟩ := h
        refine r_iald (N := 12) (dc D_cX12_stepOn_0 32 rfl) lM_5 rfl rfl o14 ?_
        refine r_iconst (n := 1) (dc D_cX12_stepOn_0 33 rfl) ?_
        refine r_isub (dc D_cX12_stepOn_0 34 rfl) ?_
        obtain ⟨o15, h⟩ := h
        refine r_icmp_ne (tgt := 60) (dc D_cX12_stepOn_0 35 rfl) (by decide) (hσ12 _ _) o15 (fun c16 => ?_) (fun c16 => ?_)
        · have h := h.1 c16
          refine r_sub (lv' := [some (.ref (eA E 0)), some (.int (iz x1)), some (.int (iz x2)), none]) (subL_s (subL_s (subL_s (subL_n subL_e)))) ?_
          exact TX12_stepOn_60 hE x hK2 _ _ rx1 rx2 _ hσ12 h
        · have h := h.2 c16
          refine r_iloadn (dc D_cX12_stepOn_0 36 rfl) rfl rfl ?_
          exact r_iret (dc D_cX12_stepOn_0 37 rfl) rfl rz3 h
theorem TX12_stepOn_2 {E : EV} (hE : eOK layM E) {Φ : Int → PS → Prop} (x : CX) (n : Nat) : ∀ (x1 x2 : Int) (σ : PS), Rg x1 → Rg x2 → RS σ → LX12_stepOn_2 n x1 x2 σ Φ → RW layM E mi_X12_stepOn Φ 2 [some (.ref (eA E 0)), some (.int (iz x1)), some (.int (iz x2)), none] [] σ x := by
  induction n with
  | zero => intro x1 x2 σ _ _ _ h; exact h.elim
  | succ n ih => intro x1 x2 σ rx1 rx2 hs h; exact TBX12_stepOn_2 hE x ih x1 x2 rx1 rx2 σ hs h
set_option maxRecDepth 100000 in
theorem CX12_stepOn {E : EV} (hE : eOK layM E) {Φ : Int → PS → Prop} (a1 : Int) (ra1 : Rg a1) (σ : PS) (hs : RS σ) (h : FX12_stepOn a1 σ Φ) : CT layM E yX12_stepOn mi_X12_stepOn [.ref (eA E 0), .int (iz a1)] σ Φ := by
  refine ct_of (by decide +kernel) rfl hE rfl rfl hs (fun x => ?_)
  show RW layM E mi_X12_stepOn Φ 0 [some (.ref (eA E 0)), some (.int (iz a1)), none, none] [] σ x
  refine r_iconst (n := 0) (dc D_cX12_stepOn_0 0 rfl) ?_
  refine r_istoren (lv' := [some (.ref (eA E 0)), some (.int (iz a1)), some (.int (iz 0)), none]) (dc D_cX12_stepOn_0 1 rfl) rfl rfl rfl ?_
  obtain ⟨n, h⟩ := h
  exact TX12_stepOn_2 hE x n _ _ _ ra1 (Rl rfl) hs h
-- end of GateFlowModel.stepOn
def mi_X12_flows : MI := (cX12_flows, RX12, 6, 4, (some .int), 1)
def LX12_flows_194 (K43 : Int → PS → Prop) (K147 : Int → Int → Int → Int → PS → Prop) (x1 x2 x3 x4 s1 s2 s3 : Int) (σ : PS) (Φ : Int → PS → Prop) : Prop :=
  Rg (s2 + s3) ∧
  (0 ≤ s1 ∧ s1 < 30) ∧
  ∀ σ3 : PS, σ3 = up2 σ 4 s1.toNat (s2 + s3) →
  Rg (x4 + 1) ∧
  K147 x1 x2 x3 (x4 + 1) σ3
def BX12_flows_147 (K43 : Int → PS → Prop) (K147 : Int → Int → Int → Int → PS → Prop) (x1 x2 x3 x4 : Int) (σ : PS) (Φ : Int → PS → Prop) : Prop :=
  ((x3 ≤ x4 →
    (0 ≤ σ 0 7 ∧ σ 0 7 < 400) ∧
    ∀ σ3 : PS, σ3 = up2 σ 8 (σ 0 7).toNat x3 →
    (0 ≤ σ3 0 7 ∧ σ3 0 7 < 400) ∧
    ∀ σ5 : PS, σ5 = up2 σ3 7 (σ3 0 7).toNat x2 →
    Rg ((σ5 0 7) + 1) ∧
    ∀ σ7 : PS, σ7 = up2 σ5 0 7 ((σ5 0 7) + 1) →
    Rg (x1 + x2) ∧
    ∀ v9 : Int, v9 = x1 + x2 →
    FX12_measures (σ7 1 1) 1 σ7 (fun z10 σ11 =>
    K43 v9 σ11)) ∧
  (¬ x3 ≤ x4 →
    Rg ((σ 0 7) * 12) ∧
    Rg (((σ 0 7) * 12) + x4) ∧
    (0 ≤ ((σ 0 7) * 12) + x4 ∧ ((σ 0 7) * 12) + x4 < 4800) ∧
    ∀ v15 : Int, v15 = σ 9 (((σ 0 7) * 12) + x4).toNat →
    0 ≤ v15 ∧
    (0 ≤ v15 % 100 ∧ v15 % 100 < 30) ∧
    ((100 ≤ v15 →
      Rg (-x2) ∧
      LX12_flows_194 K43 K147 x1 x2 x3 x4 (v15 % 100) (σ 4 (v15 % 100).toNat) (-x2) σ Φ) ∧
    (¬ 100 ≤ v15 →
      LX12_flows_194 K43 K147 x1 x2 x3 x4 (v15 % 100) (σ 4 (v15 % 100).toNat) x2 σ Φ))))
def LX12_flows_147 (K43 : Int → PS → Prop) : Nat → Int → Int → Int → Int → PS → (Int → PS → Prop) → Prop
  | 0, _, _, _, _, _, _ => False
  | n + 1, x1, x2, x3, x4, σ, Φ => BX12_flows_147 K43 (fun x1 x2 x3 x4 σ => LX12_flows_147 K43 n x1 x2 x3 x4 σ Φ) x1 x2 x3 x4 σ Φ
def BX12_flows_70 (K43 : Int → PS → Prop) (K70 : Int → Int → Int → Int → PS → Prop) (x1 x2 x3 x4 : Int) (σ : PS) (Φ : Int → PS → Prop) : Prop :=
  ((x4 = σ 1 1 →
    ∃ n, LX12_flows_147 K43 n x1 x2 x3 0 σ Φ) ∧
  (¬ x4 = σ 1 1 →
    FX12_stepOn x4 σ (fun z2 σ3 =>
    Rg ((σ3 0 7) * 12) ∧
    Rg (((σ3 0 7) * 12) + x3) ∧
    (0 ≤ ((σ3 0 7) * 12) + x3 ∧ ((σ3 0 7) * 12) + x3 < 4800) ∧
    ∀ σ7 : PS, σ7 = up2 σ3 9 (((σ3 0 7) * 12) + x3).toNat z2 →
    Rg (x3 + 1) ∧
    FX12_room z2 σ7 (fun z9 σ10 =>
    ∀ v11 : Int, v11 = min x2 z9 →
    Rg ((σ10 0 7) * 12) ∧
    Rg (((σ10 0 7) * 12) + (x3 + 1)) ∧
    Rg ((((σ10 0 7) * 12) + (x3 + 1)) - 1) ∧
    (0 ≤ (((σ10 0 7) * 12) + (x3 + 1)) - 1 ∧ (((σ10 0 7) * 12) + (x3 + 1)) - 1 < 4800) ∧
    FX12_stepTo (σ10 9 ((((σ10 0 7) * 12) + (x3 + 1)) - 1).toNat) σ10 (fun z16 σ17 =>
    K70 x1 v11 (x3 + 1) z16 σ17)))))
def LX12_flows_70 (K43 : Int → PS → Prop) : Nat → Int → Int → Int → Int → PS → (Int → PS → Prop) → Prop
  | 0, _, _, _, _, _, _ => False
  | n + 1, x1, x2, x3, x4, σ, Φ => BX12_flows_70 K43 (fun x1 x2 x3 x4 σ => LX12_flows_70 K43 n x1 x2 x3 x4 σ Φ) x1 x2 x3 x4 σ Φ
def BX12_flows_43 (K43 : Int → PS → Prop) (x1 : Int) (σ : PS) (Φ : Int → PS → Prop) : Prop :=
  (0 ≤ σ 1 0 ∧ σ 1 0 < 12) ∧
  ((σ 5 (σ 1 0).toNat ≤ 0 →
    Φ x1 σ) ∧
  (¬ σ 5 (σ 1 0).toNat ≤ 0 →
    ∀ v3 : Int, v3 = σ 1 0 →
    ∃ n, LX12_flows_70 K43 n x1 100000000 0 v3 σ Φ))
def LX12_flows_43 : Nat → Int → PS → (Int → PS → Prop) → Prop
  | 0, _, _, _ => False
  | n + 1, x1, σ, Φ => BX12_flows_43 (fun x1 σ => LX12_flows_43 n x1 σ Φ) x1 σ Φ
def BX12_flows_2 (K2 : Int → PS → Prop) (x1 : Int) (σ : PS) (Φ : Int → PS → Prop) : Prop :=
  ((σ 1 2 ≤ x1 →
    ∀ σ2 : PS, σ2 = up2 σ 0 7 0 →
    FX12_measures (σ2 1 1) 1 σ2 (fun z3 σ4 =>
    ∃ n, LX12_flows_43 n 0 σ4 Φ)) ∧
  (¬ σ 1 2 ≤ x1 →
    (0 ≤ x1 ∧ x1 < 30) ∧
    ∀ σ6 : PS, σ6 = up2 σ 4 x1.toNat 0 →
    Rg (x1 + 1) ∧
    K2 (x1 + 1) σ6))
def LX12_flows_2 : Nat → Int → PS → (Int → PS → Prop) → Prop
  | 0, _, _, _ => False
  | n + 1, x1, σ, Φ => BX12_flows_2 (fun x1 σ => LX12_flows_2 n x1 σ Φ) x1 σ Φ
def FX12_flows (σ : PS) (Φ : Int → PS → Prop) : Prop :=
  ∃ n, LX12_flows_2 n 0 σ Φ
theorem fp_12_7 : FP 12 7 .int := ⟨RX12, TX12, 39, tyX12, rfl, tyX12_ok, nmX12, rfl, by decide +kernel⟩
theorem cw_RX12_137 : CWV RX12 137 yX12_measures mi_X12_measures := tb_r [1416, 1418, 51, 110, 1419] (by decide +kernel)
theorem nm_yX12_measures : ynm yX12_measures 2 := ⟨⟨by decide +kernel, by decide +kernel⟩, by decide +kernel⟩
theorem cw_RX12_142 : CWV RX12 142 yX12_stepOn mi_X12_stepOn := tb_r [1437, 1439, 56, 110, 1440] (by decide +kernel)
theorem nm_yX12_stepOn : ynm yX12_stepOn 1 := ⟨⟨by decide +kernel, by decide +kernel⟩, by decide +kernel⟩
theorem mw_RX12_145 : MW RX12 145 Lib.Math.min.name Lib.Math.min.code := tb_r [1441, 637, 111, 638] (by decide +kernel)
theorem kw_RX12_141 : Cond.constant RX12 141 (iz 100000000) ∈ TB := tb_1 1436 (by decide +kernel)
set_option maxRecDepth 100000 in
theorem TX12_flows_194 {E : EV} (hE : eOK layM E) {Φ : Int → PS → Prop} {K43 : Int → PS → Prop} {K147 : Int → Int → Int → Int → PS → Prop} (x : CX) (hK43 : ∀ (x1 : Int) (σ : PS), Rg x1 → RS σ → K43 x1 σ → RW layM E mi_X12_flows Φ 43 [some (.ref (eA E 0)), some (.int (iz x1)), none, none, none, none] [] σ x) (hK147 : ∀ (x1 x2 x3 x4 : Int) (σ : PS), Rg x1 → Rg x2 → Rg x3 → Rg x4 → RS σ → K147 x1 x2 x3 x4 σ → RW layM E mi_X12_flows Φ 147 [some (.ref (eA E 0)), some (.int (iz x1)), some (.int (iz x2)), some (.int (iz x3)), some (.int (iz x4)), none] [] σ x) (x1 x2 x3 x4 s1 s2 s3 : Int) (rx1 : Rg x1) (rx2 : Rg x2) (rx3 : Rg x3) (rx4 : Rg x4) (rs1 : Rg s1) (rs2 : Rg s2) (rs3 : Rg s3) (σ : PS) (hs : RS σ) (h : LX12_flows_194 K43 K147 x1 x2 x3 x4 s1 s2 s3 σ Φ) : RW layM E mi_X12_flows Φ 194 [some (.ref (eA E 0)), some (.int (iz x1)), some (.int (iz x2)), some (.int (iz x3)), some (.int (iz x4)), none] [.int (iz s3), .int (iz s2), .int (iz s1), .ref (eA E 4)] σ x := by
  refine r_iadd (dc D_cX12_flows_2 35 rfl) ?_
  obtain ⟨o1, h⟩ := h
  obtain ⟨o2, h⟩ := h
  refine r_iast (N := 30) (dc D_cX12_flows_2 36 rfl) lM_4 rfl rfl o2 o1 ?_
  refine r_sig (fun σ3 eσ3 => ?_)
  have h := h σ3 eσ3
  have hσ3 : RS σ3 := RS_eq eσ3 (RS.up hs o1 _ _)
  obtain ⟨o4, h⟩ := h
  refine r_iinc (lv' := [some (.ref (eA E 0)), some (.int (iz x1)), some (.int (iz x2)), some (.int (iz x3)), some (.int (iz (x4 + 1))), none]) (dc D_cX12_flows_2 37 rfl) rfl rfl rfl ?_
  refine r_goto (tgt := 147) (dc D_cX12_flows_2 38 rfl) (by decide) ?_
  exact hK147 _ _ _ _ _ rx1 rx2 rx3 o4 hσ3 h
set_option maxRecDepth 100000 in
theorem TBX12_flows_147 {E : EV} (hE : eOK layM E) {Φ : Int → PS → Prop} {K43 : Int → PS → Prop} {K147 : Int → Int → Int → Int → PS → Prop} (x : CX) (hK43 : ∀ (x1 : Int) (σ : PS), Rg x1 → RS σ → K43 x1 σ → RW layM E mi_X12_flows Φ 43 [some (.ref (eA E 0)), some (.int (iz x1)), none, none, none, none] [] σ x) (hK147 : ∀ (x1 x2 x3 x4 : Int) (σ : PS), Rg x1 → Rg x2 → Rg x3 → Rg x4 → RS σ → K147 x1 x2 x3 x4 σ → RW layM E mi_X12_flows Φ 147 [some (.ref (eA E 0)), some (.int (iz x1)), some (.int (iz x2)), some (.int (iz x3)), some (.int (iz x4)), none] [] σ x) (x1 x2 x3 x4 : Int) (rx1 : Rg x1) (rx2 : Rg x2) (rx3 : Rg x3) (rx4 : Rg x4) (σ : PS) (hs : RS σ) (h : BX12_flows_147 K43 K147 x1 x2 x3 x4 σ Φ) : RW layM E mi_X12_flows Φ 147 [some (.ref (eA E 0)), some (.int (iz x1)), some (.int (iz x2)), some (.int (iz x3)), some (.int (iz x4)), none] [] σ x := by
  refine r_iload (dc D_cX12_flows_2 8 rfl) rfl ?_
  refine r_iloadn (dc D_cX12_flows_2 9 rfl) rfl rfl ?_
  refine r_icmp_ge (tgt := 202) (dc D_cX12_flows_2 10 rfl) (by decide) rx4 rx3 (fun c1 => ?_) (fun c1 => ?_)
  · have h := h.1 c1
    refine r_aloadn (dc D_cX12_flows_2 39 rfl) rfl rfl ?_
    refine r_getR (dc D_cX12_flows_3 0 rfl) fw_RX12_31 lM_0 rfl ?_
    refine r_aloadn (dc D_cX12_flows_3 1 rfl) rfl rfl ?_
    refine r_getI (dc D_cX12_flows_3 2 rfl) fw_RX12_133 lM_0 rfl ?_
    refine r_iloadn (dc D_cX12_flows_3 3 rfl) rfl rfl ?_
    obtain ⟨o2, h⟩ := h
    refine r_iast (N := 400) (dc D_cX12_flows_3 4 rfl) lM_8 rfl rfl o2 rx3 ?_
    refine r_sig (fun σ3 eσ3 => ?_)
    have h := h σ3 eσ3
    have hσ3 : RS σ3 := RS_eq eσ3 (RS.up hs rx3 _ _)
    refine r_aloadn (dc D_cX12_flows_3 5 rfl) rfl rfl ?_
    refine r_getR (dc D_cX12_flows_3 6 rfl) fw_RX12_28 lM_0 rfl ?_
    refine r_aloadn (dc D_cX12_flows_3 7 rfl) rfl rfl ?_
    refine r_getI (dc D_cX12_flows_3 8 rfl) fw_RX12_133 lM_0 rfl ?_
    refine r_iloadn (dc D_cX12_flows_3 9 rfl) rfl rfl ?_
    obtain ⟨o4, h⟩ := h
    refine r_iast (N := 400) (dc D_cX12_flows_3 10 rfl) lM_7 rfl rfl o4 rx2 ?_
    refine r_sig (fun σ5 eσ5 => ?_)
    have h := h σ5 eσ5
    have hσ5 : RS σ5 := RS_eq eσ5 (RS.up hσ3 rx2 _ _)
    refine r_aloadn (dc D_cX12_flows_3 11 rfl) rfl rfl ?_
    refine r_dup (dc D_cX12_flows_3 12 rfl) rfl ?_
    refine r_getI (dc D_cX12_flows_3 13 rfl) fw_RX12_133 lM_0 rfl ?_
    refine r_iconst (n := 1) (dc D_cX12_flows_3 14 rfl) ?_
    refine r_iadd (dc D_cX12_flows_3 15 rfl) ?_
    obtain ⟨o6, h⟩ := h
    refine r_put (dc D_cX12_flows_3 16 rfl) fw_RX12_133 fp_12_7 lM_0 rfl (nar_int _) o6 ?_
    refine r_sig (fun σ7 eσ7 => ?_)
    have h := h σ7 eσ7
    have hσ7 : RS σ7 := RS_eq eσ7 (RS.up hσ5 o6 _ _)
    refine r_iloadn (dc D_cX12_flows_3 17 rfl) rfl rfl ?_
    refine r_iloadn (dc D_cX12_flows_3 18 rfl) rfl rfl ?_
    refine r_iadd (dc D_cX12_flows_3 19 rfl) ?_
    obtain ⟨o8, h⟩ := h
    refine r_name (fun v9 ev9 => ?_)
    have h := h v9 ev9
    have rv9 : Rg v9 := Rg_eq ev9 o8
    refine r_istoren (lv' := [some (.ref (eA E 0)), some (.int (iz v9)), some (.int (iz x2)), some (.int (iz x3)), some (.int (iz x4)), none]) (dc D_cX12_flows_3 20 rfl) rfl rfl rfl ?_
    refine r_aloadn (dc D_cX12_flows_3 21 rfl) rfl rfl ?_
    refine r_aloadn (dc D_cX12_flows_3 22 rfl) rfl rfl ?_
    refine r_getR (dc D_cX12_flows_3 23 rfl) fw_RX12_9 lM_0 rfl ?_
    refine r_iconst (n := 1) (dc D_cX12_flows_3 24 rfl) ?_
    refine r_iald (N := 183) (dc D_cX12_flows_3 25 rfl) lM_1 rfl rfl ⟨by decide, by decide⟩ ?_
    refine r_iconst (n := 1) (dc D_cX12_flows_3 26 rfl) ?_
    refine r_callV (As := [.int (iz (σ7 1 1)), .int (iz 1)]) (st := []) (dc D_cX12_flows_3 27 rfl) cw_RX12_137 nm_yX12_measures (CX12_measures hE _ _ (hσ7 _ _) (Rl rfl) _ hσ7 h) lM_0 rfl rfl (by decide) rfl rfl rfl (fun z10 σ11 rz10 hσ11 h => ?_)
    show RW layM E mi_X12_flows Φ 247 [some (.ref (eA E 0)), some (.int (iz v9)), some (.int (iz x2)), some (.int (iz x3)), some (.int (iz x4)), none] [] σ11 x
    refine r_goto (tgt := 43) (dc D_cX12_flows_3 28 rfl) (by decide) ?_
    refine r_sub (lv' := [some (.ref (eA E 0)), some (.int (iz v9)), none, none, none, none]) (subL_s (subL_s (subL_n (subL_n (subL_n (subL_n subL_e)))))) ?_
    exact hK43 _ _ rv9 hσ11 h
  · have h := h.2 c1
    refine r_aloadn (dc D_cX12_flows_2 11 rfl) rfl rfl ?_
    refine r_getR (dc D_cX12_flows_2 12 rfl) fw_RX12_34 lM_0 rfl ?_
    refine r_aloadn (dc D_cX12_flows_2 13 rfl) rfl rfl ?_
    refine r_getI (dc D_cX12_flows_2 14 rfl) fw_RX12_133 lM_0 rfl ?_
    refine r_bipush (n := 12) (dc D_cX12_flows_2 15 rfl) (by decide +kernel) ?_
    refine r_imul (dc D_cX12_flows_2 16 rfl) ?_
    obtain ⟨o12, h⟩ := h
    refine r_iload (dc D_cX12_flows_2 17 rfl) rfl ?_
    refine r_iadd (dc D_cX12_flows_2 18 rfl) ?_
    obtain ⟨o13, h⟩ := h
    obtain ⟨o14, h⟩ := h
    refine r_iald (N := 4800) (dc D_cX12_flows_2 19 rfl) lM_9 rfl rfl o14 ?_
    refine r_name (fun v15 ev15 => ?_)
    have h := h v15 ev15
    have rv15 : Rg v15 := Rg_eq ev15 (hs _ _)
    refine r_istore (lv' := [some (.ref (eA E 0)), some (.int (iz x1)), some (.int (iz x2)), some (.int (iz x3)), some (.int (iz x4)), some (.int (iz v15))]) (dc D_cX12_flows_2 20 rfl) rfl rfl ?_
    refine r_aloadn (dc D_cX12_flows_2 21 rfl) rfl rfl ?_
    refine r_getR (dc D_cX12_flows_2 22 rfl) fw_RX12_19 lM_0 rfl ?_
    refine r_iload (dc D_cX12_flows_2 23 rfl) rfl ?_
    refine r_bipush (n := 100) (dc D_cX12_flows_2 24 rfl) (by decide +kernel) ?_
    obtain ⟨o16, h⟩ := h
    refine r_irem (dc D_cX12_flows_2 25 rfl) rv15 (Rl rfl) o16 (by decide) ?_
    refine r_dup2 (dc D_cX12_flows_2 26 rfl) rfl rfl ?_
    obtain ⟨o17, h⟩ := h
    refine r_iald (N := 30) (dc D_cX12_flows_2 27 rfl) lM_4 rfl rfl o17 ?_
    refine r_iload (dc D_cX12_flows_2 28 rfl) rfl ?_
    refine r_bipush (n := 100) (dc D_cX12_flows_2 29 rfl) (by decide +kernel) ?_
    refine r_icmp_ge (tgt := 192) (dc D_cX12_flows_2 30 rfl) (by decide) rv15 (Rl rfl) (fun c18 => ?_) (fun c18 => ?_)
    · have h := h.1 c18
      refine r_iloadn (dc D_cX12_flows_2 33 rfl) rfl rfl ?_
      refine r_ineg (dc D_cX12_flows_2 34 rfl) ?_
      obtain ⟨o19, h⟩ := h
      refine r_sub (lv' := [some (.ref (eA E 0)), some (.int (iz x1)), some (.int (iz x2)), some (.int (iz x3)), some (.int (iz x4)), none]) (subL_s (subL_s (subL_s (subL_s (subL_s (subL_n subL_e)))))) ?_
      exact TX12_flows_194 hE x hK43 hK147 _ _ _ _ _ _ _ rx1 rx2 rx3 rx4 (Rg_mod rv15 o16 rfl) (hs _ _) o19 _ hs h
    · have h := h.2 c18
      refine r_iloadn (dc D_cX12_flows_2 31 rfl) rfl rfl ?_
      refine r_goto (tgt := 194) (dc D_cX12_flows_2 32 rfl) (by decide) ?_
      refine r_sub (lv' := [some (.ref (eA E 0)), some (.int (iz x1)), some (.int (iz x2)), some (.int (iz x3)), some (.int (iz x4)), none]) (subL_s (subL_s (subL_s (subL_s (subL_s (subL_n subL_e)))))) ?_
      exact TX12_flows_194 hE x hK43 hK147 _ _ _ _ _ _ _ rx1 rx2 rx3 rx4 (Rg_mod rv15 o16 rfl) (hs _ _) rx2 _ hs h
theorem TX12_flows_147 {E : EV} (hE : eOK layM E) {Φ : Int → PS → Prop} {K43 : Int → PS → Prop} (x : CX) (hK43 : ∀ (x1 : Int) (σ : PS), Rg x1 → RS σ → K43 x1 σ → RW layM E mi_X12_flows Φ 43 [some (.ref (eA E 0)), some (.int (iz x1)), none, none, none, none] [] σ x) (n : Nat) : ∀ (x1 x2 x3 x4 : Int) (σ : PS), Rg x1 → Rg x2 → Rg x3 → Rg x4 → RS σ → LX12_flows_147 K43 n x1 x2 x3 x4 σ Φ → RW layM E mi_X12_flows Φ 147 [some (.ref (eA E 0)), some (.int (iz x1)), some (.int (iz x2)), some (.int (iz x3)), some (.int (iz x4)), none] [] σ x := by
  induction n with
  | zero => intro x1 x2 x3 x4 σ _ _ _ _ _ h; exact h.elim
  | succ n ih => intro x1 x2 x3 x4 σ rx1 rx2 rx3 rx4 hs h; exact TBX12_flows_147 hE x hK43 ih x1 x2 x3 x4 rx1 rx2 rx3 rx4 σ hs h
set_option maxRecDepth 100000 in
theorem TBX12_flows_70 {E : EV} (hE : eOK layM E) {Φ : Int → PS → Prop} {K43 : Int → PS → Prop} {K70 : Int → Int → Int → Int → PS → Prop} (x : CX) (hK43 : ∀ (x1 : Int) (σ : PS), Rg x1 → RS σ → K43 x1 σ → RW layM E mi_X12_flows Φ 43 [some (.ref (eA E 0)), some (.int (iz x1)), none, none, none, none] [] σ x) (hK70 : ∀ (x1 x2 x3 x4 : Int) (σ : PS), Rg x1 → Rg x2 → Rg x3 → Rg x4 → RS σ → K70 x1 x2 x3 x4 σ → RW layM E mi_X12_flows Φ 70 [some (.ref (eA E 0)), some (.int (iz x1)), some (.int (iz x2)), some (.int (iz x3)), some (.int (iz x4)), none] [] σ x) (x1 x2 x3 x4 : Int) (rx1 : Rg x1) (rx2 : Rg x2) (rx3 : Rg x3) (rx4 : Rg x4) (σ : PS) (hs : RS σ) (h : BX12_flows_70 K43 K70 x1 x2 x3 x4 σ Φ) : RW layM E mi_X12_flows Φ 70 [some (.ref (eA E 0)), some (.int (iz x1)), some (.int (iz x2)), some (.int (iz x3)), some (.int (iz x4)), none] [] σ x := by
  refine r_iload (dc D_cX12_flows_1 4 rfl) rfl ?_
  refine r_aloadn (dc D_cX12_flows_1 5 rfl) rfl rfl ?_
  refine r_getR (dc D_cX12_flows_1 6 rfl) fw_RX12_9 lM_0 rfl ?_
  refine r_iconst (n := 1) (dc D_cX12_flows_1 7 rfl) ?_
  refine r_iald (N := 183) (dc D_cX12_flows_1 8 rfl) lM_1 rfl rfl ⟨by decide, by decide⟩ ?_
  refine r_icmp_eq (tgt := 144) (dc D_cX12_flows_1 9 rfl) (by decide) rx4 (hs _ _) (fun c1 => ?_) (fun c1 => ?_)
  · have h := h.1 c1
    refine r_iconst (n := 0) (dc D_cX12_flows_2 6 rfl) ?_
    refine r_istore (lv' := [some (.ref (eA E 0)), some (.int (iz x1)), some (.int (iz x2)), some (.int (iz x3)), some (.int (iz 0)), none]) (dc D_cX12_flows_2 7 rfl) rfl rfl ?_
    obtain ⟨n, h⟩ := h
    exact TX12_flows_147 hE x hK43 n _ _ _ _ _ rx1 rx2 rx3 (Rl rfl) hs h
  · have h := h.2 c1
    refine r_aloadn (dc D_cX12_flows_1 10 rfl) rfl rfl ?_
    refine r_iload (dc D_cX12_flows_1 11 rfl) rfl ?_
    refine r_callV (As := [.int (iz x4)]) (st := []) (dc D_cX12_flows_1 12 rfl) cw_RX12_142 nm_yX12_stepOn (CX12_stepOn hE _ rx4 _ hs h) lM_0 rfl rfl (by decide) rfl rfl rfl (fun z2 σ3 rz2 hσ3 h => ?_)
    show RW layM E mi_X12_flows Φ 87 [some (.ref (eA E 0)), some (.int (iz x1)), some (.int (iz x2)), some (.int (iz x3)), some (.int (iz x4)), none] [.int (iz z2)] σ3 x
    refine r_istore (lv' := [some (.ref (eA E 0)), some (.int (iz x1)), some (.int (iz x2)), some (.int (iz x3)), some (.int (iz x4)), some (.int (iz z2))]) (dc D_cX12_flows_1 13 rfl) rfl rfl ?_
    refine r_aloadn (dc D_cX12_flows_1 14 rfl) rfl rfl ?_
    refine r_getR (dc D_cX12_flows_1 15 rfl) fw_RX12_34 lM_0 rfl ?_
    refine r_aloadn (dc D_cX12_flows_1 16 rfl) rfl rfl ?_
    refine r_getI (dc D_cX12_flows_1 17 rfl) fw_RX12_133 lM_0 rfl ?_
    refine r_bipush (n := 12) (dc D_cX12_flows_1 18 rfl) (by decide +kernel) ?_
    refine r_imul (dc D_cX12_flows_1 19 rfl) ?_
    obtain ⟨o4, h⟩ := h
    refine r_iloadn (dc D_cX12_flows_1 20 rfl) rfl rfl ?_
    refine r_iadd (dc D_cX12_flows_1 21 rfl) ?_
    obtain ⟨o5, h⟩ := h
    refine r_iload (dc D_cX12_flows_1 22 rfl) rfl ?_
    obtain ⟨o6, h⟩ := h
    refine r_iast (N := 4800) (dc D_cX12_flows_1 23 rfl) lM_9 rfl rfl o6 rz2 ?_
    refine r_sig (fun σ7 eσ7 => ?_)
    have h := h σ7 eσ7
    have hσ7 : RS σ7 := RS_eq eσ7 (RS.up hσ3 rz2 _ _)
    obtain ⟨o8, h⟩ := h
    refine r_iinc (lv' := [some (.ref (eA E 0)), some (.int (iz x1)), some (.int (iz x2)), some (.int (iz (x3 + 1))), some (.int (iz x4)), some (.int (iz z2))]) (dc D_cX12_flows_1 24 rfl) rfl rfl rfl ?_
    refine r_iloadn (dc D_cX12_flows_1 25 rfl) rfl rfl ?_
    refine r_aloadn (dc D_cX12_flows_1 26 rfl) rfl rfl ?_
    refine r_iload (dc D_cX12_flows_1 27 rfl) rfl ?_
    refine r_callV (As := [.int (iz z2)]) (st := [.int (iz x2)]) (dc D_cX12_flows_1 28 rfl) cw_RX12_130 nm_yX12_room (CX12_room hE _ rz2 _ hσ7 h) lM_0 rfl rfl (by decide) rfl rfl rfl (fun z9 σ10 rz9 hσ10 h => ?_)
    show RW layM E mi_X12_flows Φ 115 [some (.ref (eA E 0)), some (.int (iz x1)), some (.int (iz x2)), some (.int (iz (x3 + 1))), some (.int (iz x4)), some (.int (iz z2))] [.int (iz z9), .int (iz x2)] σ10 x
    refine r_min (dc D_cX12_flows_1 29 rfl) mw_RX12_145 rx2 rz9 (by decide) rfl ?_
    refine r_name (fun v11 ev11 => ?_)
    have h := h v11 ev11
    have rv11 : Rg v11 := Rg_eq ev11 (Rg_min rx2 rz9)
    refine r_istoren (lv' := [some (.ref (eA E 0)), some (.int (iz x1)), some (.int (iz v11)), some (.int (iz (x3 + 1))), some (.int (iz x4)), some (.int (iz z2))]) (dc D_cX12_flows_1 30 rfl) rfl rfl rfl ?_
    refine r_aloadn (dc D_cX12_flows_1 31 rfl) rfl rfl ?_
    refine r_aloadn (dc D_cX12_flows_1 32 rfl) rfl rfl ?_
    refine r_getR (dc D_cX12_flows_1 33 rfl) fw_RX12_34 lM_0 rfl ?_
    refine r_aloadn (dc D_cX12_flows_1 34 rfl) rfl rfl ?_
    refine r_getI (dc D_cX12_flows_1 35 rfl) fw_RX12_133 lM_0 rfl ?_
    refine r_bipush (n := 12) (dc D_cX12_flows_1 36 rfl) (by decide +kernel) ?_
    refine r_imul (dc D_cX12_flows_1 37 rfl) ?_
    obtain ⟨o12, h⟩ := h
    refine r_iloadn (dc D_cX12_flows_1 38 rfl) rfl rfl ?_
    refine r_iadd (dc D_cX12_flows_1 39 rfl) ?_
    obtain ⟨o13, h⟩ := h
    refine r_iconst (n := 1) (dc D_cX12_flows_2 0 rfl) ?_
    refine r_isub (dc D_cX12_flows_2 1 rfl) ?_
    obtain ⟨o14, h⟩ := h
    obtain ⟨o15, h⟩ := h
    refine r_iald (N := 4800) (dc D_cX12_flows_2 2 rfl) lM_9 rfl rfl o15 ?_
    refine r_callV (As := [.int (iz (σ10 9 ((((σ10 0 7) * 12) + (x3 + 1)) - 1).toNat))]) (st := []) (dc D_cX12_flows_2 3 rfl) cw_RX12_124 nm_yX12_stepTo (CX12_stepTo hE _ (hσ10 _ _) _ hσ10 h) lM_0 rfl rfl (by decide) rfl rfl rfl (fun z16 σ17 rz16 hσ17 h => ?_)
    show RW layM E mi_X12_flows Φ 139 [some (.ref (eA E 0)), some (.int (iz x1)), some (.int (iz v11)), some (.int (iz (x3 + 1))), some (.int (iz x4)), some (.int (iz z2))] [.int (iz z16)] σ17 x
    refine r_istore (lv' := [some (.ref (eA E 0)), some (.int (iz x1)), some (.int (iz v11)), some (.int (iz (x3 + 1))), some (.int (iz z16)), some (.int (iz z2))]) (dc D_cX12_flows_2 4 rfl) rfl rfl ?_
    refine r_goto (tgt := 70) (dc D_cX12_flows_2 5 rfl) (by decide) ?_
    refine r_sub (lv' := [some (.ref (eA E 0)), some (.int (iz x1)), some (.int (iz v11)), some (.int (iz (x3 + 1))), some (.int (iz z16)), none]) (subL_s (subL_s (subL_s (subL_s (subL_s (subL_n subL_e)))))) ?_
    exact hK70 _ _ _ _ _ rx1 rv11 o8 rz16 hσ17 h
theorem TX12_flows_70 {E : EV} (hE : eOK layM E) {Φ : Int → PS → Prop} {K43 : Int → PS → Prop} (x : CX) (hK43 : ∀ (x1 : Int) (σ : PS), Rg x1 → RS σ → K43 x1 σ → RW layM E mi_X12_flows Φ 43 [some (.ref (eA E 0)), some (.int (iz x1)), none, none, none, none] [] σ x) (n : Nat) : ∀ (x1 x2 x3 x4 : Int) (σ : PS), Rg x1 → Rg x2 → Rg x3 → Rg x4 → RS σ → LX12_flows_70 K43 n x1 x2 x3 x4 σ Φ → RW layM E mi_X12_flows Φ 70 [some (.ref (eA E 0)), some (.int (iz x1)), some (.int (iz x2)), some (.int (iz x3)), some (.int (iz x4)), none] [] σ x := by
  induction n with
  | zero => intro x1 x2 x3 x4 σ _ _ _ _ _ h; exact h.elim
  | succ n ih => intro x1 x2 x3 x4 σ rx1 rx2 rx3 rx4 hs h; exact TBX12_flows_70 hE x hK43 ih x1 x2 x3 x4 rx1 rx2 rx3 rx4 σ hs h
set_option maxRecDepth 100000 in
theorem TBX12_flows_43 {E : EV} (hE : eOK layM E) {Φ : Int → PS → Prop} {K43 : Int → PS → Prop} (x : CX) (hK43 : ∀ (x1 : Int) (σ : PS), Rg x1 → RS σ → K43 x1 σ → RW layM E mi_X12_flows Φ 43 [some (.ref (eA E 0)), some (.int (iz x1)), none, none, none, none] [] σ x) (x1 : Int) (rx1 : Rg x1) (σ : PS) (hs : RS σ) (h : BX12_flows_43 K43 x1 σ Φ) : RW layM E mi_X12_flows Φ 43 [some (.ref (eA E 0)), some (.int (iz x1)), none, none, none, none] [] σ x := by
  refine r_aloadn (dc D_cX12_flows_0 27 rfl) rfl rfl ?_
  refine r_getR (dc D_cX12_flows_0 28 rfl) fw_RX12_22 lM_0 rfl ?_
  refine r_aloadn (dc D_cX12_flows_0 29 rfl) rfl rfl ?_
  refine r_getR (dc D_cX12_flows_0 30 rfl) fw_RX12_9 lM_0 rfl ?_
  refine r_iconst (n := 0) (dc D_cX12_flows_0 31 rfl) ?_
  refine r_iald (N := 183) (dc D_cX12_flows_0 32 rfl) lM_1 rfl rfl ⟨by decide, by decide⟩ ?_
  obtain ⟨o1, h⟩ := h
  refine r_iald (N := 12) (dc D_cX12_flows_0 33 rfl) lM_5 rfl rfl o1 ?_
  refine r_if_le (tgt := 250) (dc D_cX12_flows_0 34 rfl) (by decide) (hs _ _) (fun c2 => ?_) (fun c2 => ?_)
  · have h := h.1 c2
    refine r_iloadn (dc D_cX12_flows_3 29 rfl) rfl rfl ?_
    exact r_iret (dc D_cX12_flows_3 30 rfl) rfl rx1 h
  · have h := h.2 c2
    refine r_ldc (n := (100000000)) (dc D_cX12_flows_0 35 rfl) kw_RX12_141 ?_
    refine r_istoren (lv' := [some (.ref (eA E 0)), some (.int (iz x1)), some (.int (iz 100000000)), none, none, none]) (dc D_cX12_flows_0 36 rfl) rfl rfl rfl ?_
    refine r_iconst (n := 0) (dc D_cX12_flows_0 37 rfl) ?_
    refine r_istoren (lv' := [some (.ref (eA E 0)), some (.int (iz x1)), some (.int (iz 100000000)), some (.int (iz 0)), none, none]) (dc D_cX12_flows_0 38 rfl) rfl rfl rfl ?_
    refine r_aloadn (dc D_cX12_flows_0 39 rfl) rfl rfl ?_
    refine r_getR (dc D_cX12_flows_1 0 rfl) fw_RX12_9 lM_0 rfl ?_
    refine r_iconst (n := 0) (dc D_cX12_flows_1 1 rfl) ?_
    refine r_iald (N := 183) (dc D_cX12_flows_1 2 rfl) lM_1 rfl rfl ⟨by decide, by decide⟩ ?_
    refine r_name (fun v3 ev3 => ?_)
    have h := h v3 ev3
    have rv3 : Rg v3 := Rg_eq ev3 (hs _ _)
    refine r_istore (lv' := [some (.ref (eA E 0)), some (.int (iz x1)), some (.int (iz 100000000)), some (.int (iz 0)), some (.int (iz v3)), none]) (dc D_cX12_flows_1 3 rfl) rfl rfl ?_
    obtain ⟨n, h⟩ := h
    exact TX12_flows_70 hE x hK43 n _ _ _ _ _ rx1 (Rl rfl) (Rl rfl) rv3 hs h
theorem TX12_flows_43 {E : EV} (hE : eOK layM E) {Φ : Int → PS → Prop} (x : CX) (n : Nat) : ∀ (x1 : Int) (σ : PS), Rg x1 → RS σ → LX12_flows_43 n x1 σ Φ → RW layM E mi_X12_flows Φ 43 [some (.ref (eA E 0)), some (.int (iz x1)), none, none, none, none] [] σ x := by
  induction n with
  | zero => intro x1 σ _ _ h; exact h.elim
  | succ n ih => intro x1 σ rx1 hs h; exact TBX12_flows_43 hE x ih x1 rx1 σ hs h
set_option maxRecDepth 100000 in
theorem TBX12_flows_2 {E : EV} (hE : eOK layM E) {Φ : Int → PS → Prop} {K2 : Int → PS → Prop} (x : CX) (hK2 : ∀ (x1 : Int) (σ : PS), Rg x1 → RS σ → K2 x1 σ → RW layM E mi_X12_flows Φ 2 [some (.ref (eA E 0)), some (.int (iz x1)), none, none, none, none] [] σ x) (x1 : Int) (rx1 : Rg x1) (σ : PS) (hs : RS σ) (h : BX12_flows_2 K2 x1 σ Φ) : RW layM E mi_X12_flows Φ 2 [some (.ref (eA E 0)), some (.int (iz x1)), none, none, none, none] [] σ x := by
  refine r_iloadn (dc D_cX12_flows_0 2 rfl) rfl rfl ?_
  refine r_aloadn (dc D_cX12_flows_0 3 rfl) rfl rfl ?_
  refine r_getR (dc D_cX12_flows_0 4 rfl) fw_RX12_9 lM_0 rfl ?_
  refine r_iconst (n := 2) (dc D_cX12_flows_0 5 rfl) ?_
  refine r_iald (N := 183) (dc D_cX12_flows_0 6 rfl) lM_1 rfl rfl ⟨by decide, by decide⟩ ?_
  refine r_icmp_ge (tgt := 25) (dc D_cX12_flows_0 7 rfl) (by decide) rx1 (hs _ _) (fun c1 => ?_) (fun c1 => ?_)
  · have h := h.1 c1
    refine r_aloadn (dc D_cX12_flows_0 15 rfl) rfl rfl ?_
    refine r_iconst (n := 0) (dc D_cX12_flows_0 16 rfl) ?_
    refine r_put (dc D_cX12_flows_0 17 rfl) fw_RX12_133 fp_12_7 lM_0 rfl (nar_int _) (Rl rfl) ?_
    refine r_sig (fun σ2 eσ2 => ?_)
    have h := h σ2 eσ2
    have hσ2 : RS σ2 := RS_eq eσ2 (RS.up hs (Rl rfl) _ _)
    refine r_iconst (n := 0) (dc D_cX12_flows_0 18 rfl) ?_
    refine r_istoren (lv' := [some (.ref (eA E 0)), some (.int (iz 0)), none, none, none, none]) (dc D_cX12_flows_0 19 rfl) rfl rfl rfl ?_
    refine r_aloadn (dc D_cX12_flows_0 20 rfl) rfl rfl ?_
    refine r_aloadn (dc D_cX12_flows_0 21 rfl) rfl rfl ?_
    refine r_getR (dc D_cX12_flows_0 22 rfl) fw_RX12_9 lM_0 rfl ?_
    refine r_iconst (n := 1) (dc D_cX12_flows_0 23 rfl) ?_
    refine r_iald (N := 183) (dc D_cX12_flows_0 24 rfl) lM_1 rfl rfl ⟨by decide, by decide⟩ ?_
    refine r_iconst (n := 1) (dc D_cX12_flows_0 25 rfl) ?_
    refine r_callV (As := [.int (iz (σ2 1 1)), .int (iz 1)]) (st := []) (dc D_cX12_flows_0 26 rfl) cw_RX12_137 nm_yX12_measures (CX12_measures hE _ _ (hσ2 _ _) (Rl rfl) _ hσ2 h) lM_0 rfl rfl (by decide) rfl rfl rfl (fun z3 σ4 rz3 hσ4 h => ?_)
    show RW layM E mi_X12_flows Φ 43 [some (.ref (eA E 0)), some (.int (iz 0)), none, none, none, none] [] σ4 x
    obtain ⟨n, h⟩ := h
    exact TX12_flows_43 hE x n _ _ (Rl rfl) hσ4 h
  · have h := h.2 c1
    refine r_aloadn (dc D_cX12_flows_0 8 rfl) rfl rfl ?_
    refine r_getR (dc D_cX12_flows_0 9 rfl) fw_RX12_19 lM_0 rfl ?_
    refine r_iloadn (dc D_cX12_flows_0 10 rfl) rfl rfl ?_
    refine r_iconst (n := 0) (dc D_cX12_flows_0 11 rfl) ?_
    obtain ⟨o5, h⟩ := h
    refine r_iast (N := 30) (dc D_cX12_flows_0 12 rfl) lM_4 rfl rfl o5 (Rl rfl) ?_
    refine r_sig (fun σ6 eσ6 => ?_)
    have h := h σ6 eσ6
    have hσ6 : RS σ6 := RS_eq eσ6 (RS.up hs (Rl rfl) _ _)
    obtain ⟨o7, h⟩ := h
    refine r_iinc (lv' := [some (.ref (eA E 0)), some (.int (iz (x1 + 1))), none, none, none, none]) (dc D_cX12_flows_0 13 rfl) rfl rfl rfl ?_
    refine r_goto (tgt := 2) (dc D_cX12_flows_0 14 rfl) (by decide) ?_
    exact hK2 _ _ o7 hσ6 h
theorem TX12_flows_2 {E : EV} (hE : eOK layM E) {Φ : Int → PS → Prop} (x : CX) (n : Nat) : ∀ (x1 : Int) (σ : PS), Rg x1 → RS σ → LX12_flows_2 n x1 σ Φ → RW layM E mi_X12_flows Φ 2 [some (.ref (eA E 0)), some (.int (iz x1)), none, none, none, none] [] σ x := by
  induction n with
  | zero => intro x1 σ _ _ h; exact h.elim
  | succ n ih => intro x1 σ rx1 hs h; exact TBX12_flows_2 hE x ih x1 rx1 σ hs h
set_option maxRecDepth 100000 in
theorem CX12_flows {E : EV} (hE : eOK layM E) {Φ : Int → PS → Prop} (σ : PS) (hs : RS σ) (h : FX12_flows σ Φ) : CT layM E yX12_flows mi_X12_flows [.ref (eA E 0)] σ Φ := by
  refine ct_of (by decide +kernel) rfl hE rfl rfl hs (fun x => ?_)
  show RW layM E mi_X12_flows Φ 0 [some (.ref (eA E 0)), none, none, none, none, none] [] σ x
  refine r_iconst (n := 0) (dc D_cX12_flows_0 0 rfl) ?_
  refine r_istoren (lv' := [some (.ref (eA E 0)), some (.int (iz 0)), none, none, none, none]) (dc D_cX12_flows_0 1 rfl) rfl rfl rfl ?_
  obtain ⟨n, h⟩ := h
  exact TX12_flows_2 hE x n _ _ (Rl rfl) hs h
-- end of GateFlowModel.flows
def mi_X12_flowsNow : MI := (cX12_flowsNow, RX12, 1, 5, (some .int), 1)
def FX12_flowsNow (σ : PS) (Φ : Int → PS → Prop) : Prop :=
  FX12_mayAll σ (fun z1 σ2 =>
  FX12_flows σ2 (fun z3 σ4 =>
  Φ z3 σ4))
theorem cw_RX12_153 : CWV RX12 153 yX12_mayAll mi_X12_mayAll := tb_r [1400, 1402, 47, 110, 1403] (by decide +kernel)
theorem nm_yX12_mayAll : ynm yX12_mayAll 0 := ⟨⟨by decide +kernel, by decide +kernel⟩, by decide +kernel⟩
theorem cw_RX12_156 : CWV RX12 156 yX12_flows mi_X12_flows := tb_r [1412, 1414, 50, 110, 1415] (by decide +kernel)
theorem nm_yX12_flows : ynm yX12_flows 0 := ⟨⟨by decide +kernel, by decide +kernel⟩, by decide +kernel⟩
set_option maxRecDepth 100000 in
theorem CX12_flowsNow {E : EV} (hE : eOK layM E) {Φ : Int → PS → Prop} (σ : PS) (hs : RS σ) (h : FX12_flowsNow σ Φ) : CT layM E yX12_flowsNow mi_X12_flowsNow [.ref (eA E 0)] σ Φ := by
  refine ct_of (by decide +kernel) rfl hE rfl rfl hs (fun x => ?_)
  show RW layM E mi_X12_flowsNow Φ 0 [some (.ref (eA E 0))] [] σ x
  refine r_aloadn (dc D_cX12_flowsNow_0 0 rfl) rfl rfl ?_
  refine r_callV (As := []) (st := []) (dc D_cX12_flowsNow_0 1 rfl) cw_RX12_153 nm_yX12_mayAll (CX12_mayAll hE  _ hs h) lM_0 rfl rfl (by decide) rfl rfl rfl (fun z1 σ2 rz1 hσ2 h => ?_)
  show RW layM E mi_X12_flowsNow Φ 4 [some (.ref (eA E 0))] [] σ2 x
  refine r_aloadn (dc D_cX12_flowsNow_0 2 rfl) rfl rfl ?_
  refine r_callV (As := []) (st := []) (dc D_cX12_flowsNow_0 3 rfl) cw_RX12_156 nm_yX12_flows (CX12_flows hE  _ hσ2 h) lM_0 rfl rfl (by decide) rfl rfl rfl (fun z3 σ4 rz3 hσ4 h => ?_)
  show RW layM E mi_X12_flowsNow Φ 8 [some (.ref (eA E 0))] [.int (iz z3)] σ4 x
  exact r_iret (dc D_cX12_flowsNow_0 4 rfl) rfl rz3 h
-- end of GateFlowModel.flowsNow
def mi_X12_most : MI := (cX12_most, RX12, 1, 6, (some .int), 1)
def FX12_most (σ : PS) (Φ : Int → PS → Prop) : Prop :=
  FX12_flowsNow σ (fun z1 σ2 =>
  Φ z1 σ2)
theorem cw_RX12_160 : CWV RX12 160 yX12_flowsNow mi_X12_flowsNow := tb_r [1396, 1398, 46, 110, 1399] (by decide +kernel)
theorem nm_yX12_flowsNow : ynm yX12_flowsNow 0 := ⟨⟨by decide +kernel, by decide +kernel⟩, by decide +kernel⟩
set_option maxRecDepth 100000 in
theorem CX12_most {E : EV} (hE : eOK layM E) {Φ : Int → PS → Prop} (σ : PS) (hs : RS σ) (h : FX12_most σ Φ) : CT layM E yX12_most mi_X12_most [.ref (eA E 0)] σ Φ := by
  refine ct_of (by decide +kernel) rfl hE rfl rfl hs (fun x => ?_)
  show RW layM E mi_X12_most Φ 0 [some (.ref (eA E 0))] [] σ x
  refine r_aloadn (dc D_cX12_most_0 0 rfl) rfl rfl ?_
  refine r_callV (As := []) (st := []) (dc D_cX12_most_0 1 rfl) cw_RX12_160 nm_yX12_flowsNow (CX12_flowsNow hE  _ hs h) lM_0 rfl rfl (by decide) rfl rfl rfl (fun z1 σ2 rz1 hσ2 h => ?_)
  show RW layM E mi_X12_most Φ 4 [some (.ref (eA E 0))] [.int (iz z1)] σ2 x
  exact r_iret (dc D_cX12_most_0 2 rfl) rfl rz1 h
-- end of GateFlowModel.most
def mi_X12_water : MI := (cX12_water, RX12, 2, 6, (some .int), 1)
def FX12_water (a1 : Int) (σ : PS) (Φ : Int → PS → Prop) : Prop :=
  FX12_isGate a1 σ (fun z1 σ2 =>
  ((¬ z1 = 0 →
    FX12_flowsNow σ2 (fun z4 σ5 =>
    (0 ≤ a1 ∧ a1 < 30) ∧
    Φ (σ5 4 a1.toNat) σ5)) ∧
  (z1 = 0 →
    Φ (-1) σ2)))
set_option maxRecDepth 100000 in
theorem CX12_water {E : EV} (hE : eOK layM E) {Φ : Int → PS → Prop} (a1 : Int) (ra1 : Rg a1) (σ : PS) (hs : RS σ) (h : FX12_water a1 σ Φ) : CT layM E yX12_water mi_X12_water [.ref (eA E 0), .int (iz a1)] σ Φ := by
  refine ct_of (by decide +kernel) rfl hE rfl rfl hs (fun x => ?_)
  show RW layM E mi_X12_water Φ 0 [some (.ref (eA E 0)), some (.int (iz a1))] [] σ x
  refine r_aloadn (dc D_cX12_water_0 0 rfl) rfl rfl ?_
  refine r_iloadn (dc D_cX12_water_0 1 rfl) rfl rfl ?_
  refine r_callV (As := [.int (iz a1)]) (st := []) (dc D_cX12_water_0 2 rfl) cw_RX12_113 nm_yX12_isGate (CX12_isGate hE _ ra1 _ hs h) lM_0 rfl rfl (by decide) rfl rfl rfl (fun z1 σ2 rz1 hσ2 h => ?_)
  show RW layM E mi_X12_water Φ 5 [some (.ref (eA E 0)), some (.int (iz a1))] [.int (iz z1)] σ2 x
  refine r_if_ne (tgt := 10) (dc D_cX12_water_0 3 rfl) (by decide) rz1 (fun c3 => ?_) (fun c3 => ?_)
  · have h := h.1 c3
    refine r_aloadn (dc D_cX12_water_0 6 rfl) rfl rfl ?_
    refine r_callV (As := []) (st := []) (dc D_cX12_water_0 7 rfl) cw_RX12_160 nm_yX12_flowsNow (CX12_flowsNow hE  _ hσ2 h) lM_0 rfl rfl (by decide) rfl rfl rfl (fun z4 σ5 rz4 hσ5 h => ?_)
    show RW layM E mi_X12_water Φ 14 [some (.ref (eA E 0)), some (.int (iz a1))] [.int (iz z4)] σ5 x
    refine r_pop (dc D_cX12_water_0 8 rfl) rfl ?_
    refine r_aloadn (dc D_cX12_water_0 9 rfl) rfl rfl ?_
    refine r_getR (dc D_cX12_water_0 10 rfl) fw_RX12_19 lM_0 rfl ?_
    refine r_iloadn (dc D_cX12_water_0 11 rfl) rfl rfl ?_
    obtain ⟨o6, h⟩ := h
    refine r_iald (N := 30) (dc D_cX12_water_0 12 rfl) lM_4 rfl rfl o6 ?_
    exact r_iret (dc D_cX12_water_0 13 rfl) rfl (hσ5 _ _) h
  · have h := h.2 c3
    refine r_iconst (n := (-1)) (dc D_cX12_water_0 4 rfl) ?_
    exact r_iret (dc D_cX12_water_0 5 rfl) rfl (Rl rfl) h
-- end of GateFlowModel.water
def mi_X12_ways : MI := (cX12_ways, RX12, 3, 6, (some .int), 1)
def FX12_ways (a1 a2 : Int) (σ : PS) (Φ : Int → PS → Prop) : Prop :=
  (((-1) ≤ a1 →
    FX12_flowsNow σ (fun z2 σ3 =>
    ((¬ a1 = (-1) →
      ((a1 < σ3 0 7 →
        ((2 ≤ a2 →
          (0 ≤ a1 ∧ a1 < 400) ∧
          Rg (9 + (σ3 8 a1.toNat)) ∧
          FX12_in a2 10 (9 + (σ3 8 a1.toNat)) σ3 (fun z9 σ10 =>
          ((z9 = 0 →
            Φ (-1) σ10) ∧
          (¬ z9 = 0 →
            Rg (a1 * 12) ∧
            Rg ((a1 * 12) + a2) ∧
            Rg (((a1 * 12) + a2) - 10) ∧
            (0 ≤ ((a1 * 12) + a2) - 10 ∧ ((a1 * 12) + a2) - 10 < 4800) ∧
            Φ (σ10 9 (((a1 * 12) + a2) - 10).toNat) σ10)))) ∧
        (¬ 2 ≤ a2 →
          ((¬ a2 = 0 →
            ((¬ a2 = 1 →
              Φ (-1) σ3) ∧
            (a2 = 1 →
              (0 ≤ a1 ∧ a1 < 400) ∧
              Φ (σ3 8 a1.toNat) σ3))) ∧
          (a2 = 0 →
            (0 ≤ a1 ∧ a1 < 400) ∧
            Φ (σ3 7 a1.toNat) σ3))))) ∧
      (¬ a1 < σ3 0 7 →
        Φ (-1) σ3))) ∧
    (a1 = (-1) →
      Φ (σ3 0 7) σ3)))) ∧
  (¬ (-1) ≤ a1 →
    Φ (-1) σ))
set_option maxRecDepth 100000 in
theorem CX12_ways {E : EV} (hE : eOK layM E) {Φ : Int → PS → Prop} (a1 a2 : Int) (ra1 : Rg a1) (ra2 : Rg a2) (σ : PS) (hs : RS σ) (h : FX12_ways a1 a2 σ Φ) : CT layM E yX12_ways mi_X12_ways [.ref (eA E 0), .int (iz a1), .int (iz a2)] σ Φ := by
  refine ct_of (by decide +kernel) rfl hE rfl rfl hs (fun x => ?_)
  show RW layM E mi_X12_ways Φ 0 [some (.ref (eA E 0)), some (.int (iz a1)), some (.int (iz a2))] [] σ x
  refine r_iloadn (dc D_cX12_ways_0 0 rfl) rfl rfl ?_
  refine r_iconst (n := (-1)) (dc D_cX12_ways_0 1 rfl) ?_
  refine r_icmp_ge (tgt := 7) (dc D_cX12_ways_0 2 rfl) (by decide) ra1 (Rl rfl) (fun c1 => ?_) (fun c1 => ?_)
  · have h := h.1 c1
    refine r_aloadn (dc D_cX12_ways_0 5 rfl) rfl rfl ?_
    refine r_callV (As := []) (st := []) (dc D_cX12_ways_0 6 rfl) cw_RX12_160 nm_yX12_flowsNow (CX12_flowsNow hE  _ hs h) lM_0 rfl rfl (by decide) rfl rfl rfl (fun z2 σ3 rz2 hσ3 h => ?_)
    show RW layM E mi_X12_ways Φ 11 [some (.ref (eA E 0)), some (.int (iz a1)), some (.int (iz a2))] [.int (iz z2)] σ3 x
    refine r_pop (dc D_cX12_ways_0 7 rfl) rfl ?_
    refine r_iloadn (dc D_cX12_ways_0 8 rfl) rfl rfl ?_
    refine r_iconst (n := (-1)) (dc D_cX12_ways_0 9 rfl) ?_
    refine r_icmp_ne (tgt := 22) (dc D_cX12_ways_0 10 rfl) (by decide) ra1 (Rl rfl) (fun c4 => ?_) (fun c4 => ?_)
    · have h := h.1 c4
      refine r_iloadn (dc D_cX12_ways_0 14 rfl) rfl rfl ?_
      refine r_aloadn (dc D_cX12_ways_0 15 rfl) rfl rfl ?_
      refine r_getI (dc D_cX12_ways_0 16 rfl) fw_RX12_133 lM_0 rfl ?_
      refine r_icmp_lt (tgt := 32) (dc D_cX12_ways_0 17 rfl) (by decide) ra1 (hσ3 _ _) (fun c5 => ?_) (fun c5 => ?_)
      · have h := h.1 c5
        refine r_iloadn (dc D_cX12_ways_0 20 rfl) rfl rfl ?_
        refine r_iconst (n := 2) (dc D_cX12_ways_0 21 rfl) ?_
        refine r_icmp_ge (tgt := 66) (dc D_cX12_ways_0 22 rfl) (by decide) ra2 (Rl rfl) (fun c6 => ?_) (fun c6 => ?_)
        · have h := h.1 c6
          refine r_iloadn (dc D_cX12_ways_1 0 rfl) rfl rfl ?_
          refine r_bipush (n := 10) (dc D_cX12_ways_1 1 rfl) (by decide +kernel) ?_
          refine r_bipush (n := 9) (dc D_cX12_ways_1 2 rfl) (by decide +kernel) ?_
          refine r_aloadn (dc D_cX12_ways_1 3 rfl) rfl rfl ?_
          refine r_getR (dc D_cX12_ways_1 4 rfl) fw_RX12_31 lM_0 rfl ?_
          refine r_iloadn (dc D_cX12_ways_1 5 rfl) rfl rfl ?_
          obtain ⟨o7, h⟩ := h
          refine r_iald (N := 400) (dc D_cX12_ways_1 6 rfl) lM_8 rfl rfl o7 ?_
          refine r_iadd (dc D_cX12_ways_1 7 rfl) ?_
          obtain ⟨o8, h⟩ := h
          refine r_callS (As := [.int (iz a2), .int (iz 10), .int (iz (9 + (σ3 8 a1.toNat)))]) (st := []) (dc D_cX12_ways_1 8 rfl) cw_RX12_90 nm_yX12_in (CX12_in hE _ _ _ ra2 (Rl rfl) o8 _ hσ3 h) rfl (by decide) rfl rfl rfl (fun z9 σ10 rz9 hσ10 h => ?_)
          show RW layM E mi_X12_ways Φ 81 [some (.ref (eA E 0)), some (.int (iz a1)), some (.int (iz a2))] [.int (iz z9)] σ10 x
          refine r_if_eq (tgt := 101) (dc D_cX12_ways_1 9 rfl) (by decide) rz9 (fun c11 => ?_) (fun c11 => ?_)
          · have h := h.1 c11
            refine r_iconst (n := (-1)) (dc D_cX12_ways_1 21 rfl) ?_
            exact r_iret (dc D_cX12_ways_1 22 rfl) rfl (Rl rfl) h
          · have h := h.2 c11
            refine r_aloadn (dc D_cX12_ways_1 10 rfl) rfl rfl ?_
            refine r_getR (dc D_cX12_ways_1 11 rfl) fw_RX12_34 lM_0 rfl ?_
            refine r_iloadn (dc D_cX12_ways_1 12 rfl) rfl rfl ?_
            refine r_bipush (n := 12) (dc D_cX12_ways_1 13 rfl) (by decide +kernel) ?_
            refine r_imul (dc D_cX12_ways_1 14 rfl) ?_
            obtain ⟨o12, h⟩ := h
            refine r_iloadn (dc D_cX12_ways_1 15 rfl) rfl rfl ?_
            refine r_iadd (dc D_cX12_ways_1 16 rfl) ?_
            obtain ⟨o13, h⟩ := h
            refine r_bipush (n := 10) (dc D_cX12_ways_1 17 rfl) (by decide +kernel) ?_
            refine r_isub (dc D_cX12_ways_1 18 rfl) ?_
            obtain ⟨o14, h⟩ := h
            obtain ⟨o15, h⟩ := h
            refine r_iald (N := 4800) (dc D_cX12_ways_1 19 rfl) lM_9 rfl rfl o15 ?_
            refine r_goto (tgt := 102) (dc D_cX12_ways_1 20 rfl) (by decide) ?_
            exact r_iret (dc D_cX12_ways_1 22 rfl) rfl (hσ10 _ _) h
        · have h := h.2 c6
          refine r_iloadn (dc D_cX12_ways_0 23 rfl) rfl rfl ?_
          refine r_if_ne (tgt := 50) (dc D_cX12_ways_0 24 rfl) (by decide) ra2 (fun c16 => ?_) (fun c16 => ?_)
          · have h := h.1 c16
            refine r_iloadn (dc D_cX12_ways_0 30 rfl) rfl rfl ?_
            refine r_iconst (n := 1) (dc D_cX12_ways_0 31 rfl) ?_
            refine r_icmp_ne (tgt := 64) (dc D_cX12_ways_0 32 rfl) (by decide) ra2 (Rl rfl) (fun c17 => ?_) (fun c17 => ?_)
            · have h := h.1 c17
              refine r_iconst (n := (-1)) (dc D_cX12_ways_0 38 rfl) ?_
              exact r_iret (dc D_cX12_ways_0 39 rfl) rfl (Rl rfl) h
            · have h := h.2 c17
              refine r_aloadn (dc D_cX12_ways_0 33 rfl) rfl rfl ?_
              refine r_getR (dc D_cX12_ways_0 34 rfl) fw_RX12_31 lM_0 rfl ?_
              refine r_iloadn (dc D_cX12_ways_0 35 rfl) rfl rfl ?_
              obtain ⟨o18, h⟩ := h
              refine r_iald (N := 400) (dc D_cX12_ways_0 36 rfl) lM_8 rfl rfl o18 ?_
              refine r_goto (tgt := 65) (dc D_cX12_ways_0 37 rfl) (by decide) ?_
              exact r_iret (dc D_cX12_ways_0 39 rfl) rfl (hσ3 _ _) h
          · have h := h.2 c16
            refine r_aloadn (dc D_cX12_ways_0 25 rfl) rfl rfl ?_
            refine r_getR (dc D_cX12_ways_0 26 rfl) fw_RX12_28 lM_0 rfl ?_
            refine r_iloadn (dc D_cX12_ways_0 27 rfl) rfl rfl ?_
            obtain ⟨o19, h⟩ := h
            refine r_iald (N := 400) (dc D_cX12_ways_0 28 rfl) lM_7 rfl rfl o19 ?_
            refine r_goto (tgt := 65) (dc D_cX12_ways_0 29 rfl) (by decide) ?_
            exact r_iret (dc D_cX12_ways_0 39 rfl) rfl (hσ3 _ _) h
      · have h := h.2 c5
        refine r_iconst (n := (-1)) (dc D_cX12_ways_0 18 rfl) ?_
        exact r_iret (dc D_cX12_ways_0 19 rfl) rfl (Rl rfl) h
    · have h := h.2 c4
      refine r_aloadn (dc D_cX12_ways_0 11 rfl) rfl rfl ?_
      refine r_getI (dc D_cX12_ways_0 12 rfl) fw_RX12_133 lM_0 rfl ?_
      exact r_iret (dc D_cX12_ways_0 13 rfl) rfl (hσ3 _ _) h
  · have h := h.2 c1
    refine r_iconst (n := (-1)) (dc D_cX12_ways_0 3 rfl) ?_
    exact r_iret (dc D_cX12_ways_0 4 rfl) rfl (Rl rfl) h
-- end of GateFlowModel.ways
def mi_X12_downStep : MI := (cX12_downStep, RX12, 4, 3, (some .int), 1)
def LX12_downStep_60 (K2 : Int → Int → PS → Prop) (x1 x2 : Int) (σ : PS) (Φ : Int → PS → Prop) : Prop :=
  Rg (x2 + 1) ∧
  K2 x1 (x2 + 1) σ
def BX12_downStep_2 (K2 : Int → Int → PS → Prop) (x1 x2 : Int) (σ : PS) (Φ : Int → PS → Prop) : Prop :=
  Rg (2 * (σ 1 2)) ∧
  ((2 * (σ 1 2) ≤ x2 →
    Φ (-1) σ) ∧
  (¬ 2 * (σ 1 2) ≤ x2 →
    FX12_stepAt x2 σ (fun z3 σ4 =>
    FX12_stepFrom z3 σ4 (fun z5 σ6 =>
    ((¬ z5 = x1 →
      LX12_downStep_60 K2 x1 x2 σ6 Φ) ∧
    (z5 = x1 →
      FX12_room z3 σ6 (fun z8 σ9 =>
      ((z8 ≤ 0 →
        LX12_downStep_60 K2 x1 x2 σ9 Φ) ∧
      (¬ z8 ≤ 0 →
        FX12_stepTo z3 σ9 (fun z11 σ12 =>
        (0 ≤ z11 ∧ z11 < 12) ∧
        (0 ≤ x1 ∧ x1 < 12) ∧
        Rg ((σ12 10 x1.toNat) - 1) ∧
        ((¬ σ12 10 z11.toNat = (σ12 10 x1.toNat) - 1 →
          LX12_downStep_60 K2 x1 x2 σ12 Φ) ∧
        (σ12 10 z11.toNat = (σ12 10 x1.toNat) - 1 →
          Φ z3 σ12))))))))))))
def LX12_downStep_2 : Nat → Int → Int → PS → (Int → PS → Prop) → Prop
  | 0, _, _, _, _ => False
  | n + 1, x1, x2, σ, Φ => BX12_downStep_2 (fun x1 x2 σ => LX12_downStep_2 n x1 x2 σ Φ) x1 x2 σ Φ
def FX12_downStep (a1 : Int) (σ : PS) (Φ : Int → PS → Prop) : Prop :=
  ∃ n, LX12_downStep_2 n a1 0 σ Φ
theorem fw_RX12_166 : FW RX12 166 12 16 := ⟨RX12, TX12, 39, rfl, by decide, rfl, tb_1 1235 (by decide +kernel), uw_12⟩
theorem fw_RX12_49 : FW RX12 49 12 15 := ⟨RX12, TX12, 39, rfl, by decide, rfl, tb_1 1234 (by decide +kernel), uw_12⟩
theorem fw_RX12_46 : FW RX12 46 12 14 := ⟨RX12, TX12, 39, rfl, by decide, rfl, tb_1 1233 (by decide +kernel), uw_12⟩
theorem fw_RX12_40 : FW RX12 40 12 12 := ⟨RX12, TX12, 39, rfl, by decide, rfl, tb_1 1231 (by decide +kernel), uw_12⟩
theorem fw_RX12_37 : FW RX12 37 12 11 := ⟨RX12, TX12, 39, rfl, by decide, rfl, tb_1 1230 (by decide +kernel), uw_12⟩
set_option maxRecDepth 100000 in
theorem TX12_downStep_60 {E : EV} (hE : eOK layM E) {Φ : Int → PS → Prop} {K2 : Int → Int → PS → Prop} (x : CX) (hK2 : ∀ (x1 x2 : Int) (σ : PS), Rg x1 → Rg x2 → RS σ → K2 x1 x2 σ → RW layM E mi_X12_downStep Φ 2 [some (.ref (eA E 0)), some (.int (iz x1)), some (.int (iz x2)), none] [] σ x) (x1 x2 : Int) (rx1 : Rg x1) (rx2 : Rg x2) (σ : PS) (hs : RS σ) (h : LX12_downStep_60 K2 x1 x2 σ Φ) : RW layM E mi_X12_downStep Φ 60 [some (.ref (eA E 0)), some (.int (iz x1)), some (.int (iz x2)), none] [] σ x := by
  obtain ⟨o1, h⟩ := h
  refine r_iinc (lv' := [some (.ref (eA E 0)), some (.int (iz x1)), some (.int (iz (x2 + 1))), none]) (dc D_cX12_downStep_0 38 rfl) rfl rfl rfl ?_
  refine r_goto (tgt := 2) (dc D_cX12_downStep_0 39 rfl) (by decide) ?_
  exact hK2 _ _ _ rx1 o1 hs h
set_option maxRecDepth 100000 in
theorem TBX12_downStep_2 {E : EV} (hE : eOK layM E) {Φ : Int → PS → Prop} {K2 : Int → Int → PS → Prop} (x : CX) (hK2 : ∀ (x1 x2 : Int) (σ : PS), Rg x1 → Rg x2 → RS σ → K2 x1 x2 σ → RW layM E mi_X12_downStep Φ 2 [some (.ref (eA E 0)), some (.int (iz x1)), some (.int (iz x2)), none] [] σ x) (x1 x2 : Int) (rx1 : Rg x1) (rx2 : Rg x2) (σ : PS) (hs : RS σ) (h : BX12_downStep_2 K2 x1 x2 σ Φ) : RW layM E mi_X12_downStep Φ 2 [some (.ref (eA E 0)), some (.int (iz x1)), some (.int (iz x2)), none] [] σ x := by
  refine r_iloadn (dc D_cX12_downStep_0 2 rfl) rfl rfl ?_
  refine r_iconst (n := 2) (dc D_cX12_downStep_0 3 rfl) ?_
  refine r_aloadn (dc D_cX12_downStep_0 4 rfl) rfl rfl ?_
  refine r_getR (dc D_cX12_downStep_0 5 rfl) fw_RX12_9 lM_0 rfl ?_
  refine r_iconst (n := 2) (dc D_cX12_downStep_0 6 rfl) ?_
  refine r_iald (N := 183) (dc D_cX12_downStep_0 7 rfl) lM_1 rfl rfl ⟨by decide, by decide⟩ ?_
  refine r_imul (dc D_cX12_downStep_0 8 rfl) ?_
  obtain ⟨o1, h⟩ := h
  refine r_icmp_ge (tgt := 66) (dc D_cX12_downStep_0 9 rfl) (by decide) rx2 o1 (fun c2 => ?_) (fun c2 => ?_)
  · have h := h.1 c2
    refine r_iconst (n := (-1)) (dc D_cX12_downStep_1 0 rfl) ?_
    exact r_iret (dc D_cX12_downStep_1 1 rfl) rfl (Rl rfl) h
  · have h := h.2 c2
    refine r_aloadn (dc D_cX12_downStep_0 10 rfl) rfl rfl ?_
    refine r_iloadn (dc D_cX12_downStep_0 11 rfl) rfl rfl ?_
    refine r_callV (As := [.int (iz x2)]) (st := []) (dc D_cX12_downStep_0 12 rfl) cw_RX12_120 nm_yX12_stepAt (CX12_stepAt hE _ rx2 _ hs h) lM_0 rfl rfl (by decide) rfl rfl rfl (fun z3 σ4 rz3 hσ4 h => ?_)
    show RW layM E mi_X12_downStep Φ 19 [some (.ref (eA E 0)), some (.int (iz x1)), some (.int (iz x2)), none] [.int (iz z3)] σ4 x
    refine r_istoren (lv' := [some (.ref (eA E 0)), some (.int (iz x1)), some (.int (iz x2)), some (.int (iz z3))]) (dc D_cX12_downStep_0 13 rfl) rfl rfl rfl ?_
    refine r_aloadn (dc D_cX12_downStep_0 14 rfl) rfl rfl ?_
    refine r_iloadn (dc D_cX12_downStep_0 15 rfl) rfl rfl ?_
    refine r_callV (As := [.int (iz z3)]) (st := []) (dc D_cX12_downStep_0 16 rfl) cw_RX12_127 nm_yX12_stepFrom (CX12_stepFrom hE _ rz3 _ hσ4 h) lM_0 rfl rfl (by decide) rfl rfl rfl (fun z5 σ6 rz5 hσ6 h => ?_)
    show RW layM E mi_X12_downStep Φ 25 [some (.ref (eA E 0)), some (.int (iz x1)), some (.int (iz x2)), some (.int (iz z3))] [.int (iz z5)] σ6 x
    refine r_iloadn (dc D_cX12_downStep_0 17 rfl) rfl rfl ?_
    refine r_icmp_ne (tgt := 60) (dc D_cX12_downStep_0 18 rfl) (by decide) rz5 rx1 (fun c7 => ?_) (fun c7 => ?_)
    · have h := h.1 c7
      refine r_sub (lv' := [some (.ref (eA E 0)), some (.int (iz x1)), some (.int (iz x2)), none]) (subL_s (subL_s (subL_s (subL_n subL_e)))) ?_
      exact TX12_downStep_60 hE x hK2 _ _ rx1 rx2 _ hσ6 h
    · have h := h.2 c7
      refine r_aloadn (dc D_cX12_downStep_0 19 rfl) rfl rfl ?_
      refine r_iloadn (dc D_cX12_downStep_0 20 rfl) rfl rfl ?_
      refine r_callV (As := [.int (iz z3)]) (st := []) (dc D_cX12_downStep_0 21 rfl) cw_RX12_130 nm_yX12_room (CX12_room hE _ rz3 _ hσ6 h) lM_0 rfl rfl (by decide) rfl rfl rfl (fun z8 σ9 rz8 hσ9 h => ?_)
      show RW layM E mi_X12_downStep Φ 34 [some (.ref (eA E 0)), some (.int (iz x1)), some (.int (iz x2)), some (.int (iz z3))] [.int (iz z8)] σ9 x
      refine r_if_le (tgt := 60) (dc D_cX12_downStep_0 22 rfl) (by decide) rz8 (fun c10 => ?_) (fun c10 => ?_)
      · have h := h.1 c10
        refine r_sub (lv' := [some (.ref (eA E 0)), some (.int (iz x1)), some (.int (iz x2)), none]) (subL_s (subL_s (subL_s (subL_n subL_e)))) ?_
        exact TX12_downStep_60 hE x hK2 _ _ rx1 rx2 _ hσ9 h
      · have h := h.2 c10
        refine r_aloadn (dc D_cX12_downStep_0 23 rfl) rfl rfl ?_
        refine r_getR (dc D_cX12_downStep_0 24 rfl) fw_RX12_37 lM_0 rfl ?_
        refine r_aloadn (dc D_cX12_downStep_0 25 rfl) rfl rfl ?_
        refine r_iloadn (dc D_cX12_downStep_0 26 rfl) rfl rfl ?_
        refine r_callV (As := [.int (iz z3)]) (st := [.ref (eA E 10)]) (dc D_cX12_downStep_0 27 rfl) cw_RX12_124 nm_yX12_stepTo (CX12_stepTo hE _ rz3 _ hσ9 h) lM_0 rfl rfl (by decide) rfl rfl rfl (fun z11 σ12 rz11 hσ12 h => ?_)
        show RW layM E mi_X12_downStep Φ 46 [some (.ref (eA E 0)), some (.int (iz x1)), some (.int (iz x2)), some (.int (iz z3))] [.int (iz z11), .ref (eA E 10)] σ12 x
        obtain ⟨o13, h⟩ := h
        refine r_iald (N := 12) (dc D_cX12_downStep_0 28 rfl) lM_10 rfl rfl o13 ?_
        refine r_aloadn (dc D_cX12_downStep_0 29 rfl) rfl rfl ?_
        refine r_getR (dc D_cX12_downStep_0 30 rfl) fw_RX12_37 lM_0 rfl ?_
        refine r_iloadn (dc D_cX12_downStep_0 31 rfl) rfl rfl ?_
        obtain ⟨o14, h⟩ := h
        refine r_iald (N := 12) (dc D_cX12_downStep_0 32 rfl) lM_10 rfl rfl o14 ?_
        refine r_iconst (n := 1) (dc D_cX12_downStep_0 33 rfl) ?_
        refine r_isub (dc D_cX12_downStep_0 34 rfl) ?_
        obtain ⟨o15, h⟩ := h
        refine r_icmp_ne (tgt := 60) (dc D_cX12_downStep_0 35 rfl) (by decide) (hσ12 _ _) o15 (fun c16 => ?_) (fun c16 => ?_)
        · have h := h.1 c16
          refine r_sub (lv' := [some (.ref (eA E 0)), some (.int (iz x1)), some (.int (iz x2)), none]) (subL_s (subL_s (subL_s (subL_n subL_e)))) ?_
          exact TX12_downStep_60 hE x hK2 _ _ rx1 rx2 _ hσ12 h
        · have h := h.2 c16
          refine r_iloadn (dc D_cX12_downStep_0 36 rfl) rfl rfl ?_
          exact r_iret (dc D_cX12_downStep_0 37 rfl) rfl rz3 h
theorem TX12_downStep_2 {E : EV} (hE : eOK layM E) {Φ : Int → PS → Prop} (x : CX) (n : Nat) : ∀ (x1 x2 : Int) (σ : PS), Rg x1 → Rg x2 → RS σ → LX12_downStep_2 n x1 x2 σ Φ → RW layM E mi_X12_downStep Φ 2 [some (.ref (eA E 0)), some (.int (iz x1)), some (.int (iz x2)), none] [] σ x := by
  induction n with
  | zero => intro x1 x2 σ _ _ _ h; exact h.elim
  | succ n ih => intro x1 x2 σ rx1 rx2 hs h; exact TBX12_downStep_2 hE x ih x1 x2 rx1 rx2 σ hs h
set_option maxRecDepth 100000 in
theorem CX12_downStep {E : EV} (hE : eOK layM E) {Φ : Int → PS → Prop} (a1 : Int) (ra1 : Rg a1) (σ : PS) (hs : RS σ) (h : FX12_downStep a1 σ Φ) : CT layM E yX12_downStep mi_X12_downStep [.ref (eA E 0), .int (iz a1)] σ Φ := by
  refine ct_of (by decide +kernel) rfl hE rfl rfl hs (fun x => ?_)
  show RW layM E mi_X12_downStep Φ 0 [some (.ref (eA E 0)), some (.int (iz a1)), none, none] [] σ x
  refine r_iconst (n := 0) (dc D_cX12_downStep_0 0 rfl) ?_
  refine r_istoren (lv' := [some (.ref (eA E 0)), some (.int (iz a1)), some (.int (iz 0)), none]) (dc D_cX12_downStep_0 1 rfl) rfl rfl rfl ?_
  obtain ⟨n, h⟩ := h
  exact TX12_downStep_2 hE x n _ _ _ ra1 (Rl rfl) hs h
-- end of GateFlowModel.downStep
def mi_X12_pushes : MI := (cX12_pushes, RX12, 6, 3, none, 0)
def LX12_pushes_121 (K94 : Int → Int → Int → PS → Prop) (x3 x5 s0 s1 : Int) (σ : PS) (Φ : Int → PS → Prop) : Prop :=
  ∀ v1 : Int, v1 = ior s0 s1 →
  Rg (x5 + 1) ∧
  K94 x3 v1 (x5 + 1) σ
def BX12_pushes_94 (K94 : Int → Int → Int → PS → Prop) (x3 x4 x5 : Int) (σ : PS) (Φ : Int → PS → Prop) : Prop :=
  ((σ 0 16 ≤ x5 →
    ((¬ x4 = 0 →
      Φ 0 σ) ∧
    (x4 = 0 →
      (0 ≤ σ 0 16 ∧ σ 0 16 < 12) ∧
      ∀ σ4 : PS, σ4 = up2 σ 14 (σ 0 16).toNat x3 →
      Rg ((σ4 0 16) + 1) ∧
      ∀ σ6 : PS, σ6 = up2 σ4 0 16 ((σ4 0 16) + 1) →
      Φ 0 σ6))) ∧
  (¬ σ 0 16 ≤ x5 →
    (0 ≤ x5 ∧ x5 < 12) ∧
    ((¬ σ 14 x5.toNat = x3 →
      LX12_pushes_121 K94 x3 x5 x4 0 σ Φ) ∧
    (σ 14 x5.toNat = x3 →
      LX12_pushes_121 K94 x3 x5 x4 1 σ Φ))))
def LX12_pushes_94 : Nat → Int → Int → Int → PS → (Int → PS → Prop) → Prop
  | 0, _, _, _, _, _ => False
  | n + 1, x3, x4, x5, σ, Φ => BX12_pushes_94 (fun x3 x4 x5 σ => LX12_pushes_94 n x3 x4 x5 σ Φ) x3 x4 x5 σ Φ
def LX12_pushes_89 (x3 s0 : Int) (σ : PS) (Φ : Int → PS → Prop) : Prop :=
  ∃ n, LX12_pushes_94 n x3 s0 0 σ Φ
def LX12_pushes_84 (x3 : Int) (σ : PS) (Φ : Int → PS → Prop) : Prop :=
  LX12_pushes_89 x3 1 σ Φ
def LX12_pushes_28 (x1 x2 x3 s1 s2 s3 : Int) (σ : PS) (Φ : Int → PS → Prop) : Prop :=
  Rg (s2 + s3) ∧
  (0 ≤ s1 ∧ s1 < 30) ∧
  ∀ σ3 : PS, σ3 = up2 σ 4 s1.toNat (s2 + s3) →
  FX12_stepFrom x1 σ3 (fun z4 σ5 =>
  (0 ≤ z4 ∧ z4 < 12) ∧
  Rg ((σ5 11 z4.toNat) - x2) ∧
  (0 ≤ z4 ∧ z4 < 12) ∧
  ∀ σ9 : PS, σ9 = up2 σ5 11 z4.toNat ((σ5 11 z4.toNat) - x2) →
  (0 ≤ x3 ∧ x3 < 12) ∧
  Rg ((σ9 11 x3.toNat) + x2) ∧
  (0 ≤ x3 ∧ x3 < 12) ∧
  ∀ σ13 : PS, σ13 = up2 σ9 11 x3.toNat ((σ9 11 x3.toNat) + x2) →
  Rg ((σ13 0 17) + 1) ∧
  ∀ σ15 : PS, σ15 = up2 σ13 0 17 ((σ13 0 17) + 1) →
  ((x3 = σ15 1 0 →
    LX12_pushes_84 x3 σ15 Φ) ∧
  (¬ x3 = σ15 1 0 →
    ((¬ x3 = σ15 1 1 →
      LX12_pushes_89 x3 0 σ15 Φ) ∧
    (x3 = σ15 1 1 →
      LX12_pushes_84 x3 σ15 Φ)))))
def FX12_pushes (a1 a2 : Int) (σ : PS) (Φ : Int → PS → Prop) : Prop :=
  FX12_stepTo a1 σ (fun z1 σ2 =>
  0 ≤ a1 ∧
  (0 ≤ a1 % 100 ∧ a1 % 100 < 30) ∧
  ((100 ≤ a1 →
    Rg (-a2) ∧
    LX12_pushes_28 a1 a2 z1 (a1 % 100) (σ2 4 (a1 % 100).toNat) (-a2) σ2 Φ) ∧
  (¬ 100 ≤ a1 →
    LX12_pushes_28 a1 a2 z1 (a1 % 100) (σ2 4 (a1 % 100).toNat) a2 σ2 Φ)))
theorem fw_RX12_163 : FW RX12 163 12 17 := ⟨RX12, TX12, 39, rfl, by decide, rfl, tb_1 1236 (by decide +kernel), uw_12⟩
theorem fp_12_16 : FP 12 16 .int := ⟨RX12, TX12, 39, tyX12, rfl, tyX12_ok, nmX12, rfl, by decide +kernel⟩
theorem fp_12_17 : FP 12 17 .int := ⟨RX12, TX12, 39, tyX12, rfl, tyX12_ok, nmX12, rfl, by decide +kernel⟩
set_option maxRecDepth 100000 in
theorem TX12_pushes_121 {E : EV} (hE : eOK layM E) {Φ : Int → PS → Prop} {K94 : Int → Int → Int → PS → Prop} (x : CX) (hK94 : ∀ (x3 x4 x5 : Int) (σ : PS), Rg x3 → Rg x4 → Rg x5 → RS σ → K94 x3 x4 x5 σ → RW layM E mi_X12_pushes Φ 94 [some (.ref (eA E 0)), none, none, some (.int (iz x3)), some (.int (iz x4)), some (.int (iz x5))] [] σ x) (x3 x5 s0 s1 : Int) (rx3 : Rg x3) (rx5 : Rg x5) (rs0 : Rg s0) (rs1 : Rg s1) (σ : PS) (hs : RS σ) (h : LX12_pushes_121 K94 x3 x5 s0 s1 σ Φ) : RW layM E mi_X12_pushes Φ 121 [some (.ref (eA E 0)), none, none, some (.int (iz x3)), none, some (.int (iz x5))] [.int (iz s1), .int (iz s0)] σ x := by
  refine r_ior (dc D_cX12_pushes_1 36 rfl) ?_
  refine r_name (fun v1 ev1 => ?_)
  have h := h v1 ev1
  have rv1 : Rg v1 := Rg_eq ev1 (Rg_of _)
  refine r_istore (lv' := [some (.ref (eA E 0)), none, none, some (.int (iz x3)), some (.int (iz v1)), some (.int (iz x5))]) (dc D_cX12_pushes_1 37 rfl) rfl rfl ?_
  obtain ⟨o2, h⟩ := h
  refine r_iinc (lv' := [some (.ref (eA E 0)), none, none, some (.int (iz x3)), some (.int (iz v1)), some (.int (iz (x5 + 1)))]) (dc D_cX12_pushes_1 38 rfl) rfl rfl rfl ?_
  refine r_goto (tgt := 94) (dc D_cX12_pushes_1 39 rfl) (by decide) ?_
  exact hK94 _ _ _ _ rx3 rv1 o2 hs h
set_option maxRecDepth 100000 in
theorem TBX12_pushes_94 {E : EV} (hE : eOK layM E) {Φ : Int → PS → Prop} {K94 : Int → Int → Int → PS → Prop} (x : CX) (hK94 : ∀ (x3 x4 x5 : Int) (σ : PS), Rg x3 → Rg x4 → Rg x5 → RS σ → K94 x3 x4 x5 σ → RW layM E mi_X12_pushes Φ 94 [some (.ref (eA E 0)), none, none, some (.int (iz x3)), some (.int (iz x4)), some (.int (iz x5))] [] σ x) (x3 x4 x5 : Int) (rx3 : Rg x3) (rx4 : Rg x4) (rx5 : Rg x5) (σ : PS) (hs : RS σ) (h : BX12_pushes_94 K94 x3 x4 x5 σ Φ) : RW layM E mi_X12_pushes Φ 94 [some (.ref (eA E 0)), none, none, some (.int (iz x3)), some (.int (iz x4)), some (.int (iz x5))] [] σ x := by
  refine r_iload (dc D_cX12_pushes_1 22 rfl) rfl ?_
  refine r_aloadn (dc D_cX12_pushes_1 23 rfl) rfl rfl ?_
  refine r_getI (dc D_cX12_pushes_1 24 rfl) fw_RX12_166 lM_0 rfl ?_
  refine r_icmp_ge (tgt := 130) (dc D_cX12_pushes_1 25 rfl) (by decide) rx5 (hs _ _) (fun c1 => ?_) (fun c1 => ?_)
  · have h := h.1 c1
    refine r_iload (dc D_cX12_pushes_2 0 rfl) rfl ?_
    refine r_if_ne (tgt := 155) (dc D_cX12_pushes_2 1 rfl) (by decide) rx4 (fun c2 => ?_) (fun c2 => ?_)
    · have h := h.1 c2
      exact r_vret (dc D_cX12_pushes_2 14 rfl) rfl h
    · have h := h.2 c2
      refine r_aloadn (dc D_cX12_pushes_2 2 rfl) rfl rfl ?_
      refine r_getR (dc D_cX12_pushes_2 3 rfl) fw_RX12_49 lM_0 rfl ?_
      refine r_aloadn (dc D_cX12_pushes_2 4 rfl) rfl rfl ?_
      refine r_getI (dc D_cX12_pushes_2 5 rfl) fw_RX12_166 lM_0 rfl ?_
      refine r_iloadn (dc D_cX12_pushes_2 6 rfl) rfl rfl ?_
      obtain ⟨o3, h⟩ := h
      refine r_iast (N := 12) (dc D_cX12_pushes_2 7 rfl) lM_14 rfl rfl o3 rx3 ?_
      refine r_sig (fun σ4 eσ4 => ?_)
      have h := h σ4 eσ4
      have hσ4 : RS σ4 := RS_eq eσ4 (RS.up hs rx3 _ _)
      refine r_aloadn (dc D_cX12_pushes_2 8 rfl) rfl rfl ?_
      refine r_dup (dc D_cX12_pushes_2 9 rfl) rfl ?_
      refine r_getI (dc D_cX12_pushes_2 10 rfl) fw_RX12_166 lM_0 rfl ?_
      refine r_iconst (n := 1) (dc D_cX12_pushes_2 11 rfl) ?_
      refine r_iadd (dc D_cX12_pushes_2 12 rfl) ?_
      obtain ⟨o5, h⟩ := h
      refine r_put (dc D_cX12_pushes_2 13 rfl) fw_RX12_166 fp_12_16 lM_0 rfl (nar_int _) o5 ?_
      refine r_sig (fun σ6 eσ6 => ?_)
      have h := h σ6 eσ6
      have hσ6 : RS σ6 := RS_eq eσ6 (RS.up hσ4 o5 _ _)
      exact r_vret (dc D_cX12_pushes_2 14 rfl) rfl h
  · have h := h.2 c1
    refine r_iload (dc D_cX12_pushes_1 26 rfl) rfl ?_
    refine r_aloadn (dc D_cX12_pushes_1 27 rfl) rfl rfl ?_
    refine r_getR (dc D_cX12_pushes_1 28 rfl) fw_RX12_49 lM_0 rfl ?_
    refine r_iload (dc D_cX12_pushes_1 29 rfl) rfl ?_
    obtain ⟨o7, h⟩ := h
    refine r_iald (N := 12) (dc D_cX12_pushes_1 30 rfl) lM_14 rfl rfl o7 ?_
    refine r_iloadn (dc D_cX12_pushes_1 31 rfl) rfl rfl ?_
    refine r_icmp_ne (tgt := 120) (dc D_cX12_pushes_1 32 rfl) (by decide) (hs _ _) rx3 (fun c8 => ?_) (fun c8 => ?_)
    · have h := h.1 c8
      refine r_iconst (n := 0) (dc D_cX12_pushes_1 35 rfl) ?_
      refine r_sub (lv' := [some (.ref (eA E 0)), none, none, some (.int (iz x3)), none, some (.int (iz x5))]) (subL_s (subL_n (subL_n (subL_s (subL_n (subL_s subL_e)))))) ?_
      exact TX12_pushes_121 hE x hK94 _ _ _ _ rx3 rx5 rx4 (Rl rfl) _ hs h
    · have h := h.2 c8
      refine r_iconst (n := 1) (dc D_cX12_pushes_1 33 rfl) ?_
      refine r_goto (tgt := 121) (dc D_cX12_pushes_1 34 rfl) (by decide) ?_
      refine r_sub (lv' := [some (.ref (eA E 0)), none, none, some (.int (iz x3)), none, some (.int (iz x5))]) (subL_s (subL_n (subL_n (subL_s (subL_n (subL_s subL_e)))))) ?_
      exact TX12_pushes_121 hE x hK94 _ _ _ _ rx3 rx5 rx4 (Rl rfl) _ hs h
theorem TX12_pushes_94 {E : EV} (hE : eOK layM E) {Φ : Int → PS → Prop} (x : CX) (n : Nat) : ∀ (x3 x4 x5 : Int) (σ : PS), Rg x3 → Rg x4 → Rg x5 → RS σ → LX12_pushes_94 n x3 x4 x5 σ Φ → RW layM E mi_X12_pushes Φ 94 [some (.ref (eA E 0)), none, none, some (.int (iz x3)), some (.int (iz x4)), some (.int (iz x5))] [] σ x := by
  induction n with
  | zero => intro x3 x4 x5 σ _ _ _ _ h; exact h.elim
  | succ n ih => intro x3 x4 x5 σ rx3 rx4 rx5 hs h; exact TBX12_pushes_94 hE x ih x3 x4 x5 rx3 rx4 rx5 σ hs h
set_option maxRecDepth 100000 in
theorem TX12_pushes_89 {E : EV} (hE : eOK layM E) {Φ : Int → PS → Prop} (x : CX) (x3 s0 : Int) (rx3 : Rg x3) (rs0 : Rg s0) (σ : PS) (hs : RS σ) (h : LX12_pushes_89 x3 s0 σ Φ) : RW layM E mi_X12_pushes Φ 89 [some (.ref (eA E 0)), none, none, some (.int (iz x3)), none, none] [.int (iz s0)] σ x := by
  refine r_istore (lv' := [some (.ref (eA E 0)), none, none, some (.int (iz x3)), some (.int (iz s0)), none]) (dc D_cX12_pushes_1 19 rfl) rfl rfl ?_
  refine r_iconst (n := 0) (dc D_cX12_pushes_1 20 rfl) ?_
  refine r_istore (lv' := [some (.ref (eA E 0)), none, none, some (.int (iz x3)), some (.int (iz s0)), some (.int (iz 0))]) (dc D_cX12_pushes_1 21 rfl) rfl rfl ?_
  obtain ⟨n, h⟩ := h
  exact TX12_pushes_94 hE x n _ _ _ _ rx3 rs0 (Rl rfl) hs h
set_option maxRecDepth 100000 in
theorem TX12_pushes_84 {E : EV} (hE : eOK layM E) {Φ : Int → PS → Prop} (x : CX) (x3 : Int) (rx3 : Rg x3) (σ : PS) (hs : RS σ) (h : LX12_pushes_84 x3 σ Φ) : RW layM E mi_X12_pushes Φ 84 [some (.ref (eA E 0)), none, none, some (.int (iz x3)), none, none] [] σ x := by
  refine r_iconst (n := 1) (dc D_cX12_pushes_1 16 rfl) ?_
  refine r_goto (tgt := 89) (dc D_cX12_pushes_1 17 rfl) (by decide) ?_
  exact TX12_pushes_89 hE x _ _ rx3 (Rl rfl) _ hs h
set_option maxRecDepth 100000 in
theorem TX12_pushes_28 {E : EV} (hE : eOK layM E) {Φ : Int → PS → Prop} (x : CX) (x1 x2 x3 s1 s2 s3 : Int) (rx1 : Rg x1) (rx2 : Rg x2) (rx3 : Rg x3) (rs1 : Rg s1) (rs2 : Rg s2) (rs3 : Rg s3) (σ : PS) (hs : RS σ) (h : LX12_pushes_28 x1 x2 x3 s1 s2 s3 σ Φ) : RW layM E mi_X12_pushes Φ 28 [some (.ref (eA E 0)), some (.int (iz x1)), some (.int (iz x2)), some (.int (iz x3)), none, none] [.int (iz s3), .int (iz s2), .int (iz s1), .ref (eA E 4)] σ x := by
  refine r_iadd (dc D_cX12_pushes_0 18 rfl) ?_
  obtain ⟨o1, h⟩ := h
  obtain ⟨o2, h⟩ := h
  refine r_iast (N := 30) (dc D_cX12_pushes_0 19 rfl) lM_4 rfl rfl o2 o1 ?_
  refine r_sig (fun σ3 eσ3 => ?_)
  have h := h σ3 eσ3
  have hσ3 : RS σ3 := RS_eq eσ3 (RS.up hs o1 _ _)
  refine r_aloadn (dc D_cX12_pushes_0 20 rfl) rfl rfl ?_
  refine r_getR (dc D_cX12_pushes_0 21 rfl) fw_RX12_40 lM_0 rfl ?_
  refine r_aloadn (dc D_cX12_pushes_0 22 rfl) rfl rfl ?_
  refine r_iloadn (dc D_cX12_pushes_0 23 rfl) rfl rfl ?_
  refine r_callV (As := [.int (iz x1)]) (st := [.ref (eA E 11)]) (dc D_cX12_pushes_0 24 rfl) cw_RX12_127 nm_yX12_stepFrom (CX12_stepFrom hE _ rx1 _ hσ3 h) lM_0 rfl rfl (by decide) rfl rfl rfl (fun z4 σ5 rz4 hσ5 h => ?_)
  show RW layM E mi_X12_pushes Φ 39 [some (.ref (eA E 0)), some (.int (iz x1)), some (.int (iz x2)), some (.int (iz x3)), none, none] [.int (iz z4), .ref (eA E 11)] σ5 x
  refine r_dup2 (dc D_cX12_pushes_0 25 rfl) rfl rfl ?_
  obtain ⟨o6, h⟩ := h
  refine r_iald (N := 12) (dc D_cX12_pushes_0 26 rfl) lM_11 rfl rfl o6 ?_
  refine r_iloadn (dc D_cX12_pushes_0 27 rfl) rfl rfl ?_
  refine r_isub (dc D_cX12_pushes_0 28 rfl) ?_
  obtain ⟨o7, h⟩ := h
  obtain ⟨o8, h⟩ := h
  refine r_iast (N := 12) (dc D_cX12_pushes_0 29 rfl) lM_11 rfl rfl o8 o7 ?_
  refine r_sig (fun σ9 eσ9 => ?_)
  have h := h σ9 eσ9
  have hσ9 : RS σ9 := RS_eq eσ9 (RS.up hσ5 o7 _ _)
  refine r_aloadn (dc D_cX12_pushes_0 30 rfl) rfl rfl ?_
  refine r_getR (dc D_cX12_pushes_0 31 rfl) fw_RX12_40 lM_0 rfl ?_
  refine r_iloadn (dc D_cX12_pushes_0 32 rfl) rfl rfl ?_
  refine r_dup2 (dc D_cX12_pushes_0 33 rfl) rfl rfl ?_
  obtain ⟨o10, h⟩ := h
  refine r_iald (N := 12) (dc D_cX12_pushes_0 34 rfl) lM_11 rfl rfl o10 ?_
  refine r_iloadn (dc D_cX12_pushes_0 35 rfl) rfl rfl ?_
  refine r_iadd (dc D_cX12_pushes_0 36 rfl) ?_
  obtain ⟨o11, h⟩ := h
  obtain ⟨o12, h⟩ := h
  refine r_iast (N := 12) (dc D_cX12_pushes_0 37 rfl) lM_11 rfl rfl o12 o11 ?_
  refine r_sig (fun σ13 eσ13 => ?_)
  have h := h σ13 eσ13
  have hσ13 : RS σ13 := RS_eq eσ13 (RS.up hσ9 o11 _ _)
  refine r_aloadn (dc D_cX12_pushes_0 38 rfl) rfl rfl ?_
  refine r_dup (dc D_cX12_pushes_0 39 rfl) rfl ?_
  refine r_getI (dc D_cX12_pushes_1 0 rfl) fw_RX12_163 lM_0 rfl ?_
  refine r_iconst (n := 1) (dc D_cX12_pushes_1 1 rfl) ?_
  refine r_iadd (dc D_cX12_pushes_1 2 rfl) ?_
  obtain ⟨o14, h⟩ := h
  refine r_put (dc D_cX12_pushes_1 3 rfl) fw_RX12_163 fp_12_17 lM_0 rfl (nar_int _) o14 ?_
  refine r_sig (fun σ15 eσ15 => ?_)
  have h := h σ15 eσ15
  have hσ15 : RS σ15 := RS_eq eσ15 (RS.up hσ13 o14 _ _)
  refine r_iloadn (dc D_cX12_pushes_1 4 rfl) rfl rfl ?_
  refine r_aloadn (dc D_cX12_pushes_1 5 rfl) rfl rfl ?_
  refine r_getR (dc D_cX12_pushes_1 6 rfl) fw_RX12_9 lM_0 rfl ?_
  refine r_iconst (n := 0) (dc D_cX12_pushes_1 7 rfl) ?_
  refine r_iald (N := 183) (dc D_cX12_pushes_1 8 rfl) lM_1 rfl rfl ⟨by decide, by decide⟩ ?_
  refine r_icmp_eq (tgt := 84) (dc D_cX12_pushes_1 9 rfl) (by decide) rx3 (hσ15 _ _) (fun c16 => ?_) (fun c16 => ?_)
  · have h := h.1 c16
    refine r_sub (lv' := [some (.ref (eA E 0)), none, none, some (.int (iz x3)), none, none]) (subL_s (subL_n (subL_n (subL_s (subL_n (subL_n subL_e)))))) ?_
    exact TX12_pushes_84 hE x _ rx3 _ hσ15 h
  · have h := h.2 c16
    refine r_iloadn (dc D_cX12_pushes_1 10 rfl) rfl rfl ?_
    refine r_aloadn (dc D_cX12_pushes_1 11 rfl) rfl rfl ?_
    refine r_getR (dc D_cX12_pushes_1 12 rfl) fw_RX12_9 lM_0 rfl ?_
    refine r_iconst (n := 1) (dc D_cX12_pushes_1 13 rfl) ?_
    refine r_iald (N := 183) (dc D_cX12_pushes_1 14 rfl) lM_1 rfl rfl ⟨by decide, by decide⟩ ?_
    refine r_icmp_ne (tgt := 88) (dc D_cX12_pushes_1 15 rfl) (by decide) rx3 (hσ15 _ _) (fun c17 => ?_) (fun c17 => ?_)
    · have h := h.1 c17
      refine r_iconst (n := 0) (dc D_cX12_pushes_1 18 rfl) ?_
      refine r_sub (lv' := [some (.ref (eA E 0)), none, none, some (.int (iz x3)), none, none]) (subL_s (subL_n (subL_n (subL_s (subL_n (subL_n subL_e)))))) ?_
      exact TX12_pushes_89 hE x _ _ rx3 (Rl rfl) _ hσ15 h
    · have h := h.2 c17
      refine r_sub (lv' := [some (.ref (eA E 0)), none, none, some (.int (iz x3)), none, none]) (subL_s (subL_n (subL_n (subL_s (subL_n (subL_n subL_e)))))) ?_
      exact TX12_pushes_84 hE x _ rx3 _ hσ15 h
set_option maxRecDepth 100000 in
theorem CX12_pushes {E : EV} (hE : eOK layM E) {Φ : Int → PS → Prop} (a1 a2 : Int) (ra1 : Rg a1) (ra2 : Rg a2) (σ : PS) (hs : RS σ) (h : FX12_pushes a1 a2 σ Φ) : CT layM E yX12_pushes mi_X12_pushes [.ref (eA E 0), .int (iz a1), .int (iz a2)] σ Φ := by
  refine ct_of (by decide +kernel) rfl hE rfl rfl hs (fun x => ?_)
  show RW layM E mi_X12_pushes Φ 0 [some (.ref (eA E 0)), some (.int (iz a1)), some (.int (iz a2)), none, none, none] [] σ x
  refine r_aloadn (dc D_cX12_pushes_0 0 rfl) rfl rfl ?_
  refine r_iloadn (dc D_cX12_pushes_0 1 rfl) rfl rfl ?_
  refine r_callV (As := [.int (iz a1)]) (st := []) (dc D_cX12_pushes_0 2 rfl) cw_RX12_124 nm_yX12_stepTo (CX12_stepTo hE _ ra1 _ hs h) lM_0 rfl rfl (by decide) rfl rfl rfl (fun z1 σ2 rz1 hσ2 h => ?_)
  show RW layM E mi_X12_pushes Φ 5 [some (.ref (eA E 0)), some (.int (iz a1)), some (.int (iz a2)), none, none, none] [.int (iz z1)] σ2 x
  refine r_istoren (lv' := [some (.ref (eA E 0)), some (.int (iz a1)), some (.int (iz a2)), some (.int (iz z1)), none, none]) (dc D_cX12_pushes_0 3 rfl) rfl rfl rfl ?_
  refine r_aloadn (dc D_cX12_pushes_0 4 rfl) rfl rfl ?_
  refine r_getR (dc D_cX12_pushes_0 5 rfl) fw_RX12_19 lM_0 rfl ?_
  refine r_iloadn (dc D_cX12_pushes_0 6 rfl) rfl rfl ?_
  refine r_bipush (n := 100) (dc D_cX12_pushes_0 7 rfl) (by decide +kernel) ?_
  obtain ⟨o3, h⟩ := h
  refine r_irem (dc D_cX12_pushes_0 8 rfl) ra1 (Rl rfl) o3 (by decide) ?_
  refine r_dup2 (dc D_cX12_pushes_0 9 rfl) rfl rfl ?_
  obtain ⟨o4, h⟩ := h
  refine r_iald (N := 30) (dc D_cX12_pushes_0 10 rfl) lM_4 rfl rfl o4 ?_
  refine r_iloadn (dc D_cX12_pushes_0 11 rfl) rfl rfl ?_
  refine r_bipush (n := 100) (dc D_cX12_pushes_0 12 rfl) (by decide +kernel) ?_
  refine r_icmp_ge (tgt := 26) (dc D_cX12_pushes_0 13 rfl) (by decide) ra1 (Rl rfl) (fun c5 => ?_) (fun c5 => ?_)
  · have h := h.1 c5
    refine r_iloadn (dc D_cX12_pushes_0 16 rfl) rfl rfl ?_
    refine r_ineg (dc D_cX12_pushes_0 17 rfl) ?_
    obtain ⟨o6, h⟩ := h
    exact TX12_pushes_28 hE x _ _ _ _ _ _ ra1 ra2 rz1 (Rg_mod ra1 o3 rfl) (hσ2 _ _) o6 _ hσ2 h
  · have h := h.2 c5
    refine r_iloadn (dc D_cX12_pushes_0 14 rfl) rfl rfl ?_
    refine r_goto (tgt := 28) (dc D_cX12_pushes_0 15 rfl) (by decide) ?_
    exact TX12_pushes_28 hE x _ _ _ _ _ _ ra1 ra2 rz1 (Rg_mod ra1 o3 rfl) (hσ2 _ _) ra2 _ hσ2 h
-- end of GateFlowModel.pushes
def mi_X12_lifts : MI := (cX12_lifts, RX12, 5, 4, none, 0)
def LX12_lifts_59 (K5 : Int → Int → Int → PS → Prop) (x1 x2 x3 : Int) (σ : PS) (Φ : Int → PS → Prop) : Prop :=
  Rg (x3 + 1) ∧
  K5 x1 x2 (x3 + 1) σ
def BX12_lifts_5 (K5 : Int → Int → Int → PS → Prop) (x1 x2 x3 : Int) (σ : PS) (Φ : Int → PS → Prop) : Prop :=
  Rg (2 * (σ 1 2)) ∧
  ((2 * (σ 1 2) ≤ x3 →
    Rg (x2 + 1) ∧
    (0 ≤ x1 ∧ x1 < 12) ∧
    ∀ σ5 : PS, σ5 = up2 σ 10 x1.toNat (x2 + 1) →
    (0 ≤ x1 ∧ x1 < 12) ∧
    Rg ((σ5 12 x1.toNat) + 1) ∧
    (0 ≤ x1 ∧ x1 < 12) ∧
    ∀ σ9 : PS, σ9 = up2 σ5 12 x1.toNat ((σ5 12 x1.toNat) + 1) →
    Φ 0 σ9) ∧
  (¬ 2 * (σ 1 2) ≤ x3 →
    FX12_stepAt x3 σ (fun z10 σ11 =>
    FX12_stepFrom z10 σ11 (fun z12 σ13 =>
    ((¬ z12 = x1 →
      LX12_lifts_59 K5 x1 x2 x3 σ13 Φ) ∧
    (z12 = x1 →
      FX12_room z10 σ13 (fun z15 σ16 =>
      ((z15 ≤ 0 →
        LX12_lifts_59 K5 x1 x2 x3 σ16 Φ) ∧
      (¬ z15 ≤ 0 →
        FX12_stepTo z10 σ16 (fun z18 σ19 =>
        (0 ≤ z18 ∧ z18 < 12) ∧
        ∀ v21 : Int, v21 = min x2 (σ19 10 z18.toNat) →
        LX12_lifts_59 K5 x1 v21 x3 σ19 Φ))))))))))
def LX12_lifts_5 : Nat → Int → Int → Int → PS → (Int → PS → Prop) → Prop
  | 0, _, _, _, _, _ => False
  | n + 1, x1, x2, x3, σ, Φ => BX12_lifts_5 (fun x1 x2 x3 σ => LX12_lifts_5 n x1 x2 x3 σ Φ) x1 x2 x3 σ Φ
def FX12_lifts (a1 : Int) (σ : PS) (Φ : Int → PS → Prop) : Prop :=
  ∃ n, LX12_lifts_5 n a1 100000000 0 σ Φ
theorem fw_RX12_43 : FW RX12 43 12 13 := ⟨RX12, TX12, 39, rfl, by decide, rfl, tb_1 1232 (by decide +kernel), uw_12⟩
set_option maxRecDepth 100000 in
theorem TX12_lifts_59 {E : EV} (hE : eOK layM E) {Φ : Int → PS → Prop} {K5 : Int → Int → Int → PS → Prop} (x : CX) (hK5 : ∀ (x1 x2 x3 : Int) (σ : PS), Rg x1 → Rg x2 → Rg x3 → RS σ → K5 x1 x2 x3 σ → RW layM E mi_X12_lifts Φ 5 [some (.ref (eA E 0)), some (.int (iz x1)), some (.int (iz x2)), some (.int (iz x3)), none] [] σ x) (x1 x2 x3 : Int) (rx1 : Rg x1) (rx2 : Rg x2) (rx3 : Rg x3) (σ : PS) (hs : RS σ) (h : LX12_lifts_59 K5 x1 x2 x3 σ Φ) : RW layM E mi_X12_lifts Φ 59 [some (.ref (eA E 0)), some (.int (iz x1)), some (.int (iz x2)), some (.int (iz x3)), none] [] σ x := by
  obtain ⟨o1, h⟩ := h
  refine r_iinc (lv' := [some (.ref (eA E 0)), some (.int (iz x1)), some (.int (iz x2)), some (.int (iz (x3 + 1))), none]) (dc D_cX12_lifts_0 34 rfl) rfl rfl rfl ?_
  refine r_goto (tgt := 5) (dc D_cX12_lifts_0 35 rfl) (by decide) ?_
  exact hK5 _ _ _ _ rx1 rx2 o1 hs h
set_option maxRecDepth 100000 in
theorem TBX12_lifts_5 {E : EV} (hE : eOK layM E) {Φ : Int → PS → Prop} {K5 : Int → Int → Int → PS → Prop} (x : CX) (hK5 : ∀ (x1 x2 x3 : Int) (σ : PS), Rg x1 → Rg x2 → Rg x3 → RS σ → K5 x1 x2 x3 σ → RW layM E mi_X12_lifts Φ 5 [some (.ref (eA E 0)), some (.int (iz x1)), some (.int (iz x2)), some (.int (iz x3)), none] [] σ x) (x1 x2 x3 : Int) (rx1 : Rg x1) (rx2 : Rg x2) (rx3 : Rg x3) (σ : PS) (hs : RS σ) (h : BX12_lifts_5 K5 x1 x2 x3 σ Φ) : RW layM E mi_X12_lifts Φ 5 [some (.ref (eA E 0)), some (.int (iz x1)), some (.int (iz x2)), some (.int (iz x3)), none] [] σ x := by
  refine r_iloadn (dc D_cX12_lifts_0 4 rfl) rfl rfl ?_
  refine r_iconst (n := 2) (dc D_cX12_lifts_0 5 rfl) ?_
  refine r_aloadn (dc D_cX12_lifts_0 6 rfl) rfl rfl ?_
  refine r_getR (dc D_cX12_lifts_0 7 rfl) fw_RX12_9 lM_0 rfl ?_
  refine r_iconst (n := 2) (dc D_cX12_lifts_0 8 rfl) ?_
  refine r_iald (N := 183) (dc D_cX12_lifts_0 9 rfl) lM_1 rfl rfl ⟨by decide, by decide⟩ ?_
  refine r_imul (dc D_cX12_lifts_0 10 rfl) ?_
  obtain ⟨o1, h⟩ := h
  refine r_icmp_ge (tgt := 65) (dc D_cX12_lifts_0 11 rfl) (by decide) rx3 o1 (fun c2 => ?_) (fun c2 => ?_)
  · have h := h.1 c2
    refine r_aloadn (dc D_cX12_lifts_0 36 rfl) rfl rfl ?_
    refine r_getR (dc D_cX12_lifts_0 37 rfl) fw_RX12_37 lM_0 rfl ?_
    refine r_iloadn (dc D_cX12_lifts_0 38 rfl) rfl rfl ?_
    refine r_iloadn (dc D_cX12_lifts_0 39 rfl) rfl rfl ?_
    refine r_iconst (n := 1) (dc D_cX12_lifts_1 0 rfl) ?_
    refine r_iadd (dc D_cX12_lifts_1 1 rfl) ?_
    obtain ⟨o3, h⟩ := h
    obtain ⟨o4, h⟩ := h
    refine r_iast (N := 12) (dc D_cX12_lifts_1 2 rfl) lM_10 rfl rfl o4 o3 ?_
    refine r_sig (fun σ5 eσ5 => ?_)
    have h := h σ5 eσ5
    have hσ5 : RS σ5 := RS_eq eσ5 (RS.up hs o3 _ _)
    refine r_aloadn (dc D_cX12_lifts_1 3 rfl) rfl rfl ?_
    refine r_getR (dc D_cX12_lifts_1 4 rfl) fw_RX12_43 lM_0 rfl ?_
    refine r_iloadn (dc D_cX12_lifts_1 5 rfl) rfl rfl ?_
    refine r_dup2 (dc D_cX12_lifts_1 6 rfl) rfl rfl ?_
    obtain ⟨o6, h⟩ := h
    refine r_iald (N := 12) (dc D_cX12_lifts_1 7 rfl) lM_12 rfl rfl o6 ?_
    refine r_iconst (n := 1) (dc D_cX12_lifts_1 8 rfl) ?_
    refine r_iadd (dc D_cX12_lifts_1 9 rfl) ?_
    obtain ⟨o7, h⟩ := h
    obtain ⟨o8, h⟩ := h
    refine r_iast (N := 12) (dc D_cX12_lifts_1 10 rfl) lM_12 rfl rfl o8 o7 ?_
    refine r_sig (fun σ9 eσ9 => ?_)
    have h := h σ9 eσ9
    have hσ9 : RS σ9 := RS_eq eσ9 (RS.up hσ5 o7 _ _)
    exact r_vret (dc D_cX12_lifts_1 11 rfl) rfl h
  · have h := h.2 c2
    refine r_aloadn (dc D_cX12_lifts_0 12 rfl) rfl rfl ?_
    refine r_iloadn (dc D_cX12_lifts_0 13 rfl) rfl rfl ?_
    refine r_callV (As := [.int (iz x3)]) (st := []) (dc D_cX12_lifts_0 14 rfl) cw_RX12_120 nm_yX12_stepAt (CX12_stepAt hE _ rx3 _ hs h) lM_0 rfl rfl (by decide) rfl rfl rfl (fun z10 σ11 rz10 hσ11 h => ?_)
    show RW layM E mi_X12_lifts Φ 22 [some (.ref (eA E 0)), some (.int (iz x1)), some (.int (iz x2)), some (.int (iz x3)), none] [.int (iz z10)] σ11 x
    refine r_istore (lv' := [some (.ref (eA E 0)), some (.int (iz x1)), some (.int (iz x2)), some (.int (iz x3)), some (.int (iz z10))]) (dc D_cX12_lifts_0 15 rfl) rfl rfl ?_
    refine r_aloadn (dc D_cX12_lifts_0 16 rfl) rfl rfl ?_
    refine r_iload (dc D_cX12_lifts_0 17 rfl) rfl ?_
    refine r_callV (As := [.int (iz z10)]) (st := []) (dc D_cX12_lifts_0 18 rfl) cw_RX12_127 nm_yX12_stepFrom (CX12_stepFrom hE _ rz10 _ hσ11 h) lM_0 rfl rfl (by decide) rfl rfl rfl (fun z12 σ13 rz12 hσ13 h => ?_)
    show RW layM E mi_X12_lifts Φ 30 [some (.ref (eA E 0)), some (.int (iz x1)), some (.int (iz x2)), some (.int (iz x3)), some (.int (iz z10))] [.int (iz z12)] σ13 x
    refine r_iloadn (dc D_cX12_lifts_0 19 rfl) rfl rfl ?_
    refine r_icmp_ne (tgt := 59) (dc D_cX12_lifts_0 20 rfl) (by decide) rz12 rx1 (fun c14 => ?_) (fun c14 => ?_)
    · have h := h.1 c14
      refine r_sub (lv' := [some (.ref (eA E 0)), some (.int (iz x1)), some (.int (iz x2)), some (.int (iz x3)), none]) (subL_s (subL_s (subL_s (subL_s (subL_n subL_e))))) ?_
      exact TX12_lifts_59 hE x hK5 _ _ _ rx1 rx2 rx3 _ hσ13 h
    · have h := h.2 c14
      refine r_aloadn (dc D_cX12_lifts_0 21 rfl) rfl rfl ?_
      refine r_iload (dc D_cX12_lifts_0 22 rfl) rfl ?_
      refine r_callV (As := [.int (iz z10)]) (st := []) (dc D_cX12_lifts_0 23 rfl) cw_RX12_130 nm_yX12_room (CX12_room hE _ rz10 _ hσ13 h) lM_0 rfl rfl (by decide) rfl rfl rfl (fun z15 σ16 rz15 hσ16 h => ?_)
      show RW layM E mi_X12_lifts Φ 40 [some (.ref (eA E 0)), some (.int (iz x1)), some (.int (iz x2)), some (.int (iz x3)), some (.int (iz z10))] [.int (iz z15)] σ16 x
      refine r_if_le (tgt := 59) (dc D_cX12_lifts_0 24 rfl) (by decide) rz15 (fun c17 => ?_) (fun c17 => ?_)
      · have h := h.1 c17
        refine r_sub (lv' := [some (.ref (eA E 0)), some (.int (iz x1)), some (.int (iz x2)), some (.int (iz x3)), none]) (subL_s (subL_s (subL_s (subL_s (subL_n subL_e))))) ?_
        exact TX12_lifts_59 hE x hK5 _ _ _ rx1 rx2 rx3 _ hσ16 h
      · have h := h.2 c17
        refine r_iloadn (dc D_cX12_lifts_0 25 rfl) rfl rfl ?_
        refine r_aloadn (dc D_cX12_lifts_0 26 rfl) rfl rfl ?_
        refine r_getR (dc D_cX12_lifts_0 27 rfl) fw_RX12_37 lM_0 rfl ?_
        refine r_aloadn (dc D_cX12_lifts_0 28 rfl) rfl rfl ?_
        refine r_iload (dc D_cX12_lifts_0 29 rfl) rfl ?_
        refine r_callV (As := [.int (iz z10)]) (st := [.ref (eA E 10), .int (iz x2)]) (dc D_cX12_lifts_0 30 rfl) cw_RX12_124 nm_yX12_stepTo (CX12_stepTo hE _ rz10 _ hσ16 h) lM_0 rfl rfl (by decide) rfl rfl rfl (fun z18 σ19 rz18 hσ19 h => ?_)
        show RW layM E mi_X12_lifts Φ 54 [some (.ref (eA E 0)), some (.int (iz x1)), some (.int (iz x2)), some (.int (iz x3)), some (.int (iz z10))] [.int (iz z18), .ref (eA E 10), .int (iz x2)] σ19 x
        obtain ⟨o20, h⟩ := h
        refine r_iald (N := 12) (dc D_cX12_lifts_0 31 rfl) lM_10 rfl rfl o20 ?_
        refine r_min (dc D_cX12_lifts_0 32 rfl) mw_RX12_145 rx2 (hσ19 _ _) (by decide) rfl ?_
        refine r_name (fun v21 ev21 => ?_)
        have h := h v21 ev21
        have rv21 : Rg v21 := Rg_eq ev21 (Rg_min rx2 (hσ19 _ _))
        refine r_istoren (lv' := [some (.ref (eA E 0)), some (.int (iz x1)), some (.int (iz v21)), some (.int (iz x3)), some (.int (iz z10))]) (dc D_cX12_lifts_0 33 rfl) rfl rfl rfl ?_
        refine r_sub (lv' := [some (.ref (eA E 0)), some (.int (iz x1)), some (.int (iz v21)), some (.int (iz x3)), none]) (subL_s (subL_s (subL_s (subL_s (subL_n subL_e))))) ?_
        exact TX12_lifts_59 hE x hK5 _ _ _ rx1 rv21 rx3 _ hσ19 h
theorem TX12_lifts_5 {E : EV} (hE : eOK layM E) {Φ : Int → PS → Prop} (x : CX) (n : Nat) : ∀ (x1 x2 x3 : Int) (σ : PS), Rg x1 → Rg x2 → Rg x3 → RS σ → LX12_lifts_5 n x1 x2 x3 σ Φ → RW layM E mi_X12_lifts Φ 5 [some (.ref (eA E 0)), some (.int (iz x1)), some (.int (iz x2)), some (.int (iz x3)), none] [] σ x := by
  induction n with
  | zero => intro x1 x2 x3 σ _ _ _ _ h; exact h.elim
  | succ n ih => intro x1 x2 x3 σ rx1 rx2 rx3 hs h; exact TBX12_lifts_5 hE x ih x1 x2 x3 rx1 rx2 rx3 σ hs h
set_option maxRecDepth 100000 in
theorem CX12_lifts {E : EV} (hE : eOK layM E) {Φ : Int → PS → Prop} (a1 : Int) (ra1 : Rg a1) (σ : PS) (hs : RS σ) (h : FX12_lifts a1 σ Φ) : CT layM E yX12_lifts mi_X12_lifts [.ref (eA E 0), .int (iz a1)] σ Φ := by
  refine ct_of (by decide +kernel) rfl hE rfl rfl hs (fun x => ?_)
  show RW layM E mi_X12_lifts Φ 0 [some (.ref (eA E 0)), some (.int (iz a1)), none, none, none] [] σ x
  refine r_ldc (n := (100000000)) (dc D_cX12_lifts_0 0 rfl) kw_RX12_141 ?_
  refine r_istoren (lv' := [some (.ref (eA E 0)), some (.int (iz a1)), some (.int (iz 100000000)), none, none]) (dc D_cX12_lifts_0 1 rfl) rfl rfl rfl ?_
  refine r_iconst (n := 0) (dc D_cX12_lifts_0 2 rfl) ?_
  refine r_istoren (lv' := [some (.ref (eA E 0)), some (.int (iz a1)), some (.int (iz 100000000)), some (.int (iz 0)), none]) (dc D_cX12_lifts_0 3 rfl) rfl rfl rfl ?_
  obtain ⟨n, h⟩ := h
  exact TX12_lifts_5 hE x n _ _ _ _ ra1 (Rl rfl) (Rl rfl) hs h
-- end of GateFlowModel.lifts
def mi_X12_serves : MI := (cX12_serves, RX12, 3, 5, none, 0)
def LX12_serves_56 (K10 : Int → PS → Prop) (x1 : Int) (σ : PS) (Φ : Int → PS → Prop) : Prop :=
  K10 x1 σ
def BX12_serves_10 (K10 : Int → PS → Prop) (x1 : Int) (σ : PS) (Φ : Int → PS → Prop) : Prop :=
  (0 ≤ x1 ∧ x1 < 12) ∧
  ((σ 11 x1.toNat ≤ 0 →
    Φ 0 σ) ∧
  (¬ σ 11 x1.toNat ≤ 0 →
    FX12_downStep x1 σ (fun z3 σ4 =>
    ((0 ≤ z3 →
      (0 ≤ x1 ∧ x1 < 12) ∧
      FX12_room z3 σ4 (fun z7 σ8 =>
      FX12_pushes z3 (min (σ4 11 x1.toNat) z7) σ8 (fun z9 σ10 =>
      LX12_serves_56 K10 x1 σ10 Φ))) ∧
    (¬ 0 ≤ z3 →
      FX12_lifts x1 σ4 (fun z11 σ12 =>
      LX12_serves_56 K10 x1 σ12 Φ))))))
def LX12_serves_10 : Nat → Int → PS → (Int → PS → Prop) → Prop
  | 0, _, _, _ => False
  | n + 1, x1, σ, Φ => BX12_serves_10 (fun x1 σ => LX12_serves_10 n x1 σ Φ) x1 σ Φ
def FX12_serves (a1 : Int) (σ : PS) (Φ : Int → PS → Prop) : Prop :=
  (0 ≤ a1 ∧ a1 < 12) ∧
  Rg ((σ 13 a1.toNat) + 1) ∧
  (0 ≤ a1 ∧ a1 < 12) ∧
  ∀ σ4 : PS, σ4 = up2 σ 13 a1.toNat ((σ 13 a1.toNat) + 1) →
  ∃ n, LX12_serves_10 n a1 σ4 Φ
theorem cw_RX12_169 : CWV RX12 169 yX12_downStep mi_X12_downStep := tb_r [1466, 1468, 60, 110, 1469] (by decide +kernel)
theorem nm_yX12_downStep : ynm yX12_downStep 1 := ⟨⟨by decide +kernel, by decide +kernel⟩, by decide +kernel⟩
theorem cw_RX12_176 : CWV RX12 176 yX12_pushes mi_X12_pushes := tb_r [1458, 1460, 58, 110, 1461] (by decide +kernel)
theorem nm_yX12_pushes : ynm yX12_pushes 2 := ⟨⟨by decide +kernel, by decide +kernel⟩, by decide +kernel⟩
theorem cw_RX12_172 : CWV RX12 172 yX12_lifts mi_X12_lifts := tb_r [1470, 1472, 61, 110, 1473] (by decide +kernel)
theorem nm_yX12_lifts : ynm yX12_lifts 1 := ⟨⟨by decide +kernel, by decide +kernel⟩, by decide +kernel⟩
set_option maxRecDepth 100000 in
theorem TX12_serves_56 {E : EV} (hE : eOK layM E) {Φ : Int → PS → Prop} {K10 : Int → PS → Prop} (x : CX) (hK10 : ∀ (x1 : Int) (σ : PS), Rg x1 → RS σ → K10 x1 σ → RW layM E mi_X12_serves Φ 10 [some (.ref (eA E 0)), some (.int (iz x1)), none] [] σ x) (x1 : Int) (rx1 : Rg x1) (σ : PS) (hs : RS σ) (h : LX12_serves_56 K10 x1 σ Φ) : RW layM E mi_X12_serves Φ 56 [some (.ref (eA E 0)), some (.int (iz x1)), none] [] σ x := by
  refine r_goto (tgt := 10) (dc D_cX12_serves_0 34 rfl) (by decide) ?_
  exact hK10 _ _ rx1 hs h
set_option maxRecDepth 100000 in
theorem TBX12_serves_10 {E : EV} (hE : eOK layM E) {Φ : Int → PS → Prop} {K10 : Int → PS → Prop} (x : CX) (hK10 : ∀ (x1 : Int) (σ : PS), Rg x1 → RS σ → K10 x1 σ → RW layM E mi_X12_serves Φ 10 [some (.ref (eA E 0)), some (.int (iz x1)), none] [] σ x) (x1 : Int) (rx1 : Rg x1) (σ : PS) (hs : RS σ) (h : BX12_serves_10 K10 x1 σ Φ) : RW layM E mi_X12_serves Φ 10 [some (.ref (eA E 0)), some (.int (iz x1)), none] [] σ x := by
  refine r_aloadn (dc D_cX12_serves_0 8 rfl) rfl rfl ?_
  refine r_getR (dc D_cX12_serves_0 9 rfl) fw_RX12_40 lM_0 rfl ?_
  refine r_iloadn (dc D_cX12_serves_0 10 rfl) rfl rfl ?_
  obtain ⟨o1, h⟩ := h
  refine r_iald (N := 12) (dc D_cX12_serves_0 11 rfl) lM_11 rfl rfl o1 ?_
  refine r_if_le (tgt := 59) (dc D_cX12_serves_0 12 rfl) (by decide) (hs _ _) (fun c2 => ?_) (fun c2 => ?_)
  · have h := h.1 c2
    exact r_vret (dc D_cX12_serves_0 35 rfl) rfl h
  · have h := h.2 c2
    refine r_aloadn (dc D_cX12_serves_0 13 rfl) rfl rfl ?_
    refine r_iloadn (dc D_cX12_serves_0 14 rfl) rfl rfl ?_
    refine r_callV (As := [.int (iz x1)]) (st := []) (dc D_cX12_serves_0 15 rfl) cw_RX12_169 nm_yX12_downStep (CX12_downStep hE _ rx1 _ hs h) lM_0 rfl rfl (by decide) rfl rfl rfl (fun z3 σ4 rz3 hσ4 h => ?_)
    show RW layM E mi_X12_serves Φ 24 [some (.ref (eA E 0)), some (.int (iz x1)), none] [.int (iz z3)] σ4 x
    refine r_istoren (lv' := [some (.ref (eA E 0)), some (.int (iz x1)), some (.int (iz z3))]) (dc D_cX12_serves_0 16 rfl) rfl rfl rfl ?_
    refine r_iloadn (dc D_cX12_serves_0 17 rfl) rfl rfl ?_
    refine r_if_ge (tgt := 37) (dc D_cX12_serves_0 18 rfl) (by decide) rz3 (fun c5 => ?_) (fun c5 => ?_)
    · have h := h.1 c5
      refine r_aloadn (dc D_cX12_serves_0 23 rfl) rfl rfl ?_
      refine r_iloadn (dc D_cX12_serves_0 24 rfl) rfl rfl ?_
      refine r_aloadn (dc D_cX12_serves_0 25 rfl) rfl rfl ?_
      refine r_getR (dc D_cX12_serves_0 26 rfl) fw_RX12_40 lM_0 rfl ?_
      refine r_iloadn (dc D_cX12_serves_0 27 rfl) rfl rfl ?_
      obtain ⟨o6, h⟩ := h
      refine r_iald (N := 12) (dc D_cX12_serves_0 28 rfl) lM_11 rfl rfl o6 ?_
      refine r_aloadn (dc D_cX12_serves_0 29 rfl) rfl rfl ?_
      refine r_iloadn (dc D_cX12_serves_0 30 rfl) rfl rfl ?_
      refine r_callV (As := [.int (iz z3)]) (st := [.int (iz (σ4 11 x1.toNat)), .int (iz z3), .ref (eA E 0)]) (dc D_cX12_serves_0 31 rfl) cw_RX12_130 nm_yX12_room (CX12_room hE _ rz3 _ hσ4 h) lM_0 rfl rfl (by decide) rfl rfl rfl (fun z7 σ8 rz7 hσ8 h => ?_)
      show RW layM E mi_X12_serves Φ 50 [some (.ref (eA E 0)), some (.int (iz x1)), some (.int (iz z3))] [.int (iz z7), .int (iz (σ4 11 x1.toNat)), .int (iz z3), .ref (eA E 0)] σ8 x
      refine r_min (dc D_cX12_serves_0 32 rfl) mw_RX12_145 (hσ4 _ _) rz7 (by decide) rfl ?_
      refine r_callV (As := [.int (iz z3), .int (iz (min (σ4 11 x1.toNat) z7))]) (st := []) (dc D_cX12_serves_0 33 rfl) cw_RX12_176 nm_yX12_pushes (CX12_pushes hE _ _ rz3 (Rg_min (hσ4 _ _) rz7) _ hσ8 h) lM_0 rfl rfl (by decide) rfl rfl rfl (fun z9 σ10 rz9 hσ10 h => ?_)
      show RW layM E mi_X12_serves Φ 56 [some (.ref (eA E 0)), some (.int (iz x1)), some (.int (iz z3))] [] σ10 x
      refine r_sub (lv' := [some (.ref (eA E 0)), some (.int (iz x1)), none]) (subL_s (subL_s (subL_n subL_e))) ?_
      exact TX12_serves_56 hE x hK10 _ rx1 _ hσ10 h
    · have h := h.2 c5
      refine r_aloadn (dc D_cX12_serves_0 19 rfl) rfl rfl ?_
      refine r_iloadn (dc D_cX12_serves_0 20 rfl) rfl rfl ?_
      refine r_callV (As := [.int (iz x1)]) (st := []) (dc D_cX12_serves_0 21 rfl) cw_RX12_172 nm_yX12_lifts (CX12_lifts hE _ rx1 _ hσ4 h) lM_0 rfl rfl (by decide) rfl rfl rfl (fun z11 σ12 rz11 hσ12 h => ?_)
      show RW layM E mi_X12_serves Φ 34 [some (.ref (eA E 0)), some (.int (iz x1)), some (.int (iz z3))] [] σ12 x
      refine r_goto (tgt := 56) (dc D_cX12_serves_0 22 rfl) (by decide) ?_
      refine r_sub (lv' := [some (.ref (eA E 0)), some (.int (iz x1)), none]) (subL_s (subL_s (subL_n subL_e))) ?_
      exact TX12_serves_56 hE x hK10 _ rx1 _ hσ12 h
theorem TX12_serves_10 {E : EV} (hE : eOK layM E) {Φ : Int → PS → Prop} (x : CX) (n : Nat) : ∀ (x1 : Int) (σ : PS), Rg x1 → RS σ → LX12_serves_10 n x1 σ Φ → RW layM E mi_X12_serves Φ 10 [some (.ref (eA E 0)), some (.int (iz x1)), none] [] σ x := by
  induction n with
  | zero => intro x1 σ _ _ h; exact h.elim
  | succ n ih => intro x1 σ rx1 hs h; exact TBX12_serves_10 hE x ih x1 rx1 σ hs h
set_option maxRecDepth 100000 in
theorem CX12_serves {E : EV} (hE : eOK layM E) {Φ : Int → PS → Prop} (a1 : Int) (ra1 : Rg a1) (σ : PS) (hs : RS σ) (h : FX12_serves a1 σ Φ) : CT layM E yX12_serves mi_X12_serves [.ref (eA E 0), .int (iz a1)] σ Φ := by
  refine ct_of (by decide +kernel) rfl hE rfl rfl hs (fun x => ?_)
  show RW layM E mi_X12_serves Φ 0 [some (.ref (eA E 0)), some (.int (iz a1)), none] [] σ x
  refine r_aloadn (dc D_cX12_serves_0 0 rfl) rfl rfl ?_
  refine r_getR (dc D_cX12_serves_0 1 rfl) fw_RX12_46 lM_0 rfl ?_
  refine r_iloadn (dc D_cX12_serves_0 2 rfl) rfl rfl ?_
  refine r_dup2 (dc D_cX12_serves_0 3 rfl) rfl rfl ?_
  obtain ⟨o1, h⟩ := h
  refine r_iald (N := 12) (dc D_cX12_serves_0 4 rfl) lM_13 rfl rfl o1 ?_
  refine r_iconst (n := 1) (dc D_cX12_serves_0 5 rfl) ?_
  refine r_iadd (dc D_cX12_serves_0 6 rfl) ?_
  obtain ⟨o2, h⟩ := h
  obtain ⟨o3, h⟩ := h
  refine r_iast (N := 12) (dc D_cX12_serves_0 7 rfl) lM_13 rfl rfl o3 o2 ?_
  refine r_sig (fun σ4 eσ4 => ?_)
  have h := h σ4 eσ4
  have hσ4 : RS σ4 := RS_eq eσ4 (RS.up hs o2 _ _)
  obtain ⟨n, h⟩ := h
  exact TX12_serves_10 hE x n _ _ ra1 hσ4 h
-- end of GateFlowModel.serves
def mi_X12_flowsByHeights : MI := (cX12_flowsByHeights, RX12, 2, 6, none, 0)
def BX12_flowsByHeights_178 (K149 : PS → Prop) (K178 : Int → PS → Prop) (x1 : Int) (σ : PS) (Φ : Int → PS → Prop) : Prop :=
  ((σ 0 16 ≤ x1 →
    K149 σ) ∧
  (¬ σ 0 16 ≤ x1 →
    Rg (x1 + 1) ∧
    (0 ≤ x1 + 1 ∧ x1 + 1 < 12) ∧
    (0 ≤ x1 ∧ x1 < 12) ∧
    ∀ σ5 : PS, σ5 = up2 σ 14 x1.toNat (σ 14 (x1 + 1).toNat) →
    Rg (x1 + 1) ∧
    K178 (x1 + 1) σ5))
def LX12_flowsByHeights_178 (K149 : PS → Prop) : Nat → Int → PS → (Int → PS → Prop) → Prop
  | 0, _, _, _ => False
  | n + 1, x1, σ, Φ => BX12_flowsByHeights_178 K149 (fun x1 σ => LX12_flowsByHeights_178 K149 n x1 σ Φ) x1 σ Φ
def BX12_flowsByHeights_149 (K149 : PS → Prop) (σ : PS) (Φ : Int → PS → Prop) : Prop :=
  ((σ 0 16 ≤ 0 →
    Φ 0 σ) ∧
  (¬ σ 0 16 ≤ 0 →
    FX12_serves (σ 14 0) σ (fun z2 σ3 =>
    Rg ((σ3 0 16) - 1) ∧
    ∀ σ5 : PS, σ5 = up2 σ3 0 16 ((σ3 0 16) - 1) →
    ∃ n, LX12_flowsByHeights_178 K149 n 0 σ5 Φ)))
def LX12_flowsByHeights_149 : Nat → PS → (Int → PS → Prop) → Prop
  | 0, _, _ => False
  | n + 1, σ, Φ => BX12_flowsByHeights_149 (fun σ => LX12_flowsByHeights_149 n σ Φ) σ Φ
def LX12_flowsByHeights_143 (K98 : Int → PS → Prop) (x1 : Int) (σ : PS) (Φ : Int → PS → Prop) : Prop :=
  Rg (x1 + 1) ∧
  K98 (x1 + 1) σ
def BX12_flowsByHeights_98 (K98 : Int → PS → Prop) (x1 : Int) (σ : PS) (Φ : Int → PS → Prop) : Prop :=
  ((σ 1 2 ≤ x1 →
    ∃ n, LX12_flowsByHeights_149 n σ Φ) ∧
  (¬ σ 1 2 ≤ x1 →
    FX12_at x1 0 σ (fun z2 σ3 =>
    ((¬ z2 = σ3 1 0 →
      LX12_flowsByHeights_143 K98 x1 σ3 Φ) ∧
    (z2 = σ3 1 0 →
      (0 ≤ x1 ∧ x1 < 30) ∧
      ((σ3 3 x1.toNat ≤ 0 →
        LX12_flowsByHeights_143 K98 x1 σ3 Φ) ∧
      (¬ σ3 3 x1.toNat ≤ 0 →
        (0 ≤ x1 ∧ x1 < 30) ∧
        FX12_pushes x1 (σ3 3 x1.toNat) σ3 (fun z8 σ9 =>
        LX12_flowsByHeights_143 K98 x1 σ9 Φ))))))))
def LX12_flowsByHeights_98 : Nat → Int → PS → (Int → PS → Prop) → Prop
  | 0, _, _, _ => False
  | n + 1, x1, σ, Φ => BX12_flowsByHeights_98 (fun x1 σ => LX12_flowsByHeights_98 n x1 σ Φ) x1 σ Φ
def LX12_flowsByHeights_58 (K31 : Int → PS → Prop) (x1 s1 s2 : Int) (σ : PS) (Φ : Int → PS → Prop) : Prop :=
  (0 ≤ s1 ∧ s1 < 12) ∧
  ∀ σ2 : PS, σ2 = up2 σ 10 s1.toNat s2 →
  (0 ≤ x1 ∧ x1 < 12) ∧
  ∀ σ4 : PS, σ4 = up2 σ2 11 x1.toNat 0 →
  (0 ≤ x1 ∧ x1 < 12) ∧
  ∀ σ6 : PS, σ6 = up2 σ4 12 x1.toNat 0 →
  (0 ≤ x1 ∧ x1 < 12) ∧
  ∀ σ8 : PS, σ8 = up2 σ6 13 x1.toNat 0 →
  Rg (x1 + 1) ∧
  K31 (x1 + 1) σ8
def BX12_flowsByHeights_31 (K31 : Int → PS → Prop) (x1 : Int) (σ : PS) (Φ : Int → PS → Prop) : Prop :=
  ((12 ≤ x1 →
    ∀ σ2 : PS, σ2 = up2 σ 0 16 0 →
    ∀ σ3 : PS, σ3 = up2 σ2 0 17 0 →
    ∃ n, LX12_flowsByHeights_98 n 0 σ3 Φ) ∧
  (¬ 12 ≤ x1 →
    ((¬ x1 = σ 1 0 →
      LX12_flowsByHeights_58 K31 x1 x1 0 σ Φ) ∧
    (x1 = σ 1 0 →
      LX12_flowsByHeights_58 K31 x1 x1 12 σ Φ))))
def LX12_flowsByHeights_31 : Nat → Int → PS → (Int → PS → Prop) → Prop
  | 0, _, _, _ => False
  | n + 1, x1, σ, Φ => BX12_flowsByHeights_31 (fun x1 σ => LX12_flowsByHeights_31 n x1 σ Φ) x1 σ Φ
def BX12_flowsByHeights_6 (K6 : Int → PS → Prop) (x1 : Int) (σ : PS) (Φ : Int → PS → Prop) : Prop :=
  ((σ 1 2 ≤ x1 →
    ∃ n, LX12_flowsByHeights_31 n 0 σ Φ) ∧
  (¬ σ 1 2 ≤ x1 →
    (0 ≤ x1 ∧ x1 < 30) ∧
    ∀ σ3 : PS, σ3 = up2 σ 4 x1.toNat 0 →
    Rg (x1 + 1) ∧
    K6 (x1 + 1) σ3))
def LX12_flowsByHeights_6 : Nat → Int → PS → (Int → PS → Prop) → Prop
  | 0, _, _, _ => False
  | n + 1, x1, σ, Φ => BX12_flowsByHeights_6 (fun x1 σ => LX12_flowsByHeights_6 n x1 σ Φ) x1 σ Φ
def FX12_flowsByHeights (σ : PS) (Φ : Int → PS → Prop) : Prop :=
  FX12_mayAll σ (fun z1 σ2 =>
  ∃ n, LX12_flowsByHeights_6 n 0 σ2 Φ)
theorem cw_RX12_180 : CWV RX12 180 yX12_serves mi_X12_serves := tb_r [1462, 1464, 59, 110, 1465] (by decide +kernel)
theorem nm_yX12_serves : ynm yX12_serves 1 := ⟨⟨by decide +kernel, by decide +kernel⟩, by decide +kernel⟩
set_option maxRecDepth 100000 in
theorem TBX12_flowsByHeights_178 {E : EV} (hE : eOK layM E) {Φ : Int → PS → Prop} {K149 : PS → Prop} {K178 : Int → PS → Prop} (x : CX) (hK149 : ∀ (σ : PS), RS σ → K149 σ → RW layM E mi_X12_flowsByHeights Φ 149 [some (.ref (eA E 0)), none] [] σ x) (hK178 : ∀ (x1 : Int) (σ : PS), Rg x1 → RS σ → K178 x1 σ → RW layM E mi_X12_flowsByHeights Φ 178 [some (.ref (eA E 0)), some (.int (iz x1))] [] σ x) (x1 : Int) (rx1 : Rg x1) (σ : PS) (hs : RS σ) (h : BX12_flowsByHeights_178 K149 K178 x1 σ Φ) : RW layM E mi_X12_flowsByHeights Φ 178 [some (.ref (eA E 0)), some (.int (iz x1))] [] σ x := by
  refine r_iloadn (dc D_cX12_flowsByHeights_2 26 rfl) rfl rfl ?_
  refine r_aloadn (dc D_cX12_flowsByHeights_2 27 rfl) rfl rfl ?_
  refine r_getI (dc D_cX12_flowsByHeights_2 28 rfl) fw_RX12_166 lM_0 rfl ?_
  refine r_icmp_ge (tgt := 206) (dc D_cX12_flowsByHeights_2 29 rfl) (by decide) rx1 (hs _ _) (fun c1 => ?_) (fun c1 => ?_)
  · have h := h.1 c1
    refine r_goto (tgt := 149) (dc D_cX12_flowsByHeights_3 2 rfl) (by decide) ?_
    refine r_sub (lv' := [some (.ref (eA E 0)), none]) (subL_s (subL_n subL_e)) ?_
    exact hK149 _  hs h
  · have h := h.2 c1
    refine r_aloadn (dc D_cX12_flowsByHeights_2 30 rfl) rfl rfl ?_
    refine r_getR (dc D_cX12_flowsByHeights_2 31 rfl) fw_RX12_49 lM_0 rfl ?_
    refine r_iloadn (dc D_cX12_flowsByHeights_2 32 rfl) rfl rfl ?_
    refine r_aloadn (dc D_cX12_flowsByHeights_2 33 rfl) rfl rfl ?_
    refine r_getR (dc D_cX12_flowsByHeights_2 34 rfl) fw_RX12_49 lM_0 rfl ?_
    refine r_iloadn (dc D_cX12_flowsByHeights_2 35 rfl) rfl rfl ?_
    refine r_iconst (n := 1) (dc D_cX12_flowsByHeights_2 36 rfl) ?_
    refine r_iadd (dc D_cX12_flowsByHeights_2 37 rfl) ?_
    obtain ⟨o2, h⟩ := h
    obtain ⟨o3, h⟩ := h
    refine r_iald (N := 12) (dc D_cX12_flowsByHeights_2 38 rfl) lM_14 rfl rfl o3 ?_
    obtain ⟨o4, h⟩ := h
    refine r_iast (N := 12) (dc D_cX12_flowsByHeights_2 39 rfl) lM_14 rfl rfl o4 (hs _ _) ?_
    refine r_sig (fun σ5 eσ5 => ?_)
    have h := h σ5 eσ5
    have hσ5 : RS σ5 := RS_eq eσ5 (RS.up hs (hs _ _) _ _)
    obtain ⟨o6, h⟩ := h
    refine r_iinc (lv' := [some (.ref (eA E 0)), some (.int (iz (x1 + 1)))]) (dc D_cX12_flowsByHeights_3 0 rfl) rfl rfl rfl ?_
    refine r_goto (tgt := 178) (dc D_cX12_flowsByHeights_3 1 rfl) (by decide) ?_
    exact hK178 _ _ o6 hσ5 h
theorem TX12_flowsByHeights_178 {E : EV} (hE : eOK layM E) {Φ : Int → PS → Prop} {K149 : PS → Prop} (x : CX) (hK149 : ∀ (σ : PS), RS σ → K149 σ → RW layM E mi_X12_flowsByHeights Φ 149 [some (.ref (eA E 0)), none] [] σ x) (n : Nat) : ∀ (x1 : Int) (σ : PS), Rg x1 → RS σ → LX12_flowsByHeights_178 K149 n x1 σ Φ → RW layM E mi_X12_flowsByHeights Φ 178 [some (.ref (eA E 0)), some (.int (iz x1))] [] σ x := by
  induction n with
  | zero => intro x1 σ _ _ h; exact h.elim
  | succ n ih => intro x1 σ rx1 hs h; exact TBX12_flowsByHeights_178 hE x hK149 ih x1 rx1 σ hs h
set_option maxRecDepth 100000 in
theorem TBX12_flowsByHeights_149 {E : EV} (hE : eOK layM E) {Φ : Int → PS → Prop} {K149 : PS → Prop} (x : CX) (hK149 : ∀ (σ : PS), RS σ → K149 σ → RW layM E mi_X12_flowsByHeights Φ 149 [some (.ref (eA E 0)), none] [] σ x) (σ : PS) (hs : RS σ) (h : BX12_flowsByHeights_149 K149 σ Φ) : RW layM E mi_X12_flowsByHeights Φ 149 [some (.ref (eA E 0)), none] [] σ x := by
  refine r_aloadn (dc D_cX12_flowsByHeights_2 9 rfl) rfl rfl ?_
  refine r_getI (dc D_cX12_flowsByHeights_2 10 rfl) fw_RX12_166 lM_0 rfl ?_
  refine r_if_le (tgt := 209) (dc D_cX12_flowsByHeights_2 11 rfl) (by decide) (hs _ _) (fun c1 => ?_) (fun c1 => ?_)
  · have h := h.1 c1
    exact r_vret (dc D_cX12_flowsByHeights_3 3 rfl) rfl h
  · have h := h.2 c1
    refine r_aloadn (dc D_cX12_flowsByHeights_2 12 rfl) rfl rfl ?_
    refine r_aloadn (dc D_cX12_flowsByHeights_2 13 rfl) rfl rfl ?_
    refine r_getR (dc D_cX12_flowsByHeights_2 14 rfl) fw_RX12_49 lM_0 rfl ?_
    refine r_iconst (n := 0) (dc D_cX12_flowsByHeights_2 15 rfl) ?_
    refine r_iald (N := 12) (dc D_cX12_flowsByHeights_2 16 rfl) lM_14 rfl rfl ⟨by decide, by decide⟩ ?_
    refine r_callV (As := [.int (iz (σ 14 0))]) (st := []) (dc D_cX12_flowsByHeights_2 17 rfl) cw_RX12_180 nm_yX12_serves (CX12_serves hE _ (hs _ _) _ hs h) lM_0 rfl rfl (by decide) rfl rfl rfl (fun z2 σ3 rz2 hσ3 h => ?_)
    show RW layM E mi_X12_flowsByHeights Φ 166 [some (.ref (eA E 0)), none] [] σ3 x
    refine r_aloadn (dc D_cX12_flowsByHeights_2 18 rfl) rfl rfl ?_
    refine r_dup (dc D_cX12_flowsByHeights_2 19 rfl) rfl ?_
    refine r_getI (dc D_cX12_flowsByHeights_2 20 rfl) fw_RX12_166 lM_0 rfl ?_
    refine r_iconst (n := 1) (dc D_cX12_flowsByHeights_2 21 rfl) ?_
    refine r_isub (dc D_cX12_flowsByHeights_2 22 rfl) ?_
    obtain ⟨o4, h⟩ := h
    refine r_put (dc D_cX12_flowsByHeights_2 23 rfl) fw_RX12_166 fp_12_16 lM_0 rfl (nar_int _) o4 ?_
    refine r_sig (fun σ5 eσ5 => ?_)
    have h := h σ5 eσ5
    have hσ5 : RS σ5 := RS_eq eσ5 (RS.up hσ3 o4 _ _)
    refine r_iconst (n := 0) (dc D_cX12_flowsByHeights_2 24 rfl) ?_
    refine r_istoren (lv' := [some (.ref (eA E 0)), some (.int (iz 0))]) (dc D_cX12_flowsByHeights_2 25 rfl) rfl rfl rfl ?_
    obtain ⟨n, h⟩ := h
    exact TX12_flowsByHeights_178 hE x hK149 n _ _ (Rl rfl) hσ5 h
theorem TX12_flowsByHeights_149 {E : EV} (hE : eOK layM E) {Φ : Int → PS → Prop} (x : CX) (n : Nat) : ∀ (σ : PS), RS σ → LX12_flowsByHeights_149 n σ Φ → RW layM E mi_X12_flowsByHeights Φ 149 [some (.ref (eA E 0)), none] [] σ x := by
  induction n with
  | zero => intro σ _ h; exact h.elim
  | succ n ih => intro σ hs h; exact TBX12_flowsByHeights_149 hE x ih σ hs h
set_option maxRecDepth 100000 in
theorem TX12_flowsByHeights_143 {E : EV} (hE : eOK layM E) {Φ : Int → PS → Prop} {K98 : Int → PS → Prop} (x : CX) (hK98 : ∀ (x1 : Int) (σ : PS), Rg x1 → RS σ → K98 x1 σ → RW layM E mi_X12_flowsByHeights Φ 98 [some (.ref (eA E 0)), some (.int (iz x1))] [] σ x) (x1 : Int) (rx1 : Rg x1) (σ : PS) (hs : RS σ) (h : LX12_flowsByHeights_143 K98 x1 σ Φ) : RW layM E mi_X12_flowsByHeights Φ 143 [some (.ref (eA E 0)), some (.int (iz x1))] [] σ x := by
  obtain ⟨o1, h⟩ := h
  refine r_iinc (lv' := [some (.ref (eA E 0)), some (.int (iz (x1 + 1)))]) (dc D_cX12_flowsByHeights_2 7 rfl) rfl rfl rfl ?_
  refine r_goto (tgt := 98) (dc D_cX12_flowsByHeights_2 8 rfl) (by decide) ?_
  exact hK98 _ _ o1 hs h
set_option maxRecDepth 100000 in
theorem TBX12_flowsByHeights_98 {E : EV} (hE : eOK layM E) {Φ : Int → PS → Prop} {K98 : Int → PS → Prop} (x : CX) (hK98 : ∀ (x1 : Int) (σ : PS), Rg x1 → RS σ → K98 x1 σ → RW layM E mi_X12_flowsByHeights Φ 98 [some (.ref (eA E 0)), some (.int (iz x1))] [] σ x) (x1 : Int) (rx1 : Rg x1) (σ : PS) (hs : RS σ) (h : BX12_flowsByHeights_98 K98 x1 σ Φ) : RW layM E mi_X12_flowsByHeights Φ 98 [some (.ref (eA E 0)), some (.int (iz x1))] [] σ x := by
  refine r_iloadn (dc D_cX12_flowsByHeights_1 20 rfl) rfl rfl ?_
  refine r_aloadn (dc D_cX12_flowsByHeights_1 21 rfl) rfl rfl ?_
  refine r_getR (dc D_cX12_flowsByHeights_1 22 rfl) fw_RX12_9 lM_0 rfl ?_
  refine r_iconst (n := 2) (dc D_cX12_flowsByHeights_1 23 rfl) ?_
  refine r_iald (N := 183) (dc D_cX12_flowsByHeights_1 24 rfl) lM_1 rfl rfl ⟨by decide, by decide⟩ ?_
  refine r_icmp_ge (tgt := 149) (dc D_cX12_flowsByHeights_1 25 rfl) (by decide) rx1 (hs _ _) (fun c1 => ?_) (fun c1 => ?_)
  · have h := h.1 c1
    refine r_sub (lv' := [some (.ref (eA E 0)), none]) (subL_s (subL_n subL_e)) ?_
    obtain ⟨n, h⟩ := h
    exact TX12_flowsByHeights_149 hE x n _  hs h
  · have h := h.2 c1
    refine r_aloadn (dc D_cX12_flowsByHeights_1 26 rfl) rfl rfl ?_
    refine r_iloadn (dc D_cX12_flowsByHeights_1 27 rfl) rfl rfl ?_
    refine r_iconst (n := 0) (dc D_cX12_flowsByHeights_1 28 rfl) ?_
    refine r_callV (As := [.int (iz x1), .int (iz 0)]) (st := []) (dc D_cX12_flowsByHeights_1 29 rfl) cw_RX12_94 nm_yX12_at (CX12_at hE _ _ rx1 (Rl rfl) _ hs h) lM_0 rfl rfl (by decide) rfl rfl rfl (fun z2 σ3 rz2 hσ3 h => ?_)
    show RW layM E mi_X12_flowsByHeights Φ 114 [some (.ref (eA E 0)), some (.int (iz x1))] [.int (iz z2)] σ3 x
    refine r_aloadn (dc D_cX12_flowsByHeights_1 30 rfl) rfl rfl ?_
    refine r_getR (dc D_cX12_flowsByHeights_1 31 rfl) fw_RX12_9 lM_0 rfl ?_
    refine r_iconst (n := 0) (dc D_cX12_flowsByHeights_1 32 rfl) ?_
    refine r_iald (N := 183) (dc D_cX12_flowsByHeights_1 33 rfl) lM_1 rfl rfl ⟨by decide, by decide⟩ ?_
    refine r_icmp_ne (tgt := 143) (dc D_cX12_flowsByHeights_1 34 rfl) (by decide) rz2 (hσ3 _ _) (fun c4 => ?_) (fun c4 => ?_)
    · have h := h.1 c4
      exact TX12_flowsByHeights_143 hE x hK98 _ rx1 _ hσ3 h
    · have h := h.2 c4
      refine r_aloadn (dc D_cX12_flowsByHeights_1 35 rfl) rfl rfl ?_
      refine r_getR (dc D_cX12_flowsByHeights_1 36 rfl) fw_RX12_16 lM_0 rfl ?_
      refine r_iloadn (dc D_cX12_flowsByHeights_1 37 rfl) rfl rfl ?_
      obtain ⟨o5, h⟩ := h
      refine r_iald (N := 30) (dc D_cX12_flowsByHeights_1 38 rfl) lM_3 rfl rfl o5 ?_
      refine r_if_le (tgt := 143) (dc D_cX12_flowsByHeights_1 39 rfl) (by decide) (hσ3 _ _) (fun c6 => ?_) (fun c6 => ?_)
      · have h := h.1 c6
        exact TX12_flowsByHeights_143 hE x hK98 _ rx1 _ hσ3 h
      · have h := h.2 c6
        refine r_aloadn (dc D_cX12_flowsByHeights_2 0 rfl) rfl rfl ?_
        refine r_iloadn (dc D_cX12_flowsByHeights_2 1 rfl) rfl rfl ?_
        refine r_aloadn (dc D_cX12_flowsByHeights_2 2 rfl) rfl rfl ?_
        refine r_getR (dc D_cX12_flowsByHeights_2 3 rfl) fw_RX12_16 lM_0 rfl ?_
        refine r_iloadn (dc D_cX12_flowsByHeights_2 4 rfl) rfl rfl ?_
        obtain ⟨o7, h⟩ := h
        refine r_iald (N := 30) (dc D_cX12_flowsByHeights_2 5 rfl) lM_3 rfl rfl o7 ?_
        refine r_callV (As := [.int (iz x1), .int (iz (σ3 3 x1.toNat))]) (st := []) (dc D_cX12_flowsByHeights_2 6 rfl) cw_RX12_176 nm_yX12_pushes (CX12_pushes hE _ _ rx1 (hσ3 _ _) _ hσ3 h) lM_0 rfl rfl (by decide) rfl rfl rfl (fun z8 σ9 rz8 hσ9 h => ?_)
        show RW layM E mi_X12_flowsByHeights Φ 143 [some (.ref (eA E 0)), some (.int (iz x1))] [] σ9 x
        exact TX12_flowsByHeights_143 hE x hK98 _ rx1 _ hσ9 h
theorem TX12_flowsByHeights_98 {E : EV} (hE : eOK layM E) {Φ : Int → PS → Prop} (x : CX) (n : Nat) : ∀ (x1 : Int) (σ : PS), Rg x1 → RS σ → LX12_flowsByHeights_98 n x1 σ Φ → RW layM E mi_X12_flowsByHeights Φ 98 [some (.ref (eA E 0)), some (.int (iz x1))] [] σ x := by
  induction n with
  | zero => intro x1 σ _ _ h; exact h.elim
  | succ n ih => intro x1 σ rx1 hs h; exact TBX12_flowsByHeights_98 hE x ih x1 rx1 σ hs h
set_option maxRecDepth 100000 in
theorem TX12_flowsByHeights_58 {E : EV} (hE : eOK layM E) {Φ : Int → PS → Prop} {K31 : Int → PS → Prop} (x : CX) (hK31 : ∀ (x1 : Int) (σ : PS), Rg x1 → RS σ → K31 x1 σ → RW layM E mi_X12_flowsByHeights Φ 31 [some (.ref (eA E 0)), some (.int (iz x1))] [] σ x) (x1 s1 s2 : Int) (rx1 : Rg x1) (rs1 : Rg s1) (rs2 : Rg s2) (σ : PS) (hs : RS σ) (h : LX12_flowsByHeights_58 K31 x1 s1 s2 σ Φ) : RW layM E mi_X12_flowsByHeights Φ 58 [some (.ref (eA E 0)), some (.int (iz x1))] [.int (iz s2), .int (iz s1), .ref (eA E 10)] σ x := by
  obtain ⟨o1, h⟩ := h
  refine r_iast (N := 12) (dc D_cX12_flowsByHeights_0 34 rfl) lM_10 rfl rfl o1 rs2 ?_
  refine r_sig (fun σ2 eσ2 => ?_)
  have h := h σ2 eσ2
  have hσ2 : RS σ2 := RS_eq eσ2 (RS.up hs rs2 _ _)
  refine r_aloadn (dc D_cX12_flowsByHeights_0 35 rfl) rfl rfl ?_
  refine r_getR (dc D_cX12_flowsByHeights_0 36 rfl) fw_RX12_40 lM_0 rfl ?_
  refine r_iloadn (dc D_cX12_flowsByHeights_0 37 rfl) rfl rfl ?_
  refine r_iconst (n := 0) (dc D_cX12_flowsByHeights_0 38 rfl) ?_
  obtain ⟨o3, h⟩ := h
  refine r_iast (N := 12) (dc D_cX12_flowsByHeights_0 39 rfl) lM_11 rfl rfl o3 (Rl rfl) ?_
  refine r_sig (fun σ4 eσ4 => ?_)
  have h := h σ4 eσ4
  have hσ4 : RS σ4 := RS_eq eσ4 (RS.up hσ2 (Rl rfl) _ _)
  refine r_aloadn (dc D_cX12_flowsByHeights_1 0 rfl) rfl rfl ?_
  refine r_getR (dc D_cX12_flowsByHeights_1 1 rfl) fw_RX12_43 lM_0 rfl ?_
  refine r_iloadn (dc D_cX12_flowsByHeights_1 2 rfl) rfl rfl ?_
  refine r_iconst (n := 0) (dc D_cX12_flowsByHeights_1 3 rfl) ?_
  obtain ⟨o5, h⟩ := h
  refine r_iast (N := 12) (dc D_cX12_flowsByHeights_1 4 rfl) lM_12 rfl rfl o5 (Rl rfl) ?_
  refine r_sig (fun σ6 eσ6 => ?_)
  have h := h σ6 eσ6
  have hσ6 : RS σ6 := RS_eq eσ6 (RS.up hσ4 (Rl rfl) _ _)
  refine r_aloadn (dc D_cX12_flowsByHeights_1 5 rfl) rfl rfl ?_
  refine r_getR (dc D_cX12_flowsByHeights_1 6 rfl) fw_RX12_46 lM_0 rfl ?_
  refine r_iloadn (dc D_cX12_flowsByHeights_1 7 rfl) rfl rfl ?_
  refine r_iconst (n := 0) (dc D_cX12_flowsByHeights_1 8 rfl) ?_
  obtain ⟨o7, h⟩ := h
  refine r_iast (N := 12) (dc D_cX12_flowsByHeights_1 9 rfl) lM_13 rfl rfl o7 (Rl rfl) ?_
  refine r_sig (fun σ8 eσ8 => ?_)
  have h := h σ8 eσ8
  have hσ8 : RS σ8 := RS_eq eσ8 (RS.up hσ6 (Rl rfl) _ _)
  obtain ⟨o9, h⟩ := h
  refine r_iinc (lv' := [some (.ref (eA E 0)), some (.int (iz (x1 + 1)))]) (dc D_cX12_flowsByHeights_1 10 rfl) rfl rfl rfl ?_
  refine r_goto (tgt := 31) (dc D_cX12_flowsByHeights_1 11 rfl) (by decide) ?_
  exact hK31 _ _ o9 hσ8 h
set_option maxRecDepth 100000 in
theorem TBX12_flowsByHeights_31 {E : EV} (hE : eOK layM E) {Φ : Int → PS → Prop} {K31 : Int → PS → Prop} (x : CX) (hK31 : ∀ (x1 : Int) (σ : PS), Rg x1 → RS σ → K31 x1 σ → RW layM E mi_X12_flowsByHeights Φ 31 [some (.ref (eA E 0)), some (.int (iz x1))] [] σ x) (x1 : Int) (rx1 : Rg x1) (σ : PS) (hs : RS σ) (h : BX12_flowsByHeights_31 K31 x1 σ Φ) : RW layM E mi_X12_flowsByHeights Φ 31 [some (.ref (eA E 0)), some (.int (iz x1))] [] σ x := by
  refine r_iloadn (dc D_cX12_flowsByHeights_0 19 rfl) rfl rfl ?_
  refine r_bipush (n := 12) (dc D_cX12_flowsByHeights_0 20 rfl) (by decide +kernel) ?_
  refine r_icmp_ge (tgt := 86) (dc D_cX12_flowsByHeights_0 21 rfl) (by decide) rx1 (Rl rfl) (fun c1 => ?_) (fun c1 => ?_)
  · have h := h.1 c1
    refine r_aloadn (dc D_cX12_flowsByHeights_1 12 rfl) rfl rfl ?_
    refine r_iconst (n := 0) (dc D_cX12_flowsByHeights_1 13 rfl) ?_
    refine r_put (dc D_cX12_flowsByHeights_1 14 rfl) fw_RX12_166 fp_12_16 lM_0 rfl (nar_int _) (Rl rfl) ?_
    refine r_sig (fun σ2 eσ2 => ?_)
    have h := h σ2 eσ2
    have hσ2 : RS σ2 := RS_eq eσ2 (RS.up hs (Rl rfl) _ _)
    refine r_aloadn (dc D_cX12_flowsByHeights_1 15 rfl) rfl rfl ?_
    refine r_iconst (n := 0) (dc D_cX12_flowsByHeights_1 16 rfl) ?_
    refine r_put (dc D_cX12_flowsByHeights_1 17 rfl) fw_RX12_163 fp_12_17 lM_0 rfl (nar_int _) (Rl rfl) ?_
    refine r_sig (fun σ3 eσ3 => ?_)
    have h := h σ3 eσ3
    have hσ3 : RS σ3 := RS_eq eσ3 (RS.up hσ2 (Rl rfl) _ _)
    refine r_iconst (n := 0) (dc D_cX12_flowsByHeights_1 18 rfl) ?_
    refine r_istoren (lv' := [some (.ref (eA E 0)), some (.int (iz 0))]) (dc D_cX12_flowsByHeights_1 19 rfl) rfl rfl rfl ?_
    obtain ⟨n, h⟩ := h
    exact TX12_flowsByHeights_98 hE x n _ _ (Rl rfl) hσ3 h
  · have h := h.2 c1
    refine r_aloadn (dc D_cX12_flowsByHeights_0 22 rfl) rfl rfl ?_
    refine r_getR (dc D_cX12_flowsByHeights_0 23 rfl) fw_RX12_37 lM_0 rfl ?_
    refine r_iloadn (dc D_cX12_flowsByHeights_0 24 rfl) rfl rfl ?_
    refine r_iloadn (dc D_cX12_flowsByHeights_0 25 rfl) rfl rfl ?_
    refine r_aloadn (dc D_cX12_flowsByHeights_0 26 rfl) rfl rfl ?_
    refine r_getR (dc D_cX12_flowsByHeights_0 27 rfl) fw_RX12_9 lM_0 rfl ?_
    refine r_iconst (n := 0) (dc D_cX12_flowsByHeights_0 28 rfl) ?_
    refine r_iald (N := 183) (dc D_cX12_flowsByHeights_0 29 rfl) lM_1 rfl rfl ⟨by decide, by decide⟩ ?_
    refine r_icmp_ne (tgt := 57) (dc D_cX12_flowsByHeights_0 30 rfl) (by decide) rx1 (hs _ _) (fun c4 => ?_) (fun c4 => ?_)
    · have h := h.1 c4
      refine r_iconst (n := 0) (dc D_cX12_flowsByHeights_0 33 rfl) ?_
      exact TX12_flowsByHeights_58 hE x hK31 _ _ _ rx1 rx1 (Rl rfl) _ hs h
    · have h := h.2 c4
      refine r_bipush (n := 12) (dc D_cX12_flowsByHeights_0 31 rfl) (by decide +kernel) ?_
      refine r_goto (tgt := 58) (dc D_cX12_flowsByHeights_0 32 rfl) (by decide) ?_
      exact TX12_flowsByHeights_58 hE x hK31 _ _ _ rx1 rx1 (Rl rfl) _ hs h
theorem TX12_flowsByHeights_31 {E : EV} (hE : eOK layM E) {Φ : Int → PS → Prop} (x : CX) (n : Nat) : ∀ (x1 : Int) (σ : PS), Rg x1 → RS σ → LX12_flowsByHeights_31 n x1 σ Φ → RW layM E mi_X12_flowsByHeights Φ 31 [some (.ref (eA E 0)), some (.int (iz x1))] [] σ x := by
  induction n with
  | zero => intro x1 σ _ _ h; exact h.elim
  | succ n ih => intro x1 σ rx1 hs h; exact TBX12_flowsByHeights_31 hE x ih x1 rx1 σ hs h
set_option maxRecDepth 100000 in
theorem TBX12_flowsByHeights_6 {E : EV} (hE : eOK layM E) {Φ : Int → PS → Prop} {K6 : Int → PS → Prop} (x : CX) (hK6 : ∀ (x1 : Int) (σ : PS), Rg x1 → RS σ → K6 x1 σ → RW layM E mi_X12_flowsByHeights Φ 6 [some (.ref (eA E 0)), some (.int (iz x1))] [] σ x) (x1 : Int) (rx1 : Rg x1) (σ : PS) (hs : RS σ) (h : BX12_flowsByHeights_6 K6 x1 σ Φ) : RW layM E mi_X12_flowsByHeights Φ 6 [some (.ref (eA E 0)), some (.int (iz x1))] [] σ x := by
  refine r_iloadn (dc D_cX12_flowsByHeights_0 4 rfl) rfl rfl ?_
  refine r_aloadn (dc D_cX12_flowsByHeights_0 5 rfl) rfl rfl ?_
  refine r_getR (dc D_cX12_flowsByHeights_0 6 rfl) fw_RX12_9 lM_0 rfl ?_
  refine r_iconst (n := 2) (dc D_cX12_flowsByHeights_0 7 rfl) ?_
  refine r_iald (N := 183) (dc D_cX12_flowsByHeights_0 8 rfl) lM_1 rfl rfl ⟨by decide, by decide⟩ ?_
  refine r_icmp_ge (tgt := 29) (dc D_cX12_flowsByHeights_0 9 rfl) (by decide) rx1 (hs _ _) (fun c1 => ?_) (fun c1 => ?_)
  · have h := h.1 c1
    refine r_iconst (n := 0) (dc D_cX12_flowsByHeights_0 17 rfl) ?_
    refine r_istoren (lv' := [some (.ref (eA E 0)), some (.int (iz 0))]) (dc D_cX12_flowsByHeights_0 18 rfl) rfl rfl rfl ?_
    obtain ⟨n, h⟩ := h
    exact TX12_flowsByHeights_31 hE x n _ _ (Rl rfl) hs h
  · have h := h.2 c1
    refine r_aloadn (dc D_cX12_flowsByHeights_0 10 rfl) rfl rfl ?_
    refine r_getR (dc D_cX12_flowsByHeights_0 11 rfl) fw_RX12_19 lM_0 rfl ?_
    refine r_iloadn (dc D_cX12_flowsByHeights_0 12 rfl) rfl rfl ?_
    refine r_iconst (n := 0) (dc D_cX12_flowsByHeights_0 13 rfl) ?_
    obtain ⟨o2, h⟩ := h
    refine r_iast (N := 30) (dc D_cX12_flowsByHeights_0 14 rfl) lM_4 rfl rfl o2 (Rl rfl) ?_
    refine r_sig (fun σ3 eσ3 => ?_)
    have h := h σ3 eσ3
    have hσ3 : RS σ3 := RS_eq eσ3 (RS.up hs (Rl rfl) _ _)
    obtain ⟨o4, h⟩ := h
    refine r_iinc (lv' := [some (.ref (eA E 0)), some (.int (iz (x1 + 1)))]) (dc D_cX12_flowsByHeights_0 15 rfl) rfl rfl rfl ?_
    refine r_goto (tgt := 6) (dc D_cX12_flowsByHeights_0 16 rfl) (by decide) ?_
    exact hK6 _ _ o4 hσ3 h
theorem TX12_flowsByHeights_6 {E : EV} (hE : eOK layM E) {Φ : Int → PS → Prop} (x : CX) (n : Nat) : ∀ (x1 : Int) (σ : PS), Rg x1 → RS σ → LX12_flowsByHeights_6 n x1 σ Φ → RW layM E mi_X12_flowsByHeights Φ 6 [some (.ref (eA E 0)), some (.int (iz x1))] [] σ x := by
  induction n with
  | zero => intro x1 σ _ _ h; exact h.elim
  | succ n ih => intro x1 σ rx1 hs h; exact TBX12_flowsByHeights_6 hE x ih x1 rx1 σ hs h
set_option maxRecDepth 100000 in
theorem CX12_flowsByHeights {E : EV} (hE : eOK layM E) {Φ : Int → PS → Prop} (σ : PS) (hs : RS σ) (h : FX12_flowsByHeights σ Φ) : CT layM E yX12_flowsByHeights mi_X12_flowsByHeights [.ref (eA E 0)] σ Φ := by
  refine ct_of (by decide +kernel) rfl hE rfl rfl hs (fun x => ?_)
  show RW layM E mi_X12_flowsByHeights Φ 0 [some (.ref (eA E 0)), none] [] σ x
  refine r_aloadn (dc D_cX12_flowsByHeights_0 0 rfl) rfl rfl ?_
  refine r_callV (As := []) (st := []) (dc D_cX12_flowsByHeights_0 1 rfl) cw_RX12_153 nm_yX12_mayAll (CX12_mayAll hE  _ hs h) lM_0 rfl rfl (by decide) rfl rfl rfl (fun z1 σ2 rz1 hσ2 h => ?_)
  show RW layM E mi_X12_flowsByHeights Φ 4 [some (.ref (eA E 0)), none] [] σ2 x
  refine r_iconst (n := 0) (dc D_cX12_flowsByHeights_0 2 rfl) ?_
  refine r_istoren (lv' := [some (.ref (eA E 0)), some (.int (iz 0))]) (dc D_cX12_flowsByHeights_0 3 rfl) rfl rfl rfl ?_
  obtain ⟨n, h⟩ := h
  exact TX12_flowsByHeights_6 hE x n _ _ (Rl rfl) hσ2 h
-- end of GateFlowModel.flowsByHeights
def mi_X12_byHeights : MI := (cX12_byHeights, RX12, 2, 7, (some .int), 1)
def FX12_byHeights (a1 : Int) (σ : PS) (Φ : Int → PS → Prop) : Prop :=
  FX12_isGate a1 σ (fun z1 σ2 =>
  ((¬ z1 = 0 →
    FX12_flowsByHeights σ2 (fun z4 σ5 =>
    (0 ≤ a1 ∧ a1 < 30) ∧
    Φ (σ5 4 a1.toNat) σ5)) ∧
  (z1 = 0 →
    Φ (-1) σ2)))
theorem cw_RX12_183 : CWV RX12 183 yX12_flowsByHeights mi_X12_flowsByHeights := tb_r [1454, 1456, 57, 110, 1457] (by decide +kernel)
theorem nm_yX12_flowsByHeights : ynm yX12_flowsByHeights 0 := ⟨⟨by decide +kernel, by decide +kernel⟩, by decide +kernel⟩
set_option maxRecDepth 100000 in
theorem CX12_byHeights {E : EV} (hE : eOK layM E) {Φ : Int → PS → Prop} (a1 : Int) (ra1 : Rg a1) (σ : PS) (hs : RS σ) (h : FX12_byHeights a1 σ Φ) : CT layM E yX12_byHeights mi_X12_byHeights [.ref (eA E 0), .int (iz a1)] σ Φ := by
  refine ct_of (by decide +kernel) rfl hE rfl rfl hs (fun x => ?_)
  show RW layM E mi_X12_byHeights Φ 0 [some (.ref (eA E 0)), some (.int (iz a1))] [] σ x
  refine r_aloadn (dc D_cX12_byHeights_0 0 rfl) rfl rfl ?_
  refine r_iloadn (dc D_cX12_byHeights_0 1 rfl) rfl rfl ?_
  refine r_callV (As := [.int (iz a1)]) (st := []) (dc D_cX12_byHeights_0 2 rfl) cw_RX12_113 nm_yX12_isGate (CX12_isGate hE _ ra1 _ hs h) lM_0 rfl rfl (by decide) rfl rfl rfl (fun z1 σ2 rz1 hσ2 h => ?_)
  show RW layM E mi_X12_byHeights Φ 5 [some (.ref (eA E 0)), some (.int (iz a1))] [.int (iz z1)] σ2 x
  refine r_if_ne (tgt := 10) (dc D_cX12_byHeights_0 3 rfl) (by decide) rz1 (fun c3 => ?_) (fun c3 => ?_)
  · have h := h.1 c3
    refine r_aloadn (dc D_cX12_byHeights_0 6 rfl) rfl rfl ?_
    refine r_callV (As := []) (st := []) (dc D_cX12_byHeights_0 7 rfl) cw_RX12_183 nm_yX12_flowsByHeights (CX12_flowsByHeights hE  _ hσ2 h) lM_0 rfl rfl (by decide) rfl rfl rfl (fun z4 σ5 rz4 hσ5 h => ?_)
    show RW layM E mi_X12_byHeights Φ 14 [some (.ref (eA E 0)), some (.int (iz a1))] [] σ5 x
    refine r_aloadn (dc D_cX12_byHeights_0 8 rfl) rfl rfl ?_
    refine r_getR (dc D_cX12_byHeights_0 9 rfl) fw_RX12_19 lM_0 rfl ?_
    refine r_iloadn (dc D_cX12_byHeights_0 10 rfl) rfl rfl ?_
    obtain ⟨o6, h⟩ := h
    refine r_iald (N := 30) (dc D_cX12_byHeights_0 11 rfl) lM_4 rfl rfl o6 ?_
    exact r_iret (dc D_cX12_byHeights_0 12 rfl) rfl (hσ5 _ _) h
  · have h := h.2 c3
    refine r_iconst (n := (-1)) (dc D_cX12_byHeights_0 4 rfl) ?_
    exact r_iret (dc D_cX12_byHeights_0 5 rfl) rfl (Rl rfl) h
-- end of GateFlowModel.byHeights
def mi_X12_heights : MI := (cX12_heights, RX12, 4, 7, (some .int), 1)
def LX12_heights_37 (x1 x2 x3 : Int) (σ : PS) (Φ : Int → PS → Prop) : Prop :=
  FX12_flowsByHeights σ (fun z1 σ2 =>
  ((x3 = 0 →
    ((¬ x2 = 0 →
      ((¬ x2 = 1 →
        (0 ≤ x1 ∧ x1 < 12) ∧
        Φ (σ2 13 x1.toNat) σ2) ∧
      (x2 = 1 →
        (0 ≤ x1 ∧ x1 < 12) ∧
        Φ (σ2 12 x1.toNat) σ2))) ∧
    (x2 = 0 →
      (0 ≤ x1 ∧ x1 < 12) ∧
      Φ (σ2 10 x1.toNat) σ2))) ∧
  (¬ x3 = 0 →
    Φ (σ2 0 17) σ2)))
def LX12_heights_14 (x1 x2 s0 : Int) (σ : PS) (Φ : Int → PS → Prop) : Prop :=
  ((¬ s0 = 0 →
    LX12_heights_37 x1 x2 s0 σ Φ) ∧
  (s0 = 0 →
    FX12_isNode x1 σ (fun z2 σ3 =>
    ((z2 = 0 →
      Φ (-1) σ3) ∧
    (¬ z2 = 0 →
      FX12_in x2 0 2 σ3 (fun z5 σ6 =>
      ((¬ z5 = 0 →
        LX12_heights_37 x1 x2 s0 σ6 Φ) ∧
      (z5 = 0 →
        Φ (-1) σ6))))))))
def LX12_heights_13 (x1 x2 : Int) (σ : PS) (Φ : Int → PS → Prop) : Prop :=
  LX12_heights_14 x1 x2 0 σ Φ
def FX12_heights (a1 a2 : Int) (σ : PS) (Φ : Int → PS → Prop) : Prop :=
  ((¬ a1 = (-1) →
    LX12_heights_13 a1 a2 σ Φ) ∧
  (a1 = (-1) →
    ((¬ a2 = 0 →
      LX12_heights_13 a1 a2 σ Φ) ∧
    (a2 = 0 →
      LX12_heights_14 a1 a2 1 σ Φ))))
set_option maxRecDepth 100000 in
theorem TX12_heights_37 {E : EV} (hE : eOK layM E) {Φ : Int → PS → Prop} (x : CX) (x1 x2 x3 : Int) (rx1 : Rg x1) (rx2 : Rg x2) (rx3 : Rg x3) (σ : PS) (hs : RS σ) (h : LX12_heights_37 x1 x2 x3 σ Φ) : RW layM E mi_X12_heights Φ 37 [some (.ref (eA E 0)), some (.int (iz x1)), some (.int (iz x2)), some (.int (iz x3))] [] σ x := by
  refine r_aloadn (dc D_cX12_heights_0 21 rfl) rfl rfl ?_
  refine r_callV (As := []) (st := []) (dc D_cX12_heights_0 22 rfl) cw_RX12_183 nm_yX12_flowsByHeights (CX12_flowsByHeights hE  _ hs h) lM_0 rfl rfl (by decide) rfl rfl rfl (fun z1 σ2 rz1 hσ2 h => ?_)
  show RW layM E mi_X12_heights Φ 41 [some (.ref (eA E 0)), some (.int (iz x1)), some (.int (iz x2)), some (.int (iz x3))] [] σ2 x
  refine r_iloadn (dc D_cX12_heights_0 23 rfl) rfl rfl ?_
  refine r_if_eq (tgt := 52) (dc D_cX12_heights_0 24 rfl) (by decide) rx3 (fun c3 => ?_) (fun c3 => ?_)
  · have h := h.1 c3
    refine r_iloadn (dc D_cX12_heights_0 28 rfl) rfl rfl ?_
    refine r_if_ne (tgt := 65) (dc D_cX12_heights_0 29 rfl) (by decide) rx2 (fun c4 => ?_) (fun c4 => ?_)
    · have h := h.1 c4
      refine r_iloadn (dc D_cX12_heights_0 35 rfl) rfl rfl ?_
      refine r_iconst (n := 1) (dc D_cX12_heights_0 36 rfl) ?_
      refine r_icmp_ne (tgt := 79) (dc D_cX12_heights_0 37 rfl) (by decide) rx2 (Rl rfl) (fun c5 => ?_) (fun c5 => ?_)
      · have h := h.1 c5
        refine r_aloadn (dc D_cX12_heights_1 3 rfl) rfl rfl ?_
        refine r_getR (dc D_cX12_heights_1 4 rfl) fw_RX12_46 lM_0 rfl ?_
        refine r_iloadn (dc D_cX12_heights_1 5 rfl) rfl rfl ?_
        obtain ⟨o6, h⟩ := h
        refine r_iald (N := 12) (dc D_cX12_heights_1 6 rfl) lM_13 rfl rfl o6 ?_
        exact r_iret (dc D_cX12_heights_1 7 rfl) rfl (hσ2 _ _) h
      · have h := h.2 c5
        refine r_aloadn (dc D_cX12_heights_0 38 rfl) rfl rfl ?_
        refine r_getR (dc D_cX12_heights_0 39 rfl) fw_RX12_43 lM_0 rfl ?_
        refine r_iloadn (dc D_cX12_heights_1 0 rfl) rfl rfl ?_
        obtain ⟨o7, h⟩ := h
        refine r_iald (N := 12) (dc D_cX12_heights_1 1 rfl) lM_12 rfl rfl o7 ?_
        refine r_goto (tgt := 85) (dc D_cX12_heights_1 2 rfl) (by decide) ?_
        exact r_iret (dc D_cX12_heights_1 7 rfl) rfl (hσ2 _ _) h
    · have h := h.2 c4
      refine r_aloadn (dc D_cX12_heights_0 30 rfl) rfl rfl ?_
      refine r_getR (dc D_cX12_heights_0 31 rfl) fw_RX12_37 lM_0 rfl ?_
      refine r_iloadn (dc D_cX12_heights_0 32 rfl) rfl rfl ?_
      obtain ⟨o8, h⟩ := h
      refine r_iald (N := 12) (dc D_cX12_heights_0 33 rfl) lM_10 rfl rfl o8 ?_
      refine r_goto (tgt := 85) (dc D_cX12_heights_0 34 rfl) (by decide) ?_
      exact r_iret (dc D_cX12_heights_1 7 rfl) rfl (hσ2 _ _) h
  · have h := h.2 c3
    refine r_aloadn (dc D_cX12_heights_0 25 rfl) rfl rfl ?_
    refine r_getI (dc D_cX12_heights_0 26 rfl) fw_RX12_163 lM_0 rfl ?_
    refine r_goto (tgt := 85) (dc D_cX12_heights_0 27 rfl) (by decide) ?_
    exact r_iret (dc D_cX12_heights_1 7 rfl) rfl (hσ2 _ _) h
set_option maxRecDepth 100000 in
theorem TX12_heights_14 {E : EV} (hE : eOK layM E) {Φ : Int → PS → Prop} (x : CX) (x1 x2 s0 : Int) (rx1 : Rg x1) (rx2 : Rg x2) (rs0 : Rg s0) (σ : PS) (hs : RS σ) (h : LX12_heights_14 x1 x2 s0 σ Φ) : RW layM E mi_X12_heights Φ 14 [some (.ref (eA E 0)), some (.int (iz x1)), some (.int (iz x2)), none] [.int (iz s0)] σ x := by
  refine r_istoren (lv' := [some (.ref (eA E 0)), some (.int (iz x1)), some (.int (iz x2)), some (.int (iz s0))]) (dc D_cX12_heights_0 8 rfl) rfl rfl rfl ?_
  refine r_iloadn (dc D_cX12_heights_0 9 rfl) rfl rfl ?_
  refine r_if_ne (tgt := 37) (dc D_cX12_heights_0 10 rfl) (by decide) rs0 (fun c1 => ?_) (fun c1 => ?_)
  · have h := h.1 c1
    exact TX12_heights_37 hE x _ _ _ rx1 rx2 rs0 _ hs h
  · have h := h.2 c1
    refine r_iloadn (dc D_cX12_heights_0 11 rfl) rfl rfl ?_
    refine r_callS (As := [.int (iz x1)]) (st := []) (dc D_cX12_heights_0 12 rfl) cw_RX12_106 nm_yX12_isNode (CX12_isNode hE _ rx1 _ hs h) rfl (by decide) rfl rfl rfl (fun z2 σ3 rz2 hσ3 h => ?_)
    show RW layM E mi_X12_heights Φ 23 [some (.ref (eA E 0)), some (.int (iz x1)), some (.int (iz x2)), some (.int (iz s0))] [.int (iz z2)] σ3 x
    refine r_if_eq (tgt := 35) (dc D_cX12_heights_0 13 rfl) (by decide) rz2 (fun c4 => ?_) (fun c4 => ?_)
    · have h := h.1 c4
      refine r_iconst (n := (-1)) (dc D_cX12_heights_0 19 rfl) ?_
      exact r_iret (dc D_cX12_heights_0 20 rfl) rfl (Rl rfl) h
    · have h := h.2 c4
      refine r_iloadn (dc D_cX12_heights_0 14 rfl) rfl rfl ?_
      refine r_iconst (n := 0) (dc D_cX12_heights_0 15 rfl) ?_
      refine r_iconst (n := 2) (dc D_cX12_heights_0 16 rfl) ?_
      refine r_callS (As := [.int (iz x2), .int (iz 0), .int (iz 2)]) (st := []) (dc D_cX12_heights_0 17 rfl) cw_RX12_90 nm_yX12_in (CX12_in hE _ _ _ rx2 (Rl rfl) (Rl rfl) _ hσ3 h) rfl (by decide) rfl rfl rfl (fun z5 σ6 rz5 hσ6 h => ?_)
      show RW layM E mi_X12_heights Φ 32 [some (.ref (eA E 0)), some (.int (iz x1)), some (.int (iz x2)), some (.int (iz s0))] [.int (iz z5)] σ6 x
      refine r_if_ne (tgt := 37) (dc D_cX12_heights_0 18 rfl) (by decide) rz5 (fun c7 => ?_) (fun c7 => ?_)
      · have h := h.1 c7
        exact TX12_heights_37 hE x _ _ _ rx1 rx2 rs0 _ hσ6 h
      · have h := h.2 c7
        refine r_iconst (n := (-1)) (dc D_cX12_heights_0 19 rfl) ?_
        exact r_iret (dc D_cX12_heights_0 20 rfl) rfl (Rl rfl) h
set_option maxRecDepth 100000 in
theorem TX12_heights_13 {E : EV} (hE : eOK layM E) {Φ : Int → PS → Prop} (x : CX) (x1 x2 : Int) (rx1 : Rg x1) (rx2 : Rg x2) (σ : PS) (hs : RS σ) (h : LX12_heights_13 x1 x2 σ Φ) : RW layM E mi_X12_heights Φ 13 [some (.ref (eA E 0)), some (.int (iz x1)), some (.int (iz x2)), none] [] σ x := by
  refine r_iconst (n := 0) (dc D_cX12_heights_0 7 rfl) ?_
  exact TX12_heights_14 hE x _ _ _ rx1 rx2 (Rl rfl) _ hs h
set_option maxRecDepth 100000 in
theorem CX12_heights {E : EV} (hE : eOK layM E) {Φ : Int → PS → Prop} (a1 a2 : Int) (ra1 : Rg a1) (ra2 : Rg a2) (σ : PS) (hs : RS σ) (h : FX12_heights a1 a2 σ Φ) : CT layM E yX12_heights mi_X12_heights [.ref (eA E 0), .int (iz a1), .int (iz a2)] σ Φ := by
  refine ct_of (by decide +kernel) rfl hE rfl rfl hs (fun x => ?_)
  show RW layM E mi_X12_heights Φ 0 [some (.ref (eA E 0)), some (.int (iz a1)), some (.int (iz a2)), none] [] σ x
  refine r_iloadn (dc D_cX12_heights_0 0 rfl) rfl rfl ?_
  refine r_iconst (n := (-1)) (dc D_cX12_heights_0 1 rfl) ?_
  refine r_icmp_ne (tgt := 13) (dc D_cX12_heights_0 2 rfl) (by decide) ra1 (Rl rfl) (fun c1 => ?_) (fun c1 => ?_)
  · have h := h.1 c1
    exact TX12_heights_13 hE x _ _ ra1 ra2 _ hs h
  · have h := h.2 c1
    refine r_iloadn (dc D_cX12_heights_0 3 rfl) rfl rfl ?_
    refine r_if_ne (tgt := 13) (dc D_cX12_heights_0 4 rfl) (by decide) ra2 (fun c2 => ?_) (fun c2 => ?_)
    · have h := h.1 c2
      exact TX12_heights_13 hE x _ _ ra1 ra2 _ hs h
    · have h := h.2 c2
      refine r_iconst (n := 1) (dc D_cX12_heights_0 5 rfl) ?_
      refine r_goto (tgt := 14) (dc D_cX12_heights_0 6 rfl) (by decide) ?_
      exact TX12_heights_14 hE x _ _ _ ra1 ra2 (Rl rfl) _ hs h
-- end of GateFlowModel.heights
def mi_X12_reached : MI := (cX12_reached, RX12, 3, 1, (some .int), 1)
def LX12_reached_27 (K4 : Int → Int → PS → Prop) (x2 s0 s1 : Int) (σ : PS) (Φ : Int → PS → Prop) : Prop :=
  ∀ v1 : Int, v1 = ior s0 s1 →
  Rg (x2 + 1) ∧
  K4 v1 (x2 + 1) σ
def BX12_reached_4 (K4 : Int → Int → PS → Prop) (x1 x2 : Int) (σ : PS) (Φ : Int → PS → Prop) : Prop :=
  ((12 ≤ x2 →
    Φ x1 σ) ∧
  (¬ 12 ≤ x2 →
    (0 ≤ x2 ∧ x2 < 12) ∧
    ((σ 5 x2.toNat < 0 →
      LX12_reached_27 K4 x2 x1 0 σ Φ) ∧
    (¬ σ 5 x2.toNat < 0 →
      LX12_reached_27 K4 x2 x1 (ishl 1 x2) σ Φ))))
def LX12_reached_4 : Nat → Int → Int → PS → (Int → PS → Prop) → Prop
  | 0, _, _, _, _ => False
  | n + 1, x1, x2, σ, Φ => BX12_reached_4 (fun x1 x2 σ => LX12_reached_4 n x1 x2 σ Φ) x1 x2 σ Φ
def FX12_reached (σ : PS) (Φ : Int → PS → Prop) : Prop :=
  ∃ n, LX12_reached_4 n 0 0 σ Φ
set_option maxRecDepth 100000 in
theorem TX12_reached_27 {E : EV} (hE : eOK layM E) {Φ : Int → PS → Prop} {K4 : Int → Int → PS → Prop} (x : CX) (hK4 : ∀ (x1 x2 : Int) (σ : PS), Rg x1 → Rg x2 → RS σ → K4 x1 x2 σ → RW layM E mi_X12_reached Φ 4 [some (.ref (eA E 0)), some (.int (iz x1)), some (.int (iz x2))] [] σ x) (x2 s0 s1 : Int) (rx2 : Rg x2) (rs0 : Rg s0) (rs1 : Rg s1) (σ : PS) (hs : RS σ) (h : LX12_reached_27 K4 x2 s0 s1 σ Φ) : RW layM E mi_X12_reached Φ 27 [some (.ref (eA E 0)), none, some (.int (iz x2))] [.int (iz s1), .int (iz s0)] σ x := by
  refine r_ior (dc D_cX12_reached_0 18 rfl) ?_
  refine r_name (fun v1 ev1 => ?_)
  have h := h v1 ev1
  have rv1 : Rg v1 := Rg_eq ev1 (Rg_of _)
  refine r_istoren (lv' := [some (.ref (eA E 0)), some (.int (iz v1)), some (.int (iz x2))]) (dc D_cX12_reached_0 19 rfl) rfl rfl rfl ?_
  obtain ⟨o2, h⟩ := h
  refine r_iinc (lv' := [some (.ref (eA E 0)), some (.int (iz v1)), some (.int (iz (x2 + 1)))]) (dc D_cX12_reached_0 20 rfl) rfl rfl rfl ?_
  refine r_goto (tgt := 4) (dc D_cX12_reached_0 21 rfl) (by decide) ?_
  exact hK4 _ _ _ rv1 o2 hs h
set_option maxRecDepth 100000 in
theorem TBX12_reached_4 {E : EV} (hE : eOK layM E) {Φ : Int → PS → Prop} {K4 : Int → Int → PS → Prop} (x : CX) (hK4 : ∀ (x1 x2 : Int) (σ : PS), Rg x1 → Rg x2 → RS σ → K4 x1 x2 σ → RW layM E mi_X12_reached Φ 4 [some (.ref (eA E 0)), some (.int (iz x1)), some (.int (iz x2))] [] σ x) (x1 x2 : Int) (rx1 : Rg x1) (rx2 : Rg x2) (σ : PS) (hs : RS σ) (h : BX12_reached_4 K4 x1 x2 σ Φ) : RW layM E mi_X12_reached Φ 4 [some (.ref (eA E 0)), some (.int (iz x1)), some (.int (iz x2))] [] σ x := by
  refine r_iloadn (dc D_cX12_reached_0 4 rfl) rfl rfl ?_
  refine r_bipush (n := 12) (dc D_cX12_reached_0 5 rfl) (by decide +kernel) ?_
  refine r_icmp_ge (tgt := 35) (dc D_cX12_reached_0 6 rfl) (by decide) rx2 (Rl rfl) (fun c1 => ?_) (fun c1 => ?_)
  · have h := h.1 c1
    refine r_iloadn (dc D_cX12_reached_0 22 rfl) rfl rfl ?_
    exact r_iret (dc D_cX12_reached_0 23 rfl) rfl rx1 h
  · have h := h.2 c1
    refine r_iloadn (dc D_cX12_reached_0 7 rfl) rfl rfl ?_
    refine r_aloadn (dc D_cX12_reached_0 8 rfl) rfl rfl ?_
    refine r_getR (dc D_cX12_reached_0 9 rfl) fw_RX12_22 lM_0 rfl ?_
    refine r_iloadn (dc D_cX12_reached_0 10 rfl) rfl rfl ?_
    obtain ⟨o2, h⟩ := h
    refine r_iald (N := 12) (dc D_cX12_reached_0 11 rfl) lM_5 rfl rfl o2 ?_
    refine r_if_lt (tgt := 26) (dc D_cX12_reached_0 12 rfl) (by decide) (hs _ _) (fun c3 => ?_) (fun c3 => ?_)
    · have h := h.1 c3
      refine r_iconst (n := 0) (dc D_cX12_reached_0 17 rfl) ?_
      refine r_sub (lv' := [some (.ref (eA E 0)), none, some (.int (iz x2))]) (subL_s (subL_n (subL_s subL_e))) ?_
      exact TX12_reached_27 hE x hK4 _ _ _ rx2 rx1 (Rl rfl) _ hs h
    · have h := h.2 c3
      refine r_iconst (n := 1) (dc D_cX12_reached_0 13 rfl) ?_
      refine r_iloadn (dc D_cX12_reached_0 14 rfl) rfl rfl ?_
      refine r_ishl (dc D_cX12_reached_0 15 rfl) ?_
      refine r_goto (tgt := 27) (dc D_cX12_reached_0 16 rfl) (by decide) ?_
      refine r_sub (lv' := [some (.ref (eA E 0)), none, some (.int (iz x2))]) (subL_s (subL_n (subL_s subL_e))) ?_
      exact TX12_reached_27 hE x hK4 _ _ _ rx2 rx1 (Rg_of _) _ hs h
theorem TX12_reached_4 {E : EV} (hE : eOK layM E) {Φ : Int → PS → Prop} (x : CX) (n : Nat) : ∀ (x1 x2 : Int) (σ : PS), Rg x1 → Rg x2 → RS σ → LX12_reached_4 n x1 x2 σ Φ → RW layM E mi_X12_reached Φ 4 [some (.ref (eA E 0)), some (.int (iz x1)), some (.int (iz x2))] [] σ x := by
  induction n with
  | zero => intro x1 x2 σ _ _ _ h; exact h.elim
  | succ n ih => intro x1 x2 σ rx1 rx2 hs h; exact TBX12_reached_4 hE x ih x1 x2 rx1 rx2 σ hs h
set_option maxRecDepth 100000 in
theorem CX12_reached {E : EV} (hE : eOK layM E) {Φ : Int → PS → Prop} (σ : PS) (hs : RS σ) (h : FX12_reached σ Φ) : CT layM E yX12_reached mi_X12_reached [.ref (eA E 0)] σ Φ := by
  refine ct_of (by decide +kernel) rfl hE rfl rfl hs (fun x => ?_)
  show RW layM E mi_X12_reached Φ 0 [some (.ref (eA E 0)), none, none] [] σ x
  refine r_iconst (n := 0) (dc D_cX12_reached_0 0 rfl) ?_
  refine r_istoren (lv' := [some (.ref (eA E 0)), some (.int (iz 0)), none]) (dc D_cX12_reached_0 1 rfl) rfl rfl rfl ?_
  refine r_iconst (n := 0) (dc D_cX12_reached_0 2 rfl) ?_
  refine r_istoren (lv' := [some (.ref (eA E 0)), some (.int (iz 0)), some (.int (iz 0))]) (dc D_cX12_reached_0 3 rfl) rfl rfl rfl ?_
  obtain ⟨n, h⟩ := h
  exact TX12_reached_4 hE x n _ _ _ (Rl rfl) (Rl rfl) hs h
-- end of GateFlowModel.reached
def mi_X12_near : MI := (cX12_near, RX12, 1, 6, (some .int), 1)
def FX12_near (σ : PS) (Φ : Int → PS → Prop) : Prop :=
  FX12_flowsNow σ (fun z1 σ2 =>
  FX12_measures (σ2 1 0) 0 σ2 (fun z3 σ4 =>
  FX12_reached σ4 (fun z5 σ6 =>
  Φ z5 σ6)))
theorem cw_RX12_186 : CWV RX12 186 yX12_reached mi_X12_reached := tb_r [1482, 1484, 62, 110, 1485] (by decide +kernel)
theorem nm_yX12_reached : ynm yX12_reached 0 := ⟨⟨by decide +kernel, by decide +kernel⟩, by decide +kernel⟩
set_option maxRecDepth 100000 in
theorem CX12_near {E : EV} (hE : eOK layM E) {Φ : Int → PS → Prop} (σ : PS) (hs : RS σ) (h : FX12_near σ Φ) : CT layM E yX12_near mi_X12_near [.ref (eA E 0)] σ Φ := by
  refine ct_of (by decide +kernel) rfl hE rfl rfl hs (fun x => ?_)
  show RW layM E mi_X12_near Φ 0 [some (.ref (eA E 0))] [] σ x
  refine r_aloadn (dc D_cX12_near_0 0 rfl) rfl rfl ?_
  refine r_callV (As := []) (st := []) (dc D_cX12_near_0 1 rfl) cw_RX12_160 nm_yX12_flowsNow (CX12_flowsNow hE  _ hs h) lM_0 rfl rfl (by decide) rfl rfl rfl (fun z1 σ2 rz1 hσ2 h => ?_)
  show RW layM E mi_X12_near Φ 4 [some (.ref (eA E 0))] [.int (iz z1)] σ2 x
  refine r_pop (dc D_cX12_near_0 2 rfl) rfl ?_
  refine r_aloadn (dc D_cX12_near_0 3 rfl) rfl rfl ?_
  refine r_aloadn (dc D_cX12_near_0 4 rfl) rfl rfl ?_
  refine r_getR (dc D_cX12_near_0 5 rfl) fw_RX12_9 lM_0 rfl ?_
  refine r_iconst (n := 0) (dc D_cX12_near_0 6 rfl) ?_
  refine r_iald (N := 183) (dc D_cX12_near_0 7 rfl) lM_1 rfl rfl ⟨by decide, by decide⟩ ?_
  refine r_iconst (n := 0) (dc D_cX12_near_0 8 rfl) ?_
  refine r_callV (As := [.int (iz (σ2 1 0)), .int (iz 0)]) (st := []) (dc D_cX12_near_0 9 rfl) cw_RX12_137 nm_yX12_measures (CX12_measures hE _ _ (hσ2 _ _) (Rl rfl) _ hσ2 h) lM_0 rfl rfl (by decide) rfl rfl rfl (fun z3 σ4 rz3 hσ4 h => ?_)
  show RW layM E mi_X12_near Φ 16 [some (.ref (eA E 0))] [] σ4 x
  refine r_aloadn (dc D_cX12_near_0 10 rfl) rfl rfl ?_
  refine r_callV (As := []) (st := []) (dc D_cX12_near_0 11 rfl) cw_RX12_186 nm_yX12_reached (CX12_reached hE  _ hσ4 h) lM_0 rfl rfl (by decide) rfl rfl rfl (fun z5 σ6 rz5 hσ6 h => ?_)
  show RW layM E mi_X12_near Φ 20 [some (.ref (eA E 0))] [.int (iz z5)] σ6 x
  exact r_iret (dc D_cX12_near_0 12 rfl) rfl rz5 h
-- end of GateFlowModel.near
def mi_X12_far : MI := (cX12_far, RX12, 1, 6, (some .int), 1)
def FX12_far (σ : PS) (Φ : Int → PS → Prop) : Prop :=
  FX12_flowsNow σ (fun z1 σ2 =>
  FX12_measures (σ2 1 1) 1 σ2 (fun z3 σ4 =>
  FX12_reached σ4 (fun z5 σ6 =>
  Φ z5 σ6)))
set_option maxRecDepth 100000 in
theorem CX12_far {E : EV} (hE : eOK layM E) {Φ : Int → PS → Prop} (σ : PS) (hs : RS σ) (h : FX12_far σ Φ) : CT layM E yX12_far mi_X12_far [.ref (eA E 0)] σ Φ := by
  refine ct_of (by decide +kernel) rfl hE rfl rfl hs (fun x => ?_)
  show RW layM E mi_X12_far Φ 0 [some (.ref (eA E 0))] [] σ x
  refine r_aloadn (dc D_cX12_far_0 0 rfl) rfl rfl ?_
  refine r_callV (As := []) (st := []) (dc D_cX12_far_0 1 rfl) cw_RX12_160 nm_yX12_flowsNow (CX12_flowsNow hE  _ hs h) lM_0 rfl rfl (by decide) rfl rfl rfl (fun z1 σ2 rz1 hσ2 h => ?_)
  show RW layM E mi_X12_far Φ 4 [some (.ref (eA E 0))] [.int (iz z1)] σ2 x
  refine r_pop (dc D_cX12_far_0 2 rfl) rfl ?_
  refine r_aloadn (dc D_cX12_far_0 3 rfl) rfl rfl ?_
  refine r_aloadn (dc D_cX12_far_0 4 rfl) rfl rfl ?_
  refine r_getR (dc D_cX12_far_0 5 rfl) fw_RX12_9 lM_0 rfl ?_
  refine r_iconst (n := 1) (dc D_cX12_far_0 6 rfl) ?_
  refine r_iald (N := 183) (dc D_cX12_far_0 7 rfl) lM_1 rfl rfl ⟨by decide, by decide⟩ ?_
  refine r_iconst (n := 1) (dc D_cX12_far_0 8 rfl) ?_
  refine r_callV (As := [.int (iz (σ2 1 1)), .int (iz 1)]) (st := []) (dc D_cX12_far_0 9 rfl) cw_RX12_137 nm_yX12_measures (CX12_measures hE _ _ (hσ2 _ _) (Rl rfl) _ hσ2 h) lM_0 rfl rfl (by decide) rfl rfl rfl (fun z3 σ4 rz3 hσ4 h => ?_)
  show RW layM E mi_X12_far Φ 16 [some (.ref (eA E 0))] [] σ4 x
  refine r_aloadn (dc D_cX12_far_0 10 rfl) rfl rfl ?_
  refine r_callV (As := []) (st := []) (dc D_cX12_far_0 11 rfl) cw_RX12_186 nm_yX12_reached (CX12_reached hE  _ hσ4 h) lM_0 rfl rfl (by decide) rfl rfl rfl (fun z5 σ6 rz5 hσ6 h => ?_)
  show RW layM E mi_X12_far Φ 20 [some (.ref (eA E 0))] [.int (iz z5)] σ6 x
  exact r_iret (dc D_cX12_far_0 12 rfl) rfl rz5 h
-- end of GateFlowModel.far
def mi_X12_cut : MI := (cX12_cut, RX12, 5, 7, (some .int), 1)
def LX12_cut_92 (K34 : Int → Int → Int → PS → Prop) (x2 x4 s0 s1 : Int) (σ : PS) (Φ : Int → PS → Prop) : Prop :=
  ∀ v1 : Int, v1 = ior s0 s1 →
  Rg (x4 + 1) ∧
  K34 x2 v1 (x4 + 1) σ
def LX12_cut_91 (K34 : Int → Int → Int → PS → Prop) (x2 x4 s0 : Int) (σ : PS) (Φ : Int → PS → Prop) : Prop :=
  LX12_cut_92 K34 x2 x4 s0 0 σ Φ
def BX12_cut_34 (K34 : Int → Int → Int → PS → Prop) (x2 x3 x4 : Int) (σ : PS) (Φ : Int → PS → Prop) : Prop :=
  ((σ 1 2 ≤ x4 →
    Φ x3 σ) ∧
  (¬ σ 1 2 ≤ x4 →
    FX12_isOpen x4 σ (fun z2 σ3 =>
    ((z2 = 0 →
      LX12_cut_91 K34 x2 x4 x3 σ3 Φ) ∧
    (¬ z2 = 0 →
      FX12_at x4 0 σ3 (fun z5 σ6 =>
      ((¬ iand (ishr x2 z5) 1 = 1 →
        LX12_cut_91 K34 x2 x4 x3 σ6 Φ) ∧
      (iand (ishr x2 z5) 1 = 1 →
        FX12_at x4 1 σ6 (fun z8 σ9 =>
        ((¬ iand (ishr x2 z8) 1 = 0 →
          LX12_cut_91 K34 x2 x4 x3 σ9 Φ) ∧
        (iand (ishr x2 z8) 1 = 0 →
          LX12_cut_92 K34 x2 x4 x3 (ishl 1 x4) σ9 Φ)))))))))))
def LX12_cut_34 : Nat → Int → Int → Int → PS → (Int → PS → Prop) → Prop
  | 0, _, _, _, _, _ => False
  | n + 1, x2, x3, x4, σ, Φ => BX12_cut_34 (fun x2 x3 x4 σ => LX12_cut_34 n x2 x3 x4 σ Φ) x2 x3 x4 σ Φ
def LX12_cut_28 (s0 : Int) (σ : PS) (Φ : Int → PS → Prop) : Prop :=
  ∃ n, LX12_cut_34 n s0 0 0 σ Φ
def FX12_cut (a1 : Int) (σ : PS) (Φ : Int → PS → Prop) : Prop :=
  FX12_in a1 0 1 σ (fun z1 σ2 =>
  ((¬ z1 = 0 →
    ((¬ a1 = 0 →
      FX12_far σ2 (fun z5 σ6 =>
      LX12_cut_28 (ixor z5 (-1)) σ6 Φ)) ∧
    (a1 = 0 →
      FX12_near σ2 (fun z7 σ8 =>
      LX12_cut_28 z7 σ8 Φ)))) ∧
  (z1 = 0 →
    Φ (-1) σ2)))
theorem cw_RX12_192 : CWV RX12 192 yX12_far mi_X12_far := tb_r [1495, 1487, 1488, 110, 1489] (by decide +kernel)
theorem nm_yX12_far : ynm yX12_far 0 := ⟨⟨by decide +kernel, by decide +kernel⟩, by decide +kernel⟩
theorem cw_RX12_189 : CWV RX12 189 yX12_near mi_X12_near := tb_r [1494, 1479, 1480, 110, 1481] (by decide +kernel)
theorem nm_yX12_near : ynm yX12_near 0 := ⟨⟨by decide +kernel, by decide +kernel⟩, by decide +kernel⟩
set_option maxRecDepth 100000 in
theorem TX12_cut_92 {E : EV} (hE : eOK layM E) {Φ : Int → PS → Prop} {K34 : Int → Int → Int → PS → Prop} (x : CX) (hK34 : ∀ (x2 x3 x4 : Int) (σ : PS), Rg x2 → Rg x3 → Rg x4 → RS σ → K34 x2 x3 x4 σ → RW layM E mi_X12_cut Φ 34 [some (.ref (eA E 0)), none, some (.int (iz x2)), some (.int (iz x3)), some (.int (iz x4))] [] σ x) (x2 x4 s0 s1 : Int) (rx2 : Rg x2) (rx4 : Rg x4) (rs0 : Rg s0) (rs1 : Rg s1) (σ : PS) (hs : RS σ) (h : LX12_cut_92 K34 x2 x4 s0 s1 σ Φ) : RW layM E mi_X12_cut Φ 92 [some (.ref (eA E 0)), none, some (.int (iz x2)), none, some (.int (iz x4))] [.int (iz s1), .int (iz s0)] σ x := by
  refine r_ior (dc D_cX12_cut_1 16 rfl) ?_
  refine r_name (fun v1 ev1 => ?_)
  have h := h v1 ev1
  have rv1 : Rg v1 := Rg_eq ev1 (Rg_of _)
  refine r_istoren (lv' := [some (.ref (eA E 0)), none, some (.int (iz x2)), some (.int (iz v1)), some (.int (iz x4))]) (dc D_cX12_cut_1 17 rfl) rfl rfl rfl ?_
  obtain ⟨o2, h⟩ := h
  refine r_iinc (lv' := [some (.ref (eA E 0)), none, some (.int (iz x2)), some (.int (iz v1)), some (.int (iz (x4 + 1)))]) (dc D_cX12_cut_1 18 rfl) rfl rfl rfl ?_
  refine r_goto (tgt := 34) (dc D_cX12_cut_1 19 rfl) (by decide) ?_
  exact hK34 _ _ _ _ rx2 rv1 o2 hs h
set_option maxRecDepth 100000 in
theorem TX12_cut_91 {E : EV} (hE : eOK layM E) {Φ : Int → PS → Prop} {K34 : Int → Int → Int → PS → Prop} (x : CX) (hK34 : ∀ (x2 x3 x4 : Int) (σ : PS), Rg x2 → Rg x3 → Rg x4 → RS σ → K34 x2 x3 x4 σ → RW layM E mi_X12_cut Φ 34 [some (.ref (eA E 0)), none, some (.int (iz x2)), some (.int (iz x3)), some (.int (iz x4))] [] σ x) (x2 x4 s0 : Int) (rx2 : Rg x2) (rx4 : Rg x4) (rs0 : Rg s0) (σ : PS) (hs : RS σ) (h : LX12_cut_91 K34 x2 x4 s0 σ Φ) : RW layM E mi_X12_cut Φ 91 [some (.ref (eA E 0)), none, some (.int (iz x2)), none, some (.int (iz x4))] [.int (iz s0)] σ x := by
  refine r_iconst (n := 0) (dc D_cX12_cut_1 15 rfl) ?_
  exact TX12_cut_92 hE x hK34 _ _ _ _ rx2 rx4 rs0 (Rl rfl) _ hs h
set_option maxRecDepth 100000 in
theorem TBX12_cut_34 {E : EV} (hE : eOK layM E) {Φ : Int → PS → Prop} {K34 : Int → Int → Int → PS → Prop} (x : CX) (hK34 : ∀ (x2 x3 x4 : Int) (σ : PS), Rg x2 → Rg x3 → Rg x4 → RS σ → K34 x2 x3 x4 σ → RW layM E mi_X12_cut Φ 34 [some (.ref (eA E 0)), none, some (.int (iz x2)), some (.int (iz x3)), some (.int (iz x4))] [] σ x) (x2 x3 x4 : Int) (rx2 : Rg x2) (rx3 : Rg x3) (rx4 : Rg x4) (σ : PS) (hs : RS σ) (h : BX12_cut_34 K34 x2 x3 x4 σ Φ) : RW layM E mi_X12_cut Φ 34 [some (.ref (eA E 0)), none, some (.int (iz x2)), some (.int (iz x3)), some (.int (iz x4))] [] σ x := by
  refine r_iload (dc D_cX12_cut_0 21 rfl) rfl ?_
  refine r_aloadn (dc D_cX12_cut_0 22 rfl) rfl rfl ?_
  refine r_getR (dc D_cX12_cut_0 23 rfl) fw_RX12_9 lM_0 rfl ?_
  refine r_iconst (n := 2) (dc D_cX12_cut_0 24 rfl) ?_
  refine r_iald (N := 183) (dc D_cX12_cut_0 25 rfl) lM_1 rfl rfl ⟨by decide, by decide⟩ ?_
  refine r_icmp_ge (tgt := 100) (dc D_cX12_cut_0 26 rfl) (by decide) rx4 (hs _ _) (fun c1 => ?_) (fun c1 => ?_)
  · have h := h.1 c1
    refine r_iloadn (dc D_cX12_cut_1 20 rfl) rfl rfl ?_
    exact r_iret (dc D_cX12_cut_1 21 rfl) rfl rx3 h
  · have h := h.2 c1
    refine r_iloadn (dc D_cX12_cut_0 27 rfl) rfl rfl ?_
    refine r_aloadn (dc D_cX12_cut_0 28 rfl) rfl rfl ?_
    refine r_iload (dc D_cX12_cut_0 29 rfl) rfl ?_
    refine r_callV (As := [.int (iz x4)]) (st := [.int (iz x3)]) (dc D_cX12_cut_0 30 rfl) cw_RX12_98 nm_yX12_isOpen (CX12_isOpen hE _ rx4 _ hs h) lM_0 rfl rfl (by decide) rfl rfl rfl (fun z2 σ3 rz2 hσ3 h => ?_)
    show RW layM E mi_X12_cut Φ 52 [some (.ref (eA E 0)), none, some (.int (iz x2)), some (.int (iz x3)), some (.int (iz x4))] [.int (iz z2), .int (iz x3)] σ3 x
    refine r_if_eq (tgt := 91) (dc D_cX12_cut_0 31 rfl) (by decide) rz2 (fun c4 => ?_) (fun c4 => ?_)
    · have h := h.1 c4
      refine r_sub (lv' := [some (.ref (eA E 0)), none, some (.int (iz x2)), none, some (.int (iz x4))]) (subL_s (subL_n (subL_s (subL_n (subL_s subL_e))))) ?_
      exact TX12_cut_91 hE x hK34 _ _ _ rx2 rx4 rx3 _ hσ3 h
    · have h := h.2 c4
      refine r_iloadn (dc D_cX12_cut_0 32 rfl) rfl rfl ?_
      refine r_aloadn (dc D_cX12_cut_0 33 rfl) rfl rfl ?_
      refine r_iload (dc D_cX12_cut_0 34 rfl) rfl ?_
      refine r_iconst (n := 0) (dc D_cX12_cut_0 35 rfl) ?_
      refine r_callV (As := [.int (iz x4), .int (iz 0)]) (st := [.int (iz x2), .int (iz x3)]) (dc D_cX12_cut_0 36 rfl) cw_RX12_94 nm_yX12_at (CX12_at hE _ _ rx4 (Rl rfl) _ hσ3 h) lM_0 rfl rfl (by decide) rfl rfl rfl (fun z5 σ6 rz5 hσ6 h => ?_)
      show RW layM E mi_X12_cut Φ 63 [some (.ref (eA E 0)), none, some (.int (iz x2)), some (.int (iz x3)), some (.int (iz x4))] [.int (iz z5), .int (iz x2), .int (iz x3)] σ6 x
      refine r_ishr (dc D_cX12_cut_0 37 rfl) ?_
      refine r_iconst (n := 1) (dc D_cX12_cut_0 38 rfl) ?_
      refine r_iand (dc D_cX12_cut_0 39 rfl) ?_
      refine r_iconst (n := 1) (dc D_cX12_cut_1 0 rfl) ?_
      refine r_icmp_ne (tgt := 91) (dc D_cX12_cut_1 1 rfl) (by decide) (Rg_of _) (Rl rfl) (fun c7 => ?_) (fun c7 => ?_)
      · have h := h.1 c7
        refine r_sub (lv' := [some (.ref (eA E 0)), none, some (.int (iz x2)), none, some (.int (iz x4))]) (subL_s (subL_n (subL_s (subL_n (subL_s subL_e))))) ?_
        exact TX12_cut_91 hE x hK34 _ _ _ rx2 rx4 rx3 _ hσ6 h
      · have h := h.2 c7
        refine r_iloadn (dc D_cX12_cut_1 2 rfl) rfl rfl ?_
        refine r_aloadn (dc D_cX12_cut_1 3 rfl) rfl rfl ?_
        refine r_iload (dc D_cX12_cut_1 4 rfl) rfl ?_
        refine r_iconst (n := 1) (dc D_cX12_cut_1 5 rfl) ?_
        refine r_callV (As := [.int (iz x4), .int (iz 1)]) (st := [.int (iz x2), .int (iz x3)]) (dc D_cX12_cut_1 6 rfl) cw_RX12_94 nm_yX12_at (CX12_at hE _ _ rx4 (Rl rfl) _ hσ6 h) lM_0 rfl rfl (by decide) rfl rfl rfl (fun z8 σ9 rz8 hσ9 h => ?_)
        show RW layM E mi_X12_cut Φ 78 [some (.ref (eA E 0)), none, some (.int (iz x2)), some (.int (iz x3)), some (.int (iz x4))] [.int (iz z8), .int (iz x2), .int (iz x3)] σ9 x
        refine r_ishr (dc D_cX12_cut_1 7 rfl) ?_
        refine r_iconst (n := 1) (dc D_cX12_cut_1 8 rfl) ?_
        refine r_iand (dc D_cX12_cut_1 9 rfl) ?_
        refine r_if_ne (tgt := 91) (dc D_cX12_cut_1 10 rfl) (by decide) (Rg_of _) (fun c10 => ?_) (fun c10 => ?_)
        · have h := h.1 c10
          refine r_sub (lv' := [some (.ref (eA E 0)), none, some (.int (iz x2)), none, some (.int (iz x4))]) (subL_s (subL_n (subL_s (subL_n (subL_s subL_e))))) ?_
          exact TX12_cut_91 hE x hK34 _ _ _ rx2 rx4 rx3 _ hσ9 h
        · have h := h.2 c10
          refine r_iconst (n := 1) (dc D_cX12_cut_1 11 rfl) ?_
          refine r_iload (dc D_cX12_cut_1 12 rfl) rfl ?_
          refine r_ishl (dc D_cX12_cut_1 13 rfl) ?_
          refine r_goto (tgt := 92) (dc D_cX12_cut_1 14 rfl) (by decide) ?_
          refine r_sub (lv' := [some (.ref (eA E 0)), none, some (.int (iz x2)), none, some (.int (iz x4))]) (subL_s (subL_n (subL_s (subL_n (subL_s subL_e))))) ?_
          exact TX12_cut_92 hE x hK34 _ _ _ _ rx2 rx4 rx3 (Rg_of _) _ hσ9 h
theorem TX12_cut_34 {E : EV} (hE : eOK layM E) {Φ : Int → PS → Prop} (x : CX) (n : Nat) : ∀ (x2 x3 x4 : Int) (σ : PS), Rg x2 → Rg x3 → Rg x4 → RS σ → LX12_cut_34 n x2 x3 x4 σ Φ → RW layM E mi_X12_cut Φ 34 [some (.ref (eA E 0)), none, some (.int (iz x2)), some (.int (iz x3)), some (.int (iz x4))] [] σ x := by
  induction n with
  | zero => intro x2 x3 x4 σ _ _ _ _ h; exact h.elim
  | succ n ih => intro x2 x3 x4 σ rx2 rx3 rx4 hs h; exact TBX12_cut_34 hE x ih x2 x3 x4 rx2 rx3 rx4 σ hs h
set_option maxRecDepth 100000 in
theorem TX12_cut_28 {E : EV} (hE : eOK layM E) {Φ : Int → PS → Prop} (x : CX) (s0 : Int) (rs0 : Rg s0) (σ : PS) (hs : RS σ) (h : LX12_cut_28 s0 σ Φ) : RW layM E mi_X12_cut Φ 28 [some (.ref (eA E 0)), none, none, none, none] [.int (iz s0)] σ x := by
  refine r_istoren (lv' := [some (.ref (eA E 0)), none, some (.int (iz s0)), none, none]) (dc D_cX12_cut_0 16 rfl) rfl rfl rfl ?_
  refine r_iconst (n := 0) (dc D_cX12_cut_0 17 rfl) ?_
  refine r_istoren (lv' := [some (.ref (eA E 0)), none, some (.int (iz s0)), some (.int (iz 0)), none]) (dc D_cX12_cut_0 18 rfl) rfl rfl rfl ?_
  refine r_iconst (n := 0) (dc D_cX12_cut_0 19 rfl) ?_
  refine r_istore (lv' := [some (.ref (eA E 0)), none, some (.int (iz s0)), some (.int (iz 0)), some (.int (iz 0))]) (dc D_cX12_cut_0 20 rfl) rfl rfl ?_
  obtain ⟨n, h⟩ := h
  exact TX12_cut_34 hE x n _ _ _ _ rs0 (Rl rfl) (Rl rfl) hs h
set_option maxRecDepth 100000 in
theorem CX12_cut {E : EV} (hE : eOK layM E) {Φ : Int → PS → Prop} (a1 : Int) (ra1 : Rg a1) (σ : PS) (hs : RS σ) (h : FX12_cut a1 σ Φ) : CT layM E yX12_cut mi_X12_cut [.ref (eA E 0), .int (iz a1)] σ Φ := by
  refine ct_of (by decide +kernel) rfl hE rfl rfl hs (fun x => ?_)
  show RW layM E mi_X12_cut Φ 0 [some (.ref (eA E 0)), some (.int (iz a1)), none, none, none] [] σ x
  refine r_iloadn (dc D_cX12_cut_0 0 rfl) rfl rfl ?_
  refine r_iconst (n := 0) (dc D_cX12_cut_0 1 rfl) ?_
  refine r_iconst (n := 1) (dc D_cX12_cut_0 2 rfl) ?_
  refine r_callS (As := [.int (iz a1), .int (iz 0), .int (iz 1)]) (st := []) (dc D_cX12_cut_0 3 rfl) cw_RX12_90 nm_yX12_in (CX12_in hE _ _ _ ra1 (Rl rfl) (Rl rfl) _ hs h) rfl (by decide) rfl rfl rfl (fun z1 σ2 rz1 hσ2 h => ?_)
  show RW layM E mi_X12_cut Φ 6 [some (.ref (eA E 0)), some (.int (iz a1)), none, none, none] [.int (iz z1)] σ2 x
  refine r_if_ne (tgt := 11) (dc D_cX12_cut_0 4 rfl) (by decide) rz1 (fun c3 => ?_) (fun c3 => ?_)
  · have h := h.1 c3
    refine r_iloadn (dc D_cX12_cut_0 7 rfl) rfl rfl ?_
    refine r_if_ne (tgt := 22) (dc D_cX12_cut_0 8 rfl) (by decide) ra1 (fun c4 => ?_) (fun c4 => ?_)
    · have h := h.1 c4
      refine r_aloadn (dc D_cX12_cut_0 12 rfl) rfl rfl ?_
      refine r_callV (As := []) (st := []) (dc D_cX12_cut_0 13 rfl) cw_RX12_192 nm_yX12_far (CX12_far hE  _ hσ2 h) lM_0 rfl rfl (by decide) rfl rfl rfl (fun z5 σ6 rz5 hσ6 h => ?_)
      show RW layM E mi_X12_cut Φ 26 [some (.ref (eA E 0)), some (.int (iz a1)), none, none, none] [.int (iz z5)] σ6 x
      refine r_iconst (n := (-1)) (dc D_cX12_cut_0 14 rfl) ?_
      refine r_ixor (dc D_cX12_cut_0 15 rfl) ?_
      refine r_sub (lv' := [some (.ref (eA E 0)), none, none, none, none]) (subL_s (subL_n (subL_n (subL_n (subL_n subL_e))))) ?_
      exact TX12_cut_28 hE x _ (Rg_of _) _ hσ6 h
    · have h := h.2 c4
      refine r_aloadn (dc D_cX12_cut_0 9 rfl) rfl rfl ?_
      refine r_callV (As := []) (st := []) (dc D_cX12_cut_0 10 rfl) cw_RX12_189 nm_yX12_near (CX12_near hE  _ hσ2 h) lM_0 rfl rfl (by decide) rfl rfl rfl (fun z7 σ8 rz7 hσ8 h => ?_)
      show RW layM E mi_X12_cut Φ 19 [some (.ref (eA E 0)), some (.int (iz a1)), none, none, none] [.int (iz z7)] σ8 x
      refine r_goto (tgt := 28) (dc D_cX12_cut_0 11 rfl) (by decide) ?_
      refine r_sub (lv' := [some (.ref (eA E 0)), none, none, none, none]) (subL_s (subL_n (subL_n (subL_n (subL_n subL_e))))) ?_
      exact TX12_cut_28 hE x _ rz7 _ hσ8 h
  · have h := h.2 c3
    refine r_iconst (n := (-1)) (dc D_cX12_cut_0 5 rfl) ?_
    exact r_iret (dc D_cX12_cut_0 6 rfl) rfl (Rl rfl) h
-- end of GateFlowModel.cut
def mi_X12_flowsWith : MI := (cX12_flowsWith, RX12, 3, 5, (some .int), 1)
def FX12_flowsWith (a1 a2 : Int) (σ : PS) (Φ : Int → PS → Prop) : Prop :=
  FX12_mayAll σ (fun z1 σ2 =>
  (0 ≤ a1 ∧ a1 < 30) ∧
  Rg ((σ2 3 a1.toNat) + a2) ∧
  (0 ≤ a1 ∧ a1 < 30) ∧
  ∀ σ6 : PS, σ6 = up2 σ2 3 a1.toNat ((σ2 3 a1.toNat) + a2) →
  FX12_flows σ6 (fun z7 σ8 =>
  Φ z7 σ8))
set_option maxRecDepth 100000 in
theorem CX12_flowsWith {E : EV} (hE : eOK layM E) {Φ : Int → PS → Prop} (a1 a2 : Int) (ra1 : Rg a1) (ra2 : Rg a2) (σ : PS) (hs : RS σ) (h : FX12_flowsWith a1 a2 σ Φ) : CT layM E yX12_flowsWith mi_X12_flowsWith [.ref (eA E 0), .int (iz a1), .int (iz a2)] σ Φ := by
  refine ct_of (by decide +kernel) rfl hE rfl rfl hs (fun x => ?_)
  show RW layM E mi_X12_flowsWith Φ 0 [some (.ref (eA E 0)), some (.int (iz a1)), some (.int (iz a2))] [] σ x
  refine r_aloadn (dc D_cX12_flowsWith_0 0 rfl) rfl rfl ?_
  refine r_callV (As := []) (st := []) (dc D_cX12_flowsWith_0 1 rfl) cw_RX12_153 nm_yX12_mayAll (CX12_mayAll hE  _ hs h) lM_0 rfl rfl (by decide) rfl rfl rfl (fun z1 σ2 rz1 hσ2 h => ?_)
  show RW layM E mi_X12_flowsWith Φ 4 [some (.ref (eA E 0)), some (.int (iz a1)), some (.int (iz a2))] [] σ2 x
  refine r_aloadn (dc D_cX12_flowsWith_0 2 rfl) rfl rfl ?_
  refine r_getR (dc D_cX12_flowsWith_0 3 rfl) fw_RX12_16 lM_0 rfl ?_
  refine r_iloadn (dc D_cX12_flowsWith_0 4 rfl) rfl rfl ?_
  refine r_dup2 (dc D_cX12_flowsWith_0 5 rfl) rfl rfl ?_
  obtain ⟨o3, h⟩ := h
  refine r_iald (N := 30) (dc D_cX12_flowsWith_0 6 rfl) lM_3 rfl rfl o3 ?_
  refine r_iloadn (dc D_cX12_flowsWith_0 7 rfl) rfl rfl ?_
  refine r_iadd (dc D_cX12_flowsWith_0 8 rfl) ?_
  obtain ⟨o4, h⟩ := h
  obtain ⟨o5, h⟩ := h
  refine r_iast (N := 30) (dc D_cX12_flowsWith_0 9 rfl) lM_3 rfl rfl o5 o4 ?_
  refine r_sig (fun σ6 eσ6 => ?_)
  have h := h σ6 eσ6
  have hσ6 : RS σ6 := RS_eq eσ6 (RS.up hσ2 o4 _ _)
  refine r_aloadn (dc D_cX12_flowsWith_0 10 rfl) rfl rfl ?_
  refine r_callV (As := []) (st := []) (dc D_cX12_flowsWith_0 11 rfl) cw_RX12_156 nm_yX12_flows (CX12_flows hE  _ hσ6 h) lM_0 rfl rfl (by decide) rfl rfl rfl (fun z7 σ8 rz7 hσ8 h => ?_)
  show RW layM E mi_X12_flowsWith Φ 18 [some (.ref (eA E 0)), some (.int (iz a1)), some (.int (iz a2))] [.int (iz z7)] σ8 x
  exact r_iret (dc D_cX12_flowsWith_0 12 rfl) rfl rz7 h
-- end of GateFlowModel.flowsWith
def mi_X12_wide : MI := (cX12_wide, RX12, 4, 6, (some .int), 1)
def LX12_wide_45 (K9 : Int → Int → Int → PS → Prop) (x1 x3 s0 s1 : Int) (σ : PS) (Φ : Int → PS → Prop) : Prop :=
  ∀ v1 : Int, v1 = ior s0 s1 →
  Rg (x3 + 1) ∧
  K9 x1 v1 (x3 + 1) σ
def LX12_wide_44 (K9 : Int → Int → Int → PS → Prop) (x1 x3 s0 : Int) (σ : PS) (Φ : Int → PS → Prop) : Prop :=
  LX12_wide_45 K9 x1 x3 s0 0 σ Φ
def BX12_wide_9 (K9 : Int → Int → Int → PS → Prop) (x1 x2 x3 : Int) (σ : PS) (Φ : Int → PS → Prop) : Prop :=
  ((σ 1 2 ≤ x3 →
    Φ x2 σ) ∧
  (¬ σ 1 2 ≤ x3 →
    FX12_isOpen x3 σ (fun z2 σ3 =>
    ((z2 = 0 →
      LX12_wide_44 K9 x1 x3 x2 σ3 Φ) ∧
    (¬ z2 = 0 →
      FX12_flowsWith x3 1 σ3 (fun z5 σ6 =>
      ((z5 ≤ x1 →
        LX12_wide_44 K9 x1 x3 x2 σ6 Φ) ∧
      (¬ z5 ≤ x1 →
        LX12_wide_45 K9 x1 x3 x2 (ishl 1 x3) σ6 Φ))))))))
def LX12_wide_9 : Nat → Int → Int → Int → PS → (Int → PS → Prop) → Prop
  | 0, _, _, _, _, _ => False
  | n + 1, x1, x2, x3, σ, Φ => BX12_wide_9 (fun x1 x2 x3 σ => LX12_wide_9 n x1 x2 x3 σ Φ) x1 x2 x3 σ Φ
def FX12_wide (σ : PS) (Φ : Int → PS → Prop) : Prop :=
  FX12_flowsNow σ (fun z1 σ2 =>
  ∃ n, LX12_wide_9 n z1 0 0 σ2 Φ)
theorem cw_RX12_194 : CWV RX12 194 yX12_flowsWith mi_X12_flowsWith := tb_r [1500, 1502, 63, 110, 1503] (by decide +kernel)
theorem nm_yX12_flowsWith : ynm yX12_flowsWith 2 := ⟨⟨by decide +kernel, by decide +kernel⟩, by decide +kernel⟩
set_option maxRecDepth 100000 in
theorem TX12_wide_45 {E : EV} (hE : eOK layM E) {Φ : Int → PS → Prop} {K9 : Int → Int → Int → PS → Prop} (x : CX) (hK9 : ∀ (x1 x2 x3 : Int) (σ : PS), Rg x1 → Rg x2 → Rg x3 → RS σ → K9 x1 x2 x3 σ → RW layM E mi_X12_wide Φ 9 [some (.ref (eA E 0)), some (.int (iz x1)), some (.int (iz x2)), some (.int (iz x3))] [] σ x) (x1 x3 s0 s1 : Int) (rx1 : Rg x1) (rx3 : Rg x3) (rs0 : Rg s0) (rs1 : Rg s1) (σ : PS) (hs : RS σ) (h : LX12_wide_45 K9 x1 x3 s0 s1 σ Φ) : RW layM E mi_X12_wide Φ 45 [some (.ref (eA E 0)), some (.int (iz x1)), none, some (.int (iz x3))] [.int (iz s1), .int (iz s0)] σ x := by
  refine r_ior (dc D_cX12_wide_0 29 rfl) ?_
  refine r_name (fun v1 ev1 => ?_)
  have h := h v1 ev1
  have rv1 : Rg v1 := Rg_eq ev1 (Rg_of _)
  refine r_istoren (lv' := [some (.ref (eA E 0)), some (.int (iz x1)), some (.int (iz v1)), some (.int (iz x3))]) (dc D_cX12_wide_0 30 rfl) rfl rfl rfl ?_
  obtain ⟨o2, h⟩ := h
  refine r_iinc (lv' := [some (.ref (eA E 0)), some (.int (iz x1)), some (.int (iz v1)), some (.int (iz (x3 + 1)))]) (dc D_cX12_wide_0 31 rfl) rfl rfl rfl ?_
  refine r_goto (tgt := 9) (dc D_cX12_wide_0 32 rfl) (by decide) ?_
  exact hK9 _ _ _ _ rx1 rv1 o2 hs h
set_option maxRecDepth 100000 in
theorem TX12_wide_44 {E : EV} (hE : eOK layM E) {Φ : Int → PS → Prop} {K9 : Int → Int → Int → PS → Prop} (x : CX) (hK9 : ∀ (x1 x2 x3 : Int) (σ : PS), Rg x1 → Rg x2 → Rg x3 → RS σ → K9 x1 x2 x3 σ → RW layM E mi_X12_wide Φ 9 [some (.ref (eA E 0)), some (.int (iz x1)), some (.int (iz x2)), some (.int (iz x3))] [] σ x) (x1 x3 s0 : Int) (rx1 : Rg x1) (rx3 : Rg x3) (rs0 : Rg s0) (σ : PS) (hs : RS σ) (h : LX12_wide_44 K9 x1 x3 s0 σ Φ) : RW layM E mi_X12_wide Φ 44 [some (.ref (eA E 0)), some (.int (iz x1)), none, some (.int (iz x3))] [.int (iz s0)] σ x := by
  refine r_iconst (n := 0) (dc D_cX12_wide_0 28 rfl) ?_
  exact TX12_wide_45 hE x hK9 _ _ _ _ rx1 rx3 rs0 (Rl rfl) _ hs h
set_option maxRecDepth 100000 in
theorem TBX12_wide_9 {E : EV} (hE : eOK layM E) {Φ : Int → PS → Prop} {K9 : Int → Int → Int → PS → Prop} (x : CX) (hK9 : ∀ (x1 x2 x3 : Int) (σ : PS), Rg x1 → Rg x2 → Rg x3 → RS σ → K9 x1 x2 x3 σ → RW layM E mi_X12_wide Φ 9 [some (.ref (eA E 0)), some (.int (iz x1)), some (.int (iz x2)), some (.int (iz x3))] [] σ x) (x1 x2 x3 : Int) (rx1 : Rg x1) (rx2 : Rg x2) (rx3 : Rg x3) (σ : PS) (hs : RS σ) (h : BX12_wide_9 K9 x1 x2 x3 σ Φ) : RW layM E mi_X12_wide Φ 9 [some (.ref (eA E 0)), some (.int (iz x1)), some (.int (iz x2)), some (.int (iz x3))] [] σ x := by
  refine r_iloadn (dc D_cX12_wide_0 7 rfl) rfl rfl ?_
  refine r_aloadn (dc D_cX12_wide_0 8 rfl) rfl rfl ?_
  refine r_getR (dc D_cX12_wide_0 9 rfl) fw_RX12_9 lM_0 rfl ?_
  refine r_iconst (n := 2) (dc D_cX12_wide_0 10 rfl) ?_
  refine r_iald (N := 183) (dc D_cX12_wide_0 11 rfl) lM_1 rfl rfl ⟨by decide, by decide⟩ ?_
  refine r_icmp_ge (tgt := 53) (dc D_cX12_wide_0 12 rfl) (by decide) rx3 (hs _ _) (fun c1 => ?_) (fun c1 => ?_)
  · have h := h.1 c1
    refine r_iloadn (dc D_cX12_wide_0 33 rfl) rfl rfl ?_
    exact r_iret (dc D_cX12_wide_0 34 rfl) rfl rx2 h
  · have h := h.2 c1
    refine r_iloadn (dc D_cX12_wide_0 13 rfl) rfl rfl ?_
    refine r_aloadn (dc D_cX12_wide_0 14 rfl) rfl rfl ?_
    refine r_iloadn (dc D_cX12_wide_0 15 rfl) rfl rfl ?_
    refine r_callV (As := [.int (iz x3)]) (st := [.int (iz x2)]) (dc D_cX12_wide_0 16 rfl) cw_RX12_98 nm_yX12_isOpen (CX12_isOpen hE _ rx3 _ hs h) lM_0 rfl rfl (by decide) rfl rfl rfl (fun z2 σ3 rz2 hσ3 h => ?_)
    show RW layM E mi_X12_wide Φ 25 [some (.ref (eA E 0)), some (.int (iz x1)), some (.int (iz x2)), some (.int (iz x3))] [.int (iz z2), .int (iz x2)] σ3 x
    refine r_if_eq (tgt := 44) (dc D_cX12_wide_0 17 rfl) (by decide) rz2 (fun c4 => ?_) (fun c4 => ?_)
    · have h := h.1 c4
      refine r_sub (lv' := [some (.ref (eA E 0)), some (.int (iz x1)), none, some (.int (iz x3))]) (subL_s (subL_s (subL_n (subL_s subL_e)))) ?_
      exact TX12_wide_44 hE x hK9 _ _ _ rx1 rx3 rx2 _ hσ3 h
    · have h := h.2 c4
      refine r_aloadn (dc D_cX12_wide_0 18 rfl) rfl rfl ?_
      refine r_iloadn (dc D_cX12_wide_0 19 rfl) rfl rfl ?_
      refine r_iconst (n := 1) (dc D_cX12_wide_0 20 rfl) ?_
      refine r_callV (As := [.int (iz x3), .int (iz 1)]) (st := [.int (iz x2)]) (dc D_cX12_wide_0 21 rfl) cw_RX12_194 nm_yX12_flowsWith (CX12_flowsWith hE _ _ rx3 (Rl rfl) _ hσ3 h) lM_0 rfl rfl (by decide) rfl rfl rfl (fun z5 σ6 rz5 hσ6 h => ?_)
      show RW layM E mi_X12_wide Φ 34 [some (.ref (eA E 0)), some (.int (iz x1)), some (.int (iz x2)), some (.int (iz x3))] [.int (iz z5), .int (iz x2)] σ6 x
      refine r_iloadn (dc D_cX12_wide_0 22 rfl) rfl rfl ?_
      refine r_icmp_le (tgt := 44) (dc D_cX12_wide_0 23 rfl) (by decide) rz5 rx1 (fun c7 => ?_) (fun c7 => ?_)
      · have h := h.1 c7
        refine r_sub (lv' := [some (.ref (eA E 0)), some (.int (iz x1)), none, some (.int (iz x3))]) (subL_s (subL_s (subL_n (subL_s subL_e)))) ?_
        exact TX12_wide_44 hE x hK9 _ _ _ rx1 rx3 rx2 _ hσ6 h
      · have h := h.2 c7
        refine r_iconst (n := 1) (dc D_cX12_wide_0 24 rfl) ?_
        refine r_iloadn (dc D_cX12_wide_0 25 rfl) rfl rfl ?_
        refine r_ishl (dc D_cX12_wide_0 26 rfl) ?_
        refine r_goto (tgt := 45) (dc D_cX12_wide_0 27 rfl) (by decide) ?_
        refine r_sub (lv' := [some (.ref (eA E 0)), some (.int (iz x1)), none, some (.int (iz x3))]) (subL_s (subL_s (subL_n (subL_s subL_e)))) ?_
        exact TX12_wide_45 hE x hK9 _ _ _ _ rx1 rx3 rx2 (Rg_of _) _ hσ6 h
theorem TX12_wide_9 {E : EV} (hE : eOK layM E) {Φ : Int → PS → Prop} (x : CX) (n : Nat) : ∀ (x1 x2 x3 : Int) (σ : PS), Rg x1 → Rg x2 → Rg x3 → RS σ → LX12_wide_9 n x1 x2 x3 σ Φ → RW layM E mi_X12_wide Φ 9 [some (.ref (eA E 0)), some (.int (iz x1)), some (.int (iz x2)), some (.int (iz x3))] [] σ x := by
  induction n with
  | zero => intro x1 x2 x3 σ _ _ _ _ h; exact h.elim
  | succ n ih => intro x1 x2 x3 σ rx1 rx2 rx3 hs h; exact TBX12_wide_9 hE x ih x1 x2 x3 rx1 rx2 rx3 σ hs h
set_option maxRecDepth 100000 in
theorem CX12_wide {E : EV} (hE : eOK layM E) {Φ : Int → PS → Prop} (σ : PS) (hs : RS σ) (h : FX12_wide σ Φ) : CT layM E yX12_wide mi_X12_wide [.ref (eA E 0)] σ Φ := by
  refine ct_of (by decide +kernel) rfl hE rfl rfl hs (fun x => ?_)
  show RW layM E mi_X12_wide Φ 0 [some (.ref (eA E 0)), none, none, none] [] σ x
  refine r_aloadn (dc D_cX12_wide_0 0 rfl) rfl rfl ?_
  refine r_callV (As := []) (st := []) (dc D_cX12_wide_0 1 rfl) cw_RX12_160 nm_yX12_flowsNow (CX12_flowsNow hE  _ hs h) lM_0 rfl rfl (by decide) rfl rfl rfl (fun z1 σ2 rz1 hσ2 h => ?_)
  show RW layM E mi_X12_wide Φ 4 [some (.ref (eA E 0)), none, none, none] [.int (iz z1)] σ2 x
  refine r_istoren (lv' := [some (.ref (eA E 0)), some (.int (iz z1)), none, none]) (dc D_cX12_wide_0 2 rfl) rfl rfl rfl ?_
  refine r_iconst (n := 0) (dc D_cX12_wide_0 3 rfl) ?_
  refine r_istoren (lv' := [some (.ref (eA E 0)), some (.int (iz z1)), some (.int (iz 0)), none]) (dc D_cX12_wide_0 4 rfl) rfl rfl rfl ?_
  refine r_iconst (n := 0) (dc D_cX12_wide_0 5 rfl) ?_
  refine r_istoren (lv' := [some (.ref (eA E 0)), some (.int (iz z1)), some (.int (iz 0)), some (.int (iz 0))]) (dc D_cX12_wide_0 6 rfl) rfl rfl rfl ?_
  obtain ⟨n, h⟩ := h
  exact TX12_wide_9 hE x n _ _ _ _ rz1 (Rl rfl) (Rl rfl) hσ2 h
-- end of GateFlowModel.wide
def mi_X12_narrow : MI := (cX12_narrow, RX12, 4, 6, (some .int), 1)
def LX12_narrow_45 (K9 : Int → Int → Int → PS → Prop) (x1 x3 s0 s1 : Int) (σ : PS) (Φ : Int → PS → Prop) : Prop :=
  ∀ v1 : Int, v1 = ior s0 s1 →
  Rg (x3 + 1) ∧
  K9 x1 v1 (x3 + 1) σ
def LX12_narrow_44 (K9 : Int → Int → Int → PS → Prop) (x1 x3 s0 : Int) (σ : PS) (Φ : Int → PS → Prop) : Prop :=
  LX12_narrow_45 K9 x1 x3 s0 0 σ Φ
def BX12_narrow_9 (K9 : Int → Int → Int → PS → Prop) (x1 x2 x3 : Int) (σ : PS) (Φ : Int → PS → Prop) : Prop :=
  ((σ 1 2 ≤ x3 →
    Φ x2 σ) ∧
  (¬ σ 1 2 ≤ x3 →
    FX12_capacity x3 σ (fun z2 σ3 =>
    ((z2 ≤ 0 →
      LX12_narrow_44 K9 x1 x3 x2 σ3 Φ) ∧
    (¬ z2 ≤ 0 →
      FX12_flowsWith x3 (-1) σ3 (fun z5 σ6 =>
      ((x1 ≤ z5 →
        LX12_narrow_44 K9 x1 x3 x2 σ6 Φ) ∧
      (¬ x1 ≤ z5 →
        LX12_narrow_45 K9 x1 x3 x2 (ishl 1 x3) σ6 Φ))))))))
def LX12_narrow_9 : Nat → Int → Int → Int → PS → (Int → PS → Prop) → Prop
  | 0, _, _, _, _, _ => False
  | n + 1, x1, x2, x3, σ, Φ => BX12_narrow_9 (fun x1 x2 x3 σ => LX12_narrow_9 n x1 x2 x3 σ Φ) x1 x2 x3 σ Φ
def FX12_narrow (σ : PS) (Φ : Int → PS → Prop) : Prop :=
  FX12_flowsNow σ (fun z1 σ2 =>
  ∃ n, LX12_narrow_9 n z1 0 0 σ2 Φ)
set_option maxRecDepth 100000 in
theorem TX12_narrow_45 {E : EV} (hE : eOK layM E) {Φ : Int → PS → Prop} {K9 : Int → Int → Int → PS → Prop} (x : CX) (hK9 : ∀ (x1 x2 x3 : Int) (σ : PS), Rg x1 → Rg x2 → Rg x3 → RS σ → K9 x1 x2 x3 σ → RW layM E mi_X12_narrow Φ 9 [some (.ref (eA E 0)), some (.int (iz x1)), some (.int (iz x2)), some (.int (iz x3))] [] σ x) (x1 x3 s0 s1 : Int) (rx1 : Rg x1) (rx3 : Rg x3) (rs0 : Rg s0) (rs1 : Rg s1) (σ : PS) (hs : RS σ) (h : LX12_narrow_45 K9 x1 x3 s0 s1 σ Φ) : RW layM E mi_X12_narrow Φ 45 [some (.ref (eA E 0)), some (.int (iz x1)), none, some (.int (iz x3))] [.int (iz s1), .int (iz s0)] σ x := by
  refine r_ior (dc D_cX12_narrow_0 29 rfl) ?_
  refine r_name (fun v1 ev1 => ?_)
  have h := h v1 ev1
  have rv1 : Rg v1 := Rg_eq ev1 (Rg_of _)
  refine r_istoren (lv' := [some (.ref (eA E 0)), some (.int (iz x1)), some (.int (iz v1)), some (.int (iz x3))]) (dc D_cX12_narrow_0 30 rfl) rfl rfl rfl ?_
  obtain ⟨o2, h⟩ := h
  refine r_iinc (lv' := [some (.ref (eA E 0)), some (.int (iz x1)), some (.int (iz v1)), some (.int (iz (x3 + 1)))]) (dc D_cX12_narrow_0 31 rfl) rfl rfl rfl ?_
  refine r_goto (tgt := 9) (dc D_cX12_narrow_0 32 rfl) (by decide) ?_
  exact hK9 _ _ _ _ rx1 rv1 o2 hs h
set_option maxRecDepth 100000 in
theorem TX12_narrow_44 {E : EV} (hE : eOK layM E) {Φ : Int → PS → Prop} {K9 : Int → Int → Int → PS → Prop} (x : CX) (hK9 : ∀ (x1 x2 x3 : Int) (σ : PS), Rg x1 → Rg x2 → Rg x3 → RS σ → K9 x1 x2 x3 σ → RW layM E mi_X12_narrow Φ 9 [some (.ref (eA E 0)), some (.int (iz x1)), some (.int (iz x2)), some (.int (iz x3))] [] σ x) (x1 x3 s0 : Int) (rx1 : Rg x1) (rx3 : Rg x3) (rs0 : Rg s0) (σ : PS) (hs : RS σ) (h : LX12_narrow_44 K9 x1 x3 s0 σ Φ) : RW layM E mi_X12_narrow Φ 44 [some (.ref (eA E 0)), some (.int (iz x1)), none, some (.int (iz x3))] [.int (iz s0)] σ x := by
  refine r_iconst (n := 0) (dc D_cX12_narrow_0 28 rfl) ?_
  exact TX12_narrow_45 hE x hK9 _ _ _ _ rx1 rx3 rs0 (Rl rfl) _ hs h
set_option maxRecDepth 100000 in
theorem TBX12_narrow_9 {E : EV} (hE : eOK layM E) {Φ : Int → PS → Prop} {K9 : Int → Int → Int → PS → Prop} (x : CX) (hK9 : ∀ (x1 x2 x3 : Int) (σ : PS), Rg x1 → Rg x2 → Rg x3 → RS σ → K9 x1 x2 x3 σ → RW layM E mi_X12_narrow Φ 9 [some (.ref (eA E 0)), some (.int (iz x1)), some (.int (iz x2)), some (.int (iz x3))] [] σ x) (x1 x2 x3 : Int) (rx1 : Rg x1) (rx2 : Rg x2) (rx3 : Rg x3) (σ : PS) (hs : RS σ) (h : BX12_narrow_9 K9 x1 x2 x3 σ Φ) : RW layM E mi_X12_narrow Φ 9 [some (.ref (eA E 0)), some (.int (iz x1)), some (.int (iz x2)), some (.int (iz x3))] [] σ x := by
  refine r_iloadn (dc D_cX12_narrow_0 7 rfl) rfl rfl ?_
  refine r_aloadn (dc D_cX12_narrow_0 8 rfl) rfl rfl ?_
  refine r_getR (dc D_cX12_narrow_0 9 rfl) fw_RX12_9 lM_0 rfl ?_
  refine r_iconst (n := 2) (dc D_cX12_narrow_0 10 rfl) ?_
  refine r_iald (N := 183) (dc D_cX12_narrow_0 11 rfl) lM_1 rfl rfl ⟨by decide, by decide⟩ ?_
  refine r_icmp_ge (tgt := 53) (dc D_cX12_narrow_0 12 rfl) (by decide) rx3 (hs _ _) (fun c1 => ?_) (fun c1 => ?_)
  · have h := h.1 c1
    refine r_iloadn (dc D_cX12_narrow_0 33 rfl) rfl rfl ?_
    exact r_iret (dc D_cX12_narrow_0 34 rfl) rfl rx2 h
  · have h := h.2 c1
    refine r_iloadn (dc D_cX12_narrow_0 13 rfl) rfl rfl ?_
    refine r_aloadn (dc D_cX12_narrow_0 14 rfl) rfl rfl ?_
    refine r_iloadn (dc D_cX12_narrow_0 15 rfl) rfl rfl ?_
    refine r_callV (As := [.int (iz x3)]) (st := [.int (iz x2)]) (dc D_cX12_narrow_0 16 rfl) cw_RX12_150 nm_yX12_capacity (CX12_capacity hE _ rx3 _ hs h) lM_0 rfl rfl (by decide) rfl rfl rfl (fun z2 σ3 rz2 hσ3 h => ?_)
    show RW layM E mi_X12_narrow Φ 25 [some (.ref (eA E 0)), some (.int (iz x1)), some (.int (iz x2)), some (.int (iz x3))] [.int (iz z2), .int (iz x2)] σ3 x
    refine r_if_le (tgt := 44) (dc D_cX12_narrow_0 17 rfl) (by decide) rz2 (fun c4 => ?_) (fun c4 => ?_)
    · have h := h.1 c4
      refine r_sub (lv' := [some (.ref (eA E 0)), some (.int (iz x1)), none, some (.int (iz x3))]) (subL_s (subL_s (subL_n (subL_s subL_e)))) ?_
      exact TX12_narrow_44 hE x hK9 _ _ _ rx1 rx3 rx2 _ hσ3 h
    · have h := h.2 c4
      refine r_aloadn (dc D_cX12_narrow_0 18 rfl) rfl rfl ?_
      refine r_iloadn (dc D_cX12_narrow_0 19 rfl) rfl rfl ?_
      refine r_iconst (n := (-1)) (dc D_cX12_narrow_0 20 rfl) ?_
      refine r_callV (As := [.int (iz x3), .int (iz (-1))]) (st := [.int (iz x2)]) (dc D_cX12_narrow_0 21 rfl) cw_RX12_194 nm_yX12_flowsWith (CX12_flowsWith hE _ _ rx3 (Rl rfl) _ hσ3 h) lM_0 rfl rfl (by decide) rfl rfl rfl (fun z5 σ6 rz5 hσ6 h => ?_)
      show RW layM E mi_X12_narrow Φ 34 [some (.ref (eA E 0)), some (.int (iz x1)), some (.int (iz x2)), some (.int (iz x3))] [.int (iz z5), .int (iz x2)] σ6 x
      refine r_iloadn (dc D_cX12_narrow_0 22 rfl) rfl rfl ?_
      refine r_icmp_ge (tgt := 44) (dc D_cX12_narrow_0 23 rfl) (by decide) rz5 rx1 (fun c7 => ?_) (fun c7 => ?_)
      · have h := h.1 c7
        refine r_sub (lv' := [some (.ref (eA E 0)), some (.int (iz x1)), none, some (.int (iz x3))]) (subL_s (subL_s (subL_n (subL_s subL_e)))) ?_
        exact TX12_narrow_44 hE x hK9 _ _ _ rx1 rx3 rx2 _ hσ6 h
      · have h := h.2 c7
        refine r_iconst (n := 1) (dc D_cX12_narrow_0 24 rfl) ?_
        refine r_iloadn (dc D_cX12_narrow_0 25 rfl) rfl rfl ?_
        refine r_ishl (dc D_cX12_narrow_0 26 rfl) ?_
        refine r_goto (tgt := 45) (dc D_cX12_narrow_0 27 rfl) (by decide) ?_
        refine r_sub (lv' := [some (.ref (eA E 0)), some (.int (iz x1)), none, some (.int (iz x3))]) (subL_s (subL_s (subL_n (subL_s subL_e)))) ?_
        exact TX12_narrow_45 hE x hK9 _ _ _ _ rx1 rx3 rx2 (Rg_of _) _ hσ6 h
theorem TX12_narrow_9 {E : EV} (hE : eOK layM E) {Φ : Int → PS → Prop} (x : CX) (n : Nat) : ∀ (x1 x2 x3 : Int) (σ : PS), Rg x1 → Rg x2 → Rg x3 → RS σ → LX12_narrow_9 n x1 x2 x3 σ Φ → RW layM E mi_X12_narrow Φ 9 [some (.ref (eA E 0)), some (.int (iz x1)), some (.int (iz x2)), some (.int (iz x3))] [] σ x := by
  induction n with
  | zero => intro x1 x2 x3 σ _ _ _ _ h; exact h.elim
  | succ n ih => intro x1 x2 x3 σ rx1 rx2 rx3 hs h; exact TBX12_narrow_9 hE x ih x1 x2 x3 rx1 rx2 rx3 σ hs h
set_option maxRecDepth 100000 in
theorem CX12_narrow {E : EV} (hE : eOK layM E) {Φ : Int → PS → Prop} (σ : PS) (hs : RS σ) (h : FX12_narrow σ Φ) : CT layM E yX12_narrow mi_X12_narrow [.ref (eA E 0)] σ Φ := by
  refine ct_of (by decide +kernel) rfl hE rfl rfl hs (fun x => ?_)
  show RW layM E mi_X12_narrow Φ 0 [some (.ref (eA E 0)), none, none, none] [] σ x
  refine r_aloadn (dc D_cX12_narrow_0 0 rfl) rfl rfl ?_
  refine r_callV (As := []) (st := []) (dc D_cX12_narrow_0 1 rfl) cw_RX12_160 nm_yX12_flowsNow (CX12_flowsNow hE  _ hs h) lM_0 rfl rfl (by decide) rfl rfl rfl (fun z1 σ2 rz1 hσ2 h => ?_)
  show RW layM E mi_X12_narrow Φ 4 [some (.ref (eA E 0)), none, none, none] [.int (iz z1)] σ2 x
  refine r_istoren (lv' := [some (.ref (eA E 0)), some (.int (iz z1)), none, none]) (dc D_cX12_narrow_0 2 rfl) rfl rfl rfl ?_
  refine r_iconst (n := 0) (dc D_cX12_narrow_0 3 rfl) ?_
  refine r_istoren (lv' := [some (.ref (eA E 0)), some (.int (iz z1)), some (.int (iz 0)), none]) (dc D_cX12_narrow_0 4 rfl) rfl rfl rfl ?_
  refine r_iconst (n := 0) (dc D_cX12_narrow_0 5 rfl) ?_
  refine r_istoren (lv' := [some (.ref (eA E 0)), some (.int (iz z1)), some (.int (iz 0)), some (.int (iz 0))]) (dc D_cX12_narrow_0 6 rfl) rfl rfl rfl ?_
  obtain ⟨n, h⟩ := h
  exact TX12_narrow_9 hE x n _ _ _ _ rz1 (Rl rfl) (Rl rfl) hσ2 h
-- end of GateFlowModel.narrow
