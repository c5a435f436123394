def mi_X12_more : MI := (cX12_more, RX12, 3, 6, (some .int), 1)
def FX12_more (a1 a2 : Int) (σ : PS) (Φ : Int → PS → Prop) : Prop :=
  FX12_isGate a1 σ (fun z1 σ2 =>
  ((¬ z1 = 0 →
    FX12_in a2 0 999 σ2 (fun z4 σ5 =>
    ((¬ z4 = 0 →
      FX12_isOpen a1 σ5 (fun z7 σ8 =>
      ((z7 = 0 →
        Φ (-3) σ8) ∧
      (¬ z7 = 0 →
        FX12_flowsWith a1 a2 σ8 (fun z10 σ11 =>
        FX12_flowsNow σ11 (fun z12 σ13 =>
        Rg (z10 - z12) ∧
        Φ (z10 - z12) σ13)))))) ∧
    (z4 = 0 →
      Φ (-2) σ5)))) ∧
  (z1 = 0 →
    Φ (-1) σ2)))
set_option maxRecDepth 100000 in
theorem CX12_more {E : EV} (hE : eOK layM E) {Φ : Int → PS → Prop} (a1 a2 : Int) (ra1 : Rg a1) (ra2 : Rg a2) (σ : PS) (hs : RS σ) (h : FX12_more a1 a2 σ Φ) : CT layM E yX12_more mi_X12_more [.ref (eA E 0), .int (iz a1), .int (iz a2)] σ Φ := by
  refine ct_of (by decide +kernel) rfl hE rfl rfl hs (fun x => ?_)
  show RW layM E mi_X12_more Φ 0 [some (.ref (eA E 0)), some (.int (iz a1)), some (.int (iz a2))] [] σ x
  refine r_aloadn (dc D_cX12_more_0 0 rfl) rfl rfl ?_
  refine r_iloadn (dc D_cX12_more_0 1 rfl) rfl rfl ?_
  refine r_callV (As := [.int (iz a1)]) (st := []) (dc D_cX12_more_0 2 rfl) cw_RX12_113 nm_yX12_isGate (CX12_isGate hE _ ra1 _ hs h) lM_0 rfl rfl (by decide) rfl rfl rfl (fun z1 σ2 rz1 hσ2 h => ?_)
  show RW layM E mi_X12_more Φ 5 [some (.ref (eA E 0)), some (.int (iz a1)), some (.int (iz a2))] [.int (iz z1)] σ2 x
  refine r_if_ne (tgt := 10) (dc D_cX12_more_0 3 rfl) (by decide) rz1 (fun c3 => ?_) (fun c3 => ?_)
  · have h := h.1 c3
    refine r_iloadn (dc D_cX12_more_0 6 rfl) rfl rfl ?_
    refine r_iconst (n := 0) (dc D_cX12_more_0 7 rfl) ?_
    refine r_sipush (n := 999) (dc D_cX12_more_0 8 rfl) (by decide +kernel) ?_
    refine r_callS (As := [.int (iz a2), .int (iz 0), .int (iz 999)]) (st := []) (dc D_cX12_more_0 9 rfl) cw_RX12_90 nm_yX12_in (CX12_in hE _ _ _ ra2 (Rl rfl) (Rl rfl) _ hσ2 h) rfl (by decide) rfl rfl rfl (fun z4 σ5 rz4 hσ5 h => ?_)
    show RW layM E mi_X12_more Φ 18 [some (.ref (eA E 0)), some (.int (iz a1)), some (.int (iz a2))] [.int (iz z4)] σ5 x
    refine r_if_ne (tgt := 24) (dc D_cX12_more_0 10 rfl) (by decide) rz4 (fun c6 => ?_) (fun c6 => ?_)
    · have h := h.1 c6
      refine r_aloadn (dc D_cX12_more_0 13 rfl) rfl rfl ?_
      refine r_iloadn (dc D_cX12_more_0 14 rfl) rfl rfl ?_
      refine r_callV (As := [.int (iz a1)]) (st := []) (dc D_cX12_more_0 15 rfl) cw_RX12_98 nm_yX12_isOpen (CX12_isOpen hE _ ra1 _ hσ5 h) lM_0 rfl rfl (by decide) rfl rfl rfl (fun z7 σ8 rz7 hσ8 h => ?_)
      show RW layM E mi_X12_more Φ 29 [some (.ref (eA E 0)), some (.int (iz a1)), some (.int (iz a2))] [.int (iz z7)] σ8 x
      refine r_if_eq (tgt := 46) (dc D_cX12_more_0 16 rfl) (by decide) rz7 (fun c9 => ?_) (fun c9 => ?_)
      · have h := h.1 c9
        refine r_bipush (n := (-3)) (dc D_cX12_more_0 25 rfl) (by decide +kernel) ?_
        exact r_iret (dc D_cX12_more_0 26 rfl) rfl (Rl rfl) h
      · have h := h.2 c9
        refine r_aloadn (dc D_cX12_more_0 17 rfl) rfl rfl ?_
        refine r_iloadn (dc D_cX12_more_0 18 rfl) rfl rfl ?_
        refine r_iloadn (dc D_cX12_more_0 19 rfl) rfl rfl ?_
        refine r_callV (As := [.int (iz a1), .int (iz a2)]) (st := []) (dc D_cX12_more_0 20 rfl) cw_RX12_194 nm_yX12_flowsWith (CX12_flowsWith hE _ _ ra1 ra2 _ hσ8 h) lM_0 rfl rfl (by decide) rfl rfl rfl (fun z10 σ11 rz10 hσ11 h => ?_)
        show RW layM E mi_X12_more Φ 38 [some (.ref (eA E 0)), some (.int (iz a1)), some (.int (iz a2))] [.int (iz z10)] σ11 x
        refine r_aloadn (dc D_cX12_more_0 21 rfl) rfl rfl ?_
        refine r_callV (As := []) (st := [.int (iz z10)]) (dc D_cX12_more_0 22 rfl) cw_RX12_160 nm_yX12_flowsNow (CX12_flowsNow hE  _ hσ11 h) lM_0 rfl rfl (by decide) rfl rfl rfl (fun z12 σ13 rz12 hσ13 h => ?_)
        show RW layM E mi_X12_more Φ 42 [some (.ref (eA E 0)), some (.int (iz a1)), some (.int (iz a2))] [.int (iz z12), .int (iz z10)] σ13 x
        refine r_isub (dc D_cX12_more_0 23 rfl) ?_
        obtain ⟨o14, h⟩ := h
        refine r_goto (tgt := 48) (dc D_cX12_more_0 24 rfl) (by decide) ?_
        exact r_iret (dc D_cX12_more_0 26 rfl) rfl o14 h
    · have h := h.2 c6
      refine r_bipush (n := (-2)) (dc D_cX12_more_0 11 rfl) (by decide +kernel) ?_
      exact r_iret (dc D_cX12_more_0 12 rfl) rfl (Rl rfl) h
  · have h := h.2 c3
    refine r_iconst (n := (-1)) (dc D_cX12_more_0 4 rfl) ?_
    exact r_iret (dc D_cX12_more_0 5 rfl) rfl (Rl rfl) h
-- end of GateFlowModel.more
def mi_X12_lossOf : MI := (cX12_lossOf, RX12, 4, 5, (some .int), 1)
def LX12_lossOf_40 (K6 : Int → Int → Int → PS → Prop) (x1 x2 x3 s1 s2 : Int) (σ : PS) (Φ : Int → PS → Prop) : Prop :=
  (0 ≤ s1 ∧ s1 < 30) ∧
  ∀ σ2 : PS, σ2 = up2 σ 3 s1.toNat s2 →
  Rg (x3 + 1) ∧
  K6 x1 x2 (x3 + 1) σ2
def BX12_lossOf_6 (K6 : Int → Int → Int → PS → Prop) (x1 x2 x3 : Int) (σ : PS) (Φ : Int → PS → Prop) : Prop :=
  ((σ 1 2 ≤ x3 →
    FX12_flows σ (fun z2 σ3 =>
    Rg (x1 - z2) ∧
    Φ (x1 - z2) σ3)) ∧
  (¬ σ 1 2 ≤ x3 →
    ((¬ iand (ishr x2 x3) 1 = 1 →
      (0 ≤ x3 ∧ x3 < 30) ∧
      LX12_lossOf_40 K6 x1 x2 x3 x3 (σ 3 x3.toNat) σ Φ) ∧
    (iand (ishr x2 x3) 1 = 1 →
      LX12_lossOf_40 K6 x1 x2 x3 x3 0 σ Φ))))
def LX12_lossOf_6 : Nat → Int → Int → Int → PS → (Int → PS → Prop) → Prop
  | 0, _, _, _, _, _ => False
  | n + 1, x1, x2, x3, σ, Φ => BX12_lossOf_6 (fun x1 x2 x3 σ => LX12_lossOf_6 n x1 x2 x3 σ Φ) x1 x2 x3 σ Φ
def FX12_lossOf (a1 a2 : Int) (σ : PS) (Φ : Int → PS → Prop) : Prop :=
  FX12_mayAll σ (fun z1 σ2 =>
  ∃ n, LX12_lossOf_6 n a1 a2 0 σ2 Φ)
set_option maxRecDepth 100000 in
theorem TX12_lossOf_40 {E : EV} (hE : eOK layM E) {Φ : Int → PS → Prop} {K6 : Int → Int → Int → PS → Prop} (x : CX) (hK6 : ∀ (x1 x2 x3 : Int) (σ : PS), Rg x1 → Rg x2 → Rg x3 → RS σ → K6 x1 x2 x3 σ → RW layM E mi_X12_lossOf Φ 6 [some (.ref (eA E 0)), some (.int (iz x1)), some (.int (iz x2)), some (.int (iz x3))] [] σ x) (x1 x2 x3 s1 s2 : Int) (rx1 : Rg x1) (rx2 : Rg x2) (rx3 : Rg x3) (rs1 : Rg s1) (rs2 : Rg s2) (σ : PS) (hs : RS σ) (h : LX12_lossOf_40 K6 x1 x2 x3 s1 s2 σ Φ) : RW layM E mi_X12_lossOf Φ 40 [some (.ref (eA E 0)), some (.int (iz x1)), some (.int (iz x2)), some (.int (iz x3))] [.int (iz s2), .int (iz s1), .ref (eA E 3)] σ x := by
  obtain ⟨o1, h⟩ := h
  refine r_iast (N := 30) (dc D_cX12_lossOf_0 26 rfl) lM_3 rfl rfl o1 rs2 ?_
  refine r_sig (fun σ2 eσ2 => ?_)
  have h := h σ2 eσ2
  have hσ2 : RS σ2 := RS_eq eσ2 (RS.up hs rs2 _ _)
  obtain ⟨o3, h⟩ := h
  refine r_iinc (lv' := [some (.ref (eA E 0)), some (.int (iz x1)), some (.int (iz x2)), some (.int (iz (x3 + 1)))]) (dc D_cX12_lossOf_0 27 rfl) rfl rfl rfl ?_
  refine r_goto (tgt := 6) (dc D_cX12_lossOf_0 28 rfl) (by decide) ?_
  exact hK6 _ _ _ _ rx1 rx2 o3 hσ2 h
set_option maxRecDepth 100000 in
theorem TBX12_lossOf_6 {E : EV} (hE : eOK layM E) {Φ : Int → PS → Prop} {K6 : Int → Int → Int → PS → Prop} (x : CX) (hK6 : ∀ (x1 x2 x3 : Int) (σ : PS), Rg x1 → Rg x2 → Rg x3 → RS σ → K6 x1 x2 x3 σ → RW layM E mi_X12_lossOf Φ 6 [some (.ref (eA E 0)), some (.int (iz x1)), some (.int (iz x2)), some (.int (iz x3))] [] σ x) (x1 x2 x3 : Int) (rx1 : Rg x1) (rx2 : Rg x2) (rx3 : Rg x3) (σ : PS) (hs : RS σ) (h : BX12_lossOf_6 K6 x1 x2 x3 σ Φ) : RW layM E mi_X12_lossOf Φ 6 [some (.ref (eA E 0)), some (.int (iz x1)), some (.int (iz x2)), some (.int (iz x3))] [] σ x := by
  refine r_iloadn (dc D_cX12_lossOf_0 4 rfl) rfl rfl ?_
  refine r_aloadn (dc D_cX12_lossOf_0 5 rfl) rfl rfl ?_
  refine r_getR (dc D_cX12_lossOf_0 6 rfl) fw_RX12_9 lM_0 rfl ?_
  refine r_iconst (n := 2) (dc D_cX12_lossOf_0 7 rfl) ?_
  refine r_iald (N := 183) (dc D_cX12_lossOf_0 8 rfl) lM_1 rfl rfl ⟨by decide, by decide⟩ ?_
  refine r_icmp_ge (tgt := 47) (dc D_cX12_lossOf_0 9 rfl) (by decide) rx3 (hs _ _) (fun c1 => ?_) (fun c1 => ?_)
  · have h := h.1 c1
    refine r_iloadn (dc D_cX12_lossOf_0 29 rfl) rfl rfl ?_
    refine r_aloadn (dc D_cX12_lossOf_0 30 rfl) rfl rfl ?_
    refine r_callV (As := []) (st := [.int (iz x1)]) (dc D_cX12_lossOf_0 31 rfl) cw_RX12_156 nm_yX12_flows (CX12_flows hE  _ hs h) lM_0 rfl rfl (by decide) rfl rfl rfl (fun z2 σ3 rz2 hσ3 h => ?_)
    show RW layM E mi_X12_lossOf Φ 52 [some (.ref (eA E 0)), some (.int (iz x1)), some (.int (iz x2)), some (.int (iz x3))] [.int (iz z2), .int (iz x1)] σ3 x
    refine r_isub (dc D_cX12_lossOf_0 32 rfl) ?_
    obtain ⟨o4, h⟩ := h
    exact r_iret (dc D_cX12_lossOf_0 33 rfl) rfl o4 h
  · have h := h.2 c1
    refine r_aloadn (dc D_cX12_lossOf_0 10 rfl) rfl rfl ?_
    refine r_getR (dc D_cX12_lossOf_0 11 rfl) fw_RX12_16 lM_0 rfl ?_
    refine r_iloadn (dc D_cX12_lossOf_0 12 rfl) rfl rfl ?_
    refine r_iloadn (dc D_cX12_lossOf_0 13 rfl) rfl rfl ?_
    refine r_iloadn (dc D_cX12_lossOf_0 14 rfl) rfl rfl ?_
    refine r_ishr (dc D_cX12_lossOf_0 15 rfl) ?_
    refine r_iconst (n := 1) (dc D_cX12_lossOf_0 16 rfl) ?_
    refine r_iand (dc D_cX12_lossOf_0 17 rfl) ?_
    refine r_iconst (n := 1) (dc D_cX12_lossOf_0 18 rfl) ?_
    refine r_icmp_ne (tgt := 34) (dc D_cX12_lossOf_0 19 rfl) (by decide) (Rg_of _) (Rl rfl) (fun c5 => ?_) (fun c5 => ?_)
    · have h := h.1 c5
      refine r_aloadn (dc D_cX12_lossOf_0 22 rfl) rfl rfl ?_
      refine r_getR (dc D_cX12_lossOf_0 23 rfl) fw_RX12_16 lM_0 rfl ?_
      refine r_iloadn (dc D_cX12_lossOf_0 24 rfl) rfl rfl ?_
      obtain ⟨o6, h⟩ := h
      refine r_iald (N := 30) (dc D_cX12_lossOf_0 25 rfl) lM_3 rfl rfl o6 ?_
      exact TX12_lossOf_40 hE x hK6 _ _ _ _ _ rx1 rx2 rx3 rx3 (hs _ _) _ hs h
    · have h := h.2 c5
      refine r_iconst (n := 0) (dc D_cX12_lossOf_0 20 rfl) ?_
      refine r_goto (tgt := 40) (dc D_cX12_lossOf_0 21 rfl) (by decide) ?_
      exact TX12_lossOf_40 hE x hK6 _ _ _ _ _ rx1 rx2 rx3 rx3 (Rl rfl) _ hs h
theorem TX12_lossOf_6 {E : EV} (hE : eOK layM E) {Φ : Int → PS → Prop} (x : CX) (n : Nat) : ∀ (x1 x2 x3 : Int) (σ : PS), Rg x1 → Rg x2 → Rg x3 → RS σ → LX12_lossOf_6 n x1 x2 x3 σ Φ → RW layM E mi_X12_lossOf Φ 6 [some (.ref (eA E 0)), some (.int (iz x1)), some (.int (iz x2)), some (.int (iz x3))] [] σ x := by
  induction n with
  | zero => intro x1 x2 x3 σ _ _ _ _ h; exact h.elim
  | succ n ih => intro x1 x2 x3 σ rx1 rx2 rx3 hs h; exact TBX12_lossOf_6 hE x ih x1 x2 x3 rx1 rx2 rx3 σ hs h
set_option maxRecDepth 100000 in
theorem CX12_lossOf {E : EV} (hE : eOK layM E) {Φ : Int → PS → Prop} (a1 a2 : Int) (ra1 : Rg a1) (ra2 : Rg a2) (σ : PS) (hs : RS σ) (h : FX12_lossOf a1 a2 σ Φ) : CT layM E yX12_lossOf mi_X12_lossOf [.ref (eA E 0), .int (iz a1), .int (iz a2)] σ Φ := by
  refine ct_of (by decide +kernel) rfl hE rfl rfl hs (fun x => ?_)
  show RW layM E mi_X12_lossOf Φ 0 [some (.ref (eA E 0)), some (.int (iz a1)), some (.int (iz a2)), none] [] σ x
  refine r_aloadn (dc D_cX12_lossOf_0 0 rfl) rfl rfl ?_
  refine r_callV (As := []) (st := []) (dc D_cX12_lossOf_0 1 rfl) cw_RX12_153 nm_yX12_mayAll (CX12_mayAll hE  _ hs h) lM_0 rfl rfl (by decide) rfl rfl rfl (fun z1 σ2 rz1 hσ2 h => ?_)
  show RW layM E mi_X12_lossOf Φ 4 [some (.ref (eA E 0)), some (.int (iz a1)), some (.int (iz a2)), none] [] σ2 x
  refine r_iconst (n := 0) (dc D_cX12_lossOf_0 2 rfl) ?_
  refine r_istoren (lv' := [some (.ref (eA E 0)), some (.int (iz a1)), some (.int (iz a2)), some (.int (iz 0))]) (dc D_cX12_lossOf_0 3 rfl) rfl rfl rfl ?_
  obtain ⟨n, h⟩ := h
  exact TX12_lossOf_6 hE x n _ _ _ _ ra1 ra2 (Rl rfl) hσ2 h
-- end of GateFlowModel.lossOf
def mi_X12_loss : MI := (cX12_loss, RX12, 2, 6, (some .int), 1)
def FX12_loss (a1 : Int) (σ : PS) (Φ : Int → PS → Prop) : Prop :=
  ((a1 < 0 →
    Φ (-2) σ) ∧
  (¬ a1 < 0 →
    ((ishr a1 (σ 1 2) = 0 →
      FX12_flowsNow σ (fun z3 σ4 =>
      FX12_lossOf z3 a1 σ4 (fun z5 σ6 =>
      Φ z5 σ6))) ∧
    (¬ ishr a1 (σ 1 2) = 0 →
      Φ (-2) σ))))
theorem cw_RX12_197 : CWV RX12 197 yX12_lossOf mi_X12_lossOf := tb_r [1516, 1518, 64, 110, 1519] (by decide +kernel)
theorem nm_yX12_lossOf : ynm yX12_lossOf 2 := ⟨⟨by decide +kernel, by decide +kernel⟩, by decide +kernel⟩
set_option maxRecDepth 100000 in
theorem CX12_loss {E : EV} (hE : eOK layM E) {Φ : Int → PS → Prop} (a1 : Int) (ra1 : Rg a1) (σ : PS) (hs : RS σ) (h : FX12_loss a1 σ Φ) : CT layM E yX12_loss mi_X12_loss [.ref (eA E 0), .int (iz a1)] σ Φ := by
  refine ct_of (by decide +kernel) rfl hE rfl rfl hs (fun x => ?_)
  show RW layM E mi_X12_loss Φ 0 [some (.ref (eA E 0)), some (.int (iz a1))] [] σ x
  refine r_iloadn (dc D_cX12_loss_0 0 rfl) rfl rfl ?_
  refine r_if_lt (tgt := 15) (dc D_cX12_loss_0 1 rfl) (by decide) ra1 (fun c1 => ?_) (fun c1 => ?_)
  · have h := h.1 c1
    refine r_bipush (n := (-2)) (dc D_cX12_loss_0 9 rfl) (by decide +kernel) ?_
    refine r_goto (tgt := 29) (dc D_cX12_loss_0 10 rfl) (by decide) ?_
    exact r_iret (dc D_cX12_loss_0 16 rfl) rfl (Rl rfl) h
  · have h := h.2 c1
    refine r_iloadn (dc D_cX12_loss_0 2 rfl) rfl rfl ?_
    refine r_aloadn (dc D_cX12_loss_0 3 rfl) rfl rfl ?_
    refine r_getR (dc D_cX12_loss_0 4 rfl) fw_RX12_9 lM_0 rfl ?_
    refine r_iconst (n := 2) (dc D_cX12_loss_0 5 rfl) ?_
    refine r_iald (N := 183) (dc D_cX12_loss_0 6 rfl) lM_1 rfl rfl ⟨by decide, by decide⟩ ?_
    refine r_ishr (dc D_cX12_loss_0 7 rfl) ?_
    refine r_if_eq (tgt := 20) (dc D_cX12_loss_0 8 rfl) (by decide) (Rg_of _) (fun c2 => ?_) (fun c2 => ?_)
    · have h := h.1 c2
      refine r_aloadn (dc D_cX12_loss_0 11 rfl) rfl rfl ?_
      refine r_aloadn (dc D_cX12_loss_0 12 rfl) rfl rfl ?_
      refine r_callV (As := []) (st := [.ref (eA E 0)]) (dc D_cX12_loss_0 13 rfl) cw_RX12_160 nm_yX12_flowsNow (CX12_flowsNow hE  _ hs h) lM_0 rfl rfl (by decide) rfl rfl rfl (fun z3 σ4 rz3 hσ4 h => ?_)
      show RW layM E mi_X12_loss Φ 25 [some (.ref (eA E 0)), some (.int (iz a1))] [.int (iz z3), .ref (eA E 0)] σ4 x
      refine r_iloadn (dc D_cX12_loss_0 14 rfl) rfl rfl ?_
      refine r_callV (As := [.int (iz z3), .int (iz a1)]) (st := []) (dc D_cX12_loss_0 15 rfl) cw_RX12_197 nm_yX12_lossOf (CX12_lossOf hE _ _ rz3 ra1 _ hσ4 h) lM_0 rfl rfl (by decide) rfl rfl rfl (fun z5 σ6 rz5 hσ6 h => ?_)
      show RW layM E mi_X12_loss Φ 29 [some (.ref (eA E 0)), some (.int (iz a1))] [.int (iz z5)] σ6 x
      exact r_iret (dc D_cX12_loss_0 16 rfl) rfl rz5 h
    · have h := h.2 c2
      refine r_bipush (n := (-2)) (dc D_cX12_loss_0 9 rfl) (by decide +kernel) ?_
      refine r_goto (tgt := 29) (dc D_cX12_loss_0 10 rfl) (by decide) ?_
      exact r_iret (dc D_cX12_loss_0 16 rfl) rfl (Rl rfl) h
-- end of GateFlowModel.loss
def mi_X12_worst : MI := (cX12_worst, RX12, 8, 6, (some .int), 1)
def LX12_worst_120 (K25 : Int → Int → Int → Int → Int → PS → Prop) (K52 : Int → Int → Int → Int → Int → Int → PS → Prop) (x1 x2 x3 x4 x5 x6 : Int) (σ : PS) (Φ : Int → PS → Prop) : Prop :=
  Rg (x6 + 1) ∧
  K52 x1 x2 x3 x4 x5 (x6 + 1) σ
def LX12_worst_118 (K25 : Int → Int → Int → Int → Int → PS → Prop) (K52 : Int → Int → Int → Int → Int → Int → PS → Prop) (x1 x2 x3 x5 x6 s0 : Int) (σ : PS) (Φ : Int → PS → Prop) : Prop :=
  LX12_worst_120 K25 K52 x1 x2 x3 s0 x5 x6 σ Φ
def LX12_worst_72 (K25 : Int → Int → Int → Int → Int → PS → Prop) (K52 : Int → Int → Int → Int → Int → Int → PS → Prop) (x1 x2 x3 x4 x5 x6 s0 s1 : Int) (σ : PS) (Φ : Int → PS → Prop) : Prop :=
  ((s1 ≤ s0 →
    Rg (x5 + 1) ∧
    K25 x1 x2 x3 x4 (x5 + 1) σ) ∧
  (¬ s1 ≤ s0 →
    FX12_lossOf x2 (ior (ishl 1 x5) (ishl 1 x6)) σ (fun z3 σ4 =>
    ((z3 ≤ x3 →
      LX12_worst_120 K25 K52 x1 x2 x3 x4 x5 x6 σ4 Φ) ∧
    (¬ z3 ≤ x3 →
      ((2 ≤ x1 →
        Rg (100 * x5) ∧
        Rg ((100 * x5) + x6) ∧
        LX12_worst_118 K25 K52 x1 x2 z3 x5 x6 ((100 * x5) + x6) σ4 Φ) ∧
      (¬ 2 ≤ x1 →
        LX12_worst_118 K25 K52 x1 x2 z3 x5 x6 x5 σ4 Φ)))))))
def BX12_worst_52 (K25 : Int → Int → Int → Int → Int → PS → Prop) (K52 : Int → Int → Int → Int → Int → Int → PS → Prop) (x1 x2 x3 x4 x5 x6 : Int) (σ : PS) (Φ : Int → PS → Prop) : Prop :=
  ((2 ≤ x1 →
    LX12_worst_72 K25 K52 x1 x2 x3 x4 x5 x6 x6 (σ 1 2) σ Φ) ∧
  (¬ 2 ≤ x1 →
    Rg (x5 + 1) ∧
    LX12_worst_72 K25 K52 x1 x2 x3 x4 x5 x6 x6 (x5 + 1) σ Φ))
def LX12_worst_52 (K25 : Int → Int → Int → Int → Int → PS → Prop) : Nat → Int → Int → Int → Int → Int → Int → PS → (Int → PS → Prop) → Prop
  | 0, _, _, _, _, _, _, _, _ => False
  | n + 1, x1, x2, x3, x4, x5, x6, σ, Φ => BX12_worst_52 K25 (fun x1 x2 x3 x4 x5 x6 σ => LX12_worst_52 K25 n x1 x2 x3 x4 x5 x6 σ Φ) x1 x2 x3 x4 x5 x6 σ Φ
def LX12_worst_50 (K25 : Int → Int → Int → Int → Int → PS → Prop) (x1 x2 x3 x4 x5 s0 : Int) (σ : PS) (Φ : Int → PS → Prop) : Prop :=
  ∃ n, LX12_worst_52 K25 n x1 x2 x3 x4 x5 s0 σ Φ
def BX12_worst_25 (K25 : Int → Int → Int → Int → Int → PS → Prop) (x1 x2 x3 x4 x5 : Int) (σ : PS) (Φ : Int → PS → Prop) : Prop :=
  ((σ 1 2 ≤ x5 →
    ((0 ≤ x3 →
      0 ≤ x1 ∧
      ((¬ x1 % 2 = 0 →
        Φ x3 σ) ∧
      (x1 % 2 = 0 →
        Φ x4 σ))) ∧
    (¬ 0 ≤ x3 →
      Φ (-5) σ))) ∧
  (¬ σ 1 2 ≤ x5 →
    ((2 ≤ x1 →
      Rg (x5 + 1) ∧
      LX12_worst_50 K25 x1 x2 x3 x4 x5 (x5 + 1) σ Φ) ∧
    (¬ 2 ≤ x1 →
      LX12_worst_50 K25 x1 x2 x3 x4 x5 x5 σ Φ))))
def LX12_worst_25 : Nat → Int → Int → Int → Int → Int → PS → (Int → PS → Prop) → Prop
  | 0, _, _, _, _, _, _, _ => False
  | n + 1, x1, x2, x3, x4, x5, σ, Φ => BX12_worst_25 (fun x1 x2 x3 x4 x5 σ => LX12_worst_25 n x1 x2 x3 x4 x5 σ Φ) x1 x2 x3 x4 x5 σ Φ
def FX12_worst (a1 : Int) (σ : PS) (Φ : Int → PS → Prop) : Prop :=
  FX12_in a1 0 3 σ (fun z1 σ2 =>
  ((¬ z1 = 0 →
    FX12_flowsNow σ2 (fun z4 σ5 =>
    ∃ n, LX12_worst_25 n a1 z4 (-1) (-5) 0 σ5 Φ)) ∧
  (z1 = 0 →
    Φ (-1) σ2)))
set_option maxRecDepth 100000 in
theorem TX12_worst_120 {E : EV} (hE : eOK layM E) {Φ : Int → PS → Prop} {K25 : Int → Int → Int → Int → Int → PS → Prop} {K52 : Int → Int → Int → Int → Int → Int → PS → Prop} (x : CX) (hK25 : ∀ (x1 x2 x3 x4 x5 : Int) (σ : PS), Rg x1 → Rg x2 → Rg x3 → Rg x4 → Rg x5 → RS σ → K25 x1 x2 x3 x4 x5 σ → RW layM E mi_X12_worst Φ 25 [some (.ref (eA E 0)), some (.int (iz x1)), some (.int (iz x2)), some (.int (iz x3)), some (.int (iz x4)), some (.int (iz x5)), none, none] [] σ x) (hK52 : ∀ (x1 x2 x3 x4 x5 x6 : Int) (σ : PS), Rg x1 → Rg x2 → Rg x3 → Rg x4 → Rg x5 → Rg x6 → RS σ → K52 x1 x2 x3 x4 x5 x6 σ → RW layM E mi_X12_worst Φ 52 [some (.ref (eA E 0)), some (.int (iz x1)), some (.int (iz x2)), some (.int (iz x3)), some (.int (iz x4)), some (.int (iz x5)), some (.int (iz x6)), none] [] σ x) (x1 x2 x3 x4 x5 x6 : Int) (rx1 : Rg x1) (rx2 : Rg x2) (rx3 : Rg x3) (rx4 : Rg x4) (rx5 : Rg x5) (rx6 : Rg x6) (σ : PS) (hs : RS σ) (h : LX12_worst_120 K25 K52 x1 x2 x3 x4 x5 x6 σ Φ) : RW layM E mi_X12_worst Φ 120 [some (.ref (eA E 0)), some (.int (iz x1)), some (.int (iz x2)), some (.int (iz x3)), some (.int (iz x4)), some (.int (iz x5)), some (.int (iz x6)), none] [] σ x := by
  obtain ⟨o1, h⟩ := h
  refine r_iinc (lv' := [some (.ref (eA E 0)), some (.int (iz x1)), some (.int (iz x2)), some (.int (iz x3)), some (.int (iz x4)), some (.int (iz x5)), some (.int (iz (x6 + 1))), none]) (dc D_cX12_worst_1 31 rfl) rfl rfl rfl ?_
  refine r_goto (tgt := 52) (dc D_cX12_worst_1 32 rfl) (by decide) ?_
  exact hK52 _ _ _ _ _ _ _ rx1 rx2 rx3 rx4 rx5 o1 hs h
set_option maxRecDepth 100000 in
theorem TX12_worst_118 {E : EV} (hE : eOK layM E) {Φ : Int → PS → Prop} {K25 : Int → Int → Int → Int → Int → PS → Prop} {K52 : Int → Int → Int → Int → Int → Int → PS → Prop} (x : CX) (hK25 : ∀ (x1 x2 x3 x4 x5 : Int) (σ : PS), Rg x1 → Rg x2 → Rg x3 → Rg x4 → Rg x5 → RS σ → K25 x1 x2 x3 x4 x5 σ → RW layM E mi_X12_worst Φ 25 [some (.ref (eA E 0)), some (.int (iz x1)), some (.int (iz x2)), some (.int (iz x3)), some (.int (iz x4)), some (.int (iz x5)), none, none] [] σ x) (hK52 : ∀ (x1 x2 x3 x4 x5 x6 : Int) (σ : PS), Rg x1 → Rg x2 → Rg x3 → Rg x4 → Rg x5 → Rg x6 → RS σ → K52 x1 x2 x3 x4 x5 x6 σ → RW layM E mi_X12_worst Φ 52 [some (.ref (eA E 0)), some (.int (iz x1)), some (.int (iz x2)), some (.int (iz x3)), some (.int (iz x4)), some (.int (iz x5)), some (.int (iz x6)), none] [] σ x) (x1 x2 x3 x5 x6 s0 : Int) (rx1 : Rg x1) (rx2 : Rg x2) (rx3 : Rg x3) (rx5 : Rg x5) (rx6 : Rg x6) (rs0 : Rg s0) (σ : PS) (hs : RS σ) (h : LX12_worst_118 K25 K52 x1 x2 x3 x5 x6 s0 σ Φ) : RW layM E mi_X12_worst Φ 118 [some (.ref (eA E 0)), some (.int (iz x1)), some (.int (iz x2)), some (.int (iz x3)), none, some (.int (iz x5)), some (.int (iz x6)), none] [.int (iz s0)] σ x := by
  refine r_istore (lv' := [some (.ref (eA E 0)), some (.int (iz x1)), some (.int (iz x2)), some (.int (iz x3)), some (.int (iz s0)), some (.int (iz x5)), some (.int (iz x6)), none]) (dc D_cX12_worst_1 30 rfl) rfl rfl ?_
  exact TX12_worst_120 hE x hK25 hK52 _ _ _ _ _ _ rx1 rx2 rx3 rs0 rx5 rx6 _ hs h
set_option maxRecDepth 100000 in
theorem TX12_worst_72 {E : EV} (hE : eOK layM E) {Φ : Int → PS → Prop} {K25 : Int → Int → Int → Int → Int → PS → Prop} {K52 : Int → Int → Int → Int → Int → Int → PS → Prop} (x : CX) (hK25 : ∀ (x1 x2 x3 x4 x5 : Int) (σ : PS), Rg x1 → Rg x2 → Rg x3 → Rg x4 → Rg x5 → RS σ → K25 x1 x2 x3 x4 x5 σ → RW layM E mi_X12_worst Φ 25 [some (.ref (eA E 0)), some (.int (iz x1)), some (.int (iz x2)), some (.int (iz x3)), some (.int (iz x4)), some (.int (iz x5)), none, none] [] σ x) (hK52 : ∀ (x1 x2 x3 x4 x5 x6 : Int) (σ : PS), Rg x1 → Rg x2 → Rg x3 → Rg x4 → Rg x5 → Rg x6 → RS σ → K52 x1 x2 x3 x4 x5 x6 σ → RW layM E mi_X12_worst Φ 52 [some (.ref (eA E 0)), some (.int (iz x1)), some (.int (iz x2)), some (.int (iz x3)), some (.int (iz x4)), some (.int (iz x5)), some (.int (iz x6)), none] [] σ x) (x1 x2 x3 x4 x5 x6 s0 s1 : Int) (rx1 : Rg x1) (rx2 : Rg x2) (rx3 : Rg x3) (rx4 : Rg x4) (rx5 : Rg x5) (rx6 : Rg x6) (rs0 : Rg s0) (rs1 : Rg s1) (σ : PS) (hs : RS σ) (h : LX12_worst_72 K25 K52 x1 x2 x3 x4 x5 x6 s0 s1 σ Φ) : RW layM E mi_X12_worst Φ 72 [some (.ref (eA E 0)), some (.int (iz x1)), some (.int (iz x2)), some (.int (iz x3)), some (.int (iz x4)), some (.int (iz x5)), some (.int (iz x6)), none] [.int (iz s1), .int (iz s0)] σ x := by
  refine r_icmp_ge (tgt := 126) (dc D_cX12_worst_1 3 rfl) (by decide) rs0 rs1 (fun c1 => ?_) (fun c1 => ?_)
  · have h := h.1 c1
    obtain ⟨o2, h⟩ := h
    refine r_iinc (lv' := [some (.ref (eA E 0)), some (.int (iz x1)), some (.int (iz x2)), some (.int (iz x3)), some (.int (iz x4)), some (.int (iz (x5 + 1))), some (.int (iz x6)), none]) (dc D_cX12_worst_1 33 rfl) rfl rfl rfl ?_
    refine r_goto (tgt := 25) (dc D_cX12_worst_1 34 rfl) (by decide) ?_
    refine r_sub (lv' := [some (.ref (eA E 0)), some (.int (iz x1)), some (.int (iz x2)), some (.int (iz x3)), some (.int (iz x4)), some (.int (iz (x5 + 1))), none, none]) (subL_s (subL_s (subL_s (subL_s (subL_s (subL_s (subL_n (subL_n subL_e)))))))) ?_
    exact hK25 _ _ _ _ _ _ rx1 rx2 rx3 rx4 o2 hs h
  · have h := h.2 c1
    refine r_aloadn (dc D_cX12_worst_1 4 rfl) rfl rfl ?_
    refine r_iloadn (dc D_cX12_worst_1 5 rfl) rfl rfl ?_
    refine r_iconst (n := 1) (dc D_cX12_worst_1 6 rfl) ?_
    refine r_iload (dc D_cX12_worst_1 7 rfl) rfl ?_
    refine r_ishl (dc D_cX12_worst_1 8 rfl) ?_
    refine r_iconst (n := 1) (dc D_cX12_worst_1 9 rfl) ?_
    refine r_iload (dc D_cX12_worst_1 10 rfl) rfl ?_
    refine r_ishl (dc D_cX12_worst_1 11 rfl) ?_
    refine r_ior (dc D_cX12_worst_1 12 rfl) ?_
    refine r_callV (As := [.int (iz x2), .int (iz (ior (ishl 1 x5) (ishl 1 x6)))]) (st := []) (dc D_cX12_worst_1 13 rfl) cw_RX12_197 nm_yX12_lossOf (CX12_lossOf hE _ _ rx2 (Rg_of _) _ hs h) lM_0 rfl rfl (by decide) rfl rfl rfl (fun z3 σ4 rz3 hσ4 h => ?_)
    show RW layM E mi_X12_worst Φ 89 [some (.ref (eA E 0)), some (.int (iz x1)), some (.int (iz x2)), some (.int (iz x3)), some (.int (iz x4)), some (.int (iz x5)), some (.int (iz x6)), none] [.int (iz z3)] σ4 x
    refine r_istore (lv' := [some (.ref (eA E 0)), some (.int (iz x1)), some (.int (iz x2)), some (.int (iz x3)), some (.int (iz x4)), some (.int (iz x5)), some (.int (iz x6)), some (.int (iz z3))]) (dc D_cX12_worst_1 14 rfl) rfl rfl ?_
    refine r_iload (dc D_cX12_worst_1 15 rfl) rfl ?_
    refine r_iloadn (dc D_cX12_worst_1 16 rfl) rfl rfl ?_
    refine r_icmp_le (tgt := 120) (dc D_cX12_worst_1 17 rfl) (by decide) rz3 rx3 (fun c5 => ?_) (fun c5 => ?_)
    · have h := h.1 c5
      refine r_sub (lv' := [some (.ref (eA E 0)), some (.int (iz x1)), some (.int (iz x2)), some (.int (iz x3)), some (.int (iz x4)), some (.int (iz x5)), some (.int (iz x6)), none]) (subL_s (subL_s (subL_s (subL_s (subL_s (subL_s (subL_s (subL_n subL_e)))))))) ?_
      exact TX12_worst_120 hE x hK25 hK52 _ _ _ _ _ _ rx1 rx2 rx3 rx4 rx5 rx6 _ hσ4 h
    · have h := h.2 c5
      refine r_iload (dc D_cX12_worst_1 18 rfl) rfl ?_
      refine r_istoren (lv' := [some (.ref (eA E 0)), some (.int (iz x1)), some (.int (iz x2)), some (.int (iz z3)), some (.int (iz x4)), some (.int (iz x5)), some (.int (iz x6)), some (.int (iz z3))]) (dc D_cX12_worst_1 19 rfl) rfl rfl rfl ?_
      refine r_iloadn (dc D_cX12_worst_1 20 rfl) rfl rfl ?_
      refine r_iconst (n := 2) (dc D_cX12_worst_1 21 rfl) ?_
      refine r_icmp_ge (tgt := 110) (dc D_cX12_worst_1 22 rfl) (by decide) rx1 (Rl rfl) (fun c6 => ?_) (fun c6 => ?_)
      · have h := h.1 c6
        refine r_bipush (n := 100) (dc D_cX12_worst_1 25 rfl) (by decide +kernel) ?_
        refine r_iload (dc D_cX12_worst_1 26 rfl) rfl ?_
        refine r_imul (dc D_cX12_worst_1 27 rfl) ?_
        obtain ⟨o7, h⟩ := h
        refine r_iload (dc D_cX12_worst_1 28 rfl) rfl ?_
        refine r_iadd (dc D_cX12_worst_1 29 rfl) ?_
        obtain ⟨o8, h⟩ := h
        refine r_sub (lv' := [some (.ref (eA E 0)), some (.int (iz x1)), some (.int (iz x2)), some (.int (iz z3)), none, some (.int (iz x5)), some (.int (iz x6)), none]) (subL_s (subL_s (subL_s (subL_s (subL_n (subL_s (subL_s (subL_n subL_e)))))))) ?_
        exact TX12_worst_118 hE x hK25 hK52 _ _ _ _ _ _ rx1 rx2 rz3 rx5 rx6 o8 _ hσ4 h
      · have h := h.2 c6
        refine r_iload (dc D_cX12_worst_1 23 rfl) rfl ?_
        refine r_goto (tgt := 118) (dc D_cX12_worst_1 24 rfl) (by decide) ?_
        refine r_sub (lv' := [some (.ref (eA E 0)), some (.int (iz x1)), some (.int (iz x2)), some (.int (iz z3)), none, some (.int (iz x5)), some (.int (iz x6)), none]) (subL_s (subL_s (subL_s (subL_s (subL_n (subL_s (subL_s (subL_n subL_e)))))))) ?_
        exact TX12_worst_118 hE x hK25 hK52 _ _ _ _ _ _ rx1 rx2 rz3 rx5 rx6 rx5 _ hσ4 h
set_option maxRecDepth 100000 in
theorem TBX12_worst_52 {E : EV} (hE : eOK layM E) {Φ : Int → PS → Prop} {K25 : Int → Int → Int → Int → Int → PS → Prop} {K52 : Int → Int → Int → Int → Int → Int → PS → Prop} (x : CX) (hK25 : ∀ (x1 x2 x3 x4 x5 : Int) (σ : PS), Rg x1 → Rg x2 → Rg x3 → Rg x4 → Rg x5 → RS σ → K25 x1 x2 x3 x4 x5 σ → RW layM E mi_X12_worst Φ 25 [some (.ref (eA E 0)), some (.int (iz x1)), some (.int (iz x2)), some (.int (iz x3)), some (.int (iz x4)), some (.int (iz x5)), none, none] [] σ x) (hK52 : ∀ (x1 x2 x3 x4 x5 x6 : Int) (σ : PS), Rg x1 → Rg x2 → Rg x3 → Rg x4 → Rg x5 → Rg x6 → RS σ → K52 x1 x2 x3 x4 x5 x6 σ → RW layM E mi_X12_worst Φ 52 [some (.ref (eA E 0)), some (.int (iz x1)), some (.int (iz x2)), some (.int (iz x3)), some (.int (iz x4)), some (.int (iz x5)), some (.int (iz x6)), none] [] σ x) (x1 x2 x3 x4 x5 x6 : Int) (rx1 : Rg x1) (rx2 : Rg x2) (rx3 : Rg x3) (rx4 : Rg x4) (rx5 : Rg x5) (rx6 : Rg x6) (σ : PS) (hs : RS σ) (h : BX12_worst_52 K25 K52 x1 x2 x3 x4 x5 x6 σ Φ) : RW layM E mi_X12_worst Φ 52 [some (.ref (eA E 0)), some (.int (iz x1)), some (.int (iz x2)), some (.int (iz x3)), some (.int (iz x4)), some (.int (iz x5)), some (.int (iz x6)), none] [] σ x := by
  refine r_iload (dc D_cX12_worst_0 31 rfl) rfl ?_
  refine r_iloadn (dc D_cX12_worst_0 32 rfl) rfl rfl ?_
  refine r_iconst (n := 2) (dc D_cX12_worst_0 33 rfl) ?_
  refine r_icmp_ge (tgt := 66) (dc D_cX12_worst_0 34 rfl) (by decide) rx1 (Rl rfl) (fun c1 => ?_) (fun c1 => ?_)
  · have h := h.1 c1
    refine r_aloadn (dc D_cX12_worst_0 39 rfl) rfl rfl ?_
    refine r_getR (dc D_cX12_worst_1 0 rfl) fw_RX12_9 lM_0 rfl ?_
    refine r_iconst (n := 2) (dc D_cX12_worst_1 1 rfl) ?_
    refine r_iald (N := 183) (dc D_cX12_worst_1 2 rfl) lM_1 rfl rfl ⟨by decide, by decide⟩ ?_
    exact TX12_worst_72 hE x hK25 hK52 _ _ _ _ _ _ _ _ rx1 rx2 rx3 rx4 rx5 rx6 rx6 (hs _ _) _ hs h
  · have h := h.2 c1
    refine r_iload (dc D_cX12_worst_0 35 rfl) rfl ?_
    refine r_iconst (n := 1) (dc D_cX12_worst_0 36 rfl) ?_
    refine r_iadd (dc D_cX12_worst_0 37 rfl) ?_
    obtain ⟨o2, h⟩ := h
    refine r_goto (tgt := 72) (dc D_cX12_worst_0 38 rfl) (by decide) ?_
    exact TX12_worst_72 hE x hK25 hK52 _ _ _ _ _ _ _ _ rx1 rx2 rx3 rx4 rx5 rx6 rx6 o2 _ hs h
theorem TX12_worst_52 {E : EV} (hE : eOK layM E) {Φ : Int → PS → Prop} {K25 : Int → Int → Int → Int → Int → PS → Prop} (x : CX) (hK25 : ∀ (x1 x2 x3 x4 x5 : Int) (σ : PS), Rg x1 → Rg x2 → Rg x3 → Rg x4 → Rg x5 → RS σ → K25 x1 x2 x3 x4 x5 σ → RW layM E mi_X12_worst Φ 25 [some (.ref (eA E 0)), some (.int (iz x1)), some (.int (iz x2)), some (.int (iz x3)), some (.int (iz x4)), some (.int (iz x5)), none, none] [] σ x) (n : Nat) : ∀ (x1 x2 x3 x4 x5 x6 : Int) (σ : PS), Rg x1 → Rg x2 → Rg x3 → Rg x4 → Rg x5 → Rg x6 → RS σ → LX12_worst_52 K25 n x1 x2 x3 x4 x5 x6 σ Φ → RW layM E mi_X12_worst Φ 52 [some (.ref (eA E 0)), some (.int (iz x1)), some (.int (iz x2)), some (.int (iz x3)), some (.int (iz x4)), some (.int (iz x5)), some (.int (iz x6)), none] [] σ x := by
  induction n with
  | zero => intro x1 x2 x3 x4 x5 x6 σ _ _ _ _ _ _ _ h; exact h.elim
  | succ n ih => intro x1 x2 x3 x4 x5 x6 σ rx1 rx2 rx3 rx4 rx5 rx6 hs h; exact TBX12_worst_52 hE x hK25 ih x1 x2 x3 x4 x5 x6 rx1 rx2 rx3 rx4 rx5 rx6 σ hs h
set_option maxRecDepth 100000 in
theorem TX12_worst_50 {E : EV} (hE : eOK layM E) {Φ : Int → PS → Prop} {K25 : Int → Int → Int → Int → Int → PS → Prop} (x : CX) (hK25 : ∀ (x1 x2 x3 x4 x5 : Int) (σ : PS), Rg x1 → Rg x2 → Rg x3 → Rg x4 → Rg x5 → RS σ → K25 x1 x2 x3 x4 x5 σ → RW layM E mi_X12_worst Φ 25 [some (.ref (eA E 0)), some (.int (iz x1)), some (.int (iz x2)), some (.int (iz x3)), some (.int (iz x4)), some (.int (iz x5)), none, none] [] σ x) (x1 x2 x3 x4 x5 s0 : Int) (rx1 : Rg x1) (rx2 : Rg x2) (rx3 : Rg x3) (rx4 : Rg x4) (rx5 : Rg x5) (rs0 : Rg s0) (σ : PS) (hs : RS σ) (h : LX12_worst_50 K25 x1 x2 x3 x4 x5 s0 σ Φ) : RW layM E mi_X12_worst Φ 50 [some (.ref (eA E 0)), some (.int (iz x1)), some (.int (iz x2)), some (.int (iz x3)), some (.int (iz x4)), some (.int (iz x5)), none, none] [.int (iz s0)] σ x := by
  refine r_istore (lv' := [some (.ref (eA E 0)), some (.int (iz x1)), some (.int (iz x2)), some (.int (iz x3)), some (.int (iz x4)), some (.int (iz x5)), some (.int (iz s0)), none]) (dc D_cX12_worst_0 30 rfl) rfl rfl ?_
  obtain ⟨n, h⟩ := h
  exact TX12_worst_52 hE x hK25 n _ _ _ _ _ _ _ rx1 rx2 rx3 rx4 rx5 rs0 hs h
set_option maxRecDepth 100000 in
theorem TBX12_worst_25 {E : EV} (hE : eOK layM E) {Φ : Int → PS → Prop} {K25 : Int → Int → Int → Int → Int → PS → Prop} (x : CX) (hK25 : ∀ (x1 x2 x3 x4 x5 : Int) (σ : PS), Rg x1 → Rg x2 → Rg x3 → Rg x4 → Rg x5 → RS σ → K25 x1 x2 x3 x4 x5 σ → RW layM E mi_X12_worst Φ 25 [some (.ref (eA E 0)), some (.int (iz x1)), some (.int (iz x2)), some (.int (iz x3)), some (.int (iz x4)), some (.int (iz x5)), none, none] [] σ x) (x1 x2 x3 x4 x5 : Int) (rx1 : Rg x1) (rx2 : Rg x2) (rx3 : Rg x3) (rx4 : Rg x4) (rx5 : Rg x5) (σ : PS) (hs : RS σ) (h : BX12_worst_25 K25 x1 x2 x3 x4 x5 σ Φ) : RW layM E mi_X12_worst Φ 25 [some (.ref (eA E 0)), some (.int (iz x1)), some (.int (iz x2)), some (.int (iz x3)), some (.int (iz x4)), some (.int (iz x5)), none, none] [] σ x := by
  refine r_iload (dc D_cX12_worst_0 16 rfl) rfl ?_
  refine r_aloadn (dc D_cX12_worst_0 17 rfl) rfl rfl ?_
  refine r_getR (dc D_cX12_worst_0 18 rfl) fw_RX12_9 lM_0 rfl ?_
  refine r_iconst (n := 2) (dc D_cX12_worst_0 19 rfl) ?_
  refine r_iald (N := 183) (dc D_cX12_worst_0 20 rfl) lM_1 rfl rfl ⟨by decide, by decide⟩ ?_
  refine r_icmp_ge (tgt := 132) (dc D_cX12_worst_0 21 rfl) (by decide) rx5 (hs _ _) (fun c1 => ?_) (fun c1 => ?_)
  · have h := h.1 c1
    refine r_iloadn (dc D_cX12_worst_1 35 rfl) rfl rfl ?_
    refine r_if_ge (tgt := 141) (dc D_cX12_worst_1 36 rfl) (by decide) rx3 (fun c2 => ?_) (fun c2 => ?_)
    · have h := h.1 c2
      refine r_iloadn (dc D_cX12_worst_1 39 rfl) rfl rfl ?_
      refine r_iconst (n := 2) (dc D_cX12_worst_2 0 rfl) ?_
      obtain ⟨o3, h⟩ := h
      refine r_irem (dc D_cX12_worst_2 1 rfl) rx1 (Rl rfl) o3 (by decide) ?_
      refine r_if_ne (tgt := 152) (dc D_cX12_worst_2 2 rfl) (by decide) (Rg_mod rx1 o3 rfl) (fun c4 => ?_) (fun c4 => ?_)
      · have h := h.1 c4
        refine r_iloadn (dc D_cX12_worst_2 5 rfl) rfl rfl ?_
        exact r_iret (dc D_cX12_worst_2 6 rfl) rfl rx3 h
      · have h := h.2 c4
        refine r_iload (dc D_cX12_worst_2 3 rfl) rfl ?_
        refine r_goto (tgt := 153) (dc D_cX12_worst_2 4 rfl) (by decide) ?_
        exact r_iret (dc D_cX12_worst_2 6 rfl) rfl rx4 h
    · have h := h.2 c2
      refine r_bipush (n := (-5)) (dc D_cX12_worst_1 37 rfl) (by decide +kernel) ?_
      refine r_goto (tgt := 153) (dc D_cX12_worst_1 38 rfl) (by decide) ?_
      exact r_iret (dc D_cX12_worst_2 6 rfl) rfl (Rl rfl) h
  · have h := h.2 c1
    refine r_iloadn (dc D_cX12_worst_0 22 rfl) rfl rfl ?_
    refine r_iconst (n := 2) (dc D_cX12_worst_0 23 rfl) ?_
    refine r_icmp_ge (tgt := 46) (dc D_cX12_worst_0 24 rfl) (by decide) rx1 (Rl rfl) (fun c5 => ?_) (fun c5 => ?_)
    · have h := h.1 c5
      refine r_iload (dc D_cX12_worst_0 27 rfl) rfl ?_
      refine r_iconst (n := 1) (dc D_cX12_worst_0 28 rfl) ?_
      refine r_iadd (dc D_cX12_worst_0 29 rfl) ?_
      obtain ⟨o6, h⟩ := h
      exact TX12_worst_50 hE x hK25 _ _ _ _ _ _ rx1 rx2 rx3 rx4 rx5 o6 _ hs h
    · have h := h.2 c5
      refine r_iload (dc D_cX12_worst_0 25 rfl) rfl ?_
      refine r_goto (tgt := 50) (dc D_cX12_worst_0 26 rfl) (by decide) ?_
      exact TX12_worst_50 hE x hK25 _ _ _ _ _ _ rx1 rx2 rx3 rx4 rx5 rx5 _ hs h
theorem TX12_worst_25 {E : EV} (hE : eOK layM E) {Φ : Int → PS → Prop} (x : CX) (n : Nat) : ∀ (x1 x2 x3 x4 x5 : Int) (σ : PS), Rg x1 → Rg x2 → Rg x3 → Rg x4 → Rg x5 → RS σ → LX12_worst_25 n x1 x2 x3 x4 x5 σ Φ → RW layM E mi_X12_worst Φ 25 [some (.ref (eA E 0)), some (.int (iz x1)), some (.int (iz x2)), some (.int (iz x3)), some (.int (iz x4)), some (.int (iz x5)), none, none] [] σ x := by
  induction n with
  | zero => intro x1 x2 x3 x4 x5 σ _ _ _ _ _ _ h; exact h.elim
  | succ n ih => intro x1 x2 x3 x4 x5 σ rx1 rx2 rx3 rx4 rx5 hs h; exact TBX12_worst_25 hE x ih x1 x2 x3 x4 x5 rx1 rx2 rx3 rx4 rx5 σ hs h
set_option maxRecDepth 100000 in
theorem CX12_worst {E : EV} (hE : eOK layM E) {Φ : Int → PS → Prop} (a1 : Int) (ra1 : Rg a1) (σ : PS) (hs : RS σ) (h : FX12_worst a1 σ Φ) : CT layM E yX12_worst mi_X12_worst [.ref (eA E 0), .int (iz a1)] σ Φ := by
  refine ct_of (by decide +kernel) rfl hE rfl rfl hs (fun x => ?_)
  show RW layM E mi_X12_worst Φ 0 [some (.ref (eA E 0)), some (.int (iz a1)), none, none, none, none, none, none] [] σ x
  refine r_iloadn (dc D_cX12_worst_0 0 rfl) rfl rfl ?_
  refine r_iconst (n := 0) (dc D_cX12_worst_0 1 rfl) ?_
  refine r_iconst (n := 3) (dc D_cX12_worst_0 2 rfl) ?_
  refine r_callS (As := [.int (iz a1), .int (iz 0), .int (iz 3)]) (st := []) (dc D_cX12_worst_0 3 rfl) cw_RX12_90 nm_yX12_in (CX12_in hE _ _ _ ra1 (Rl rfl) (Rl rfl) _ hs h) rfl (by decide) rfl rfl rfl (fun z1 σ2 rz1 hσ2 h => ?_)
  show RW layM E mi_X12_worst Φ 6 [some (.ref (eA E 0)), some (.int (iz a1)), none, none, none, none, none, none] [.int (iz z1)] σ2 x
  refine r_if_ne (tgt := 11) (dc D_cX12_worst_0 4 rfl) (by decide) rz1 (fun c3 => ?_) (fun c3 => ?_)
  · have h := h.1 c3
    refine r_aloadn (dc D_cX12_worst_0 7 rfl) rfl rfl ?_
    refine r_callV (As := []) (st := []) (dc D_cX12_worst_0 8 rfl) cw_RX12_160 nm_yX12_flowsNow (CX12_flowsNow hE  _ hσ2 h) lM_0 rfl rfl (by decide) rfl rfl rfl (fun z4 σ5 rz4 hσ5 h => ?_)
    show RW layM E mi_X12_worst Φ 15 [some (.ref (eA E 0)), some (.int (iz a1)), none, none, none, none, none, none] [.int (iz z4)] σ5 x
    refine r_istoren (lv' := [some (.ref (eA E 0)), some (.int (iz a1)), some (.int (iz z4)), none, none, none, none, none]) (dc D_cX12_worst_0 9 rfl) rfl rfl rfl ?_
    refine r_iconst (n := (-1)) (dc D_cX12_worst_0 10 rfl) ?_
    refine r_istoren (lv' := [some (.ref (eA E 0)), some (.int (iz a1)), some (.int (iz z4)), some (.int (iz (-1))), none, none, none, none]) (dc D_cX12_worst_0 11 rfl) rfl rfl rfl ?_
    refine r_bipush (n := (-5)) (dc D_cX12_worst_0 12 rfl) (by decide +kernel) ?_
    refine r_istore (lv' := [some (.ref (eA E 0)), some (.int (iz a1)), some (.int (iz z4)), some (.int (iz (-1))), some (.int (iz (-5))), none, none, none]) (dc D_cX12_worst_0 13 rfl) rfl rfl ?_
    refine r_iconst (n := 0) (dc D_cX12_worst_0 14 rfl) ?_
    refine r_istore (lv' := [some (.ref (eA E 0)), some (.int (iz a1)), some (.int (iz z4)), some (.int (iz (-1))), some (.int (iz (-5))), some (.int (iz 0)), none, none]) (dc D_cX12_worst_0 15 rfl) rfl rfl ?_
    obtain ⟨n, h⟩ := h
    exact TX12_worst_25 hE x n _ _ _ _ _ _ ra1 rz4 (Rl rfl) (Rl rfl) (Rl rfl) hσ5 h
  · have h := h.2 c3
    refine r_iconst (n := (-1)) (dc D_cX12_worst_0 5 rfl) ?_
    exact r_iret (dc D_cX12_worst_0 6 rfl) rfl (Rl rfl) h
-- end of GateFlowModel.worst
def mi_X12_watered : MI := (cX12_watered, RX12, 3, 2, (some .int), 1)
def LX12_watered_33 (K2 : Int → Int → PS → Prop) (x1 x2 : Int) (σ : PS) (Φ : Int → PS → Prop) : Prop :=
  Rg (x2 + 1) ∧
  K2 x1 (x2 + 1) σ
def BX12_watered_2 (K2 : Int → Int → PS → Prop) (x1 x2 : Int) (σ : PS) (Φ : Int → PS → Prop) : Prop :=
  ((σ 1 2 ≤ x2 →
    Φ (-1) σ) ∧
  (¬ σ 1 2 ≤ x2 →
    FX12_at x2 0 σ (fun z2 σ3 =>
    ((¬ z2 = x1 →
      LX12_watered_33 K2 x1 x2 σ3 Φ) ∧
    (z2 = x1 →
      (0 ≤ x2 ∧ x2 < 30) ∧
      ((σ3 19 x2.toNat ≤ 0 →
        LX12_watered_33 K2 x1 x2 σ3 Φ) ∧
      (¬ σ3 19 x2.toNat ≤ 0 →
        Φ x2 σ3)))))))
def LX12_watered_2 : Nat → Int → Int → PS → (Int → PS → Prop) → Prop
  | 0, _, _, _, _ => False
  | n + 1, x1, x2, σ, Φ => BX12_watered_2 (fun x1 x2 σ => LX12_watered_2 n x1 x2 σ Φ) x1 x2 σ Φ
def FX12_watered (a1 : Int) (σ : PS) (Φ : Int → PS → Prop) : Prop :=
  ∃ n, LX12_watered_2 n a1 0 σ Φ
theorem fw_RX12_65 : FW RX12 65 12 23 := ⟨RX12, TX12, 39, rfl, by decide, rfl, tb_1 1242 (by decide +kernel), uw_12⟩
set_option maxRecDepth 100000 in
theorem TX12_watered_33 {E : EV} (hE : eOK layM E) {Φ : Int → PS → Prop} {K2 : Int → Int → PS → Prop} (x : CX) (hK2 : ∀ (x1 x2 : Int) (σ : PS), Rg x1 → Rg x2 → RS σ → K2 x1 x2 σ → RW layM E mi_X12_watered Φ 2 [some (.ref (eA E 0)), some (.int (iz x1)), some (.int (iz x2))] [] σ x) (x1 x2 : Int) (rx1 : Rg x1) (rx2 : Rg x2) (σ : PS) (hs : RS σ) (h : LX12_watered_33 K2 x1 x2 σ Φ) : RW layM E mi_X12_watered Φ 33 [some (.ref (eA E 0)), some (.int (iz x1)), some (.int (iz x2))] [] σ x := by
  obtain ⟨o1, h⟩ := h
  refine r_iinc (lv' := [some (.ref (eA E 0)), some (.int (iz x1)), some (.int (iz (x2 + 1)))]) (dc D_cX12_watered_0 21 rfl) rfl rfl rfl ?_
  refine r_goto (tgt := 2) (dc D_cX12_watered_0 22 rfl) (by decide) ?_
  exact hK2 _ _ _ rx1 o1 hs h
set_option maxRecDepth 100000 in
theorem TBX12_watered_2 {E : EV} (hE : eOK layM E) {Φ : Int → PS → Prop} {K2 : Int → Int → PS → Prop} (x : CX) (hK2 : ∀ (x1 x2 : Int) (σ : PS), Rg x1 → Rg x2 → RS σ → K2 x1 x2 σ → RW layM E mi_X12_watered Φ 2 [some (.ref (eA E 0)), some (.int (iz x1)), some (.int (iz x2))] [] σ x) (x1 x2 : Int) (rx1 : Rg x1) (rx2 : Rg x2) (σ : PS) (hs : RS σ) (h : BX12_watered_2 K2 x1 x2 σ Φ) : RW layM E mi_X12_watered Φ 2 [some (.ref (eA E 0)), some (.int (iz x1)), some (.int (iz x2))] [] σ x := by
  refine r_iloadn (dc D_cX12_watered_0 2 rfl) rfl rfl ?_
  refine r_aloadn (dc D_cX12_watered_0 3 rfl) rfl rfl ?_
  refine r_getR (dc D_cX12_watered_0 4 rfl) fw_RX12_9 lM_0 rfl ?_
  refine r_iconst (n := 2) (dc D_cX12_watered_0 5 rfl) ?_
  refine r_iald (N := 183) (dc D_cX12_watered_0 6 rfl) lM_1 rfl rfl ⟨by decide, by decide⟩ ?_
  refine r_icmp_ge (tgt := 39) (dc D_cX12_watered_0 7 rfl) (by decide) rx2 (hs _ _) (fun c1 => ?_) (fun c1 => ?_)
  · have h := h.1 c1
    refine r_iconst (n := (-1)) (dc D_cX12_watered_0 23 rfl) ?_
    exact r_iret (dc D_cX12_watered_0 24 rfl) rfl (Rl rfl) h
  · have h := h.2 c1
    refine r_aloadn (dc D_cX12_watered_0 8 rfl) rfl rfl ?_
    refine r_iloadn (dc D_cX12_watered_0 9 rfl) rfl rfl ?_
    refine r_iconst (n := 0) (dc D_cX12_watered_0 10 rfl) ?_
    refine r_callV (As := [.int (iz x2), .int (iz 0)]) (st := []) (dc D_cX12_watered_0 11 rfl) cw_RX12_94 nm_yX12_at (CX12_at hE _ _ rx2 (Rl rfl) _ hs h) lM_0 rfl rfl (by decide) rfl rfl rfl (fun z2 σ3 rz2 hσ3 h => ?_)
    show RW layM E mi_X12_watered Φ 18 [some (.ref (eA E 0)), some (.int (iz x1)), some (.int (iz x2))] [.int (iz z2)] σ3 x
    refine r_iloadn (dc D_cX12_watered_0 12 rfl) rfl rfl ?_
    refine r_icmp_ne (tgt := 33) (dc D_cX12_watered_0 13 rfl) (by decide) rz2 rx1 (fun c4 => ?_) (fun c4 => ?_)
    · have h := h.1 c4
      exact TX12_watered_33 hE x hK2 _ _ rx1 rx2 _ hσ3 h
    · have h := h.2 c4
      refine r_aloadn (dc D_cX12_watered_0 14 rfl) rfl rfl ?_
      refine r_getR (dc D_cX12_watered_0 15 rfl) fw_RX12_65 lM_0 rfl ?_
      refine r_iloadn (dc D_cX12_watered_0 16 rfl) rfl rfl ?_
      obtain ⟨o5, h⟩ := h
      refine r_iald (N := 30) (dc D_cX12_watered_0 17 rfl) lM_19 rfl rfl o5 ?_
      refine r_if_le (tgt := 33) (dc D_cX12_watered_0 18 rfl) (by decide) (hσ3 _ _) (fun c6 => ?_) (fun c6 => ?_)
      · have h := h.1 c6
        exact TX12_watered_33 hE x hK2 _ _ rx1 rx2 _ hσ3 h
      · have h := h.2 c6
        refine r_iloadn (dc D_cX12_watered_0 19 rfl) rfl rfl ?_
        exact r_iret (dc D_cX12_watered_0 20 rfl) rfl rx2 h
theorem TX12_watered_2 {E : EV} (hE : eOK layM E) {Φ : Int → PS → Prop} (x : CX) (n : Nat) : ∀ (x1 x2 : Int) (σ : PS), Rg x1 → Rg x2 → RS σ → LX12_watered_2 n x1 x2 σ Φ → RW layM E mi_X12_watered Φ 2 [some (.ref (eA E 0)), some (.int (iz x1)), some (.int (iz x2))] [] σ x := by
  induction n with
  | zero => intro x1 x2 σ _ _ _ h; exact h.elim
  | succ n ih => intro x1 x2 σ rx1 rx2 hs h; exact TBX12_watered_2 hE x ih x1 x2 rx1 rx2 σ hs h
set_option maxRecDepth 100000 in
theorem CX12_watered {E : EV} (hE : eOK layM E) {Φ : Int → PS → Prop} (a1 : Int) (ra1 : Rg a1) (σ : PS) (hs : RS σ) (h : FX12_watered a1 σ Φ) : CT layM E yX12_watered mi_X12_watered [.ref (eA E 0), .int (iz a1)] σ Φ := by
  refine ct_of (by decide +kernel) rfl hE rfl rfl hs (fun x => ?_)
  show RW layM E mi_X12_watered Φ 0 [some (.ref (eA E 0)), some (.int (iz a1)), none] [] σ x
  refine r_iconst (n := 0) (dc D_cX12_watered_0 0 rfl) ?_
  refine r_istoren (lv' := [some (.ref (eA E 0)), some (.int (iz a1)), some (.int (iz 0))]) (dc D_cX12_watered_0 1 rfl) rfl rfl rfl ?_
  obtain ⟨n, h⟩ := h
  exact TX12_watered_2 hE x n _ _ _ ra1 (Rl rfl) hs h
-- end of GateFlowModel.watered
def mi_X12_takes : MI := (cX12_takes, RX12, 7, 4, none, 0)
def LX12_takes_237 (s1 s2 : Int) (σ : PS) (Φ : Int → PS → Prop) : Prop :=
  (0 ≤ s1 ∧ s1 < 30) ∧
  (s2 = 0 ∨ s2 = 1) ∧
  ∀ σ3 : PS, σ3 = up2 σ 17 s1.toNat s2 →
  Rg ((σ3 0 18) + 1) ∧
  ∀ σ5 : PS, σ5 = up2 σ3 0 18 ((σ3 0 18) + 1) →
  Φ 0 σ5
def BX12_takes_142 (K142 : Int → Int → Int → Int → Int → PS → Prop) (x1 x2 x4 x5 x6 : Int) (σ : PS) (Φ : Int → PS → Prop) : Prop :=
  ((x1 ≤ x6 →
    (0 ≤ σ 0 18 ∧ σ 0 18 < 30) ∧
    ∀ σ3 : PS, σ3 = up2 σ 15 (σ 0 18).toNat x5 →
    Rg (x1 - x4) ∧
    (0 ≤ σ3 0 18 ∧ σ3 0 18 < 30) ∧
    ∀ σ6 : PS, σ6 = up2 σ3 16 (σ3 0 18).toNat (x1 - x4) →
    ((x2 < 0 →
      LX12_takes_237 (σ6 0 18) 0 σ6 Φ) ∧
    (¬ x2 < 0 →
      LX12_takes_237 (σ6 0 18) 1 σ6 Φ))) ∧
  (¬ x1 ≤ x6 →
    (0 ≤ x6 ∧ x6 < 13) ∧
    (0 ≤ σ 20 x6.toNat ∧ σ 20 x6.toNat < 30) ∧
    Rg ((σ 19 (σ 20 x6.toNat).toNat) - x5) ∧
    (0 ≤ σ 20 x6.toNat ∧ σ 20 x6.toNat < 30) ∧
    ∀ σ12 : PS, σ12 = up2 σ 19 (σ 20 x6.toNat).toNat ((σ 19 (σ 20 x6.toNat).toNat) - x5) →
    Rg ((σ12 0 18) * 12) ∧
    Rg (((σ12 0 18) * 12) + x6) ∧
    Rg ((((σ12 0 18) * 12) + x6) - x4) ∧
    (0 ≤ x6 ∧ x6 < 13) ∧
    (0 ≤ (((σ12 0 18) * 12) + x6) - x4 ∧ (((σ12 0 18) * 12) + x6) - x4 < 360) ∧
    ∀ σ18 : PS, σ18 = up2 σ12 18 ((((σ12 0 18) * 12) + x6) - x4).toNat (σ12 20 x6.toNat) →
    Rg (x6 + 1) ∧
    K142 x1 x2 x4 x5 (x6 + 1) σ18))
def LX12_takes_142 : Nat → Int → Int → Int → Int → Int → PS → (Int → PS → Prop) → Prop
  | 0, _, _, _, _, _, _, _ => False
  | n + 1, x1, x2, x4, x5, x6, σ, Φ => BX12_takes_142 (fun x1 x2 x4 x5 x6 σ => LX12_takes_142 n x1 x2 x4 x5 x6 σ Φ) x1 x2 x4 x5 x6 σ Φ
def BX12_takes_107 (K107 : Int → Int → Int → Int → Int → PS → Prop) (x1 x2 x4 x5 x6 : Int) (σ : PS) (Φ : Int → PS → Prop) : Prop :=
  ((x1 ≤ x6 →
    ∃ n, LX12_takes_142 n x1 x2 x4 x5 x4 σ Φ) ∧
  (¬ x1 ≤ x6 →
    (0 ≤ x6 ∧ x6 < 13) ∧
    (0 ≤ σ 20 x6.toNat ∧ σ 20 x6.toNat < 30) ∧
    ∀ v4 : Int, v4 = min x5 (σ 19 (σ 20 x6.toNat).toNat) →
    Rg (x6 + 1) ∧
    K107 x1 x2 x4 v4 (x6 + 1) σ))
def LX12_takes_107 : Nat → Int → Int → Int → Int → Int → PS → (Int → PS → Prop) → Prop
  | 0, _, _, _, _, _, _, _ => False
  | n + 1, x1, x2, x4, x5, x6, σ, Φ => BX12_takes_107 (fun x1 x2 x4 x5 x6 σ => LX12_takes_107 n x1 x2 x4 x5 x6 σ Φ) x1 x2 x4 x5 x6 σ Φ
def LX12_takes_92 (x1 x2 : Int) (σ : PS) (Φ : Int → PS → Prop) : Prop :=
  ∀ v1 : Int, v1 = max 0 x2 →
  ∃ n, LX12_takes_107 n x1 x2 v1 100000000 v1 σ Φ
def LX12_takes_82 (K11 : Int → Int → Int → PS → Prop) (K54 : Int → Int → Int → Int → PS → Prop) (x1 x3 x4 s0 : Int) (σ : PS) (Φ : Int → PS → Prop) : Prop :=
  Rg (x4 + 1) ∧
  K54 x1 s0 x3 (x4 + 1) σ
def BX12_takes_54 (K11 : Int → Int → Int → PS → Prop) (K54 : Int → Int → Int → Int → PS → Prop) (x1 x2 x3 x4 : Int) (σ : PS) (Φ : Int → PS → Prop) : Prop :=
  ((x1 ≤ x4 →
    K11 x1 x2 x3 σ) ∧
  (¬ x1 ≤ x4 →
    (0 ≤ x4 ∧ x4 < 13) ∧
    FX12_at (σ 20 x4.toNat) 0 σ (fun z3 σ4 =>
    ((¬ z3 = x3 →
      LX12_takes_82 K11 K54 x1 x3 x4 x2 σ4 Φ) ∧
    (z3 = x3 →
      LX12_takes_82 K11 K54 x1 x3 x4 x4 σ4 Φ)))))
def LX12_takes_54 (K11 : Int → Int → Int → PS → Prop) : Nat → Int → Int → Int → Int → PS → (Int → PS → Prop) → Prop
  | 0, _, _, _, _, _, _ => False
  | n + 1, x1, x2, x3, x4, σ, Φ => BX12_takes_54 K11 (fun x1 x2 x3 x4 σ => LX12_takes_54 K11 n x1 x2 x3 x4 σ Φ) x1 x2 x3 x4 σ Φ
def BX12_takes_11 (K11 : Int → Int → Int → PS → Prop) (x1 x2 x3 : Int) (σ : PS) (Φ : Int → PS → Prop) : Prop :=
  ((x3 = σ 1 1 →
    LX12_takes_92 x1 x2 σ Φ) ∧
  (¬ x3 = σ 1 1 →
    ((0 ≤ x2 →
      LX12_takes_92 x1 x2 σ Φ) ∧
    (¬ 0 ≤ x2 →
      FX12_watered x3 σ (fun z3 σ4 =>
      (0 ≤ x1 ∧ x1 < 13) ∧
      ∀ σ6 : PS, σ6 = up2 σ4 20 x1.toNat z3 →
      (0 ≤ x1 ∧ x1 < 13) ∧
      FX12_at (σ6 20 x1.toNat) 1 σ6 (fun z8 σ9 =>
      Rg (x1 + 1) ∧
      ∃ n, LX12_takes_54 K11 n (x1 + 1) x2 z8 0 σ9 Φ))))))
def LX12_takes_11 : Nat → Int → Int → Int → PS → (Int → PS → Prop) → Prop
  | 0, _, _, _, _, _ => False
  | n + 1, x1, x2, x3, σ, Φ => BX12_takes_11 (fun x1 x2 x3 σ => LX12_takes_11 n x1 x2 x3 σ Φ) x1 x2 x3 σ Φ
def FX12_takes (σ : PS) (Φ : Int → PS → Prop) : Prop :=
  ∀ v1 : Int, v1 = σ 1 0 →
  ∃ n, LX12_takes_11 n 0 (-1) v1 σ Φ
theorem fw_RX12_52 : FW RX12 52 12 19 := ⟨RX12, TX12, 39, rfl, by decide, rfl, tb_1 1238 (by decide +kernel), uw_12⟩
theorem fw_RX12_206 : FW RX12 206 12 18 := ⟨RX12, TX12, 39, rfl, by decide, rfl, tb_1 1237 (by decide +kernel), uw_12⟩
theorem fw_RX12_55 : FW RX12 55 12 20 := ⟨RX12, TX12, 39, rfl, by decide, rfl, tb_1 1239 (by decide +kernel), uw_12⟩
theorem fw_RX12_58 : FW RX12 58 12 21 := ⟨RX12, TX12, 39, rfl, by decide, rfl, tb_1 1240 (by decide +kernel), uw_12⟩
theorem fw_RX12_68 : FW RX12 68 12 24 := ⟨RX12, TX12, 39, rfl, by decide, rfl, tb_1 1243 (by decide +kernel), uw_12⟩
theorem fw_RX12_62 : FW RX12 62 12 22 := ⟨RX12, TX12, 39, rfl, by decide, rfl, tb_1 1241 (by decide +kernel), uw_12⟩
theorem fp_12_18 : FP 12 18 .int := ⟨RX12, TX12, 39, tyX12, rfl, tyX12_ok, nmX12, rfl, by decide +kernel⟩
theorem mw_RX12_203 : MW RX12 203 Lib.Math.max.name Lib.Math.max.code := tb_r [1540, 749, 111, 750] (by decide +kernel)
theorem cw_RX12_200 : CWV RX12 200 yX12_watered mi_X12_watered := tb_r [1532, 1534, 66, 110, 1535] (by decide +kernel)
theorem nm_yX12_watered : ynm yX12_watered 1 := ⟨⟨by decide +kernel, by decide +kernel⟩, by decide +kernel⟩
set_option maxRecDepth 100000 in
theorem TX12_takes_237 {E : EV} (hE : eOK layM E) {Φ : Int → PS → Prop} (x : CX) (s1 s2 : Int) (rs1 : Rg s1) (rs2 : Rg s2) (σ : PS) (hs : RS σ) (h : LX12_takes_237 s1 s2 σ Φ) : RW layM E mi_X12_takes Φ 237 [some (.ref (eA E 0)), none, none, none, none, none, none] [.int (iz s2), .int (iz s1), .ref (eA E 17)] σ x := by
  obtain ⟨o1, h⟩ := h
  obtain ⟨o2, h⟩ := h
  refine r_zast (N := 30) (dc D_cX12_takes_3 13 rfl) lM_17 rfl rfl o1 o2 ?_
  refine r_sig (fun σ3 eσ3 => ?_)
  have h := h σ3 eσ3
  have hσ3 : RS σ3 := RS_eq eσ3 (RS.up hs rs2 _ _)
  refine r_aloadn (dc D_cX12_takes_3 14 rfl) rfl rfl ?_
  refine r_dup (dc D_cX12_takes_3 15 rfl) rfl ?_
  refine r_getI (dc D_cX12_takes_3 16 rfl) fw_RX12_206 lM_0 rfl ?_
  refine r_iconst (n := 1) (dc D_cX12_takes_3 17 rfl) ?_
  refine r_iadd (dc D_cX12_takes_3 18 rfl) ?_
  obtain ⟨o4, h⟩ := h
  refine r_put (dc D_cX12_takes_3 19 rfl) fw_RX12_206 fp_12_18 lM_0 rfl (nar_int _) o4 ?_
  refine r_sig (fun σ5 eσ5 => ?_)
  have h := h σ5 eσ5
  have hσ5 : RS σ5 := RS_eq eσ5 (RS.up hσ3 o4 _ _)
  exact r_vret (dc D_cX12_takes_3 20 rfl) rfl h
set_option maxRecDepth 100000 in
theorem TBX12_takes_142 {E : EV} (hE : eOK layM E) {Φ : Int → PS → Prop} {K142 : Int → Int → Int → Int → Int → PS → Prop} (x : CX) (hK142 : ∀ (x1 x2 x4 x5 x6 : Int) (σ : PS), Rg x1 → Rg x2 → Rg x4 → Rg x5 → Rg x6 → RS σ → K142 x1 x2 x4 x5 x6 σ → RW layM E mi_X12_takes Φ 142 [some (.ref (eA E 0)), some (.int (iz x1)), some (.int (iz x2)), none, some (.int (iz x4)), some (.int (iz x5)), some (.int (iz x6))] [] σ x) (x1 x2 x4 x5 x6 : Int) (rx1 : Rg x1) (rx2 : Rg x2) (rx4 : Rg x4) (rx5 : Rg x5) (rx6 : Rg x6) (σ : PS) (hs : RS σ) (h : BX12_takes_142 K142 x1 x2 x4 x5 x6 σ Φ) : RW layM E mi_X12_takes Φ 142 [some (.ref (eA E 0)), some (.int (iz x1)), some (.int (iz x2)), none, some (.int (iz x4)), some (.int (iz x5)), some (.int (iz x6))] [] σ x := by
  refine r_iload (dc D_cX12_takes_1 39 rfl) rfl ?_
  refine r_iloadn (dc D_cX12_takes_2 0 rfl) rfl rfl ?_
  refine r_icmp_ge (tgt := 196) (dc D_cX12_takes_2 1 rfl) (by decide) rx6 rx1 (fun c1 => ?_) (fun c1 => ?_)
  · have h := h.1 c1
    refine r_aloadn (dc D_cX12_takes_2 30 rfl) rfl rfl ?_
    refine r_getR (dc D_cX12_takes_2 31 rfl) fw_RX12_52 lM_0 rfl ?_
    refine r_aloadn (dc D_cX12_takes_2 32 rfl) rfl rfl ?_
    refine r_getI (dc D_cX12_takes_2 33 rfl) fw_RX12_206 lM_0 rfl ?_
    refine r_iload (dc D_cX12_takes_2 34 rfl) rfl ?_
    obtain ⟨o2, h⟩ := h
    refine r_iast (N := 30) (dc D_cX12_takes_2 35 rfl) lM_15 rfl rfl o2 rx5 ?_
    refine r_sig (fun σ3 eσ3 => ?_)
    have h := h σ3 eσ3
    have hσ3 : RS σ3 := RS_eq eσ3 (RS.up hs rx5 _ _)
    refine r_aloadn (dc D_cX12_takes_2 36 rfl) rfl rfl ?_
    refine r_getR (dc D_cX12_takes_2 37 rfl) fw_RX12_55 lM_0 rfl ?_
    refine r_aloadn (dc D_cX12_takes_2 38 rfl) rfl rfl ?_
    refine r_getI (dc D_cX12_takes_2 39 rfl) fw_RX12_206 lM_0 rfl ?_
    refine r_iloadn (dc D_cX12_takes_3 0 rfl) rfl rfl ?_
    refine r_iload (dc D_cX12_takes_3 1 rfl) rfl ?_
    refine r_isub (dc D_cX12_takes_3 2 rfl) ?_
    obtain ⟨o4, h⟩ := h
    obtain ⟨o5, h⟩ := h
    refine r_iast (N := 30) (dc D_cX12_takes_3 3 rfl) lM_16 rfl rfl o5 o4 ?_
    refine r_sig (fun σ6 eσ6 => ?_)
    have h := h σ6 eσ6
    have hσ6 : RS σ6 := RS_eq eσ6 (RS.up hσ3 o4 _ _)
    refine r_aloadn (dc D_cX12_takes_3 4 rfl) rfl rfl ?_
    refine r_getR (dc D_cX12_takes_3 5 rfl) fw_RX12_58 lM_0 rfl ?_
    refine r_aloadn (dc D_cX12_takes_3 6 rfl) rfl rfl ?_
    refine r_getI (dc D_cX12_takes_3 7 rfl) fw_RX12_206 lM_0 rfl ?_
    refine r_iloadn (dc D_cX12_takes_3 8 rfl) rfl rfl ?_
    refine r_if_lt (tgt := 236) (dc D_cX12_takes_3 9 rfl) (by decide) rx2 (fun c7 => ?_) (fun c7 => ?_)
    · have h := h.1 c7
      refine r_iconst (n := 0) (dc D_cX12_takes_3 12 rfl) ?_
      refine r_sub (lv' := [some (.ref (eA E 0)), none, none, none, none, none, none]) (subL_s (subL_n (subL_n (subL_n (subL_n (subL_n (subL_n subL_e))))))) ?_
      exact TX12_takes_237 hE x _ _ (hσ6 _ _) (Rl rfl) _ hσ6 h
    · have h := h.2 c7
      refine r_iconst (n := 1) (dc D_cX12_takes_3 10 rfl) ?_
      refine r_goto (tgt := 237) (dc D_cX12_takes_3 11 rfl) (by decide) ?_
      refine r_sub (lv' := [some (.ref (eA E 0)), none, none, none, none, none, none]) (subL_s (subL_n (subL_n (subL_n (subL_n (subL_n (subL_n subL_e))))))) ?_
      exact TX12_takes_237 hE x _ _ (hσ6 _ _) (Rl rfl) _ hσ6 h
  · have h := h.2 c1
    refine r_aloadn (dc D_cX12_takes_2 2 rfl) rfl rfl ?_
    refine r_getR (dc D_cX12_takes_2 3 rfl) fw_RX12_65 lM_0 rfl ?_
    refine r_aloadn (dc D_cX12_takes_2 4 rfl) rfl rfl ?_
    refine r_getR (dc D_cX12_takes_2 5 rfl) fw_RX12_68 lM_0 rfl ?_
    refine r_iload (dc D_cX12_takes_2 6 rfl) rfl ?_
    obtain ⟨o8, h⟩ := h
    refine r_iald (N := 13) (dc D_cX12_takes_2 7 rfl) lM_20 rfl rfl o8 ?_
    refine r_dup2 (dc D_cX12_takes_2 8 rfl) rfl rfl ?_
    obtain ⟨o9, h⟩ := h
    refine r_iald (N := 30) (dc D_cX12_takes_2 9 rfl) lM_19 rfl rfl o9 ?_
    refine r_iload (dc D_cX12_takes_2 10 rfl) rfl ?_
    refine r_isub (dc D_cX12_takes_2 11 rfl) ?_
    obtain ⟨o10, h⟩ := h
    obtain ⟨o11, h⟩ := h
    refine r_iast (N := 30) (dc D_cX12_takes_2 12 rfl) lM_19 rfl rfl o11 o10 ?_
    refine r_sig (fun σ12 eσ12 => ?_)
    have h := h σ12 eσ12
    have hσ12 : RS σ12 := RS_eq eσ12 (RS.up hs o10 _ _)
    refine r_aloadn (dc D_cX12_takes_2 13 rfl) rfl rfl ?_
    refine r_getR (dc D_cX12_takes_2 14 rfl) fw_RX12_62 lM_0 rfl ?_
    refine r_aloadn (dc D_cX12_takes_2 15 rfl) rfl rfl ?_
    refine r_getI (dc D_cX12_takes_2 16 rfl) fw_RX12_206 lM_0 rfl ?_
    refine r_bipush (n := 12) (dc D_cX12_takes_2 17 rfl) (by decide +kernel) ?_
    refine r_imul (dc D_cX12_takes_2 18 rfl) ?_
    obtain ⟨o13, h⟩ := h
    refine r_iload (dc D_cX12_takes_2 19 rfl) rfl ?_
    refine r_iadd (dc D_cX12_takes_2 20 rfl) ?_
    obtain ⟨o14, h⟩ := h
    refine r_iload (dc D_cX12_takes_2 21 rfl) rfl ?_
    refine r_isub (dc D_cX12_takes_2 22 rfl) ?_
    obtain ⟨o15, h⟩ := h
    refine r_aloadn (dc D_cX12_takes_2 23 rfl) rfl rfl ?_
    refine r_getR (dc D_cX12_takes_2 24 rfl) fw_RX12_68 lM_0 rfl ?_
    refine r_iload (dc D_cX12_takes_2 25 rfl) rfl ?_
    obtain ⟨o16, h⟩ := h
    refine r_iald (N := 13) (dc D_cX12_takes_2 26 rfl) lM_20 rfl rfl o16 ?_
    obtain ⟨o17, h⟩ := h
    refine r_iast (N := 360) (dc D_cX12_takes_2 27 rfl) lM_18 rfl rfl o17 (hσ12 _ _) ?_
    refine r_sig (fun σ18 eσ18 => ?_)
    have h := h σ18 eσ18
    have hσ18 : RS σ18 := RS_eq eσ18 (RS.up hσ12 (hσ12 _ _) _ _)
    obtain ⟨o19, h⟩ := h
    refine r_iinc (lv' := [some (.ref (eA E 0)), some (.int (iz x1)), some (.int (iz x2)), none, some (.int (iz x4)), some (.int (iz x5)), some (.int (iz (x6 + 1)))]) (dc D_cX12_takes_2 28 rfl) rfl rfl rfl ?_
    refine r_goto (tgt := 142) (dc D_cX12_takes_2 29 rfl) (by decide) ?_
    exact hK142 _ _ _ _ _ _ rx1 rx2 rx4 rx5 o19 hσ18 h
theorem TX12_takes_142 {E : EV} (hE : eOK layM E) {Φ : Int → PS → Prop} (x : CX) (n : Nat) : ∀ (x1 x2 x4 x5 x6 : Int) (σ : PS), Rg x1 → Rg x2 → Rg x4 → Rg x5 → Rg x6 → RS σ → LX12_takes_142 n x1 x2 x4 x5 x6 σ Φ → RW layM E mi_X12_takes Φ 142 [some (.ref (eA E 0)), some (.int (iz x1)), some (.int (iz x2)), none, some (.int (iz x4)), some (.int (iz x5)), some (.int (iz x6))] [] σ x := by
  induction n with
  | zero => intro x1 x2 x4 x5 x6 σ _ _ _ _ _ _ h; exact h.elim
  | succ n ih => intro x1 x2 x4 x5 x6 σ rx1 rx2 rx4 rx5 rx6 hs h; exact TBX12_takes_142 hE x ih x1 x2 x4 x5 x6 rx1 rx2 rx4 rx5 rx6 σ hs h
set_option maxRecDepth 100000 in
theorem TBX12_takes_107 {E : EV} (hE : eOK layM E) {Φ : Int → PS → Prop} {K107 : Int → Int → Int → Int → Int → PS → Prop} (x : CX) (hK107 : ∀ (x1 x2 x4 x5 x6 : Int) (σ : PS), Rg x1 → Rg x2 → Rg x4 → Rg x5 → Rg x6 → RS σ → K107 x1 x2 x4 x5 x6 σ → RW layM E mi_X12_takes Φ 107 [some (.ref (eA E 0)), some (.int (iz x1)), some (.int (iz x2)), none, some (.int (iz x4)), some (.int (iz x5)), some (.int (iz x6))] [] σ x) (x1 x2 x4 x5 x6 : Int) (rx1 : Rg x1) (rx2 : Rg x2) (rx4 : Rg x4) (rx5 : Rg x5) (rx6 : Rg x6) (σ : PS) (hs : RS σ) (h : BX12_takes_107 K107 x1 x2 x4 x5 x6 σ Φ) : RW layM E mi_X12_takes Φ 107 [some (.ref (eA E 0)), some (.int (iz x1)), some (.int (iz x2)), none, some (.int (iz x4)), some (.int (iz x5)), some (.int (iz x6))] [] σ x := by
  refine r_iload (dc D_cX12_takes_1 22 rfl) rfl ?_
  refine r_iloadn (dc D_cX12_takes_1 23 rfl) rfl rfl ?_
  refine r_icmp_ge (tgt := 138) (dc D_cX12_takes_1 24 rfl) (by decide) rx6 rx1 (fun c1 => ?_) (fun c1 => ?_)
  · have h := h.1 c1
    refine r_iload (dc D_cX12_takes_1 37 rfl) rfl ?_
    refine r_istore (lv' := [some (.ref (eA E 0)), some (.int (iz x1)), some (.int (iz x2)), none, some (.int (iz x4)), some (.int (iz x5)), some (.int (iz x4))]) (dc D_cX12_takes_1 38 rfl) rfl rfl ?_
    obtain ⟨n, h⟩ := h
    exact TX12_takes_142 hE x n _ _ _ _ _ _ rx1 rx2 rx4 rx5 rx4 hs h
  · have h := h.2 c1
    refine r_iload (dc D_cX12_takes_1 25 rfl) rfl ?_
    refine r_aloadn (dc D_cX12_takes_1 26 rfl) rfl rfl ?_
    refine r_getR (dc D_cX12_takes_1 27 rfl) fw_RX12_65 lM_0 rfl ?_
    refine r_aloadn (dc D_cX12_takes_1 28 rfl) rfl rfl ?_
    refine r_getR (dc D_cX12_takes_1 29 rfl) fw_RX12_68 lM_0 rfl ?_
    refine r_iload (dc D_cX12_takes_1 30 rfl) rfl ?_
    obtain ⟨o2, h⟩ := h
    refine r_iald (N := 13) (dc D_cX12_takes_1 31 rfl) lM_20 rfl rfl o2 ?_
    obtain ⟨o3, h⟩ := h
    refine r_iald (N := 30) (dc D_cX12_takes_1 32 rfl) lM_19 rfl rfl o3 ?_
    refine r_min (dc D_cX12_takes_1 33 rfl) mw_RX12_145 rx5 (hs _ _) (by decide) rfl ?_
    refine r_name (fun v4 ev4 => ?_)
    have h := h v4 ev4
    have rv4 : Rg v4 := Rg_eq ev4 (Rg_min rx5 (hs _ _))
    refine r_istore (lv' := [some (.ref (eA E 0)), some (.int (iz x1)), some (.int (iz x2)), none, some (.int (iz x4)), some (.int (iz v4)), some (.int (iz x6))]) (dc D_cX12_takes_1 34 rfl) rfl rfl ?_
    obtain ⟨o5, h⟩ := h
    refine r_iinc (lv' := [some (.ref (eA E 0)), some (.int (iz x1)), some (.int (iz x2)), none, some (.int (iz x4)), some (.int (iz v4)), some (.int (iz (x6 + 1)))]) (dc D_cX12_takes_1 35 rfl) rfl rfl rfl ?_
    refine r_goto (tgt := 107) (dc D_cX12_takes_1 36 rfl) (by decide) ?_
    exact hK107 _ _ _ _ _ _ rx1 rx2 rx4 rv4 o5 hs h
theorem TX12_takes_107 {E : EV} (hE : eOK layM E) {Φ : Int → PS → Prop} (x : CX) (n : Nat) : ∀ (x1 x2 x4 x5 x6 : Int) (σ : PS), Rg x1 → Rg x2 → Rg x4 → Rg x5 → Rg x6 → RS σ → LX12_takes_107 n x1 x2 x4 x5 x6 σ Φ → RW layM E mi_X12_takes Φ 107 [some (.ref (eA E 0)), some (.int (iz x1)), some (.int (iz x2)), none, some (.int (iz x4)), some (.int (iz x5)), some (.int (iz x6))] [] σ x := by
  induction n with
  | zero => intro x1 x2 x4 x5 x6 σ _ _ _ _ _ _ h; exact h.elim
  | succ n ih => intro x1 x2 x4 x5 x6 σ rx1 rx2 rx4 rx5 rx6 hs h; exact TBX12_takes_107 hE x ih x1 x2 x4 x5 x6 rx1 rx2 rx4 rx5 rx6 σ hs h
set_option maxRecDepth 100000 in
theorem TX12_takes_92 {E : EV} (hE : eOK layM E) {Φ : Int → PS → Prop} (x : CX) (x1 x2 : Int) (rx1 : Rg x1) (rx2 : Rg x2) (σ : PS) (hs : RS σ) (h : LX12_takes_92 x1 x2 σ Φ) : RW layM E mi_X12_takes Φ 92 [some (.ref (eA E 0)), some (.int (iz x1)), some (.int (iz x2)), none, none, none, none] [] σ x := by
  refine r_iconst (n := 0) (dc D_cX12_takes_1 14 rfl) ?_
  refine r_iloadn (dc D_cX12_takes_1 15 rfl) rfl rfl ?_
  refine r_max (dc D_cX12_takes_1 16 rfl) mw_RX12_203 (Rl rfl) rx2 (by decide) rfl ?_
  refine r_name (fun v1 ev1 => ?_)
  have h := h v1 ev1
  have rv1 : Rg v1 := Rg_eq ev1 (Rg_max (Rl rfl) rx2)
  refine r_istore (lv' := [some (.ref (eA E 0)), some (.int (iz x1)), some (.int (iz x2)), none, some (.int (iz v1)), none, none]) (dc D_cX12_takes_1 17 rfl) rfl rfl ?_
  refine r_ldc (n := (100000000)) (dc D_cX12_takes_1 18 rfl) kw_RX12_141 ?_
  refine r_istore (lv' := [some (.ref (eA E 0)), some (.int (iz x1)), some (.int (iz x2)), none, some (.int (iz v1)), some (.int (iz 100000000)), none]) (dc D_cX12_takes_1 19 rfl) rfl rfl ?_
  refine r_iload (dc D_cX12_takes_1 20 rfl) rfl ?_
  refine r_istore (lv' := [some (.ref (eA E 0)), some (.int (iz x1)), some (.int (iz x2)), none, some (.int (iz v1)), some (.int (iz 100000000)), some (.int (iz v1))]) (dc D_cX12_takes_1 21 rfl) rfl rfl ?_
  obtain ⟨n, h⟩ := h
  exact TX12_takes_107 hE x n _ _ _ _ _ _ rx1 rx2 rv1 (Rl rfl) rv1 hs h
set_option maxRecDepth 100000 in
theorem TX12_takes_82 {E : EV} (hE : eOK layM E) {Φ : Int → PS → Prop} {K11 : Int → Int → Int → PS → Prop} {K54 : Int → Int → Int → Int → PS → Prop} (x : CX) (hK11 : ∀ (x1 x2 x3 : Int) (σ : PS), Rg x1 → Rg x2 → Rg x3 → RS σ → K11 x1 x2 x3 σ → RW layM E mi_X12_takes Φ 11 [some (.ref (eA E 0)), some (.int (iz x1)), some (.int (iz x2)), some (.int (iz x3)), none, none, none] [] σ x) (hK54 : ∀ (x1 x2 x3 x4 : Int) (σ : PS), Rg x1 → Rg x2 → Rg x3 → Rg x4 → RS σ → K54 x1 x2 x3 x4 σ → RW layM E mi_X12_takes Φ 54 [some (.ref (eA E 0)), some (.int (iz x1)), some (.int (iz x2)), some (.int (iz x3)), some (.int (iz x4)), none, none] [] σ x) (x1 x3 x4 s0 : Int) (rx1 : Rg x1) (rx3 : Rg x3) (rx4 : Rg x4) (rs0 : Rg s0) (σ : PS) (hs : RS σ) (h : LX12_takes_82 K11 K54 x1 x3 x4 s0 σ Φ) : RW layM E mi_X12_takes Φ 82 [some (.ref (eA E 0)), some (.int (iz x1)), none, some (.int (iz x3)), some (.int (iz x4)), none, none] [.int (iz s0)] σ x := by
  refine r_istoren (lv' := [some (.ref (eA E 0)), some (.int (iz x1)), some (.int (iz s0)), some (.int (iz x3)), some (.int (iz x4)), none, none]) (dc D_cX12_takes_1 10 rfl) rfl rfl rfl ?_
  obtain ⟨o1, h⟩ := h
  refine r_iinc (lv' := [some (.ref (eA E 0)), some (.int (iz x1)), some (.int (iz s0)), some (.int (iz x3)), some (.int (iz (x4 + 1))), none, none]) (dc D_cX12_takes_1 11 rfl) rfl rfl rfl ?_
  refine r_goto (tgt := 54) (dc D_cX12_takes_1 12 rfl) (by decide) ?_
  exact hK54 _ _ _ _ _ rx1 rs0 rx3 o1 hs h
set_option maxRecDepth 100000 in
theorem TBX12_takes_54 {E : EV} (hE : eOK layM E) {Φ : Int → PS → Prop} {K11 : Int → Int → Int → PS → Prop} {K54 : Int → Int → Int → Int → PS → Prop} (x : CX) (hK11 : ∀ (x1 x2 x3 : Int) (σ : PS), Rg x1 → Rg x2 → Rg x3 → RS σ → K11 x1 x2 x3 σ → RW layM E mi_X12_takes Φ 11 [some (.ref (eA E 0)), some (.int (iz x1)), some (.int (iz x2)), some (.int (iz x3)), none, none, none] [] σ x) (hK54 : ∀ (x1 x2 x3 x4 : Int) (σ : PS), Rg x1 → Rg x2 → Rg x3 → Rg x4 → RS σ → K54 x1 x2 x3 x4 σ → RW layM E mi_X12_takes Φ 54 [some (.ref (eA E 0)), some (.int (iz x1)), some (.int (iz x2)), some (.int (iz x3)), some (.int (iz x4)), none, none] [] σ x) (x1 x2 x3 x4 : Int) (rx1 : Rg x1) (rx2 : Rg x2) (rx3 : Rg x3) (rx4 : Rg x4) (σ : PS) (hs : RS σ) (h : BX12_takes_54 K11 K54 x1 x2 x3 x4 σ Φ) : RW layM E mi_X12_takes Φ 54 [some (.ref (eA E 0)), some (.int (iz x1)), some (.int (iz x2)), some (.int (iz x3)), some (.int (iz x4)), none, none] [] σ x := by
  refine r_iload (dc D_cX12_takes_0 35 rfl) rfl ?_
  refine r_iloadn (dc D_cX12_takes_0 36 rfl) rfl rfl ?_
  refine r_icmp_ge (tgt := 89) (dc D_cX12_takes_0 37 rfl) (by decide) rx4 rx1 (fun c1 => ?_) (fun c1 => ?_)
  · have h := h.1 c1
    refine r_goto (tgt := 11) (dc D_cX12_takes_1 13 rfl) (by decide) ?_
    refine r_sub (lv' := [some (.ref (eA E 0)), some (.int (iz x1)), some (.int (iz x2)), some (.int (iz x3)), none, none, none]) (subL_s (subL_s (subL_s (subL_s (subL_n (subL_n (subL_n subL_e))))))) ?_
    exact hK11 _ _ _ _ rx1 rx2 rx3 hs h
  · have h := h.2 c1
    refine r_aloadn (dc D_cX12_takes_0 38 rfl) rfl rfl ?_
    refine r_aloadn (dc D_cX12_takes_0 39 rfl) rfl rfl ?_
    refine r_getR (dc D_cX12_takes_1 0 rfl) fw_RX12_68 lM_0 rfl ?_
    refine r_iload (dc D_cX12_takes_1 1 rfl) rfl ?_
    obtain ⟨o2, h⟩ := h
    refine r_iald (N := 13) (dc D_cX12_takes_1 2 rfl) lM_20 rfl rfl o2 ?_
    refine r_iconst (n := 0) (dc D_cX12_takes_1 3 rfl) ?_
    refine r_callV (As := [.int (iz (σ 20 x4.toNat)), .int (iz 0)]) (st := []) (dc D_cX12_takes_1 4 rfl) cw_RX12_94 nm_yX12_at (CX12_at hE _ _ (hs _ _) (Rl rfl) _ hs h) lM_0 rfl rfl (by decide) rfl rfl rfl (fun z3 σ4 rz3 hσ4 h => ?_)
    show RW layM E mi_X12_takes Φ 72 [some (.ref (eA E 0)), some (.int (iz x1)), some (.int (iz x2)), some (.int (iz x3)), some (.int (iz x4)), none, none] [.int (iz z3)] σ4 x
    refine r_iloadn (dc D_cX12_takes_1 5 rfl) rfl rfl ?_
    refine r_icmp_ne (tgt := 81) (dc D_cX12_takes_1 6 rfl) (by decide) rz3 rx3 (fun c5 => ?_) (fun c5 => ?_)
    · have h := h.1 c5
      refine r_iloadn (dc D_cX12_takes_1 9 rfl) rfl rfl ?_
      refine r_sub (lv' := [some (.ref (eA E 0)), some (.int (iz x1)), none, some (.int (iz x3)), some (.int (iz x4)), none, none]) (subL_s (subL_s (subL_n (subL_s (subL_s (subL_n (subL_n subL_e))))))) ?_
      exact TX12_takes_82 hE x hK11 hK54 _ _ _ _ rx1 rx3 rx4 rx2 _ hσ4 h
    · have h := h.2 c5
      refine r_iload (dc D_cX12_takes_1 7 rfl) rfl ?_
      refine r_goto (tgt := 82) (dc D_cX12_takes_1 8 rfl) (by decide) ?_
      refine r_sub (lv' := [some (.ref (eA E 0)), some (.int (iz x1)), none, some (.int (iz x3)), some (.int (iz x4)), none, none]) (subL_s (subL_s (subL_n (subL_s (subL_s (subL_n (subL_n subL_e))))))) ?_
      exact TX12_takes_82 hE x hK11 hK54 _ _ _ _ rx1 rx3 rx4 rx4 _ hσ4 h
theorem TX12_takes_54 {E : EV} (hE : eOK layM E) {Φ : Int → PS → Prop} {K11 : Int → Int → Int → PS → Prop} (x : CX) (hK11 : ∀ (x1 x2 x3 : Int) (σ : PS), Rg x1 → Rg x2 → Rg x3 → RS σ → K11 x1 x2 x3 σ → RW layM E mi_X12_takes Φ 11 [some (.ref (eA E 0)), some (.int (iz x1)), some (.int (iz x2)), some (.int (iz x3)), none, none, none] [] σ x) (n : Nat) : ∀ (x1 x2 x3 x4 : Int) (σ : PS), Rg x1 → Rg x2 → Rg x3 → Rg x4 → RS σ → LX12_takes_54 K11 n x1 x2 x3 x4 σ Φ → RW layM E mi_X12_takes Φ 54 [some (.ref (eA E 0)), some (.int (iz x1)), some (.int (iz x2)), some (.int (iz x3)), some (.int (iz x4)), none, none] [] σ x := by
  induction n with
  | zero => intro x1 x2 x3 x4 σ _ _ _ _ _ h; exact h.elim
  | succ n ih => intro x1 x2 x3 x4 σ rx1 rx2 rx3 rx4 hs h; exact TBX12_takes_54 hE x hK11 ih x1 x2 x3 x4 rx1 rx2 rx3 rx4 σ hs h
set_option maxRecDepth 100000 in
theorem TBX12_takes_11 {E : EV} (hE : eOK layM E) {Φ : Int → PS → Prop} {K11 : Int → Int → Int → PS → Prop} (x : CX) (hK11 : ∀ (x1 x2 x3 : Int) (σ : PS), Rg x1 → Rg x2 → Rg x3 → RS σ → K11 x1 x2 x3 σ → RW layM E mi_X12_takes Φ 11 [some (.ref (eA E 0)), some (.int (iz x1)), some (.int (iz x2)), some (.int (iz x3)), none, none, none] [] σ x) (x1 x2 x3 : Int) (rx1 : Rg x1) (rx2 : Rg x2) (rx3 : Rg x3) (σ : PS) (hs : RS σ) (h : BX12_takes_11 K11 x1 x2 x3 σ Φ) : RW layM E mi_X12_takes Φ 11 [some (.ref (eA E 0)), some (.int (iz x1)), some (.int (iz x2)), some (.int (iz x3)), none, none, none] [] σ x := by
  refine r_iloadn (dc D_cX12_takes_0 9 rfl) rfl rfl ?_
  refine r_aloadn (dc D_cX12_takes_0 10 rfl) rfl rfl ?_
  refine r_getR (dc D_cX12_takes_0 11 rfl) fw_RX12_9 lM_0 rfl ?_
  refine r_iconst (n := 1) (dc D_cX12_takes_0 12 rfl) ?_
  refine r_iald (N := 183) (dc D_cX12_takes_0 13 rfl) lM_1 rfl rfl ⟨by decide, by decide⟩ ?_
  refine r_icmp_eq (tgt := 92) (dc D_cX12_takes_0 14 rfl) (by decide) rx3 (hs _ _) (fun c1 => ?_) (fun c1 => ?_)
  · have h := h.1 c1
    refine r_sub (lv' := [some (.ref (eA E 0)), some (.int (iz x1)), some (.int (iz x2)), none, none, none, none]) (subL_s (subL_s (subL_s (subL_n (subL_n (subL_n (subL_n subL_e))))))) ?_
    exact TX12_takes_92 hE x _ _ rx1 rx2 _ hs h
  · have h := h.2 c1
    refine r_iloadn (dc D_cX12_takes_0 15 rfl) rfl rfl ?_
    refine r_if_ge (tgt := 92) (dc D_cX12_takes_0 16 rfl) (by decide) rx2 (fun c2 => ?_) (fun c2 => ?_)
    · have h := h.1 c2
      refine r_sub (lv' := [some (.ref (eA E 0)), some (.int (iz x1)), some (.int (iz x2)), none, none, none, none]) (subL_s (subL_s (subL_s (subL_n (subL_n (subL_n (subL_n subL_e))))))) ?_
      exact TX12_takes_92 hE x _ _ rx1 rx2 _ hs h
    · have h := h.2 c2
      refine r_aloadn (dc D_cX12_takes_0 17 rfl) rfl rfl ?_
      refine r_getR (dc D_cX12_takes_0 18 rfl) fw_RX12_68 lM_0 rfl ?_
      refine r_iloadn (dc D_cX12_takes_0 19 rfl) rfl rfl ?_
      refine r_aloadn (dc D_cX12_takes_0 20 rfl) rfl rfl ?_
      refine r_iloadn (dc D_cX12_takes_0 21 rfl) rfl rfl ?_
      refine r_callV (As := [.int (iz x3)]) (st := [.int (iz x1), .ref (eA E 20)]) (dc D_cX12_takes_0 22 rfl) cw_RX12_200 nm_yX12_watered (CX12_watered hE _ rx3 _ hs h) lM_0 rfl rfl (by decide) rfl rfl rfl (fun z3 σ4 rz3 hσ4 h => ?_)
      show RW layM E mi_X12_takes Φ 35 [some (.ref (eA E 0)), some (.int (iz x1)), some (.int (iz x2)), some (.int (iz x3)), none, none, none] [.int (iz z3), .int (iz x1), .ref (eA E 20)] σ4 x
      obtain ⟨o5, h⟩ := h
      refine r_iast (N := 13) (dc D_cX12_takes_0 23 rfl) lM_20 rfl rfl o5 rz3 ?_
      refine r_sig (fun σ6 eσ6 => ?_)
      have h := h σ6 eσ6
      have hσ6 : RS σ6 := RS_eq eσ6 (RS.up hσ4 rz3 _ _)
      refine r_aloadn (dc D_cX12_takes_0 24 rfl) rfl rfl ?_
      refine r_aloadn (dc D_cX12_takes_0 25 rfl) rfl rfl ?_
      refine r_getR (dc D_cX12_takes_0 26 rfl) fw_RX12_68 lM_0 rfl ?_
      refine r_iloadn (dc D_cX12_takes_0 27 rfl) rfl rfl ?_
      obtain ⟨o7, h⟩ := h
      refine r_iald (N := 13) (dc D_cX12_takes_0 28 rfl) lM_20 rfl rfl o7 ?_
      refine r_iconst (n := 1) (dc D_cX12_takes_0 29 rfl) ?_
      refine r_callV (As := [.int (iz (σ6 20 x1.toNat)), .int (iz 1)]) (st := []) (dc D_cX12_takes_0 30 rfl) cw_RX12_94 nm_yX12_at (CX12_at hE _ _ (hσ6 _ _) (Rl rfl) _ hσ6 h) lM_0 rfl rfl (by decide) rfl rfl rfl (fun z8 σ9 rz8 hσ9 h => ?_)
      show RW layM E mi_X12_takes Φ 47 [some (.ref (eA E 0)), some (.int (iz x1)), some (.int (iz x2)), some (.int (iz x3)), none, none, none] [.int (iz z8)] σ9 x
      refine r_istoren (lv' := [some (.ref (eA E 0)), some (.int (iz x1)), some (.int (iz x2)), some (.int (iz z8)), none, none, none]) (dc D_cX12_takes_0 31 rfl) rfl rfl rfl ?_
      obtain ⟨o10, h⟩ := h
      refine r_iinc (lv' := [some (.ref (eA E 0)), some (.int (iz (x1 + 1))), some (.int (iz x2)), some (.int (iz z8)), none, none, none]) (dc D_cX12_takes_0 32 rfl) rfl rfl rfl ?_
      refine r_iconst (n := 0) (dc D_cX12_takes_0 33 rfl) ?_
      refine r_istore (lv' := [some (.ref (eA E 0)), some (.int (iz (x1 + 1))), some (.int (iz x2)), some (.int (iz z8)), some (.int (iz 0)), none, none]) (dc D_cX12_takes_0 34 rfl) rfl rfl ?_
      obtain ⟨n, h⟩ := h
      exact TX12_takes_54 hE x hK11 n _ _ _ _ _ o10 rx2 rz8 (Rl rfl) hσ9 h
theorem TX12_takes_11 {E : EV} (hE : eOK layM E) {Φ : Int → PS → Prop} (x : CX) (n : Nat) : ∀ (x1 x2 x3 : Int) (σ : PS), Rg x1 → Rg x2 → Rg x3 → RS σ → LX12_takes_11 n x1 x2 x3 σ Φ → RW layM E mi_X12_takes Φ 11 [some (.ref (eA E 0)), some (.int (iz x1)), some (.int (iz x2)), some (.int (iz x3)), none, none, none] [] σ x := by
  induction n with
  | zero => intro x1 x2 x3 σ _ _ _ _ h; exact h.elim
  | succ n ih => intro x1 x2 x3 σ rx1 rx2 rx3 hs h; exact TBX12_takes_11 hE x ih x1 x2 x3 rx1 rx2 rx3 σ hs h
set_option maxRecDepth 100000 in
theorem CX12_takes {E : EV} (hE : eOK layM E) {Φ : Int → PS → Prop} (σ : PS) (hs : RS σ) (h : FX12_takes σ Φ) : CT layM E yX12_takes mi_X12_takes [.ref (eA E 0)] σ Φ := by
  refine ct_of (by decide +kernel) rfl hE rfl rfl hs (fun x => ?_)
  show RW layM E mi_X12_takes Φ 0 [some (.ref (eA E 0)), none, none, none, none, none, none] [] σ x
  refine r_iconst (n := 0) (dc D_cX12_takes_0 0 rfl) ?_
  refine r_istoren (lv' := [some (.ref (eA E 0)), some (.int (iz 0)), none, none, none, none, none]) (dc D_cX12_takes_0 1 rfl) rfl rfl rfl ?_
  refine r_iconst (n := (-1)) (dc D_cX12_takes_0 2 rfl) ?_
  refine r_istoren (lv' := [some (.ref (eA E 0)), some (.int (iz 0)), some (.int (iz (-1))), none, none, none, none]) (dc D_cX12_takes_0 3 rfl) rfl rfl rfl ?_
  refine r_aloadn (dc D_cX12_takes_0 4 rfl) rfl rfl ?_
  refine r_getR (dc D_cX12_takes_0 5 rfl) fw_RX12_9 lM_0 rfl ?_
  refine r_iconst (n := 0) (dc D_cX12_takes_0 6 rfl) ?_
  refine r_iald (N := 183) (dc D_cX12_takes_0 7 rfl) lM_1 rfl rfl ⟨by decide, by decide⟩ ?_
  refine r_name (fun v1 ev1 => ?_)
  have h := h v1 ev1
  have rv1 : Rg v1 := Rg_eq ev1 (hs _ _)
  refine r_istoren (lv' := [some (.ref (eA E 0)), some (.int (iz 0)), some (.int (iz (-1))), some (.int (iz v1)), none, none, none]) (dc D_cX12_takes_0 8 rfl) rfl rfl rfl ?_
  obtain ⟨n, h⟩ := h
  exact TX12_takes_11 hE x n _ _ _ _ (Rl rfl) (Rl rfl) rv1 hs h
-- end of GateFlowModel.takes
def mi_X12_findLines : MI := (cX12_findLines, RX12, 2, 6, none, 0)
def BX12_findLines_40 (K40 : PS → Prop) (σ : PS) (Φ : Int → PS → Prop) : Prop :=
  FX12_watered (σ 1 0) σ (fun z1 σ2 =>
  ((z1 < 0 →
    Φ 0 σ2) ∧
  (¬ z1 < 0 →
    FX12_takes σ2 (fun z4 σ5 =>
    K40 σ5))))
def LX12_findLines_40 : Nat → PS → (Int → PS → Prop) → Prop
  | 0, _, _ => False
  | n + 1, σ, Φ => BX12_findLines_40 (fun σ => LX12_findLines_40 n σ Φ) σ Φ
def BX12_findLines_7 (K7 : Int → PS → Prop) (x1 : Int) (σ : PS) (Φ : Int → PS → Prop) : Prop :=
  ((σ 1 2 ≤ x1 →
    ∀ σ2 : PS, σ2 = up2 σ 0 18 0 →
    ∃ n, LX12_findLines_40 n σ2 Φ) ∧
  (¬ σ 1 2 ≤ x1 →
    (0 ≤ x1 ∧ x1 < 30) ∧
    (0 ≤ x1 ∧ x1 < 30) ∧
    ∀ σ5 : PS, σ5 = up2 σ 19 x1.toNat (σ 4 x1.toNat) →
    Rg (x1 + 1) ∧
    K7 (x1 + 1) σ5))
def LX12_findLines_7 : Nat → Int → PS → (Int → PS → Prop) → Prop
  | 0, _, _, _ => False
  | n + 1, x1, σ, Φ => BX12_findLines_7 (fun x1 σ => LX12_findLines_7 n x1 σ Φ) x1 σ Φ
def FX12_findLines (σ : PS) (Φ : Int → PS → Prop) : Prop :=
  FX12_flowsNow σ (fun z1 σ2 =>
  ∃ n, LX12_findLines_7 n 0 σ2 Φ)
theorem cw_RX12_209 : CWV RX12 209 yX12_takes mi_X12_takes := tb_r [1536, 1538, 67, 110, 1539] (by decide +kernel)
theorem nm_yX12_takes : ynm yX12_takes 0 := ⟨⟨by decide +kernel, by decide +kernel⟩, by decide +kernel⟩
set_option maxRecDepth 100000 in
theorem TBX12_findLines_40 {E : EV} (hE : eOK layM E) {Φ : Int → PS → Prop} {K40 : PS → Prop} (x : CX) (hK40 : ∀ (σ : PS), RS σ → K40 σ → RW layM E mi_X12_findLines Φ 40 [some (.ref (eA E 0)), none] [] σ x) (σ : PS) (hs : RS σ) (h : BX12_findLines_40 K40 σ Φ) : RW layM E mi_X12_findLines Φ 40 [some (.ref (eA E 0)), none] [] σ x := by
  refine r_aloadn (dc D_cX12_findLines_0 24 rfl) rfl rfl ?_
  refine r_aloadn (dc D_cX12_findLines_0 25 rfl) rfl rfl ?_
  refine r_getR (dc D_cX12_findLines_0 26 rfl) fw_RX12_9 lM_0 rfl ?_
  refine r_iconst (n := 0) (dc D_cX12_findLines_0 27 rfl) ?_
  refine r_iald (N := 183) (dc D_cX12_findLines_0 28 rfl) lM_1 rfl rfl ⟨by decide, by decide⟩ ?_
  refine r_callV (As := [.int (iz (σ 1 0))]) (st := []) (dc D_cX12_findLines_0 29 rfl) cw_RX12_200 nm_yX12_watered (CX12_watered hE _ (hs _ _) _ hs h) lM_0 rfl rfl (by decide) rfl rfl rfl (fun z1 σ2 rz1 hσ2 h => ?_)
  show RW layM E mi_X12_findLines Φ 50 [some (.ref (eA E 0)), none] [.int (iz z1)] σ2 x
  refine r_if_lt (tgt := 60) (dc D_cX12_findLines_0 30 rfl) (by decide) rz1 (fun c3 => ?_) (fun c3 => ?_)
  · have h := h.1 c3
    exact r_vret (dc D_cX12_findLines_0 34 rfl) rfl h
  · have h := h.2 c3
    refine r_aloadn (dc D_cX12_findLines_0 31 rfl) rfl rfl ?_
    refine r_callV (As := []) (st := []) (dc D_cX12_findLines_0 32 rfl) cw_RX12_209 nm_yX12_takes (CX12_takes hE  _ hσ2 h) lM_0 rfl rfl (by decide) rfl rfl rfl (fun z4 σ5 rz4 hσ5 h => ?_)
    show RW layM E mi_X12_findLines Φ 57 [some (.ref (eA E 0)), none] [] σ5 x
    refine r_goto (tgt := 40) (dc D_cX12_findLines_0 33 rfl) (by decide) ?_
    exact hK40 _  hσ5 h
theorem TX12_findLines_40 {E : EV} (hE : eOK layM E) {Φ : Int → PS → Prop} (x : CX) (n : Nat) : ∀ (σ : PS), RS σ → LX12_findLines_40 n σ Φ → RW layM E mi_X12_findLines Φ 40 [some (.ref (eA E 0)), none] [] σ x := by
  induction n with
  | zero => intro σ _ h; exact h.elim
  | succ n ih => intro σ hs h; exact TBX12_findLines_40 hE x ih σ hs h
set_option maxRecDepth 100000 in
theorem TBX12_findLines_7 {E : EV} (hE : eOK layM E) {Φ : Int → PS → Prop} {K7 : Int → PS → Prop} (x : CX) (hK7 : ∀ (x1 : Int) (σ : PS), Rg x1 → RS σ → K7 x1 σ → RW layM E mi_X12_findLines Φ 7 [some (.ref (eA E 0)), some (.int (iz x1))] [] σ x) (x1 : Int) (rx1 : Rg x1) (σ : PS) (hs : RS σ) (h : BX12_findLines_7 K7 x1 σ Φ) : RW layM E mi_X12_findLines Φ 7 [some (.ref (eA E 0)), some (.int (iz x1))] [] σ x := by
  refine r_iloadn (dc D_cX12_findLines_0 5 rfl) rfl rfl ?_
  refine r_aloadn (dc D_cX12_findLines_0 6 rfl) rfl rfl ?_
  refine r_getR (dc D_cX12_findLines_0 7 rfl) fw_RX12_9 lM_0 rfl ?_
  refine r_iconst (n := 2) (dc D_cX12_findLines_0 8 rfl) ?_
  refine r_iald (N := 183) (dc D_cX12_findLines_0 9 rfl) lM_1 rfl rfl ⟨by decide, by decide⟩ ?_
  refine r_icmp_ge (tgt := 35) (dc D_cX12_findLines_0 10 rfl) (by decide) rx1 (hs _ _) (fun c1 => ?_) (fun c1 => ?_)
  · have h := h.1 c1
    refine r_aloadn (dc D_cX12_findLines_0 21 rfl) rfl rfl ?_
    refine r_iconst (n := 0) (dc D_cX12_findLines_0 22 rfl) ?_
    refine r_put (dc D_cX12_findLines_0 23 rfl) fw_RX12_206 fp_12_18 lM_0 rfl (nar_int _) (Rl rfl) ?_
    refine r_sig (fun σ2 eσ2 => ?_)
    have h := h σ2 eσ2
    have hσ2 : RS σ2 := RS_eq eσ2 (RS.up hs (Rl rfl) _ _)
    refine r_sub (lv' := [some (.ref (eA E 0)), none]) (subL_s (subL_n subL_e)) ?_
    obtain ⟨n, h⟩ := h
    exact TX12_findLines_40 hE x n _  hσ2 h
  · have h := h.2 c1
    refine r_aloadn (dc D_cX12_findLines_0 11 rfl) rfl rfl ?_
    refine r_getR (dc D_cX12_findLines_0 12 rfl) fw_RX12_65 lM_0 rfl ?_
    refine r_iloadn (dc D_cX12_findLines_0 13 rfl) rfl rfl ?_
    refine r_aloadn (dc D_cX12_findLines_0 14 rfl) rfl rfl ?_
    refine r_getR (dc D_cX12_findLines_0 15 rfl) fw_RX12_19 lM_0 rfl ?_
    refine r_iloadn (dc D_cX12_findLines_0 16 rfl) rfl rfl ?_
    obtain ⟨o3, h⟩ := h
    refine r_iald (N := 30) (dc D_cX12_findLines_0 17 rfl) lM_4 rfl rfl o3 ?_
    obtain ⟨o4, h⟩ := h
    refine r_iast (N := 30) (dc D_cX12_findLines_0 18 rfl) lM_19 rfl rfl o4 (hs _ _) ?_
    refine r_sig (fun σ5 eσ5 => ?_)
    have h := h σ5 eσ5
    have hσ5 : RS σ5 := RS_eq eσ5 (RS.up hs (hs _ _) _ _)
    obtain ⟨o6, h⟩ := h
    refine r_iinc (lv' := [some (.ref (eA E 0)), some (.int (iz (x1 + 1)))]) (dc D_cX12_findLines_0 19 rfl) rfl rfl rfl ?_
    refine r_goto (tgt := 7) (dc D_cX12_findLines_0 20 rfl) (by decide) ?_
    exact hK7 _ _ o6 hσ5 h
theorem TX12_findLines_7 {E : EV} (hE : eOK layM E) {Φ : Int → PS → Prop} (x : CX) (n : Nat) : ∀ (x1 : Int) (σ : PS), Rg x1 → RS σ → LX12_findLines_7 n x1 σ Φ → RW layM E mi_X12_findLines Φ 7 [some (.ref (eA E 0)), some (.int (iz x1))] [] σ x := by
  induction n with
  | zero => intro x1 σ _ _ h; exact h.elim
  | succ n ih => intro x1 σ rx1 hs h; exact TBX12_findLines_7 hE x ih x1 rx1 σ hs h
set_option maxRecDepth 100000 in
theorem CX12_findLines {E : EV} (hE : eOK layM E) {Φ : Int → PS → Prop} (σ : PS) (hs : RS σ) (h : FX12_findLines σ Φ) : CT layM E yX12_findLines mi_X12_findLines [.ref (eA E 0)] σ Φ := by
  refine ct_of (by decide +kernel) rfl hE rfl rfl hs (fun x => ?_)
  show RW layM E mi_X12_findLines Φ 0 [some (.ref (eA E 0)), none] [] σ x
  refine r_aloadn (dc D_cX12_findLines_0 0 rfl) rfl rfl ?_
  refine r_callV (As := []) (st := []) (dc D_cX12_findLines_0 1 rfl) cw_RX12_160 nm_yX12_flowsNow (CX12_flowsNow hE  _ hs h) lM_0 rfl rfl (by decide) rfl rfl rfl (fun z1 σ2 rz1 hσ2 h => ?_)
  show RW layM E mi_X12_findLines Φ 4 [some (.ref (eA E 0)), none] [.int (iz z1)] σ2 x
  refine r_pop (dc D_cX12_findLines_0 2 rfl) rfl ?_
  refine r_iconst (n := 0) (dc D_cX12_findLines_0 3 rfl) ?_
  refine r_istoren (lv' := [some (.ref (eA E 0)), some (.int (iz 0))]) (dc D_cX12_findLines_0 4 rfl) rfl rfl rfl ?_
  obtain ⟨n, h⟩ := h
  exact TX12_findLines_7 hE x n _ _ (Rl rfl) hσ2 h
-- end of GateFlowModel.findLines
def mi_X12_lines : MI := (cX12_lines, RX12, 3, 7, (some .int), 1)
def FX12_lines (a1 a2 : Int) (σ : PS) (Φ : Int → PS → Prop) : Prop :=
  (((-1) ≤ a1 →
    FX12_findLines σ (fun z2 σ3 =>
    ((¬ a1 = (-1) →
      ((a1 < σ3 0 18 →
        (a2 = 0 →
          (0 ≤ a1 ∧ a1 < 30) ∧
          Φ (σ3 15 a1.toNat) σ3) ∧
        (a2 = 1 →
          (0 ≤ a1 ∧ a1 < 30) ∧
          Φ (σ3 16 a1.toNat) σ3) ∧
        (a2 = 2 →
          (0 ≤ a1 ∧ a1 < 30) ∧
          ((σ3 17 a1.toNat = 0 →
            Φ 0 σ3) ∧
          (¬ σ3 17 a1.toNat = 0 →
            Φ 1 σ3))) ∧
        ((a2 < 0 ∨ 2 < a2) →
          (0 ≤ a1 ∧ a1 < 30) ∧
          Rg (9 + (σ3 16 a1.toNat)) ∧
          FX12_in a2 10 (9 + (σ3 16 a1.toNat)) σ3 (fun z15 σ16 =>
          ((z15 = 0 →
            Φ (-1) σ16) ∧
          (¬ z15 = 0 →
            Rg (a1 * 12) ∧
            Rg ((a1 * 12) + a2) ∧
            Rg (((a1 * 12) + a2) - 10) ∧
            (0 ≤ ((a1 * 12) + a2) - 10 ∧ ((a1 * 12) + a2) - 10 < 360) ∧
            Φ (σ16 18 (((a1 * 12) + a2) - 10).toNat) σ16))))) ∧
      (¬ a1 < σ3 0 18 →
        Φ (-1) σ3))) ∧
    (a1 = (-1) →
      Φ (σ3 0 18) σ3)))) ∧
  (¬ (-1) ≤ a1 →
    Φ (-1) σ))
theorem cw_RX12_212 : CWV RX12 212 yX12_findLines mi_X12_findLines := tb_r [1528, 1530, 65, 110, 1531] (by decide +kernel)
theorem nm_yX12_findLines : ynm yX12_findLines 0 := ⟨⟨by decide +kernel, by decide +kernel⟩, by decide +kernel⟩
set_option maxRecDepth 100000 in
theorem CX12_lines {E : EV} (hE : eOK layM E) {Φ : Int → PS → Prop} (a1 a2 : Int) (ra1 : Rg a1) (ra2 : Rg a2) (σ : PS) (hs : RS σ) (h : FX12_lines a1 a2 σ Φ) : CT layM E yX12_lines mi_X12_lines [.ref (eA E 0), .int (iz a1), .int (iz a2)] σ Φ := by
  refine ct_of (by decide +kernel) rfl hE rfl rfl hs (fun x => ?_)
  show RW layM E mi_X12_lines Φ 0 [some (.ref (eA E 0)), some (.int (iz a1)), some (.int (iz a2))] [] σ x
  refine r_iloadn (dc D_cX12_lines_0 0 rfl) rfl rfl ?_
  refine r_iconst (n := (-1)) (dc D_cX12_lines_0 1 rfl) ?_
  refine r_icmp_ge (tgt := 7) (dc D_cX12_lines_0 2 rfl) (by decide) ra1 (Rl rfl) (fun c1 => ?_) (fun c1 => ?_)
  · have h := h.1 c1
    refine r_aloadn (dc D_cX12_lines_0 5 rfl) rfl rfl ?_
    refine r_callV (As := []) (st := []) (dc D_cX12_lines_0 6 rfl) cw_RX12_212 nm_yX12_findLines (CX12_findLines hE  _ hs h) lM_0 rfl rfl (by decide) rfl rfl rfl (fun z2 σ3 rz2 hσ3 h => ?_)
    show RW layM E mi_X12_lines Φ 11 [some (.ref (eA E 0)), some (.int (iz a1)), some (.int (iz a2))] [] σ3 x
    refine r_iloadn (dc D_cX12_lines_0 7 rfl) rfl rfl ?_
    refine r_iconst (n := (-1)) (dc D_cX12_lines_0 8 rfl) ?_
    refine r_icmp_ne (tgt := 21) (dc D_cX12_lines_0 9 rfl) (by decide) ra1 (Rl rfl) (fun c4 => ?_) (fun c4 => ?_)
    · have h := h.1 c4
      refine r_iloadn (dc D_cX12_lines_0 13 rfl) rfl rfl ?_
      refine r_aloadn (dc D_cX12_lines_0 14 rfl) rfl rfl ?_
      refine r_getI (dc D_cX12_lines_0 15 rfl) fw_RX12_206 lM_0 rfl ?_
      refine r_icmp_lt (tgt := 31) (dc D_cX12_lines_0 16 rfl) (by decide) ra1 (hσ3 _ _) (fun c5 => ?_) (fun c5 => ?_)
      · have h := h.1 c5
        refine r_iloadn (dc D_cX12_lines_0 19 rfl) rfl rfl ?_
        refine r_by (c := a2 = 0) (fun c7 => ?_) (fun nc7 => ?_)
        · refine r_swIn (tgt := 60) (off := 28) (v := 0) (dc D_cX12_lines_0 20 rfl) c7 (by decide) (by decide) ?_
          have h := h.1 c7
          refine r_aloadn (dc D_cX12_lines_0 21 rfl) rfl rfl ?_
          refine r_getR (dc D_cX12_lines_0 22 rfl) fw_RX12_52 lM_0 rfl ?_
          refine r_iloadn (dc D_cX12_lines_0 23 rfl) rfl rfl ?_
          obtain ⟨o6, h⟩ := h
          refine r_iald (N := 30) (dc D_cX12_lines_0 24 rfl) lM_15 rfl rfl o6 ?_
          exact r_iret (dc D_cX12_lines_0 25 rfl) rfl (hσ3 _ _) h
        replace h := h.2
        refine r_by (c := a2 = 1) (fun c9 => ?_) (fun nc9 => ?_)
        · refine r_swIn (tgt := 67) (off := 35) (v := 1) (dc D_cX12_lines_0 20 rfl) c9 (by decide) (by decide) ?_
          have h := h.1 c9
          refine r_aloadn (dc D_cX12_lines_0 26 rfl) rfl rfl ?_
          refine r_getR (dc D_cX12_lines_0 27 rfl) fw_RX12_55 lM_0 rfl ?_
          refine r_iloadn (dc D_cX12_lines_0 28 rfl) rfl rfl ?_
          obtain ⟨o8, h⟩ := h
          refine r_iald (N := 30) (dc D_cX12_lines_0 29 rfl) lM_16 rfl rfl o8 ?_
          exact r_iret (dc D_cX12_lines_0 30 rfl) rfl (hσ3 _ _) h
        replace h := h.2
        refine r_by (c := a2 = 2) (fun c12 => ?_) (fun nc12 => ?_)
        · refine r_swIn (tgt := 74) (off := 42) (v := 2) (dc D_cX12_lines_0 20 rfl) c12 (by decide) (by decide) ?_
          have h := h.1 c12
          refine r_aloadn (dc D_cX12_lines_0 31 rfl) rfl rfl ?_
          refine r_getR (dc D_cX12_lines_0 32 rfl) fw_RX12_58 lM_0 rfl ?_
          refine r_iloadn (dc D_cX12_lines_0 33 rfl) rfl rfl ?_
          obtain ⟨o10, h⟩ := h
          refine r_zald (N := 30) (dc D_cX12_lines_0 34 rfl) lM_17 rfl rfl o10 ?_
          refine r_if_eq (tgt := 87) (dc D_cX12_lines_0 35 rfl) (by decide) (hσ3 _ _) (fun c11 => ?_) (fun c11 => ?_)
          · have h := h.1 c11
            refine r_iconst (n := 0) (dc D_cX12_lines_0 38 rfl) ?_
            exact r_iret (dc D_cX12_lines_0 39 rfl) rfl (Rl rfl) h
          · have h := h.2 c11
            refine r_iconst (n := 1) (dc D_cX12_lines_0 36 rfl) ?_
            refine r_goto (tgt := 88) (dc D_cX12_lines_0 37 rfl) (by decide) ?_
            exact r_iret (dc D_cX12_lines_0 39 rfl) rfl (Rl rfl) h
        replace h := h.2
        have c22 : a2 < 0 ∨ 2 < a2 := by omega
        have h := h c22
        refine r_swOut (tgt := 89) (dc D_cX12_lines_0 20 rfl) (by decide) ra2 c22 ?_
        refine r_iloadn (dc D_cX12_lines_1 0 rfl) rfl rfl ?_
        refine r_bipush (n := 10) (dc D_cX12_lines_1 1 rfl) (by decide +kernel) ?_
        refine r_bipush (n := 9) (dc D_cX12_lines_1 2 rfl) (by decide +kernel) ?_
        refine r_aloadn (dc D_cX12_lines_1 3 rfl) rfl rfl ?_
        refine r_getR (dc D_cX12_lines_1 4 rfl) fw_RX12_55 lM_0 rfl ?_
        refine r_iloadn (dc D_cX12_lines_1 5 rfl) rfl rfl ?_
        obtain ⟨o13, h⟩ := h
        refine r_iald (N := 30) (dc D_cX12_lines_1 6 rfl) lM_16 rfl rfl o13 ?_
        refine r_iadd (dc D_cX12_lines_1 7 rfl) ?_
        obtain ⟨o14, h⟩ := h
        refine r_callS (As := [.int (iz a2), .int (iz 10), .int (iz (9 + (σ3 16 a1.toNat)))]) (st := []) (dc D_cX12_lines_1 8 rfl) cw_RX12_90 nm_yX12_in (CX12_in hE _ _ _ ra2 (Rl rfl) o14 _ hσ3 h) rfl (by decide) rfl rfl rfl (fun z15 σ16 rz15 hσ16 h => ?_)
        show RW layM E mi_X12_lines Φ 104 [some (.ref (eA E 0)), some (.int (iz a1)), some (.int (iz a2))] [.int (iz z15)] σ16 x
        refine r_if_eq (tgt := 124) (dc D_cX12_lines_1 9 rfl) (by decide) rz15 (fun c17 => ?_) (fun c17 => ?_)
        · have h := h.1 c17
          refine r_iconst (n := (-1)) (dc D_cX12_lines_1 21 rfl) ?_
          exact r_iret (dc D_cX12_lines_1 22 rfl) rfl (Rl rfl) h
        · have h := h.2 c17
          refine r_aloadn (dc D_cX12_lines_1 10 rfl) rfl rfl ?_
          refine r_getR (dc D_cX12_lines_1 11 rfl) fw_RX12_62 lM_0 rfl ?_
          refine r_iloadn (dc D_cX12_lines_1 12 rfl) rfl rfl ?_
          refine r_bipush (n := 12) (dc D_cX12_lines_1 13 rfl) (by decide +kernel) ?_
          refine r_imul (dc D_cX12_lines_1 14 rfl) ?_
          obtain ⟨o18, h⟩ := h
          refine r_iloadn (dc D_cX12_lines_1 15 rfl) rfl rfl ?_
          refine r_iadd (dc D_cX12_lines_1 16 rfl) ?_
          obtain ⟨o19, h⟩ := h
          refine r_bipush (n := 10) (dc D_cX12_lines_1 17 rfl) (by decide +kernel) ?_
          refine r_isub (dc D_cX12_lines_1 18 rfl) ?_
          obtain ⟨o20, h⟩ := h
          obtain ⟨o21, h⟩ := h
          refine r_iald (N := 360) (dc D_cX12_lines_1 19 rfl) lM_18 rfl rfl o21 ?_
          refine r_goto (tgt := 125) (dc D_cX12_lines_1 20 rfl) (by decide) ?_
          exact r_iret (dc D_cX12_lines_1 22 rfl) rfl (hσ16 _ _) h
      · have h := h.2 c5
        refine r_iconst (n := (-1)) (dc D_cX12_lines_0 17 rfl) ?_
        exact r_iret (dc D_cX12_lines_0 18 rfl) rfl (Rl rfl) h
    · have h := h.2 c4
      refine r_aloadn (dc D_cX12_lines_0 10 rfl) rfl rfl ?_
      refine r_getI (dc D_cX12_lines_0 11 rfl) fw_RX12_206 lM_0 rfl ?_
      exact r_iret (dc D_cX12_lines_0 12 rfl) rfl (hσ3 _ _) h
  · have h := h.2 c1
    refine r_iconst (n := (-1)) (dc D_cX12_lines_0 3 rfl) ?_
    exact r_iret (dc D_cX12_lines_0 4 rfl) rfl (Rl rfl) h
-- end of GateFlowModel.lines
def mi_X12_clears : MI := (cX12_clears, RX12, 3, 1, none, 0)
def BX12_clears_7 (K7 : Int → PS → Prop) (x2 : Int) (σ : PS) (Φ : Int → PS → Prop) : Prop :=
  Rg ((σ 0 25) * (σ 0 25)) ∧
  (((σ 0 25) * (σ 0 25) ≤ x2 →
    Φ 0 σ) ∧
  (¬ (σ 0 25) * (σ 0 25) ≤ x2 →
    (0 ≤ x2 ∧ x2 < 11664) ∧
    ∀ σ4 : PS, σ4 = up2 σ 21 x2.toNat 0 →
    Rg (x2 + 1) ∧
    K7 (x2 + 1) σ4))
def LX12_clears_7 : Nat → Int → PS → (Int → PS → Prop) → Prop
  | 0, _, _, _ => False
  | n + 1, x2, σ, Φ => BX12_clears_7 (fun x2 σ => LX12_clears_7 n x2 σ Φ) x2 σ Φ
def FX12_clears (a1 : Int) (σ : PS) (Φ : Int → PS → Prop) : Prop :=
  ∀ σ1 : PS, σ1 = up2 σ 0 25 a1 →
  ∃ n, LX12_clears_7 n 0 σ1 Φ
theorem fw_RX12_215 : FW RX12 215 12 25 := ⟨RX12, TX12, 39, rfl, by decide, rfl, tb_1 1244 (by decide +kernel), uw_12⟩
theorem fw_RX12_71 : FW RX12 71 12 26 := ⟨RX12, TX12, 39, rfl, by decide, rfl, tb_1 1245 (by decide +kernel), uw_12⟩
theorem fp_12_25 : FP 12 25 .int := ⟨RX12, TX12, 39, tyX12, rfl, tyX12_ok, nmX12, rfl, by decide +kernel⟩
set_option maxRecDepth 100000 in
theorem TBX12_clears_7 {E : EV} (hE : eOK layM E) {Φ : Int → PS → Prop} {K7 : Int → PS → Prop} (x : CX) (hK7 : ∀ (x2 : Int) (σ : PS), Rg x2 → RS σ → K7 x2 σ → RW layM E mi_X12_clears Φ 7 [some (.ref (eA E 0)), none, some (.int (iz x2))] [] σ x) (x2 : Int) (rx2 : Rg x2) (σ : PS) (hs : RS σ) (h : BX12_clears_7 K7 x2 σ Φ) : RW layM E mi_X12_clears Φ 7 [some (.ref (eA E 0)), none, some (.int (iz x2))] [] σ x := by
  refine r_iloadn (dc D_cX12_clears_0 5 rfl) rfl rfl ?_
  refine r_aloadn (dc D_cX12_clears_0 6 rfl) rfl rfl ?_
  refine r_getI (dc D_cX12_clears_0 7 rfl) fw_RX12_215 lM_0 rfl ?_
  refine r_aloadn (dc D_cX12_clears_0 8 rfl) rfl rfl ?_
  refine r_getI (dc D_cX12_clears_0 9 rfl) fw_RX12_215 lM_0 rfl ?_
  refine r_imul (dc D_cX12_clears_0 10 rfl) ?_
  obtain ⟨o1, h⟩ := h
  refine r_icmp_ge (tgt := 33) (dc D_cX12_clears_0 11 rfl) (by decide) rx2 o1 (fun c2 => ?_) (fun c2 => ?_)
  · have h := h.1 c2
    exact r_vret (dc D_cX12_clears_0 19 rfl) rfl h
  · have h := h.2 c2
    refine r_aloadn (dc D_cX12_clears_0 12 rfl) rfl rfl ?_
    refine r_getR (dc D_cX12_clears_0 13 rfl) fw_RX12_71 lM_0 rfl ?_
    refine r_iloadn (dc D_cX12_clears_0 14 rfl) rfl rfl ?_
    refine r_iconst (n := 0) (dc D_cX12_clears_0 15 rfl) ?_
    obtain ⟨o3, h⟩ := h
    refine r_iast (N := 11664) (dc D_cX12_clears_0 16 rfl) lM_21 rfl rfl o3 (Rl rfl) ?_
    refine r_sig (fun σ4 eσ4 => ?_)
    have h := h σ4 eσ4
    have hσ4 : RS σ4 := RS_eq eσ4 (RS.up hs (Rl rfl) _ _)
    obtain ⟨o5, h⟩ := h
    refine r_iinc (lv' := [some (.ref (eA E 0)), none, some (.int (iz (x2 + 1)))]) (dc D_cX12_clears_0 17 rfl) rfl rfl rfl ?_
    refine r_goto (tgt := 7) (dc D_cX12_clears_0 18 rfl) (by decide) ?_
    exact hK7 _ _ o5 hσ4 h
theorem TX12_clears_7 {E : EV} (hE : eOK layM E) {Φ : Int → PS → Prop} (x : CX) (n : Nat) : ∀ (x2 : Int) (σ : PS), Rg x2 → RS σ → LX12_clears_7 n x2 σ Φ → RW layM E mi_X12_clears Φ 7 [some (.ref (eA E 0)), none, some (.int (iz x2))] [] σ x := by
  induction n with
  | zero => intro x2 σ _ _ h; exact h.elim
  | succ n ih => intro x2 σ rx2 hs h; exact TBX12_clears_7 hE x ih x2 rx2 σ hs h
set_option maxRecDepth 100000 in
theorem CX12_clears {E : EV} (hE : eOK layM E) {Φ : Int → PS → Prop} (a1 : Int) (ra1 : Rg a1) (σ : PS) (hs : RS σ) (h : FX12_clears a1 σ Φ) : CT layM E yX12_clears mi_X12_clears [.ref (eA E 0), .int (iz a1)] σ Φ := by
  refine ct_of (by decide +kernel) rfl hE rfl rfl hs (fun x => ?_)
  show RW layM E mi_X12_clears Φ 0 [some (.ref (eA E 0)), some (.int (iz a1)), none] [] σ x
  refine r_aloadn (dc D_cX12_clears_0 0 rfl) rfl rfl ?_
  refine r_iloadn (dc D_cX12_clears_0 1 rfl) rfl rfl ?_
  refine r_put (dc D_cX12_clears_0 2 rfl) fw_RX12_215 fp_12_25 lM_0 rfl (nar_int _) ra1 ?_
  refine r_sig (fun σ1 eσ1 => ?_)
  have h := h σ1 eσ1
  have hσ1 : RS σ1 := RS_eq eσ1 (RS.up hs ra1 _ _)
  refine r_iconst (n := 0) (dc D_cX12_clears_0 3 rfl) ?_
  refine r_istoren (lv' := [some (.ref (eA E 0)), some (.int (iz a1)), some (.int (iz 0))]) (dc D_cX12_clears_0 4 rfl) rfl rfl rfl ?_
  refine r_sub (lv' := [some (.ref (eA E 0)), none, some (.int (iz 0))]) (subL_s (subL_n (subL_s subL_e))) ?_
  obtain ⟨n, h⟩ := h
  exact TX12_clears_7 hE x n _ _ (Rl rfl) hσ1 h
-- end of GateFlowModel.clears
def mi_X12_adds : MI := (cX12_adds, RX12, 4, 1, none, 0)
def FX12_adds (a1 a2 a3 : Int) (σ : PS) (Φ : Int → PS → Prop) : Prop :=
  Rg (a1 * (σ 0 25)) ∧
  Rg ((a1 * (σ 0 25)) + a2) ∧
  (0 ≤ (a1 * (σ 0 25)) + a2 ∧ (a1 * (σ 0 25)) + a2 < 11664) ∧
  Rg ((σ 21 ((a1 * (σ 0 25)) + a2).toNat) + a3) ∧
  (0 ≤ (a1 * (σ 0 25)) + a2 ∧ (a1 * (σ 0 25)) + a2 < 11664) ∧
  ∀ σ6 : PS, σ6 = up2 σ 21 ((a1 * (σ 0 25)) + a2).toNat ((σ 21 ((a1 * (σ 0 25)) + a2).toNat) + a3) →
  Φ 0 σ6
set_option maxRecDepth 100000 in
theorem CX12_adds {E : EV} (hE : eOK layM E) {Φ : Int → PS → Prop} (a1 a2 a3 : Int) (ra1 : Rg a1) (ra2 : Rg a2) (ra3 : Rg a3) (σ : PS) (hs : RS σ) (h : FX12_adds a1 a2 a3 σ Φ) : CT layM E yX12_adds mi_X12_adds [.ref (eA E 0), .int (iz a1), .int (iz a2), .int (iz a3)] σ Φ := by
  refine ct_of (by decide +kernel) rfl hE rfl rfl hs (fun x => ?_)
  show RW layM E mi_X12_adds Φ 0 [some (.ref (eA E 0)), some (.int (iz a1)), some (.int (iz a2)), some (.int (iz a3))] [] σ x
  refine r_aloadn (dc D_cX12_adds_0 0 rfl) rfl rfl ?_
  refine r_getR (dc D_cX12_adds_0 1 rfl) fw_RX12_71 lM_0 rfl ?_
  refine r_iloadn (dc D_cX12_adds_0 2 rfl) rfl rfl ?_
  refine r_aloadn (dc D_cX12_adds_0 3 rfl) rfl rfl ?_
  refine r_getI (dc D_cX12_adds_0 4 rfl) fw_RX12_215 lM_0 rfl ?_
  refine r_imul (dc D_cX12_adds_0 5 rfl) ?_
  obtain ⟨o1, h⟩ := h
  refine r_iloadn (dc D_cX12_adds_0 6 rfl) rfl rfl ?_
  refine r_iadd (dc D_cX12_adds_0 7 rfl) ?_
  obtain ⟨o2, h⟩ := h
  refine r_dup2 (dc D_cX12_adds_0 8 rfl) rfl rfl ?_
  obtain ⟨o3, h⟩ := h
  refine r_iald (N := 11664) (dc D_cX12_adds_0 9 rfl) lM_21 rfl rfl o3 ?_
  refine r_iloadn (dc D_cX12_adds_0 10 rfl) rfl rfl ?_
  refine r_iadd (dc D_cX12_adds_0 11 rfl) ?_
  obtain ⟨o4, h⟩ := h
  obtain ⟨o5, h⟩ := h
  refine r_iast (N := 11664) (dc D_cX12_adds_0 12 rfl) lM_21 rfl rfl o5 o4 ?_
  refine r_sig (fun σ6 eσ6 => ?_)
  have h := h σ6 eσ6
  have hσ6 : RS σ6 := RS_eq eσ6 (RS.up hs o4 _ _)
  exact r_vret (dc D_cX12_adds_0 13 rfl) rfl h
-- end of GateFlowModel.adds
def mi_X12_findsWay : MI := (cX12_findsWay, RX12, 6, 1, (some .boolean), 1)
def LX12_findsWay_139 (x2 : Int) (σ : PS) (Φ : Int → PS → Prop) : Prop :=
  (0 ≤ x2 ∧ x2 < 108) ∧
  ((σ 22 x2.toNat < 0 →
    Φ 0 σ) ∧
  (¬ σ 22 x2.toNat < 0 →
    Φ 1 σ))
def LX12_findsWay_127 (K42 : Int → Int → Int → PS → Prop) (K60 : Int → Int → Int → Int → PS → Prop) (x2 x3 x4 x5 : Int) (σ : PS) (Φ : Int → PS → Prop) : Prop :=
  Rg (x5 + 1) ∧
  K60 x2 x3 x4 (x5 + 1) σ
def BX12_findsWay_60 (K42 : Int → Int → Int → PS → Prop) (K60 : Int → Int → Int → Int → PS → Prop) (x2 x3 x4 x5 : Int) (σ : PS) (Φ : Int → PS → Prop) : Prop :=
  ((σ 0 25 ≤ x5 →
    Rg (x4 + 1) ∧
    K42 x2 x3 (x4 + 1) σ) ∧
  (¬ σ 0 25 ≤ x5 →
    (0 ≤ x5 ∧ x5 < 108) ∧
    ((0 ≤ σ 22 x5.toNat →
      LX12_findsWay_127 K42 K60 x2 x3 x4 x5 σ Φ) ∧
    (¬ 0 ≤ σ 22 x5.toNat →
      (0 ≤ x4 ∧ x4 < 108) ∧
      Rg ((σ 6 x4.toNat) * (σ 0 25)) ∧
      Rg (((σ 6 x4.toNat) * (σ 0 25)) + x5) ∧
      (0 ≤ ((σ 6 x4.toNat) * (σ 0 25)) + x5 ∧ ((σ 6 x4.toNat) * (σ 0 25)) + x5 < 11664) ∧
      ((σ 21 (((σ 6 x4.toNat) * (σ 0 25)) + x5).toNat ≤ 0 →
        LX12_findsWay_127 K42 K60 x2 x3 x4 x5 σ Φ) ∧
      (¬ σ 21 (((σ 6 x4.toNat) * (σ 0 25)) + x5).toNat ≤ 0 →
        (0 ≤ x4 ∧ x4 < 108) ∧
        (0 ≤ x5 ∧ x5 < 108) ∧
        ∀ σ12 : PS, σ12 = up2 σ 22 x5.toNat (σ 6 x4.toNat) →
        (0 ≤ x3 ∧ x3 < 108) ∧
        ∀ σ14 : PS, σ14 = up2 σ12 6 x3.toNat x5 →
        Rg (x3 + 1) ∧
        LX12_findsWay_127 K42 K60 x2 (x3 + 1) x4 x5 σ14 Φ))))))
def LX12_findsWay_60 (K42 : Int → Int → Int → PS → Prop) : Nat → Int → Int → Int → Int → PS → (Int → PS → Prop) → Prop
  | 0, _, _, _, _, _, _ => False
  | n + 1, x2, x3, x4, x5, σ, Φ => BX12_findsWay_60 K42 (fun x2 x3 x4 x5 σ => LX12_findsWay_60 K42 n x2 x3 x4 x5 σ Φ) x2 x3 x4 x5 σ Φ
def BX12_findsWay_42 (K42 : Int → Int → Int → PS → Prop) (x2 x3 x4 : Int) (σ : PS) (Φ : Int → PS → Prop) : Prop :=
  ((x3 ≤ x4 →
    LX12_findsWay_139 x2 σ Φ) ∧
  (¬ x3 ≤ x4 →
    (0 ≤ x2 ∧ x2 < 108) ∧
    ((0 ≤ σ 22 x2.toNat →
      LX12_findsWay_139 x2 σ Φ) ∧
    (¬ 0 ≤ σ 22 x2.toNat →
      ∃ n, LX12_findsWay_60 K42 n x2 x3 x4 0 σ Φ))))
def LX12_findsWay_42 : Nat → Int → Int → Int → PS → (Int → PS → Prop) → Prop
  | 0, _, _, _, _, _ => False
  | n + 1, x2, x3, x4, σ, Φ => BX12_findsWay_42 (fun x2 x3 x4 σ => LX12_findsWay_42 n x2 x3 x4 σ Φ) x2 x3 x4 σ Φ
def BX12_findsWay_2 (K2 : Int → Int → Int → PS → Prop) (x1 x2 x3 : Int) (σ : PS) (Φ : Int → PS → Prop) : Prop :=
  ((σ 0 25 ≤ x3 →
    (0 ≤ x1 ∧ x1 < 108) ∧
    ∀ σ3 : PS, σ3 = up2 σ 22 x1.toNat x1 →
    ∀ σ4 : PS, σ4 = up2 σ3 6 0 x1 →
    ∃ n, LX12_findsWay_42 n x2 1 0 σ4 Φ) ∧
  (¬ σ 0 25 ≤ x3 →
    (0 ≤ x3 ∧ x3 < 108) ∧
    ∀ σ6 : PS, σ6 = up2 σ 22 x3.toNat (-1) →
    Rg (x3 + 1) ∧
    K2 x1 x2 (x3 + 1) σ6))
def LX12_findsWay_2 : Nat → Int → Int → Int → PS → (Int → PS → Prop) → Prop
  | 0, _, _, _, _, _ => False
  | n + 1, x1, x2, x3, σ, Φ => BX12_findsWay_2 (fun x1 x2 x3 σ => LX12_findsWay_2 n x1 x2 x3 σ Φ) x1 x2 x3 σ Φ
def FX12_findsWay (a1 a2 : Int) (σ : PS) (Φ : Int → PS → Prop) : Prop :=
  ∃ n, LX12_findsWay_2 n a1 a2 0 σ Φ
theorem fw_RX12_74 : FW RX12 74 12 27 := ⟨RX12, TX12, 39, rfl, by decide, rfl, tb_1 1246 (by decide +kernel), uw_12⟩
set_option maxRecDepth 100000 in
theorem TX12_findsWay_139 {E : EV} (hE : eOK layM E) {Φ : Int → PS → Prop} (x : CX) (x2 : Int) (rx2 : Rg x2) (σ : PS) (hs : RS σ) (h : LX12_findsWay_139 x2 σ Φ) : RW layM E mi_X12_findsWay Φ 139 [some (.ref (eA E 0)), none, some (.int (iz x2)), none, none, none] [] σ x := by
  refine r_aloadn (dc D_cX12_findsWay_1 37 rfl) rfl rfl ?_
  refine r_getR (dc D_cX12_findsWay_1 38 rfl) fw_RX12_74 lM_0 rfl ?_
  refine r_iloadn (dc D_cX12_findsWay_1 39 rfl) rfl rfl ?_
  obtain ⟨o1, h⟩ := h
  refine r_iald (N := 108) (dc D_cX12_findsWay_2 0 rfl) lM_22 rfl rfl o1 ?_
  refine r_if_lt (tgt := 152) (dc D_cX12_findsWay_2 1 rfl) (by decide) (hs _ _) (fun c2 => ?_) (fun c2 => ?_)
  · have h := h.1 c2
    refine r_iconst (n := 0) (dc D_cX12_findsWay_2 4 rfl) ?_
    exact r_zret (dc D_cX12_findsWay_2 5 rfl) rfl (by decide) h
  · have h := h.2 c2
    refine r_iconst (n := 1) (dc D_cX12_findsWay_2 2 rfl) ?_
    refine r_goto (tgt := 153) (dc D_cX12_findsWay_2 3 rfl) (by decide) ?_
    exact r_zret (dc D_cX12_findsWay_2 5 rfl) rfl (by decide) h
set_option maxRecDepth 100000 in
theorem TX12_findsWay_127 {E : EV} (hE : eOK layM E) {Φ : Int → PS → Prop} {K42 : Int → Int → Int → PS → Prop} {K60 : Int → Int → Int → Int → PS → Prop} (x : CX) (hK42 : ∀ (x2 x3 x4 : Int) (σ : PS), Rg x2 → Rg x3 → Rg x4 → RS σ → K42 x2 x3 x4 σ → RW layM E mi_X12_findsWay Φ 42 [some (.ref (eA E 0)), none, some (.int (iz x2)), some (.int (iz x3)), some (.int (iz x4)), none] [] σ x) (hK60 : ∀ (x2 x3 x4 x5 : Int) (σ : PS), Rg x2 → Rg x3 → Rg x4 → Rg x5 → RS σ → K60 x2 x3 x4 x5 σ → RW layM E mi_X12_findsWay Φ 60 [some (.ref (eA E 0)), none, some (.int (iz x2)), some (.int (iz x3)), some (.int (iz x4)), some (.int (iz x5))] [] σ x) (x2 x3 x4 x5 : Int) (rx2 : Rg x2) (rx3 : Rg x3) (rx4 : Rg x4) (rx5 : Rg x5) (σ : PS) (hs : RS σ) (h : LX12_findsWay_127 K42 K60 x2 x3 x4 x5 σ Φ) : RW layM E mi_X12_findsWay Φ 127 [some (.ref (eA E 0)), none, some (.int (iz x2)), some (.int (iz x3)), some (.int (iz x4)), some (.int (iz x5))] [] σ x := by
  obtain ⟨o1, h⟩ := h
  refine r_iinc (lv' := [some (.ref (eA E 0)), none, some (.int (iz x2)), some (.int (iz x3)), some (.int (iz x4)), some (.int (iz (x5 + 1)))]) (dc D_cX12_findsWay_1 33 rfl) rfl rfl rfl ?_
  refine r_goto (tgt := 60) (dc D_cX12_findsWay_1 34 rfl) (by decide) ?_
  exact hK60 _ _ _ _ _ rx2 rx3 rx4 o1 hs h
set_option maxRecDepth 100000 in
theorem TBX12_findsWay_60 {E : EV} (hE : eOK layM E) {Φ : Int → PS → Prop} {K42 : Int → Int → Int → PS → Prop} {K60 : Int → Int → Int → Int → PS → Prop} (x : CX) (hK42 : ∀ (x2 x3 x4 : Int) (σ : PS), Rg x2 → Rg x3 → Rg x4 → RS σ → K42 x2 x3 x4 σ → RW layM E mi_X12_findsWay Φ 42 [some (.ref (eA E 0)), none, some (.int (iz x2)), some (.int (iz x3)), some (.int (iz x4)), none] [] σ x) (hK60 : ∀ (x2 x3 x4 x5 : Int) (σ : PS), Rg x2 → Rg x3 → Rg x4 → Rg x5 → RS σ → K60 x2 x3 x4 x5 σ → RW layM E mi_X12_findsWay Φ 60 [some (.ref (eA E 0)), none, some (.int (iz x2)), some (.int (iz x3)), some (.int (iz x4)), some (.int (iz x5))] [] σ x) (x2 x3 x4 x5 : Int) (rx2 : Rg x2) (rx3 : Rg x3) (rx4 : Rg x4) (rx5 : Rg x5) (σ : PS) (hs : RS σ) (h : BX12_findsWay_60 K42 K60 x2 x3 x4 x5 σ Φ) : RW layM E mi_X12_findsWay Φ 60 [some (.ref (eA E 0)), none, some (.int (iz x2)), some (.int (iz x3)), some (.int (iz x4)), some (.int (iz x5))] [] σ x := by
  refine r_iload (dc D_cX12_findsWay_0 37 rfl) rfl ?_
  refine r_aloadn (dc D_cX12_findsWay_0 38 rfl) rfl rfl ?_
  refine r_getI (dc D_cX12_findsWay_0 39 rfl) fw_RX12_215 lM_0 rfl ?_
  refine r_icmp_ge (tgt := 133) (dc D_cX12_findsWay_1 0 rfl) (by decide) rx5 (hs _ _) (fun c1 => ?_) (fun c1 => ?_)
  · have h := h.1 c1
    obtain ⟨o2, h⟩ := h
    refine r_iinc (lv' := [some (.ref (eA E 0)), none, some (.int (iz x2)), some (.int (iz x3)), some (.int (iz (x4 + 1))), some (.int (iz x5))]) (dc D_cX12_findsWay_1 35 rfl) rfl rfl rfl ?_
    refine r_goto (tgt := 42) (dc D_cX12_findsWay_1 36 rfl) (by decide) ?_
    refine r_sub (lv' := [some (.ref (eA E 0)), none, some (.int (iz x2)), some (.int (iz x3)), some (.int (iz (x4 + 1))), none]) (subL_s (subL_n (subL_s (subL_s (subL_s (subL_n subL_e)))))) ?_
    exact hK42 _ _ _ _ rx2 rx3 o2 hs h
  · have h := h.2 c1
    refine r_aloadn (dc D_cX12_findsWay_1 1 rfl) rfl rfl ?_
    refine r_getR (dc D_cX12_findsWay_1 2 rfl) fw_RX12_74 lM_0 rfl ?_
    refine r_iload (dc D_cX12_findsWay_1 3 rfl) rfl ?_
    obtain ⟨o3, h⟩ := h
    refine r_iald (N := 108) (dc D_cX12_findsWay_1 4 rfl) lM_22 rfl rfl o3 ?_
    refine r_if_ge (tgt := 127) (dc D_cX12_findsWay_1 5 rfl) (by decide) (hs _ _) (fun c4 => ?_) (fun c4 => ?_)
    · have h := h.1 c4
      exact TX12_findsWay_127 hE x hK42 hK60 _ _ _ _ rx2 rx3 rx4 rx5 _ hs h
    · have h := h.2 c4
      refine r_aloadn (dc D_cX12_findsWay_1 6 rfl) rfl rfl ?_
      refine r_getR (dc D_cX12_findsWay_1 7 rfl) fw_RX12_71 lM_0 rfl ?_
      refine r_aloadn (dc D_cX12_findsWay_1 8 rfl) rfl rfl ?_
      refine r_getR (dc D_cX12_findsWay_1 9 rfl) fw_RX12_25 lM_0 rfl ?_
      refine r_iload (dc D_cX12_findsWay_1 10 rfl) rfl ?_
      obtain ⟨o5, h⟩ := h
      refine r_iald (N := 108) (dc D_cX12_findsWay_1 11 rfl) lM_6 rfl rfl o5 ?_
      refine r_aloadn (dc D_cX12_findsWay_1 12 rfl) rfl rfl ?_
      refine r_getI (dc D_cX12_findsWay_1 13 rfl) fw_RX12_215 lM_0 rfl ?_
      refine r_imul (dc D_cX12_findsWay_1 14 rfl) ?_
      obtain ⟨o6, h⟩ := h
      refine r_iload (dc D_cX12_findsWay_1 15 rfl) rfl ?_
      refine r_iadd (dc D_cX12_findsWay_1 16 rfl) ?_
      obtain ⟨o7, h⟩ := h
      obtain ⟨o8, h⟩ := h
      refine r_iald (N := 11664) (dc D_cX12_findsWay_1 17 rfl) lM_21 rfl rfl o8 ?_
      refine r_if_le (tgt := 127) (dc D_cX12_findsWay_1 18 rfl) (by decide) (hs _ _) (fun c9 => ?_) (fun c9 => ?_)
      · have h := h.1 c9
        exact TX12_findsWay_127 hE x hK42 hK60 _ _ _ _ rx2 rx3 rx4 rx5 _ hs h
      · have h := h.2 c9
        refine r_aloadn (dc D_cX12_findsWay_1 19 rfl) rfl rfl ?_
        refine r_getR (dc D_cX12_findsWay_1 20 rfl) fw_RX12_74 lM_0 rfl ?_
        refine r_iload (dc D_cX12_findsWay_1 21 rfl) rfl ?_
        refine r_aloadn (dc D_cX12_findsWay_1 22 rfl) rfl rfl ?_
        refine r_getR (dc D_cX12_findsWay_1 23 rfl) fw_RX12_25 lM_0 rfl ?_
        refine r_iload (dc D_cX12_findsWay_1 24 rfl) rfl ?_
        obtain ⟨o10, h⟩ := h
        refine r_iald (N := 108) (dc D_cX12_findsWay_1 25 rfl) lM_6 rfl rfl o10 ?_
        obtain ⟨o11, h⟩ := h
        refine r_iast (N := 108) (dc D_cX12_findsWay_1 26 rfl) lM_22 rfl rfl o11 (hs _ _) ?_
        refine r_sig (fun σ12 eσ12 => ?_)
        have h := h σ12 eσ12
        have hσ12 : RS σ12 := RS_eq eσ12 (RS.up hs (hs _ _) _ _)
        refine r_aloadn (dc D_cX12_findsWay_1 27 rfl) rfl rfl ?_
        refine r_getR (dc D_cX12_findsWay_1 28 rfl) fw_RX12_25 lM_0 rfl ?_
        refine r_iloadn (dc D_cX12_findsWay_1 29 rfl) rfl rfl ?_
        refine r_iload (dc D_cX12_findsWay_1 30 rfl) rfl ?_
        obtain ⟨o13, h⟩ := h
        refine r_iast (N := 108) (dc D_cX12_findsWay_1 31 rfl) lM_6 rfl rfl o13 rx5 ?_
        refine r_sig (fun σ14 eσ14 => ?_)
        have h := h σ14 eσ14
        have hσ14 : RS σ14 := RS_eq eσ14 (RS.up hσ12 rx5 _ _)
        obtain ⟨o15, h⟩ := h
        refine r_iinc (lv' := [some (.ref (eA E 0)), none, some (.int (iz x2)), some (.int (iz (x3 + 1))), some (.int (iz x4)), some (.int (iz x5))]) (dc D_cX12_findsWay_1 32 rfl) rfl rfl rfl ?_
        exact TX12_findsWay_127 hE x hK42 hK60 _ _ _ _ rx2 o15 rx4 rx5 _ hσ14 h
theorem TX12_findsWay_60 {E : EV} (hE : eOK layM E) {Φ : Int → PS → Prop} {K42 : Int → Int → Int → PS → Prop} (x : CX) (hK42 : ∀ (x2 x3 x4 : Int) (σ : PS), Rg x2 → Rg x3 → Rg x4 → RS σ → K42 x2 x3 x4 σ → RW layM E mi_X12_findsWay Φ 42 [some (.ref (eA E 0)), none, some (.int (iz x2)), some (.int (iz x3)), some (.int (iz x4)), none] [] σ x) (n : Nat) : ∀ (x2 x3 x4 x5 : Int) (σ : PS), Rg x2 → Rg x3 → Rg x4 → Rg x5 → RS σ → LX12_findsWay_60 K42 n x2 x3 x4 x5 σ Φ → RW layM E mi_X12_findsWay Φ 60 [some (.ref (eA E 0)), none, some (.int (iz x2)), some (.int (iz x3)), some (.int (iz x4)), some (.int (iz x5))] [] σ x := by
  induction n with
  | zero => intro x2 x3 x4 x5 σ _ _ _ _ _ h; exact h.elim
  | succ n ih => intro x2 x3 x4 x5 σ rx2 rx3 rx4 rx5 hs h; exact TBX12_findsWay_60 hE x hK42 ih x2 x3 x4 x5 rx2 rx3 rx4 rx5 σ hs h
set_option maxRecDepth 100000 in
theorem TBX12_findsWay_42 {E : EV} (hE : eOK layM E) {Φ : Int → PS → Prop} {K42 : Int → Int → Int → PS → Prop} (x : CX) (hK42 : ∀ (x2 x3 x4 : Int) (σ : PS), Rg x2 → Rg x3 → Rg x4 → RS σ → K42 x2 x3 x4 σ → RW layM E mi_X12_findsWay Φ 42 [some (.ref (eA E 0)), none, some (.int (iz x2)), some (.int (iz x3)), some (.int (iz x4)), none] [] σ x) (x2 x3 x4 : Int) (rx2 : Rg x2) (rx3 : Rg x3) (rx4 : Rg x4) (σ : PS) (hs : RS σ) (h : BX12_findsWay_42 K42 x2 x3 x4 σ Φ) : RW layM E mi_X12_findsWay Φ 42 [some (.ref (eA E 0)), none, some (.int (iz x2)), some (.int (iz x3)), some (.int (iz x4)), none] [] σ x := by
  refine r_iload (dc D_cX12_findsWay_0 27 rfl) rfl ?_
  refine r_iloadn (dc D_cX12_findsWay_0 28 rfl) rfl rfl ?_
  refine r_icmp_ge (tgt := 139) (dc D_cX12_findsWay_0 29 rfl) (by decide) rx4 rx3 (fun c1 => ?_) (fun c1 => ?_)
  · have h := h.1 c1
    refine r_sub (lv' := [some (.ref (eA E 0)), none, some (.int (iz x2)), none, none, none]) (subL_s (subL_n (subL_s (subL_n (subL_n (subL_n subL_e)))))) ?_
    exact TX12_findsWay_139 hE x _ rx2 _ hs h
  · have h := h.2 c1
    refine r_aloadn (dc D_cX12_findsWay_0 30 rfl) rfl rfl ?_
    refine r_getR (dc D_cX12_findsWay_0 31 rfl) fw_RX12_74 lM_0 rfl ?_
    refine r_iloadn (dc D_cX12_findsWay_0 32 rfl) rfl rfl ?_
    obtain ⟨o2, h⟩ := h
    refine r_iald (N := 108) (dc D_cX12_findsWay_0 33 rfl) lM_22 rfl rfl o2 ?_
    refine r_if_ge (tgt := 139) (dc D_cX12_findsWay_0 34 rfl) (by decide) (hs _ _) (fun c3 => ?_) (fun c3 => ?_)
    · have h := h.1 c3
      refine r_sub (lv' := [some (.ref (eA E 0)), none, some (.int (iz x2)), none, none, none]) (subL_s (subL_n (subL_s (subL_n (subL_n (subL_n subL_e)))))) ?_
      exact TX12_findsWay_139 hE x _ rx2 _ hs h
    · have h := h.2 c3
      refine r_iconst (n := 0) (dc D_cX12_findsWay_0 35 rfl) ?_
      refine r_istore (lv' := [some (.ref (eA E 0)), none, some (.int (iz x2)), some (.int (iz x3)), some (.int (iz x4)), some (.int (iz 0))]) (dc D_cX12_findsWay_0 36 rfl) rfl rfl ?_
      obtain ⟨n, h⟩ := h
      exact TX12_findsWay_60 hE x hK42 n _ _ _ _ _ rx2 rx3 rx4 (Rl rfl) hs h
theorem TX12_findsWay_42 {E : EV} (hE : eOK layM E) {Φ : Int → PS → Prop} (x : CX) (n : Nat) : ∀ (x2 x3 x4 : Int) (σ : PS), Rg x2 → Rg x3 → Rg x4 → RS σ → LX12_findsWay_42 n x2 x3 x4 σ Φ → RW layM E mi_X12_findsWay Φ 42 [some (.ref (eA E 0)), none, some (.int (iz x2)), some (.int (iz x3)), some (.int (iz x4)), none] [] σ x := by
  induction n with
  | zero => intro x2 x3 x4 σ _ _ _ _ h; exact h.elim
  | succ n ih => intro x2 x3 x4 σ rx2 rx3 rx4 hs h; exact TBX12_findsWay_42 hE x ih x2 x3 x4 rx2 rx3 rx4 σ hs h
set_option maxRecDepth 100000 in
theorem TBX12_findsWay_2 {E : EV} (hE : eOK layM E) {Φ : Int → PS → Prop} {K2 : Int → Int → Int → PS → Prop} (x : CX) (hK2 : ∀ (x1 x2 x3 : Int) (σ : PS), Rg x1 → Rg x2 → Rg x3 → RS σ → K2 x1 x2 x3 σ → RW layM E mi_X12_findsWay Φ 2 [some (.ref (eA E 0)), some (.int (iz x1)), some (.int (iz x2)), some (.int (iz x3)), none, none] [] σ x) (x1 x2 x3 : Int) (rx1 : Rg x1) (rx2 : Rg x2) (rx3 : Rg x3) (σ : PS) (hs : RS σ) (h : BX12_findsWay_2 K2 x1 x2 x3 σ Φ) : RW layM E mi_X12_findsWay Φ 2 [some (.ref (eA E 0)), some (.int (iz x1)), some (.int (iz x2)), some (.int (iz x3)), none, none] [] σ x := by
  refine r_iloadn (dc D_cX12_findsWay_0 2 rfl) rfl rfl ?_
  refine r_aloadn (dc D_cX12_findsWay_0 3 rfl) rfl rfl ?_
  refine r_getI (dc D_cX12_findsWay_0 4 rfl) fw_RX12_215 lM_0 rfl ?_
  refine r_icmp_ge (tgt := 23) (dc D_cX12_findsWay_0 5 rfl) (by decide) rx3 (hs _ _) (fun c1 => ?_) (fun c1 => ?_)
  · have h := h.1 c1
    refine r_aloadn (dc D_cX12_findsWay_0 13 rfl) rfl rfl ?_
    refine r_getR (dc D_cX12_findsWay_0 14 rfl) fw_RX12_74 lM_0 rfl ?_
    refine r_iloadn (dc D_cX12_findsWay_0 15 rfl) rfl rfl ?_
    refine r_iloadn (dc D_cX12_findsWay_0 16 rfl) rfl rfl ?_
    obtain ⟨o2, h⟩ := h
    refine r_iast (N := 108) (dc D_cX12_findsWay_0 17 rfl) lM_22 rfl rfl o2 rx1 ?_
    refine r_sig (fun σ3 eσ3 => ?_)
    have h := h σ3 eσ3
    have hσ3 : RS σ3 := RS_eq eσ3 (RS.up hs rx1 _ _)
    refine r_aloadn (dc D_cX12_findsWay_0 18 rfl) rfl rfl ?_
    refine r_getR (dc D_cX12_findsWay_0 19 rfl) fw_RX12_25 lM_0 rfl ?_
    refine r_iconst (n := 0) (dc D_cX12_findsWay_0 20 rfl) ?_
    refine r_iloadn (dc D_cX12_findsWay_0 21 rfl) rfl rfl ?_
    refine r_iast (N := 108) (dc D_cX12_findsWay_0 22 rfl) lM_6 rfl rfl ⟨by decide, by decide⟩ rx1 ?_
    refine r_sig (fun σ4 eσ4 => ?_)
    have h := h σ4 eσ4
    have hσ4 : RS σ4 := RS_eq eσ4 (RS.up hσ3 rx1 _ _)
    refine r_iconst (n := 1) (dc D_cX12_findsWay_0 23 rfl) ?_
    refine r_istoren (lv' := [some (.ref (eA E 0)), some (.int (iz x1)), some (.int (iz x2)), some (.int (iz 1)), none, none]) (dc D_cX12_findsWay_0 24 rfl) rfl rfl rfl ?_
    refine r_iconst (n := 0) (dc D_cX12_findsWay_0 25 rfl) ?_
    refine r_istore (lv' := [some (.ref (eA E 0)), some (.int (iz x1)), some (.int (iz x2)), some (.int (iz 1)), some (.int (iz 0)), none]) (dc D_cX12_findsWay_0 26 rfl) rfl rfl ?_
    refine r_sub (lv' := [some (.ref (eA E 0)), none, some (.int (iz x2)), some (.int (iz 1)), some (.int (iz 0)), none]) (subL_s (subL_n (subL_s (subL_s (subL_s (subL_n subL_e)))))) ?_
    obtain ⟨n, h⟩ := h
    exact TX12_findsWay_42 hE x n _ _ _ _ rx2 (Rl rfl) (Rl rfl) hσ4 h
  · have h := h.2 c1
    refine r_aloadn (dc D_cX12_findsWay_0 6 rfl) rfl rfl ?_
    refine r_getR (dc D_cX12_findsWay_0 7 rfl) fw_RX12_74 lM_0 rfl ?_
    refine r_iloadn (dc D_cX12_findsWay_0 8 rfl) rfl rfl ?_
    refine r_iconst (n := (-1)) (dc D_cX12_findsWay_0 9 rfl) ?_
    obtain ⟨o5, h⟩ := h
    refine r_iast (N := 108) (dc D_cX12_findsWay_0 10 rfl) lM_22 rfl rfl o5 (Rl rfl) ?_
    refine r_sig (fun σ6 eσ6 => ?_)
    have h := h σ6 eσ6
    have hσ6 : RS σ6 := RS_eq eσ6 (RS.up hs (Rl rfl) _ _)
    obtain ⟨o7, h⟩ := h
    refine r_iinc (lv' := [some (.ref (eA E 0)), some (.int (iz x1)), some (.int (iz x2)), some (.int (iz (x3 + 1))), none, none]) (dc D_cX12_findsWay_0 11 rfl) rfl rfl rfl ?_
    refine r_goto (tgt := 2) (dc D_cX12_findsWay_0 12 rfl) (by decide) ?_
    exact hK2 _ _ _ _ rx1 rx2 o7 hσ6 h
theorem TX12_findsWay_2 {E : EV} (hE : eOK layM E) {Φ : Int → PS → Prop} (x : CX) (n : Nat) : ∀ (x1 x2 x3 : Int) (σ : PS), Rg x1 → Rg x2 → Rg x3 → RS σ → LX12_findsWay_2 n x1 x2 x3 σ Φ → RW layM E mi_X12_findsWay Φ 2 [some (.ref (eA E 0)), some (.int (iz x1)), some (.int (iz x2)), some (.int (iz x3)), none, none] [] σ x := by
  induction n with
  | zero => intro x1 x2 x3 σ _ _ _ _ h; exact h.elim
  | succ n ih => intro x1 x2 x3 σ rx1 rx2 rx3 hs h; exact TBX12_findsWay_2 hE x ih x1 x2 x3 rx1 rx2 rx3 σ hs h
set_option maxRecDepth 100000 in
theorem CX12_findsWay {E : EV} (hE : eOK layM E) {Φ : Int → PS → Prop} (a1 a2 : Int) (ra1 : Rg a1) (ra2 : Rg a2) (σ : PS) (hs : RS σ) (h : FX12_findsWay a1 a2 σ Φ) : CT layM E yX12_findsWay mi_X12_findsWay [.ref (eA E 0), .int (iz a1), .int (iz a2)] σ Φ := by
  refine ct_of (by decide +kernel) rfl hE rfl rfl hs (fun x => ?_)
  show RW layM E mi_X12_findsWay Φ 0 [some (.ref (eA E 0)), some (.int (iz a1)), some (.int (iz a2)), none, none, none] [] σ x
  refine r_iconst (n := 0) (dc D_cX12_findsWay_0 0 rfl) ?_
  refine r_istoren (lv' := [some (.ref (eA E 0)), some (.int (iz a1)), some (.int (iz a2)), some (.int (iz 0)), none, none]) (dc D_cX12_findsWay_0 1 rfl) rfl rfl rfl ?_
  obtain ⟨n, h⟩ := h
  exact TX12_findsWay_2 hE x n _ _ _ _ ra1 ra2 (Rl rfl) hs h
-- end of GateFlowModel.findsWay
def mi_X12_passes : MI := (cX12_passes, RX12, 6, 4, (some .int), 1)
def BX12_passes_66 (K2 : Int → Int → Int → PS → Prop) (K66 : Int → Int → Int → Int → Int → PS → Prop) (x1 x2 x3 x4 x5 : Int) (σ : PS) (Φ : Int → PS → Prop) : Prop :=
  ((x5 = x1 →
    Rg (x3 + x4) ∧
    ∀ v3 : Int, v3 = x3 + x4 →
    K2 x1 x2 v3 σ) ∧
  (¬ x5 = x1 →
    (0 ≤ x5 ∧ x5 < 108) ∧
    Rg (-x4) ∧
    FX12_adds (σ 22 x5.toNat) x5 (-x4) σ (fun z6 σ7 =>
    (0 ≤ x5 ∧ x5 < 108) ∧
    FX12_adds x5 (σ7 22 x5.toNat) x4 σ7 (fun z9 σ10 =>
    (0 ≤ x5 ∧ x5 < 108) ∧
    ∀ v12 : Int, v12 = σ10 22 x5.toNat →
    K66 x1 x2 x3 x4 v12 σ10))))
def LX12_passes_66 (K2 : Int → Int → Int → PS → Prop) : Nat → Int → Int → Int → Int → Int → PS → (Int → PS → Prop) → Prop
  | 0, _, _, _, _, _, _, _ => False
  | n + 1, x1, x2, x3, x4, x5, σ, Φ => BX12_passes_66 K2 (fun x1 x2 x3 x4 x5 σ => LX12_passes_66 K2 n x1 x2 x3 x4 x5 σ Φ) x1 x2 x3 x4 x5 σ Φ
def BX12_passes_18 (K2 : Int → Int → Int → PS → Prop) (K18 : Int → Int → Int → Int → Int → PS → Prop) (x1 x2 x3 x4 x5 : Int) (σ : PS) (Φ : Int → PS → Prop) : Prop :=
  ((x5 = x1 →
    ∃ n, LX12_passes_66 K2 n x1 x2 x3 x4 x2 σ Φ) ∧
  (¬ x5 = x1 →
    (0 ≤ x5 ∧ x5 < 108) ∧
    Rg ((σ 22 x5.toNat) * (σ 0 25)) ∧
    Rg (((σ 22 x5.toNat) * (σ 0 25)) + x5) ∧
    (0 ≤ ((σ 22 x5.toNat) * (σ 0 25)) + x5 ∧ ((σ 22 x5.toNat) * (σ 0 25)) + x5 < 11664) ∧
    ∀ v6 : Int, v6 = min x4 (σ 21 (((σ 22 x5.toNat) * (σ 0 25)) + x5).toNat) →
    (0 ≤ x5 ∧ x5 < 108) ∧
    ∀ v8 : Int, v8 = σ 22 x5.toNat →
    K18 x1 x2 x3 v6 v8 σ))
def LX12_passes_18 (K2 : Int → Int → Int → PS → Prop) : Nat → Int → Int → Int → Int → Int → PS → (Int → PS → Prop) → Prop
  | 0, _, _, _, _, _, _, _ => False
  | n + 1, x1, x2, x3, x4, x5, σ, Φ => BX12_passes_18 K2 (fun x1 x2 x3 x4 x5 σ => LX12_passes_18 K2 n x1 x2 x3 x4 x5 σ Φ) x1 x2 x3 x4 x5 σ Φ
def BX12_passes_2 (K2 : Int → Int → Int → PS → Prop) (x1 x2 x3 : Int) (σ : PS) (Φ : Int → PS → Prop) : Prop :=
  FX12_findsWay x1 x2 σ (fun z1 σ2 =>
  ((z1 = 0 →
    Φ x3 σ2) ∧
  (¬ z1 = 0 →
    ∃ n, LX12_passes_18 K2 n x1 x2 x3 100000000 x2 σ2 Φ)))
def LX12_passes_2 : Nat → Int → Int → Int → PS → (Int → PS → Prop) → Prop
  | 0, _, _, _, _, _ => False
  | n + 1, x1, x2, x3, σ, Φ => BX12_passes_2 (fun x1 x2 x3 σ => LX12_passes_2 n x1 x2 x3 σ Φ) x1 x2 x3 σ Φ
def FX12_passes (a1 a2 : Int) (σ : PS) (Φ : Int → PS → Prop) : Prop :=
  ∃ n, LX12_passes_2 n a1 a2 0 σ Φ
theorem cw_RX12_222 : CWV RX12 222 yX12_adds mi_X12_adds := tb_r [1549, 1551, 69, 110, 1552] (by decide +kernel)
theorem nm_yX12_adds : ynm yX12_adds 3 := ⟨⟨by decide +kernel, by decide +kernel⟩, by decide +kernel⟩
theorem cw_RX12_218 : CWV RX12 218 yX12_findsWay mi_X12_findsWay := tb_r [1557, 1559, 71, 110, 1560] (by decide +kernel)
theorem nm_yX12_findsWay : ynm yX12_findsWay 2 := ⟨⟨by decide +kernel, by decide +kernel⟩, by decide +kernel⟩
set_option maxRecDepth 100000 in
theorem TBX12_passes_66 {E : EV} (hE : eOK layM E) {Φ : Int → PS → Prop} {K2 : Int → Int → Int → PS → Prop} {K66 : Int → Int → Int → Int → Int → PS → Prop} (x : CX) (hK2 : ∀ (x1 x2 x3 : Int) (σ : PS), Rg x1 → Rg x2 → Rg x3 → RS σ → K2 x1 x2 x3 σ → RW layM E mi_X12_passes Φ 2 [some (.ref (eA E 0)), some (.int (iz x1)), some (.int (iz x2)), some (.int (iz x3)), none, none] [] σ x) (hK66 : ∀ (x1 x2 x3 x4 x5 : Int) (σ : PS), Rg x1 → Rg x2 → Rg x3 → Rg x4 → Rg x5 → RS σ → K66 x1 x2 x3 x4 x5 σ → RW layM E mi_X12_passes Φ 66 [some (.ref (eA E 0)), some (.int (iz x1)), some (.int (iz x2)), some (.int (iz x3)), some (.int (iz x4)), some (.int (iz x5))] [] σ x) (x1 x2 x3 x4 x5 : Int) (rx1 : Rg x1) (rx2 : Rg x2) (rx3 : Rg x3) (rx4 : Rg x4) (rx5 : Rg x5) (σ : PS) (hs : RS σ) (h : BX12_passes_66 K2 K66 x1 x2 x3 x4 x5 σ Φ) : RW layM E mi_X12_passes Φ 66 [some (.ref (eA E 0)), some (.int (iz x1)), some (.int (iz x2)), some (.int (iz x3)), some (.int (iz x4)), some (.int (iz x5))] [] σ x := by
  refine r_iload (dc D_cX12_passes_0 37 rfl) rfl ?_
  refine r_iloadn (dc D_cX12_passes_0 38 rfl) rfl rfl ?_
  refine r_icmp_eq (tgt := 115) (dc D_cX12_passes_0 39 rfl) (by decide) rx5 rx1 (fun c1 => ?_) (fun c1 => ?_)
  · have h := h.1 c1
    refine r_iloadn (dc D_cX12_passes_1 23 rfl) rfl rfl ?_
    refine r_iload (dc D_cX12_passes_1 24 rfl) rfl ?_
    refine r_iadd (dc D_cX12_passes_1 25 rfl) ?_
    obtain ⟨o2, h⟩ := h
    refine r_name (fun v3 ev3 => ?_)
    have h := h v3 ev3
    have rv3 : Rg v3 := Rg_eq ev3 o2
    refine r_istoren (lv' := [some (.ref (eA E 0)), some (.int (iz x1)), some (.int (iz x2)), some (.int (iz v3)), some (.int (iz x4)), some (.int (iz x5))]) (dc D_cX12_passes_1 26 rfl) rfl rfl rfl ?_
    refine r_goto (tgt := 2) (dc D_cX12_passes_1 27 rfl) (by decide) ?_
    refine r_sub (lv' := [some (.ref (eA E 0)), some (.int (iz x1)), some (.int (iz x2)), some (.int (iz v3)), none, none]) (subL_s (subL_s (subL_s (subL_s (subL_n (subL_n subL_e)))))) ?_
    exact hK2 _ _ _ _ rx1 rx2 rv3 hs h
  · have h := h.2 c1
    refine r_aloadn (dc D_cX12_passes_1 0 rfl) rfl rfl ?_
    refine r_aloadn (dc D_cX12_passes_1 1 rfl) rfl rfl ?_
    refine r_getR (dc D_cX12_passes_1 2 rfl) fw_RX12_74 lM_0 rfl ?_
    refine r_iload (dc D_cX12_passes_1 3 rfl) rfl ?_
    obtain ⟨o4, h⟩ := h
    refine r_iald (N := 108) (dc D_cX12_passes_1 4 rfl) lM_22 rfl rfl o4 ?_
    refine r_iload (dc D_cX12_passes_1 5 rfl) rfl ?_
    refine r_iload (dc D_cX12_passes_1 6 rfl) rfl ?_
    refine r_ineg (dc D_cX12_passes_1 7 rfl) ?_
    obtain ⟨o5, h⟩ := h
    refine r_callV (As := [.int (iz (σ 22 x5.toNat)), .int (iz x5), .int (iz (-x4))]) (st := []) (dc D_cX12_passes_1 8 rfl) cw_RX12_222 nm_yX12_adds (CX12_adds hE _ _ _ (hs _ _) rx5 o5 _ hs h) lM_0 rfl rfl (by decide) rfl rfl rfl (fun z6 σ7 rz6 hσ7 h => ?_)
    show RW layM E mi_X12_passes Φ 88 [some (.ref (eA E 0)), some (.int (iz x1)), some (.int (iz x2)), some (.int (iz x3)), some (.int (iz x4)), some (.int (iz x5))] [] σ7 x
    refine r_aloadn (dc D_cX12_passes_1 9 rfl) rfl rfl ?_
    refine r_iload (dc D_cX12_passes_1 10 rfl) rfl ?_
    refine r_aloadn (dc D_cX12_passes_1 11 rfl) rfl rfl ?_
    refine r_getR (dc D_cX12_passes_1 12 rfl) fw_RX12_74 lM_0 rfl ?_
    refine r_iload (dc D_cX12_passes_1 13 rfl) rfl ?_
    obtain ⟨o8, h⟩ := h
    refine r_iald (N := 108) (dc D_cX12_passes_1 14 rfl) lM_22 rfl rfl o8 ?_
    refine r_iload (dc D_cX12_passes_1 15 rfl) rfl ?_
    refine r_callV (As := [.int (iz x5), .int (iz (σ7 22 x5.toNat)), .int (iz x4)]) (st := []) (dc D_cX12_passes_1 16 rfl) cw_RX12_222 nm_yX12_adds (CX12_adds hE _ _ _ rx5 (hσ7 _ _) rx4 _ hσ7 h) lM_0 rfl rfl (by decide) rfl rfl rfl (fun z9 σ10 rz9 hσ10 h => ?_)
    show RW layM E mi_X12_passes Φ 103 [some (.ref (eA E 0)), some (.int (iz x1)), some (.int (iz x2)), some (.int (iz x3)), some (.int (iz x4)), some (.int (iz x5))] [] σ10 x
    refine r_aloadn (dc D_cX12_passes_1 17 rfl) rfl rfl ?_
    refine r_getR (dc D_cX12_passes_1 18 rfl) fw_RX12_74 lM_0 rfl ?_
    refine r_iload (dc D_cX12_passes_1 19 rfl) rfl ?_
    obtain ⟨o11, h⟩ := h
    refine r_iald (N := 108) (dc D_cX12_passes_1 20 rfl) lM_22 rfl rfl o11 ?_
    refine r_name (fun v12 ev12 => ?_)
    have h := h v12 ev12
    have rv12 : Rg v12 := Rg_eq ev12 (hσ10 _ _)
    refine r_istore (lv' := [some (.ref (eA E 0)), some (.int (iz x1)), some (.int (iz x2)), some (.int (iz x3)), some (.int (iz x4)), some (.int (iz v12))]) (dc D_cX12_passes_1 21 rfl) rfl rfl ?_
    refine r_goto (tgt := 66) (dc D_cX12_passes_1 22 rfl) (by decide) ?_
    exact hK66 _ _ _ _ _ _ rx1 rx2 rx3 rx4 rv12 hσ10 h
theorem TX12_passes_66 {E : EV} (hE : eOK layM E) {Φ : Int → PS → Prop} {K2 : Int → Int → Int → PS → Prop} (x : CX) (hK2 : ∀ (x1 x2 x3 : Int) (σ : PS), Rg x1 → Rg x2 → Rg x3 → RS σ → K2 x1 x2 x3 σ → RW layM E mi_X12_passes Φ 2 [some (.ref (eA E 0)), some (.int (iz x1)), some (.int (iz x2)), some (.int (iz x3)), none, none] [] σ x) (n : Nat) : ∀ (x1 x2 x3 x4 x5 : Int) (σ : PS), Rg x1 → Rg x2 → Rg x3 → Rg x4 → Rg x5 → RS σ → LX12_passes_66 K2 n x1 x2 x3 x4 x5 σ Φ → RW layM E mi_X12_passes Φ 66 [some (.ref (eA E 0)), some (.int (iz x1)), some (.int (iz x2)), some (.int (iz x3)), some (.int (iz x4)), some (.int (iz x5))] [] σ x := by
  induction n with
  | zero => intro x1 x2 x3 x4 x5 σ _ _ _ _ _ _ h; exact h.elim
  | succ n ih => intro x1 x2 x3 x4 x5 σ rx1 rx2 rx3 rx4 rx5 hs h; exact TBX12_passes_66 hE x hK2 ih x1 x2 x3 x4 x5 rx1 rx2 rx3 rx4 rx5 σ hs h
set_option maxRecDepth 100000 in
theorem TBX12_passes_18 {E : EV} (hE : eOK layM E) {Φ : Int → PS → Prop} {K2 : Int → Int → Int → PS → Prop} {K18 : Int → Int → Int → Int → Int → PS → Prop} (x : CX) (hK2 : ∀ (x1 x2 x3 : Int) (σ : PS), Rg x1 → Rg x2 → Rg x3 → RS σ → K2 x1 x2 x3 σ → RW layM E mi_X12_passes Φ 2 [some (.ref (eA E 0)), some (.int (iz x1)), some (.int (iz x2)), some (.int (iz x3)), none, none] [] σ x) (hK18 : ∀ (x1 x2 x3 x4 x5 : Int) (σ : PS), Rg x1 → Rg x2 → Rg x3 → Rg x4 → Rg x5 → RS σ → K18 x1 x2 x3 x4 x5 σ → RW layM E mi_X12_passes Φ 18 [some (.ref (eA E 0)), some (.int (iz x1)), some (.int (iz x2)), some (.int (iz x3)), some (.int (iz x4)), some (.int (iz x5))] [] σ x) (x1 x2 x3 x4 x5 : Int) (rx1 : Rg x1) (rx2 : Rg x2) (rx3 : Rg x3) (rx4 : Rg x4) (rx5 : Rg x5) (σ : PS) (hs : RS σ) (h : BX12_passes_18 K2 K18 x1 x2 x3 x4 x5 σ Φ) : RW layM E mi_X12_passes Φ 18 [some (.ref (eA E 0)), some (.int (iz x1)), some (.int (iz x2)), some (.int (iz x3)), some (.int (iz x4)), some (.int (iz x5))] [] σ x := by
  refine r_iload (dc D_cX12_passes_0 11 rfl) rfl ?_
  refine r_iloadn (dc D_cX12_passes_0 12 rfl) rfl rfl ?_
  refine r_icmp_eq (tgt := 63) (dc D_cX12_passes_0 13 rfl) (by decide) rx5 rx1 (fun c1 => ?_) (fun c1 => ?_)
  · have h := h.1 c1
    refine r_iloadn (dc D_cX12_passes_0 35 rfl) rfl rfl ?_
    refine r_istore (lv' := [some (.ref (eA E 0)), some (.int (iz x1)), some (.int (iz x2)), some (.int (iz x3)), some (.int (iz x4)), some (.int (iz x2))]) (dc D_cX12_passes_0 36 rfl) rfl rfl ?_
    obtain ⟨n, h⟩ := h
    exact TX12_passes_66 hE x hK2 n _ _ _ _ _ _ rx1 rx2 rx3 rx4 rx2 hs h
  · have h := h.2 c1
    refine r_iload (dc D_cX12_passes_0 14 rfl) rfl ?_
    refine r_aloadn (dc D_cX12_passes_0 15 rfl) rfl rfl ?_
    refine r_getR (dc D_cX12_passes_0 16 rfl) fw_RX12_71 lM_0 rfl ?_
    refine r_aloadn (dc D_cX12_passes_0 17 rfl) rfl rfl ?_
    refine r_getR (dc D_cX12_passes_0 18 rfl) fw_RX12_74 lM_0 rfl ?_
    refine r_iload (dc D_cX12_passes_0 19 rfl) rfl ?_
    obtain ⟨o2, h⟩ := h
    refine r_iald (N := 108) (dc D_cX12_passes_0 20 rfl) lM_22 rfl rfl o2 ?_
    refine r_aloadn (dc D_cX12_passes_0 21 rfl) rfl rfl ?_
    refine r_getI (dc D_cX12_passes_0 22 rfl) fw_RX12_215 lM_0 rfl ?_
    refine r_imul (dc D_cX12_passes_0 23 rfl) ?_
    obtain ⟨o3, h⟩ := h
    refine r_iload (dc D_cX12_passes_0 24 rfl) rfl ?_
    refine r_iadd (dc D_cX12_passes_0 25 rfl) ?_
    obtain ⟨o4, h⟩ := h
    obtain ⟨o5, h⟩ := h
    refine r_iald (N := 11664) (dc D_cX12_passes_0 26 rfl) lM_21 rfl rfl o5 ?_
    refine r_min (dc D_cX12_passes_0 27 rfl) mw_RX12_145 rx4 (hs _ _) (by decide) rfl ?_
    refine r_name (fun v6 ev6 => ?_)
    have h := h v6 ev6
    have rv6 : Rg v6 := Rg_eq ev6 (Rg_min rx4 (hs _ _))
    refine r_istore (lv' := [some (.ref (eA E 0)), some (.int (iz x1)), some (.int (iz x2)), some (.int (iz x3)), some (.int (iz v6)), some (.int (iz x5))]) (dc D_cX12_passes_0 28 rfl) rfl rfl ?_
    refine r_aloadn (dc D_cX12_passes_0 29 rfl) rfl rfl ?_
    refine r_getR (dc D_cX12_passes_0 30 rfl) fw_RX12_74 lM_0 rfl ?_
    refine r_iload (dc D_cX12_passes_0 31 rfl) rfl ?_
    obtain ⟨o7, h⟩ := h
    refine r_iald (N := 108) (dc D_cX12_passes_0 32 rfl) lM_22 rfl rfl o7 ?_
    refine r_name (fun v8 ev8 => ?_)
    have h := h v8 ev8
    have rv8 : Rg v8 := Rg_eq ev8 (hs _ _)
    refine r_istore (lv' := [some (.ref (eA E 0)), some (.int (iz x1)), some (.int (iz x2)), some (.int (iz x3)), some (.int (iz v6)), some (.int (iz v8))]) (dc D_cX12_passes_0 33 rfl) rfl rfl ?_
    refine r_goto (tgt := 18) (dc D_cX12_passes_0 34 rfl) (by decide) ?_
    exact hK18 _ _ _ _ _ _ rx1 rx2 rx3 rv6 rv8 hs h
theorem TX12_passes_18 {E : EV} (hE : eOK layM E) {Φ : Int → PS → Prop} {K2 : Int → Int → Int → PS → Prop} (x : CX) (hK2 : ∀ (x1 x2 x3 : Int) (σ : PS), Rg x1 → Rg x2 → Rg x3 → RS σ → K2 x1 x2 x3 σ → RW layM E mi_X12_passes Φ 2 [some (.ref (eA E 0)), some (.int (iz x1)), some (.int (iz x2)), some (.int (iz x3)), none, none] [] σ x) (n : Nat) : ∀ (x1 x2 x3 x4 x5 : Int) (σ : PS), Rg x1 → Rg x2 → Rg x3 → Rg x4 → Rg x5 → RS σ → LX12_passes_18 K2 n x1 x2 x3 x4 x5 σ Φ → RW layM E mi_X12_passes Φ 18 [some (.ref (eA E 0)), some (.int (iz x1)), some (.int (iz x2)), some (.int (iz x3)), some (.int (iz x4)), some (.int (iz x5))] [] σ x := by
  induction n with
  | zero => intro x1 x2 x3 x4 x5 σ _ _ _ _ _ _ h; exact h.elim
  | succ n ih => intro x1 x2 x3 x4 x5 σ rx1 rx2 rx3 rx4 rx5 hs h; exact TBX12_passes_18 hE x hK2 ih x1 x2 x3 x4 x5 rx1 rx2 rx3 rx4 rx5 σ hs h
set_option maxRecDepth 100000 in
theorem TBX12_passes_2 {E : EV} (hE : eOK layM E) {Φ : Int → PS → Prop} {K2 : Int → Int → Int → PS → Prop} (x : CX) (hK2 : ∀ (x1 x2 x3 : Int) (σ : PS), Rg x1 → Rg x2 → Rg x3 → RS σ → K2 x1 x2 x3 σ → RW layM E mi_X12_passes Φ 2 [some (.ref (eA E 0)), some (.int (iz x1)), some (.int (iz x2)), some (.int (iz x3)), none, none] [] σ x) (x1 x2 x3 : Int) (rx1 : Rg x1) (rx2 : Rg x2) (rx3 : Rg x3) (σ : PS) (hs : RS σ) (h : BX12_passes_2 K2 x1 x2 x3 σ Φ) : RW layM E mi_X12_passes Φ 2 [some (.ref (eA E 0)), some (.int (iz x1)), some (.int (iz x2)), some (.int (iz x3)), none, none] [] σ x := by
  refine r_aloadn (dc D_cX12_passes_0 2 rfl) rfl rfl ?_
  refine r_iloadn (dc D_cX12_passes_0 3 rfl) rfl rfl ?_
  refine r_iloadn (dc D_cX12_passes_0 4 rfl) rfl rfl ?_
  refine r_callV (As := [.int (iz x1), .int (iz x2)]) (st := []) (dc D_cX12_passes_0 5 rfl) cw_RX12_218 nm_yX12_findsWay (CX12_findsWay hE _ _ rx1 rx2 _ hs h) lM_0 rfl rfl (by decide) rfl rfl rfl (fun z1 σ2 rz1 hσ2 h => ?_)
  show RW layM E mi_X12_passes Φ 8 [some (.ref (eA E 0)), some (.int (iz x1)), some (.int (iz x2)), some (.int (iz x3)), none, none] [.int (iz z1)] σ2 x
  refine r_if_eq (tgt := 123) (dc D_cX12_passes_0 6 rfl) (by decide) rz1 (fun c3 => ?_) (fun c3 => ?_)
  · have h := h.1 c3
    refine r_iloadn (dc D_cX12_passes_1 28 rfl) rfl rfl ?_
    exact r_iret (dc D_cX12_passes_1 29 rfl) rfl rx3 h
  · have h := h.2 c3
    refine r_ldc (n := (100000000)) (dc D_cX12_passes_0 7 rfl) kw_RX12_141 ?_
    refine r_istore (lv' := [some (.ref (eA E 0)), some (.int (iz x1)), some (.int (iz x2)), some (.int (iz x3)), some (.int (iz 100000000)), none]) (dc D_cX12_passes_0 8 rfl) rfl rfl ?_
    refine r_iloadn (dc D_cX12_passes_0 9 rfl) rfl rfl ?_
    refine r_istore (lv' := [some (.ref (eA E 0)), some (.int (iz x1)), some (.int (iz x2)), some (.int (iz x3)), some (.int (iz 100000000)), some (.int (iz x2))]) (dc D_cX12_passes_0 10 rfl) rfl rfl ?_
    obtain ⟨n, h⟩ := h
    exact TX12_passes_18 hE x hK2 n _ _ _ _ _ _ rx1 rx2 rx3 (Rl rfl) rx2 hσ2 h
theorem TX12_passes_2 {E : EV} (hE : eOK layM E) {Φ : Int → PS → Prop} (x : CX) (n : Nat) : ∀ (x1 x2 x3 : Int) (σ : PS), Rg x1 → Rg x2 → Rg x3 → RS σ → LX12_passes_2 n x1 x2 x3 σ Φ → RW layM E mi_X12_passes Φ 2 [some (.ref (eA E 0)), some (.int (iz x1)), some (.int (iz x2)), some (.int (iz x3)), none, none] [] σ x := by
  induction n with
  | zero => intro x1 x2 x3 σ _ _ _ _ h; exact h.elim
  | succ n ih => intro x1 x2 x3 σ rx1 rx2 rx3 hs h; exact TBX12_passes_2 hE x ih x1 x2 x3 rx1 rx2 rx3 σ hs h
set_option maxRecDepth 100000 in
theorem CX12_passes {E : EV} (hE : eOK layM E) {Φ : Int → PS → Prop} (a1 a2 : Int) (ra1 : Rg a1) (ra2 : Rg a2) (σ : PS) (hs : RS σ) (h : FX12_passes a1 a2 σ Φ) : CT layM E yX12_passes mi_X12_passes [.ref (eA E 0), .int (iz a1), .int (iz a2)] σ Φ := by
  refine ct_of (by decide +kernel) rfl hE rfl rfl hs (fun x => ?_)
  show RW layM E mi_X12_passes Φ 0 [some (.ref (eA E 0)), some (.int (iz a1)), some (.int (iz a2)), none, none, none] [] σ x
  refine r_iconst (n := 0) (dc D_cX12_passes_0 0 rfl) ?_
  refine r_istoren (lv' := [some (.ref (eA E 0)), some (.int (iz a1)), some (.int (iz a2)), some (.int (iz 0)), none, none]) (dc D_cX12_passes_0 1 rfl) rfl rfl rfl ?_
  obtain ⟨n, h⟩ := h
  exact TX12_passes_2 hE x n _ _ _ _ ra1 ra2 (Rl rfl) hs h
-- end of GateFlowModel.passes
def mi_X12_parts : MI := (cX12_parts, RX12, 3, 1, none, 0)
def BX12_parts_2 (K2 : Int → Int → PS → Prop) (x1 x2 : Int) (σ : PS) (Φ : Int → PS → Prop) : Prop :=
  ((σ 0 25 ≤ x2 →
    Φ 0 σ) ∧
  (¬ σ 0 25 ≤ x2 →
    Rg (x1 * (σ 0 25)) ∧
    Rg ((x1 * (σ 0 25)) + x2) ∧
    (0 ≤ (x1 * (σ 0 25)) + x2 ∧ (x1 * (σ 0 25)) + x2 < 11664) ∧
    ∀ σ5 : PS, σ5 = up2 σ 21 ((x1 * (σ 0 25)) + x2).toNat 0 →
    Rg (x2 * (σ5 0 25)) ∧
    Rg ((x2 * (σ5 0 25)) + x1) ∧
    (0 ≤ (x2 * (σ5 0 25)) + x1 ∧ (x2 * (σ5 0 25)) + x1 < 11664) ∧
    ∀ σ9 : PS, σ9 = up2 σ5 21 ((x2 * (σ5 0 25)) + x1).toNat 0 →
    Rg (x2 + 1) ∧
    K2 x1 (x2 + 1) σ9))
def LX12_parts_2 : Nat → Int → Int → PS → (Int → PS → Prop) → Prop
  | 0, _, _, _, _ => False
  | n + 1, x1, x2, σ, Φ => BX12_parts_2 (fun x1 x2 σ => LX12_parts_2 n x1 x2 σ Φ) x1 x2 σ Φ
def FX12_parts (a1 : Int) (σ : PS) (Φ : Int → PS → Prop) : Prop :=
  ∃ n, LX12_parts_2 n a1 0 σ Φ
set_option maxRecDepth 100000 in
theorem TBX12_parts_2 {E : EV} (hE : eOK layM E) {Φ : Int → PS → Prop} {K2 : Int → Int → PS → Prop} (x : CX) (hK2 : ∀ (x1 x2 : Int) (σ : PS), Rg x1 → Rg x2 → RS σ → K2 x1 x2 σ → RW layM E mi_X12_parts Φ 2 [some (.ref (eA E 0)), some (.int (iz x1)), some (.int (iz x2))] [] σ x) (x1 x2 : Int) (rx1 : Rg x1) (rx2 : Rg x2) (σ : PS) (hs : RS σ) (h : BX12_parts_2 K2 x1 x2 σ Φ) : RW layM E mi_X12_parts Φ 2 [some (.ref (eA E 0)), some (.int (iz x1)), some (.int (iz x2))] [] σ x := by
  refine r_iloadn (dc D_cX12_parts_0 2 rfl) rfl rfl ?_
  refine r_aloadn (dc D_cX12_parts_0 3 rfl) rfl rfl ?_
  refine r_getI (dc D_cX12_parts_0 4 rfl) fw_RX12_215 lM_0 rfl ?_
  refine r_icmp_ge (tgt := 44) (dc D_cX12_parts_0 5 rfl) (by decide) rx2 (hs _ _) (fun c1 => ?_) (fun c1 => ?_)
  · have h := h.1 c1
    exact r_vret (dc D_cX12_parts_0 28 rfl) rfl h
  · have h := h.2 c1
    refine r_aloadn (dc D_cX12_parts_0 6 rfl) rfl rfl ?_
    refine r_getR (dc D_cX12_parts_0 7 rfl) fw_RX12_71 lM_0 rfl ?_
    refine r_iloadn (dc D_cX12_parts_0 8 rfl) rfl rfl ?_
    refine r_aloadn (dc D_cX12_parts_0 9 rfl) rfl rfl ?_
    refine r_getI (dc D_cX12_parts_0 10 rfl) fw_RX12_215 lM_0 rfl ?_
    refine r_imul (dc D_cX12_parts_0 11 rfl) ?_
    obtain ⟨o2, h⟩ := h
    refine r_iloadn (dc D_cX12_parts_0 12 rfl) rfl rfl ?_
    refine r_iadd (dc D_cX12_parts_0 13 rfl) ?_
    obtain ⟨o3, h⟩ := h
    refine r_iconst (n := 0) (dc D_cX12_parts_0 14 rfl) ?_
    obtain ⟨o4, h⟩ := h
    refine r_iast (N := 11664) (dc D_cX12_parts_0 15 rfl) lM_21 rfl rfl o4 (Rl rfl) ?_
    refine r_sig (fun σ5 eσ5 => ?_)
    have h := h σ5 eσ5
    have hσ5 : RS σ5 := RS_eq eσ5 (RS.up hs (Rl rfl) _ _)
    refine r_aloadn (dc D_cX12_parts_0 16 rfl) rfl rfl ?_
    refine r_getR (dc D_cX12_parts_0 17 rfl) fw_RX12_71 lM_0 rfl ?_
    refine r_iloadn (dc D_cX12_parts_0 18 rfl) rfl rfl ?_
    refine r_aloadn (dc D_cX12_parts_0 19 rfl) rfl rfl ?_
    refine r_getI (dc D_cX12_parts_0 20 rfl) fw_RX12_215 lM_0 rfl ?_
    refine r_imul (dc D_cX12_parts_0 21 rfl) ?_
    obtain ⟨o6, h⟩ := h
    refine r_iloadn (dc D_cX12_parts_0 22 rfl) rfl rfl ?_
    refine r_iadd (dc D_cX12_parts_0 23 rfl) ?_
    obtain ⟨o7, h⟩ := h
    refine r_iconst (n := 0) (dc D_cX12_parts_0 24 rfl) ?_
    obtain ⟨o8, h⟩ := h
    refine r_iast (N := 11664) (dc D_cX12_parts_0 25 rfl) lM_21 rfl rfl o8 (Rl rfl) ?_
    refine r_sig (fun σ9 eσ9 => ?_)
    have h := h σ9 eσ9
    have hσ9 : RS σ9 := RS_eq eσ9 (RS.up hσ5 (Rl rfl) _ _)
    obtain ⟨o10, h⟩ := h
    refine r_iinc (lv' := [some (.ref (eA E 0)), some (.int (iz x1)), some (.int (iz (x2 + 1)))]) (dc D_cX12_parts_0 26 rfl) rfl rfl rfl ?_
    refine r_goto (tgt := 2) (dc D_cX12_parts_0 27 rfl) (by decide) ?_
    exact hK2 _ _ _ rx1 o10 hσ9 h
theorem TX12_parts_2 {E : EV} (hE : eOK layM E) {Φ : Int → PS → Prop} (x : CX) (n : Nat) : ∀ (x1 x2 : Int) (σ : PS), Rg x1 → Rg x2 → RS σ → LX12_parts_2 n x1 x2 σ Φ → RW layM E mi_X12_parts Φ 2 [some (.ref (eA E 0)), some (.int (iz x1)), some (.int (iz x2))] [] σ x := by
  induction n with
  | zero => intro x1 x2 σ _ _ _ h; exact h.elim
  | succ n ih => intro x1 x2 σ rx1 rx2 hs h; exact TBX12_parts_2 hE x ih x1 x2 rx1 rx2 σ hs h
set_option maxRecDepth 100000 in
theorem CX12_parts {E : EV} (hE : eOK layM E) {Φ : Int → PS → Prop} (a1 : Int) (ra1 : Rg a1) (σ : PS) (hs : RS σ) (h : FX12_parts a1 σ Φ) : CT layM E yX12_parts mi_X12_parts [.ref (eA E 0), .int (iz a1)] σ Φ := by
  refine ct_of (by decide +kernel) rfl hE rfl rfl hs (fun x => ?_)
  show RW layM E mi_X12_parts Φ 0 [some (.ref (eA E 0)), some (.int (iz a1)), none] [] σ x
  refine r_iconst (n := 0) (dc D_cX12_parts_0 0 rfl) ?_
  refine r_istoren (lv' := [some (.ref (eA E 0)), some (.int (iz a1)), some (.int (iz 0))]) (dc D_cX12_parts_0 1 rfl) rfl rfl rfl ?_
  obtain ⟨n, h⟩ := h
  exact TX12_parts_2 hE x n _ _ _ ra1 (Rl rfl) hs h
-- end of GateFlowModel.parts
def mi_X12_bound_v2 : MI := (cX12_bound, RX12, 8, 5, (some .int), 1)
def LX12_bound_v2_136 (K33 : Int → Int → Int → Int → Int → Int → PS → Prop) (x1 x2 x3 x4 x5 x6 : Int) (σ : PS) (Φ : Int → PS → Prop) : Prop :=
  Rg (x6 + 1) ∧
  K33 x1 x2 x3 x4 x5 (x6 + 1) σ
def BX12_bound_v2_33 (K33 : Int → Int → Int → Int → Int → Int → PS → Prop) (x1 x2 x3 x4 x5 x6 : Int) (σ : PS) (Φ : Int → PS → Prop) : Prop :=
  ((σ 1 2 ≤ x6 →
    FX12_adds (σ 1 1) x4 100000000 σ (fun z2 σ3 =>
    FX12_adds x4 (σ3 1 0) 100000000 σ3 (fun z4 σ5 =>
    FX12_adds (σ5 1 0) x4 100000000 σ5 (fun z6 σ7 =>
    FX12_adds x4 (σ7 1 1) 100000000 σ7 (fun z8 σ9 =>
    FX12_passes x2 x3 σ9 (fun z10 σ11 =>
    ((x5 ≤ z10 →
      Rg ((σ11 1 0) * (σ11 0 25)) ∧
      Rg (((σ11 1 0) * (σ11 0 25)) + x4) ∧
      (0 ≤ ((σ11 1 0) * (σ11 0 25)) + x4 ∧ ((σ11 1 0) * (σ11 0 25)) + x4 < 11664) ∧
      Rg ((σ11 21 (((σ11 1 0) * (σ11 0 25)) + x4).toNat) - 100000000) ∧
      ∀ v17 : Int, v17 = (σ11 21 (((σ11 1 0) * (σ11 0 25)) + x4).toNat) - 100000000 →
      FX12_parts x2 σ11 (fun z18 σ19 =>
      FX12_parts x3 σ19 (fun z20 σ21 =>
      FX12_parts x4 σ21 (fun z22 σ23 =>
      ((¬ x1 = 0 →
        FX12_passes (σ23 1 1) (σ23 1 0) σ23 (fun z25 σ26 =>
        Rg (v17 - z25) ∧
        ∀ v28 : Int, v28 = v17 - z25 →
        ((v28 < 0 →
          False) ∧
        (¬ v28 < 0 →
          Φ v28 σ26)))) ∧
      (x1 = 0 →
        FX12_passes (σ23 1 0) (σ23 1 1) σ23 (fun z30 σ31 =>
        Rg (v17 + z30) ∧
        ∀ v33 : Int, v33 = v17 + z30 →
        ((0 ≤ v33 →
          Φ v33 σ31) ∧
        (¬ 0 ≤ v33 →
          Φ (-5) σ31))))))))) ∧
    (¬ x5 ≤ z10 →
      Φ (-5) σ11)))))))) ∧
  (¬ σ 1 2 ≤ x6 →
    FX12_isOpen x6 σ (fun z35 σ36 =>
    ((z35 = 0 →
      LX12_bound_v2_136 K33 x1 x2 x3 x4 x5 x6 σ36 Φ) ∧
    (¬ z35 = 0 →
      FX12_at x6 0 σ36 (fun z38 σ39 =>
      FX12_at x6 1 σ39 (fun z40 σ41 =>
      FX12_at x6 3 σ41 (fun z42 σ43 =>
      FX12_at x6 2 σ43 (fun z44 σ45 =>
      Rg (z42 - z44) ∧
      FX12_adds z38 z40 (z42 - z44) σ45 (fun z47 σ48 =>
      FX12_at x6 1 σ48 (fun z49 σ50 =>
      FX12_at x6 2 σ50 (fun z51 σ52 =>
      FX12_adds x2 z49 z51 σ52 (fun z53 σ54 =>
      FX12_at x6 0 σ54 (fun z55 σ56 =>
      FX12_at x6 2 σ56 (fun z57 σ58 =>
      FX12_adds z55 x3 z57 σ58 (fun z59 σ60 =>
      FX12_at x6 2 σ60 (fun z61 σ62 =>
      Rg (x5 + z61) ∧
      ∀ v64 : Int, v64 = x5 + z61 →
      LX12_bound_v2_136 K33 x1 x2 x3 x4 v64 x6 σ62 Φ)))))))))))))))))
def LX12_bound_v2_33 : Nat → Int → Int → Int → Int → Int → Int → PS → (Int → PS → Prop) → Prop
  | 0, _, _, _, _, _, _, _, _ => False
  | n + 1, x1, x2, x3, x4, x5, x6, σ, Φ => BX12_bound_v2_33 (fun x1 x2 x3 x4 x5 x6 σ => LX12_bound_v2_33 n x1 x2 x3 x4 x5 x6 σ Φ) x1 x2 x3 x4 x5 x6 σ Φ
def FX12_bound_v2 (a1 : Int) (σ : PS) (Φ : Int → PS → Prop) : Prop :=
  FX12_in a1 0 1 σ (fun z1 σ2 =>
  ((¬ z1 = 0 →
    FX12_clears 15 σ2 (fun z4 σ5 =>
    ∃ n, LX12_bound_v2_33 n a1 12 13 14 0 0 σ5 Φ)) ∧
  (z1 = 0 →
    Φ (-1) σ2)))
theorem cw_RX12_228 : CWV RX12 228 yX12_passes mi_X12_passes := tb_r [1553, 1555, 70, 110, 1556] (by decide +kernel)
theorem nm_yX12_passes : ynm yX12_passes 2 := ⟨⟨by decide +kernel, by decide +kernel⟩, by decide +kernel⟩
theorem cw_RX12_231 : CWV RX12 231 yX12_parts mi_X12_parts := tb_r [1561, 1563, 72, 110, 1564] (by decide +kernel)
theorem nm_yX12_parts : ynm yX12_parts 1 := ⟨⟨by decide +kernel, by decide +kernel⟩, by decide +kernel⟩
theorem cw_RX12_225 : CWV RX12 225 yX12_clears mi_X12_clears := tb_r [1545, 1547, 68, 110, 1548] (by decide +kernel)
theorem nm_yX12_clears : ynm yX12_clears 1 := ⟨⟨by decide +kernel, by decide +kernel⟩, by decide +kernel⟩
set_option maxRecDepth 100000 in
theorem TX12_bound_v2_136 {E : EV} (hE : eOK layM E) {Φ : Int → PS → Prop} {K33 : Int → Int → Int → Int → Int → Int → PS → Prop} (x : CX) (hK33 : ∀ (x1 x2 x3 x4 x5 x6 : Int) (σ : PS), Rg x1 → Rg x2 → Rg x3 → Rg x4 → Rg x5 → Rg x6 → RS σ → K33 x1 x2 x3 x4 x5 x6 σ → RW layM E mi_X12_bound_v2 Φ 33 [some (.ref (eA E 0)), some (.int (iz x1)), some (.int (iz x2)), some (.int (iz x3)), some (.int (iz x4)), some (.int (iz x5)), some (.int (iz x6)), none] [] σ x) (x1 x2 x3 x4 x5 x6 : Int) (rx1 : Rg x1) (rx2 : Rg x2) (rx3 : Rg x3) (rx4 : Rg x4) (rx5 : Rg x5) (rx6 : Rg x6) (σ : PS) (hs : RS σ) (h : LX12_bound_v2_136 K33 x1 x2 x3 x4 x5 x6 σ Φ) : RW layM E mi_X12_bound_v2 Φ 136 [some (.ref (eA E 0)), some (.int (iz x1)), some (.int (iz x2)), some (.int (iz x3)), some (.int (iz x4)), some (.int (iz x5)), some (.int (iz x6)), none] [] σ x := by
  obtain ⟨o1, h⟩ := h
  refine r_iinc (lv' := [some (.ref (eA E 0)), some (.int (iz x1)), some (.int (iz x2)), some (.int (iz x3)), some (.int (iz x4)), some (.int (iz x5)), some (.int (iz (x6 + 1))), none]) (dc D_cX12_bound_1 38 rfl) rfl rfl rfl ?_
  refine r_goto (tgt := 33) (dc D_cX12_bound_1 39 rfl) (by decide) ?_
  exact hK33 _ _ _ _ _ _ _ rx1 rx2 rx3 rx4 rx5 o1 hs h
set_option maxRecDepth 100000 in
theorem TBX12_bound_v2_33 {E : EV} (hE : eOK layM E) {Φ : Int → PS → Prop} {K33 : Int → Int → Int → Int → Int → Int → PS → Prop} (x : CX) (hK33 : ∀ (x1 x2 x3 x4 x5 x6 : Int) (σ : PS), Rg x1 → Rg x2 → Rg x3 → Rg x4 → Rg x5 → Rg x6 → RS σ → K33 x1 x2 x3 x4 x5 x6 σ → RW layM E mi_X12_bound_v2 Φ 33 [some (.ref (eA E 0)), some (.int (iz x1)), some (.int (iz x2)), some (.int (iz x3)), some (.int (iz x4)), some (.int (iz x5)), some (.int (iz x6)), none] [] σ x) (x1 x2 x3 x4 x5 x6 : Int) (rx1 : Rg x1) (rx2 : Rg x2) (rx3 : Rg x3) (rx4 : Rg x4) (rx5 : Rg x5) (rx6 : Rg x6) (σ : PS) (hs : RS σ) (h : BX12_bound_v2_33 K33 x1 x2 x3 x4 x5 x6 σ Φ) : RW layM E mi_X12_bound_v2 Φ 33 [some (.ref (eA E 0)), some (.int (iz x1)), some (.int (iz x2)), some (.int (iz x3)), some (.int (iz x4)), some (.int (iz x5)), some (.int (iz x6)), none] [] σ x := by
  refine r_iload (dc D_cX12_bound_0 20 rfl) rfl ?_
  refine r_aloadn (dc D_cX12_bound_0 21 rfl) rfl rfl ?_
  refine r_getR (dc D_cX12_bound_0 22 rfl) fw_RX12_9 lM_0 rfl ?_
  refine r_iconst (n := 2) (dc D_cX12_bound_0 23 rfl) ?_
  refine r_iald (N := 183) (dc D_cX12_bound_0 24 rfl) lM_1 rfl rfl ⟨by decide, by decide⟩ ?_
  refine r_icmp_ge (tgt := 142) (dc D_cX12_bound_0 25 rfl) (by decide) rx6 (hs _ _) (fun c1 => ?_) (fun c1 => ?_)
  · have h := h.1 c1
    refine r_aloadn (dc D_cX12_bound_2 0 rfl) rfl rfl ?_
    refine r_aloadn (dc D_cX12_bound_2 1 rfl) rfl rfl ?_
    refine r_getR (dc D_cX12_bound_2 2 rfl) fw_RX12_9 lM_0 rfl ?_
    refine r_iconst (n := 1) (dc D_cX12_bound_2 3 rfl) ?_
    refine r_iald (N := 183) (dc D_cX12_bound_2 4 rfl) lM_1 rfl rfl ⟨by decide, by decide⟩ ?_
    refine r_iload (dc D_cX12_bound_2 5 rfl) rfl ?_
    refine r_ldc (n := (100000000)) (dc D_cX12_bound_2 6 rfl) kw_RX12_141 ?_
    refine r_callV (As := [.int (iz (σ 1 1)), .int (iz x4), .int (iz 100000000)]) (st := []) (dc D_cX12_bound_2 7 rfl) cw_RX12_222 nm_yX12_adds (CX12_adds hE _ _ _ (hs _ _) rx4 (Rl rfl) _ hs h) lM_0 rfl rfl (by decide) rfl rfl rfl (fun z2 σ3 rz2 hσ3 h => ?_)
    show RW layM E mi_X12_bound_v2 Φ 156 [some (.ref (eA E 0)), some (.int (iz x1)), some (.int (iz x2)), some (.int (iz x3)), some (.int (iz x4)), some (.int (iz x5)), some (.int (iz x6)), none] [] σ3 x
    refine r_aloadn (dc D_cX12_bound_2 8 rfl) rfl rfl ?_
    refine r_iload (dc D_cX12_bound_2 9 rfl) rfl ?_
    refine r_aloadn (dc D_cX12_bound_2 10 rfl) rfl rfl ?_
    refine r_getR (dc D_cX12_bound_2 11 rfl) fw_RX12_9 lM_0 rfl ?_
    refine r_iconst (n := 0) (dc D_cX12_bound_2 12 rfl) ?_
    refine r_iald (N := 183) (dc D_cX12_bound_2 13 rfl) lM_1 rfl rfl ⟨by decide, by decide⟩ ?_
    refine r_ldc (n := (100000000)) (dc D_cX12_bound_2 14 rfl) kw_RX12_141 ?_
    refine r_callV (As := [.int (iz x4), .int (iz (σ3 1 0)), .int (iz 100000000)]) (st := []) (dc D_cX12_bound_2 15 rfl) cw_RX12_222 nm_yX12_adds (CX12_adds hE _ _ _ rx4 (hσ3 _ _) (Rl rfl) _ hσ3 h) lM_0 rfl rfl (by decide) rfl rfl rfl (fun z4 σ5 rz4 hσ5 h => ?_)
    show RW layM E mi_X12_bound_v2 Φ 170 [some (.ref (eA E 0)), some (.int (iz x1)), some (.int (iz x2)), some (.int (iz x3)), some (.int (iz x4)), some (.int (iz x5)), some (.int (iz x6)), none] [] σ5 x
    refine r_aloadn (dc D_cX12_bound_2 16 rfl) rfl rfl ?_
    refine r_aloadn (dc D_cX12_bound_2 17 rfl) rfl rfl ?_
    refine r_getR (dc D_cX12_bound_2 18 rfl) fw_RX12_9 lM_0 rfl ?_
    refine r_iconst (n := 0) (dc D_cX12_bound_2 19 rfl) ?_
    refine r_iald (N := 183) (dc D_cX12_bound_2 20 rfl) lM_1 rfl rfl ⟨by decide, by decide⟩ ?_
    refine r_iload (dc D_cX12_bound_2 21 rfl) rfl ?_
    refine r_ldc (n := (100000000)) (dc D_cX12_bound_2 22 rfl) kw_RX12_141 ?_
    refine r_callV (As := [.int (iz (σ5 1 0)), .int (iz x4), .int (iz 100000000)]) (st := []) (dc D_cX12_bound_2 23 rfl) cw_RX12_222 nm_yX12_adds (CX12_adds hE _ _ _ (hσ5 _ _) rx4 (Rl rfl) _ hσ5 h) lM_0 rfl rfl (by decide) rfl rfl rfl (fun z6 σ7 rz6 hσ7 h => ?_)
    show RW layM E mi_X12_bound_v2 Φ 184 [some (.ref (eA E 0)), some (.int (iz x1)), some (.int (iz x2)), some (.int (iz x3)), some (.int (iz x4)), some (.int (iz x5)), some (.int (iz x6)), none] [] σ7 x
    refine r_aloadn (dc D_cX12_bound_2 24 rfl) rfl rfl ?_
    refine r_iload (dc D_cX12_bound_2 25 rfl) rfl ?_
    refine r_aloadn (dc D_cX12_bound_2 26 rfl) rfl rfl ?_
    refine r_getR (dc D_cX12_bound_2 27 rfl) fw_RX12_9 lM_0 rfl ?_
    refine r_iconst (n := 1) (dc D_cX12_bound_2 28 rfl) ?_
    refine r_iald (N := 183) (dc D_cX12_bound_2 29 rfl) lM_1 rfl rfl ⟨by decide, by decide⟩ ?_
    refine r_ldc (n := (100000000)) (dc D_cX12_bound_2 30 rfl) kw_RX12_141 ?_
    refine r_callV (As := [.int (iz x4), .int (iz (σ7 1 1)), .int (iz 100000000)]) (st := []) (dc D_cX12_bound_2 31 rfl) cw_RX12_222 nm_yX12_adds (CX12_adds hE _ _ _ rx4 (hσ7 _ _) (Rl rfl) _ hσ7 h) lM_0 rfl rfl (by decide) rfl rfl rfl (fun z8 σ9 rz8 hσ9 h => ?_)
    show RW layM E mi_X12_bound_v2 Φ 198 [some (.ref (eA E 0)), some (.int (iz x1)), some (.int (iz x2)), some (.int (iz x3)), some (.int (iz x4)), some (.int (iz x5)), some (.int (iz x6)), none] [] σ9 x
    refine r_aloadn (dc D_cX12_bound_2 32 rfl) rfl rfl ?_
    refine r_iloadn (dc D_cX12_bound_2 33 rfl) rfl rfl ?_
    refine r_iloadn (dc D_cX12_bound_2 34 rfl) rfl rfl ?_
    refine r_callV (As := [.int (iz x2), .int (iz x3)]) (st := []) (dc D_cX12_bound_2 35 rfl) cw_RX12_228 nm_yX12_passes (CX12_passes hE _ _ rx2 rx3 _ hσ9 h) lM_0 rfl rfl (by decide) rfl rfl rfl (fun z10 σ11 rz10 hσ11 h => ?_)
    show RW layM E mi_X12_bound_v2 Φ 204 [some (.ref (eA E 0)), some (.int (iz x1)), some (.int (iz x2)), some (.int (iz x3)), some (.int (iz x4)), some (.int (iz x5)), some (.int (iz x6)), none] [.int (iz z10)] σ11 x
    refine r_iload (dc D_cX12_bound_2 36 rfl) rfl ?_
    refine r_icmp_ge (tgt := 212) (dc D_cX12_bound_2 37 rfl) (by decide) rz10 rx5 (fun c12 => ?_) (fun c12 => ?_)
    · have h := h.1 c12
      refine r_aloadn (dc D_cX12_bound_3 0 rfl) rfl rfl ?_
      refine r_getR (dc D_cX12_bound_3 1 rfl) fw_RX12_71 lM_0 rfl ?_
      refine r_aloadn (dc D_cX12_bound_3 2 rfl) rfl rfl ?_
      refine r_getR (dc D_cX12_bound_3 3 rfl) fw_RX12_9 lM_0 rfl ?_
      refine r_iconst (n := 0) (dc D_cX12_bound_3 4 rfl) ?_
      refine r_iald (N := 183) (dc D_cX12_bound_3 5 rfl) lM_1 rfl rfl ⟨by decide, by decide⟩ ?_
      refine r_aloadn (dc D_cX12_bound_3 6 rfl) rfl rfl ?_
      refine r_getI (dc D_cX12_bound_3 7 rfl) fw_RX12_215 lM_0 rfl ?_
      refine r_imul (dc D_cX12_bound_3 8 rfl) ?_
      obtain ⟨o13, h⟩ := h
      refine r_iload (dc D_cX12_bound_3 9 rfl) rfl ?_
      refine r_iadd (dc D_cX12_bound_3 10 rfl) ?_
      obtain ⟨o14, h⟩ := h
      obtain ⟨o15, h⟩ := h
      refine r_iald (N := 11664) (dc D_cX12_bound_3 11 rfl) lM_21 rfl rfl o15 ?_
      refine r_ldc (n := (100000000)) (dc D_cX12_bound_3 12 rfl) kw_RX12_141 ?_
      refine r_isub (dc D_cX12_bound_3 13 rfl) ?_
      obtain ⟨o16, h⟩ := h
      refine r_name (fun v17 ev17 => ?_)
      have h := h v17 ev17
      have rv17 : Rg v17 := Rg_eq ev17 o16
      refine r_istore (lv' := [some (.ref (eA E 0)), some (.int (iz x1)), some (.int (iz x2)), some (.int (iz x3)), some (.int (iz x4)), some (.int (iz x5)), some (.int (iz v17)), none]) (dc D_cX12_bound_3 14 rfl) rfl rfl ?_
      refine r_aloadn (dc D_cX12_bound_3 15 rfl) rfl rfl ?_
      refine r_iloadn (dc D_cX12_bound_3 16 rfl) rfl rfl ?_
      refine r_callV (As := [.int (iz x2)]) (st := []) (dc D_cX12_bound_3 17 rfl) cw_RX12_231 nm_yX12_parts (CX12_parts hE _ rx2 _ hσ11 h) lM_0 rfl rfl (by decide) rfl rfl rfl (fun z18 σ19 rz18 hσ19 h => ?_)
      show RW layM E mi_X12_bound_v2 Φ 241 [some (.ref (eA E 0)), some (.int (iz x1)), some (.int (iz x2)), some (.int (iz x3)), some (.int (iz x4)), some (.int (iz x5)), some (.int (iz v17)), none] [] σ19 x
      refine r_aloadn (dc D_cX12_bound_3 18 rfl) rfl rfl ?_
      refine r_iloadn (dc D_cX12_bound_3 19 rfl) rfl rfl ?_
      refine r_callV (As := [.int (iz x3)]) (st := []) (dc D_cX12_bound_3 20 rfl) cw_RX12_231 nm_yX12_parts (CX12_parts hE _ rx3 _ hσ19 h) lM_0 rfl rfl (by decide) rfl rfl rfl (fun z20 σ21 rz20 hσ21 h => ?_)
      show RW layM E mi_X12_bound_v2 Φ 246 [some (.ref (eA E 0)), some (.int (iz x1)), some (.int (iz x2)), some (.int (iz x3)), some (.int (iz x4)), some (.int (iz x5)), some (.int (iz v17)), none] [] σ21 x
      refine r_aloadn (dc D_cX12_bound_3 21 rfl) rfl rfl ?_
      refine r_iload (dc D_cX12_bound_3 22 rfl) rfl ?_
      refine r_callV (As := [.int (iz x4)]) (st := []) (dc D_cX12_bound_3 23 rfl) cw_RX12_231 nm_yX12_parts (CX12_parts hE _ rx4 _ hσ21 h) lM_0 rfl rfl (by decide) rfl rfl rfl (fun z22 σ23 rz22 hσ23 h => ?_)
      show RW layM E mi_X12_bound_v2 Φ 252 [some (.ref (eA E 0)), some (.int (iz x1)), some (.int (iz x2)), some (.int (iz x3)), some (.int (iz x4)), some (.int (iz x5)), some (.int (iz v17)), none] [] σ23 x
      refine r_iloadn (dc D_cX12_bound_3 24 rfl) rfl rfl ?_
      refine r_if_ne (tgt := 290) (dc D_cX12_bound_3 25 rfl) (by decide) rx1 (fun c24 => ?_) (fun c24 => ?_)
      · have h := h.1 c24
        refine r_iload (dc D_cX12_bound_4 5 rfl) rfl ?_
        refine r_aloadn (dc D_cX12_bound_4 6 rfl) rfl rfl ?_
        refine r_aloadn (dc D_cX12_bound_4 7 rfl) rfl rfl ?_
        refine r_getR (dc D_cX12_bound_4 8 rfl) fw_RX12_9 lM_0 rfl ?_
        refine r_iconst (n := 1) (dc D_cX12_bound_4 9 rfl) ?_
        refine r_iald (N := 183) (dc D_cX12_bound_4 10 rfl) lM_1 rfl rfl ⟨by decide, by decide⟩ ?_
        refine r_aloadn (dc D_cX12_bound_4 11 rfl) rfl rfl ?_
        refine r_getR (dc D_cX12_bound_4 12 rfl) fw_RX12_9 lM_0 rfl ?_
        refine r_iconst (n := 0) (dc D_cX12_bound_4 13 rfl) ?_
        refine r_iald (N := 183) (dc D_cX12_bound_4 14 rfl) lM_1 rfl rfl ⟨by decide, by decide⟩ ?_
        refine r_callV (As := [.int (iz (σ23 1 1)), .int (iz (σ23 1 0))]) (st := [.int (iz v17)]) (dc D_cX12_bound_4 15 rfl) cw_RX12_228 nm_yX12_passes (CX12_passes hE _ _ (hσ23 _ _) (hσ23 _ _) _ hσ23 h) lM_0 rfl rfl (by decide) rfl rfl rfl (fun z25 σ26 rz25 hσ26 h => ?_)
        show RW layM E mi_X12_bound_v2 Φ 308 [some (.ref (eA E 0)), some (.int (iz x1)), some (.int (iz x2)), some (.int (iz x3)), some (.int (iz x4)), some (.int (iz x5)), some (.int (iz v17)), none] [.int (iz z25), .int (iz v17)] σ26 x
        refine r_isub (dc D_cX12_bound_4 16 rfl) ?_
        obtain ⟨o27, h⟩ := h
        refine r_name (fun v28 ev28 => ?_)
        have h := h v28 ev28
        have rv28 : Rg v28 := Rg_eq ev28 o27
        refine r_istore (lv' := [some (.ref (eA E 0)), some (.int (iz x1)), some (.int (iz x2)), some (.int (iz x3)), some (.int (iz x4)), some (.int (iz x5)), some (.int (iz v17)), some (.int (iz v28))]) (dc D_cX12_bound_4 17 rfl) rfl rfl ?_
        refine r_iload (dc D_cX12_bound_4 18 rfl) rfl ?_
        refine r_if_lt (tgt := 319) (dc D_cX12_bound_4 19 rfl) (by decide) rv28 (fun c29 => ?_) (fun c29 => ?_)
        · have h := h.1 c29
          refine r_aloadn (dc D_cX12_bound_4 22 rfl) rfl rfl ?_
          refine r_iconst (n := 0) (dc D_cX12_bound_4 23 rfl) ?_
          exact h.elim
        · have h := h.2 c29
          refine r_iload (dc D_cX12_bound_4 20 rfl) rfl ?_
          exact r_iret (dc D_cX12_bound_4 21 rfl) rfl rv28 h
      · have h := h.2 c24
        refine r_iload (dc D_cX12_bound_3 26 rfl) rfl ?_
        refine r_aloadn (dc D_cX12_bound_3 27 rfl) rfl rfl ?_
        refine r_aloadn (dc D_cX12_bound_3 28 rfl) rfl rfl ?_
        refine r_getR (dc D_cX12_bound_3 29 rfl) fw_RX12_9 lM_0 rfl ?_
        refine r_iconst (n := 0) (dc D_cX12_bound_3 30 rfl) ?_
        refine r_iald (N := 183) (dc D_cX12_bound_3 31 rfl) lM_1 rfl rfl ⟨by decide, by decide⟩ ?_
        refine r_aloadn (dc D_cX12_bound_3 32 rfl) rfl rfl ?_
        refine r_getR (dc D_cX12_bound_3 33 rfl) fw_RX12_9 lM_0 rfl ?_
        refine r_iconst (n := 1) (dc D_cX12_bound_3 34 rfl) ?_
        refine r_iald (N := 183) (dc D_cX12_bound_3 35 rfl) lM_1 rfl rfl ⟨by decide, by decide⟩ ?_
        refine r_callV (As := [.int (iz (σ23 1 0)), .int (iz (σ23 1 1))]) (st := [.int (iz v17)]) (dc D_cX12_bound_3 36 rfl) cw_RX12_228 nm_yX12_passes (CX12_passes hE _ _ (hσ23 _ _) (hσ23 _ _) _ hσ23 h) lM_0 rfl rfl (by decide) rfl rfl rfl (fun z30 σ31 rz30 hσ31 h => ?_)
        show RW layM E mi_X12_bound_v2 Φ 274 [some (.ref (eA E 0)), some (.int (iz x1)), some (.int (iz x2)), some (.int (iz x3)), some (.int (iz x4)), some (.int (iz x5)), some (.int (iz v17)), none] [.int (iz z30), .int (iz v17)] σ31 x
        refine r_iadd (dc D_cX12_bound_3 37 rfl) ?_
        obtain ⟨o32, h⟩ := h
        refine r_name (fun v33 ev33 => ?_)
        have h := h v33 ev33
        have rv33 : Rg v33 := Rg_eq ev33 o32
        refine r_istore (lv' := [some (.ref (eA E 0)), some (.int (iz x1)), some (.int (iz x2)), some (.int (iz x3)), some (.int (iz x4)), some (.int (iz x5)), some (.int (iz v17)), some (.int (iz v33))]) (dc D_cX12_bound_3 38 rfl) rfl rfl ?_
        refine r_iload (dc D_cX12_bound_3 39 rfl) rfl ?_
        refine r_if_ge (tgt := 287) (dc D_cX12_bound_4 0 rfl) (by decide) rv33 (fun c34 => ?_) (fun c34 => ?_)
        · have h := h.1 c34
          refine r_iload (dc D_cX12_bound_4 3 rfl) rfl ?_
          exact r_iret (dc D_cX12_bound_4 4 rfl) rfl rv33 h
        · have h := h.2 c34
          refine r_bipush (n := (-5)) (dc D_cX12_bound_4 1 rfl) (by decide +kernel) ?_
          refine r_goto (tgt := 289) (dc D_cX12_bound_4 2 rfl) (by decide) ?_
          exact r_iret (dc D_cX12_bound_4 4 rfl) rfl (Rl rfl) h
    · have h := h.2 c12
      refine r_bipush (n := (-5)) (dc D_cX12_bound_2 38 rfl) (by decide +kernel) ?_
      exact r_iret (dc D_cX12_bound_2 39 rfl) rfl (Rl rfl) h
  · have h := h.2 c1
    refine r_aloadn (dc D_cX12_bound_0 26 rfl) rfl rfl ?_
    refine r_iload (dc D_cX12_bound_0 27 rfl) rfl ?_
    refine r_callV (As := [.int (iz x6)]) (st := []) (dc D_cX12_bound_0 28 rfl) cw_RX12_98 nm_yX12_isOpen (CX12_isOpen hE _ rx6 _ hs h) lM_0 rfl rfl (by decide) rfl rfl rfl (fun z35 σ36 rz35 hσ36 h => ?_)
    show RW layM E mi_X12_bound_v2 Φ 50 [some (.ref (eA E 0)), some (.int (iz x1)), some (.int (iz x2)), some (.int (iz x3)), some (.int (iz x4)), some (.int (iz x5)), some (.int (iz x6)), none] [.int (iz z35)] σ36 x
    refine r_if_eq (tgt := 136) (dc D_cX12_bound_0 29 rfl) (by decide) rz35 (fun c37 => ?_) (fun c37 => ?_)
    · have h := h.1 c37
      exact TX12_bound_v2_136 hE x hK33 _ _ _ _ _ _ rx1 rx2 rx3 rx4 rx5 rx6 _ hσ36 h
    · have h := h.2 c37
      refine r_aloadn (dc D_cX12_bound_0 30 rfl) rfl rfl ?_
      refine r_aloadn (dc D_cX12_bound_0 31 rfl) rfl rfl ?_
      refine r_iload (dc D_cX12_bound_0 32 rfl) rfl ?_
      refine r_iconst (n := 0) (dc D_cX12_bound_0 33 rfl) ?_
      refine r_callV (As := [.int (iz x6), .int (iz 0)]) (st := [.ref (eA E 0)]) (dc D_cX12_bound_0 34 rfl) cw_RX12_94 nm_yX12_at (CX12_at hE _ _ rx6 (Rl rfl) _ hσ36 h) lM_0 rfl rfl (by decide) rfl rfl rfl (fun z38 σ39 rz38 hσ39 h => ?_)
      show RW layM E mi_X12_bound_v2 Φ 61 [some (.ref (eA E 0)), some (.int (iz x1)), some (.int (iz x2)), some (.int (iz x3)), some (.int (iz x4)), some (.int (iz x5)), some (.int (iz x6)), none] [.int (iz z38), .ref (eA E 0)] σ39 x
      refine r_aloadn (dc D_cX12_bound_0 35 rfl) rfl rfl ?_
      refine r_iload (dc D_cX12_bound_0 36 rfl) rfl ?_
      refine r_iconst (n := 1) (dc D_cX12_bound_0 37 rfl) ?_
      refine r_callV (As := [.int (iz x6), .int (iz 1)]) (st := [.int (iz z38), .ref (eA E 0)]) (dc D_cX12_bound_0 38 rfl) cw_RX12_94 nm_yX12_at (CX12_at hE _ _ rx6 (Rl rfl) _ hσ39 h) lM_0 rfl rfl (by decide) rfl rfl rfl (fun z40 σ41 rz40 hσ41 h => ?_)
      show RW layM E mi_X12_bound_v2 Φ 68 [some (.ref (eA E 0)), some (.int (iz x1)), some (.int (iz x2)), some (.int (iz x3)), some (.int (iz x4)), some (.int (iz x5)), some (.int (iz x6)), none] [.int (iz z40), .int (iz z38), .ref (eA E 0)] σ41 x
      refine r_aloadn (dc D_cX12_bound_0 39 rfl) rfl rfl ?_
      refine r_iload (dc D_cX12_bound_1 0 rfl) rfl ?_
      refine r_iconst (n := 3) (dc D_cX12_bound_1 1 rfl) ?_
      refine r_callV (As := [.int (iz x6), .int (iz 3)]) (st := [.int (iz z40), .int (iz z38), .ref (eA E 0)]) (dc D_cX12_bound_1 2 rfl) cw_RX12_94 nm_yX12_at (CX12_at hE _ _ rx6 (Rl rfl) _ hσ41 h) lM_0 rfl rfl (by decide) rfl rfl rfl (fun z42 σ43 rz42 hσ43 h => ?_)
      show RW layM E mi_X12_bound_v2 Φ 75 [some (.ref (eA E 0)), some (.int (iz x1)), some (.int (iz x2)), some (.int (iz x3)), some (.int (iz x4)), some (.int (iz x5)), some (.int (iz x6)), none] [.int (iz z42), .int (iz z40), .int (iz z38), .ref (eA E 0)] σ43 x
      refine r_aloadn (dc D_cX12_bound_1 3 rfl) rfl rfl ?_
      refine r_iload (dc D_cX12_bound_1 4 rfl) rfl ?_
      refine r_iconst (n := 2) (dc D_cX12_bound_1 5 rfl) ?_
      refine r_callV (As := [.int (iz x6), .int (iz 2)]) (st := [.int (iz z42), .int (iz z40), .int (iz z38), .ref (eA E 0)]) (dc D_cX12_bound_1 6 rfl) cw_RX12_94 nm_yX12_at (CX12_at hE _ _ rx6 (Rl rfl) _ hσ43 h) lM_0 rfl rfl (by decide) rfl rfl rfl (fun z44 σ45 rz44 hσ45 h => ?_)
      show RW layM E mi_X12_bound_v2 Φ 82 [some (.ref (eA E 0)), some (.int (iz x1)), some (.int (iz x2)), some (.int (iz x3)), some (.int (iz x4)), some (.int (iz x5)), some (.int (iz x6)), none] [.int (iz z44), .int (iz z42), .int (iz z40), .int (iz z38), .ref (eA E 0)] σ45 x
      refine r_isub (dc D_cX12_bound_1 7 rfl) ?_
      obtain ⟨o46, h⟩ := h
      refine r_callV (As := [.int (iz z38), .int (iz z40), .int (iz (z42 - z44))]) (st := []) (dc D_cX12_bound_1 8 rfl) cw_RX12_222 nm_yX12_adds (CX12_adds hE _ _ _ rz38 rz40 o46 _ hσ45 h) lM_0 rfl rfl (by decide) rfl rfl rfl (fun z47 σ48 rz47 hσ48 h => ?_)
      show RW layM E mi_X12_bound_v2 Φ 86 [some (.ref (eA E 0)), some (.int (iz x1)), some (.int (iz x2)), some (.int (iz x3)), some (.int (iz x4)), some (.int (iz x5)), some (.int (iz x6)), none] [] σ48 x
      refine r_aloadn (dc D_cX12_bound_1 9 rfl) rfl rfl ?_
      refine r_iloadn (dc D_cX12_bound_1 10 rfl) rfl rfl ?_
      refine r_aloadn (dc D_cX12_bound_1 11 rfl) rfl rfl ?_
      refine r_iload (dc D_cX12_bound_1 12 rfl) rfl ?_
      refine r_iconst (n := 1) (dc D_cX12_bound_1 13 rfl) ?_
      refine r_callV (As := [.int (iz x6), .int (iz 1)]) (st := [.int (iz x2), .ref (eA E 0)]) (dc D_cX12_bound_1 14 rfl) cw_RX12_94 nm_yX12_at (CX12_at hE _ _ rx6 (Rl rfl) _ hσ48 h) lM_0 rfl rfl (by decide) rfl rfl rfl (fun z49 σ50 rz49 hσ50 h => ?_)
      show RW layM E mi_X12_bound_v2 Φ 95 [some (.ref (eA E 0)), some (.int (iz x1)), some (.int (iz x2)), some (.int (iz x3)), some (.int (iz x4)), some (.int (iz x5)), some (.int (iz x6)), none] [.int (iz z49), .int (iz x2), .ref (eA E 0)] σ50 x
      refine r_aloadn (dc D_cX12_bound_1 15 rfl) rfl rfl ?_
      refine r_iload (dc D_cX12_bound_1 16 rfl) rfl ?_
      refine r_iconst (n := 2) (dc D_cX12_bound_1 17 rfl) ?_
      refine r_callV (As := [.int (iz x6), .int (iz 2)]) (st := [.int (iz z49), .int (iz x2), .ref (eA E 0)]) (dc D_cX12_bound_1 18 rfl) cw_RX12_94 nm_yX12_at (CX12_at hE _ _ rx6 (Rl rfl) _ hσ50 h) lM_0 rfl rfl (by decide) rfl rfl rfl (fun z51 σ52 rz51 hσ52 h => ?_)
      show RW layM E mi_X12_bound_v2 Φ 102 [some (.ref (eA E 0)), some (.int (iz x1)), some (.int (iz x2)), some (.int (iz x3)), some (.int (iz x4)), some (.int (iz x5)), some (.int (iz x6)), none] [.int (iz z51), .int (iz z49), .int (iz x2), .ref (eA E 0)] σ52 x
      refine r_callV (As := [.int (iz x2), .int (iz z49), .int (iz z51)]) (st := []) (dc D_cX12_bound_1 19 rfl) cw_RX12_222 nm_yX12_adds (CX12_adds hE _ _ _ rx2 rz49 rz51 _ hσ52 h) lM_0 rfl rfl (by decide) rfl rfl rfl (fun z53 σ54 rz53 hσ54 h => ?_)
      show RW layM E mi_X12_bound_v2 Φ 105 [some (.ref (eA E 0)), some (.int (iz x1)), some (.int (iz x2)), some (.int (iz x3)), some (.int (iz x4)), some (.int (iz x5)), some (.int (iz x6)), none] [] σ54 x
      refine r_aloadn (dc D_cX12_bound_1 20 rfl) rfl rfl ?_
      refine r_aloadn (dc D_cX12_bound_1 21 rfl) rfl rfl ?_
      refine r_iload (dc D_cX12_bound_1 22 rfl) rfl ?_
      refine r_iconst (n := 0) (dc D_cX12_bound_1 23 rfl) ?_
      refine r_callV (As := [.int (iz x6), .int (iz 0)]) (st := [.ref (eA E 0)]) (dc D_cX12_bound_1 24 rfl) cw_RX12_94 nm_yX12_at (CX12_at hE _ _ rx6 (Rl rfl) _ hσ54 h) lM_0 rfl rfl (by decide) rfl rfl rfl (fun z55 σ56 rz55 hσ56 h => ?_)
      show RW layM E mi_X12_bound_v2 Φ 113 [some (.ref (eA E 0)), some (.int (iz x1)), some (.int (iz x2)), some (.int (iz x3)), some (.int (iz x4)), some (.int (iz x5)), some (.int (iz x6)), none] [.int (iz z55), .ref (eA E 0)] σ56 x
      refine r_iloadn (dc D_cX12_bound_1 25 rfl) rfl rfl ?_
      refine r_aloadn (dc D_cX12_bound_1 26 rfl) rfl rfl ?_
      refine r_iload (dc D_cX12_bound_1 27 rfl) rfl ?_
      refine r_iconst (n := 2) (dc D_cX12_bound_1 28 rfl) ?_
      refine r_callV (As := [.int (iz x6), .int (iz 2)]) (st := [.int (iz x3), .int (iz z55), .ref (eA E 0)]) (dc D_cX12_bound_1 29 rfl) cw_RX12_94 nm_yX12_at (CX12_at hE _ _ rx6 (Rl rfl) _ hσ56 h) lM_0 rfl rfl (by decide) rfl rfl rfl (fun z57 σ58 rz57 hσ58 h => ?_)
      show RW layM E mi_X12_bound_v2 Φ 121 [some (.ref (eA E 0)), some (.int (iz x1)), some (.int (iz x2)), some (.int (iz x3)), some (.int (iz x4)), some (.int (iz x5)), some (.int (iz x6)), none] [.int (iz z57), .int (iz x3), .int (iz z55), .ref (eA E 0)] σ58 x
      refine r_callV (As := [.int (iz z55), .int (iz x3), .int (iz z57)]) (st := []) (dc D_cX12_bound_1 30 rfl) cw_RX12_222 nm_yX12_adds (CX12_adds hE _ _ _ rz55 rx3 rz57 _ hσ58 h) lM_0 rfl rfl (by decide) rfl rfl rfl (fun z59 σ60 rz59 hσ60 h => ?_)
      show RW layM E mi_X12_bound_v2 Φ 124 [some (.ref (eA E 0)), some (.int (iz x1)), some (.int (iz x2)), some (.int (iz x3)), some (.int (iz x4)), some (.int (iz x5)), some (.int (iz x6)), none] [] σ60 x
      refine r_iload (dc D_cX12_bound_1 31 rfl) rfl ?_
      refine r_aloadn (dc D_cX12_bound_1 32 rfl) rfl rfl ?_
      refine r_iload (dc D_cX12_bound_1 33 rfl) rfl ?_
      refine r_iconst (n := 2) (dc D_cX12_bound_1 34 rfl) ?_
      refine r_callV (As := [.int (iz x6), .int (iz 2)]) (st := [.int (iz x5)]) (dc D_cX12_bound_1 35 rfl) cw_RX12_94 nm_yX12_at (CX12_at hE _ _ rx6 (Rl rfl) _ hσ60 h) lM_0 rfl rfl (by decide) rfl rfl rfl (fun z61 σ62 rz61 hσ62 h => ?_)
      show RW layM E mi_X12_bound_v2 Φ 133 [some (.ref (eA E 0)), some (.int (iz x1)), some (.int (iz x2)), some (.int (iz x3)), some (.int (iz x4)), some (.int (iz x5)), some (.int (iz x6)), none] [.int (iz z61), .int (iz x5)] σ62 x
      refine r_iadd (dc D_cX12_bound_1 36 rfl) ?_
      obtain ⟨o63, h⟩ := h
      refine r_name (fun v64 ev64 => ?_)
      have h := h v64 ev64
      have rv64 : Rg v64 := Rg_eq ev64 o63
      refine r_istore (lv' := [some (.ref (eA E 0)), some (.int (iz x1)), some (.int (iz x2)), some (.int (iz x3)), some (.int (iz x4)), some (.int (iz v64)), some (.int (iz x6)), none]) (dc D_cX12_bound_1 37 rfl) rfl rfl ?_
      exact TX12_bound_v2_136 hE x hK33 _ _ _ _ _ _ rx1 rx2 rx3 rx4 rv64 rx6 _ hσ62 h
theorem TX12_bound_v2_33 {E : EV} (hE : eOK layM E) {Φ : Int → PS → Prop} (x : CX) (n : Nat) : ∀ (x1 x2 x3 x4 x5 x6 : Int) (σ : PS), Rg x1 → Rg x2 → Rg x3 → Rg x4 → Rg x5 → Rg x6 → RS σ → LX12_bound_v2_33 n x1 x2 x3 x4 x5 x6 σ Φ → RW layM E mi_X12_bound_v2 Φ 33 [some (.ref (eA E 0)), some (.int (iz x1)), some (.int (iz x2)), some (.int (iz x3)), some (.int (iz x4)), some (.int (iz x5)), some (.int (iz x6)), none] [] σ x := by
  induction n with
  | zero => intro x1 x2 x3 x4 x5 x6 σ _ _ _ _ _ _ _ h; exact h.elim
  | succ n ih => intro x1 x2 x3 x4 x5 x6 σ rx1 rx2 rx3 rx4 rx5 rx6 hs h; exact TBX12_bound_v2_33 hE x ih x1 x2 x3 x4 x5 x6 rx1 rx2 rx3 rx4 rx5 rx6 σ hs h
set_option maxRecDepth 100000 in
theorem CX12_bound_v2 {E : EV} (hE : eOK layM E) {Φ : Int → PS → Prop} (a1 : Int) (ra1 : Rg a1) (σ : PS) (hs : RS σ) (h : FX12_bound_v2 a1 σ Φ) : CT layM E yX12_bound mi_X12_bound_v2 [.ref (eA E 0), .int (iz a1)] σ Φ := by
  refine ct_of (by decide +kernel) rfl hE rfl rfl hs (fun x => ?_)
  show RW layM E mi_X12_bound_v2 Φ 0 [some (.ref (eA E 0)), some (.int (iz a1)), none, none, none, none, none, none] [] σ x
  refine r_iloadn (dc D_cX12_bound_0 0 rfl) rfl rfl ?_
  refine r_iconst (n := 0) (dc D_cX12_bound_0 1 rfl) ?_
  refine r_iconst (n := 1) (dc D_cX12_bound_0 2 rfl) ?_
  refine r_callS (As := [.int (iz a1), .int (iz 0), .int (iz 1)]) (st := []) (dc D_cX12_bound_0 3 rfl) cw_RX12_90 nm_yX12_in (CX12_in hE _ _ _ ra1 (Rl rfl) (Rl rfl) _ hs h) rfl (by decide) rfl rfl rfl (fun z1 σ2 rz1 hσ2 h => ?_)
  show RW layM E mi_X12_bound_v2 Φ 6 [some (.ref (eA E 0)), some (.int (iz a1)), none, none, none, none, none, none] [.int (iz z1)] σ2 x
  refine r_if_ne (tgt := 11) (dc D_cX12_bound_0 4 rfl) (by decide) rz1 (fun c3 => ?_) (fun c3 => ?_)
  · have h := h.1 c3
    refine r_bipush (n := 12) (dc D_cX12_bound_0 7 rfl) (by decide +kernel) ?_
    refine r_istoren (lv' := [some (.ref (eA E 0)), some (.int (iz a1)), some (.int (iz 12)), none, none, none, none, none]) (dc D_cX12_bound_0 8 rfl) rfl rfl rfl ?_
    refine r_bipush (n := 13) (dc D_cX12_bound_0 9 rfl) (by decide +kernel) ?_
    refine r_istoren (lv' := [some (.ref (eA E 0)), some (.int (iz a1)), some (.int (iz 12)), some (.int (iz 13)), none, none, none, none]) (dc D_cX12_bound_0 10 rfl) rfl rfl rfl ?_
    refine r_bipush (n := 14) (dc D_cX12_bound_0 11 rfl) (by decide +kernel) ?_
    refine r_istore (lv' := [some (.ref (eA E 0)), some (.int (iz a1)), some (.int (iz 12)), some (.int (iz 13)), some (.int (iz 14)), none, none, none]) (dc D_cX12_bound_0 12 rfl) rfl rfl ?_
    refine r_aloadn (dc D_cX12_bound_0 13 rfl) rfl rfl ?_
    refine r_bipush (n := 15) (dc D_cX12_bound_0 14 rfl) (by decide +kernel) ?_
    refine r_callV (As := [.int (iz 15)]) (st := []) (dc D_cX12_bound_0 15 rfl) cw_RX12_225 nm_yX12_clears (CX12_clears hE _ (Rl rfl) _ hσ2 h) lM_0 rfl rfl (by decide) rfl rfl rfl (fun z4 σ5 rz4 hσ5 h => ?_)
    show RW layM E mi_X12_bound_v2 Φ 27 [some (.ref (eA E 0)), some (.int (iz a1)), some (.int (iz 12)), some (.int (iz 13)), some (.int (iz 14)), none, none, none] [] σ5 x
    refine r_iconst (n := 0) (dc D_cX12_bound_0 16 rfl) ?_
    refine r_istore (lv' := [some (.ref (eA E 0)), some (.int (iz a1)), some (.int (iz 12)), some (.int (iz 13)), some (.int (iz 14)), some (.int (iz 0)), none, none]) (dc D_cX12_bound_0 17 rfl) rfl rfl ?_
    refine r_iconst (n := 0) (dc D_cX12_bound_0 18 rfl) ?_
    refine r_istore (lv' := [some (.ref (eA E 0)), some (.int (iz a1)), some (.int (iz 12)), some (.int (iz 13)), some (.int (iz 14)), some (.int (iz 0)), some (.int (iz 0)), none]) (dc D_cX12_bound_0 19 rfl) rfl rfl ?_
    obtain ⟨n, h⟩ := h
    exact TX12_bound_v2_33 hE x n _ _ _ _ _ _ _ ra1 (Rl rfl) (Rl rfl) (Rl rfl) (Rl rfl) (Rl rfl) hσ5 h
  · have h := h.2 c3
    refine r_iconst (n := (-1)) (dc D_cX12_bound_0 5 rfl) ?_
    exact r_iret (dc D_cX12_bound_0 6 rfl) rfl (Rl rfl) h
-- end of GateFlowModel.bound
def mi_X12_bound : MI := (cX12_bound, RX12, 8, 6, (some .int), 1)
def LX12_bound_136 (K33 : Int → Int → Int → Int → Int → Int → PS → Prop) (x1 x2 x3 x4 x5 x6 : Int) (σ : PS) (Φ : Int → PS → Prop) : Prop :=
  Rg (x6 + 1) ∧
  K33 x1 x2 x3 x4 x5 (x6 + 1) σ
def BX12_bound_33 (K33 : Int → Int → Int → Int → Int → Int → PS → Prop) (x1 x2 x3 x4 x5 x6 : Int) (σ : PS) (Φ : Int → PS → Prop) : Prop :=
  ((σ 1 2 ≤ x6 →
    FX12_adds (σ 1 1) x4 100000000 σ (fun z2 σ3 =>
    FX12_adds x4 (σ3 1 0) 100000000 σ3 (fun z4 σ5 =>
    FX12_adds (σ5 1 0) x4 100000000 σ5 (fun z6 σ7 =>
    FX12_adds x4 (σ7 1 1) 100000000 σ7 (fun z8 σ9 =>
    FX12_passes x2 x3 σ9 (fun z10 σ11 =>
    ((x5 ≤ z10 →
      Rg ((σ11 1 0) * (σ11 0 25)) ∧
      Rg (((σ11 1 0) * (σ11 0 25)) + x4) ∧
      (0 ≤ ((σ11 1 0) * (σ11 0 25)) + x4 ∧ ((σ11 1 0) * (σ11 0 25)) + x4 < 11664) ∧
      Rg ((σ11 21 (((σ11 1 0) * (σ11 0 25)) + x4).toNat) - 100000000) ∧
      ∀ v17 : Int, v17 = (σ11 21 (((σ11 1 0) * (σ11 0 25)) + x4).toNat) - 100000000 →
      FX12_parts x2 σ11 (fun z18 σ19 =>
      FX12_parts x3 σ19 (fun z20 σ21 =>
      FX12_parts x4 σ21 (fun z22 σ23 =>
      ((¬ x1 = 0 →
        FX12_passes (σ23 1 1) (σ23 1 0) σ23 (fun z25 σ26 =>
        Rg (v17 - z25) ∧
        ∀ v28 : Int, v28 = v17 - z25 →
        ((v28 < 0 →
          FX12_bound_v2 0 σ26 (fun z30 σ31 =>
          ((0 ≤ z30 →
            Φ 0 σ31) ∧
          (¬ 0 ≤ z30 →
            Φ (-5) σ31)))) ∧
        (¬ v28 < 0 →
          Φ v28 σ26)))) ∧
      (x1 = 0 →
        FX12_passes (σ23 1 0) (σ23 1 1) σ23 (fun z33 σ34 =>
        Rg (v17 + z33) ∧
        ∀ v36 : Int, v36 = v17 + z33 →
        ((0 ≤ v36 →
          Φ v36 σ34) ∧
        (¬ 0 ≤ v36 →
          Φ (-5) σ34))))))))) ∧
    (¬ x5 ≤ z10 →
      Φ (-5) σ11)))))))) ∧
  (¬ σ 1 2 ≤ x6 →
    FX12_isOpen x6 σ (fun z38 σ39 =>
    ((z38 = 0 →
      LX12_bound_136 K33 x1 x2 x3 x4 x5 x6 σ39 Φ) ∧
    (¬ z38 = 0 →
      FX12_at x6 0 σ39 (fun z41 σ42 =>
      FX12_at x6 1 σ42 (fun z43 σ44 =>
      FX12_at x6 3 σ44 (fun z45 σ46 =>
      FX12_at x6 2 σ46 (fun z47 σ48 =>
      Rg (z45 - z47) ∧
      FX12_adds z41 z43 (z45 - z47) σ48 (fun z50 σ51 =>
      FX12_at x6 1 σ51 (fun z52 σ53 =>
      FX12_at x6 2 σ53 (fun z54 σ55 =>
      FX12_adds x2 z52 z54 σ55 (fun z56 σ57 =>
      FX12_at x6 0 σ57 (fun z58 σ59 =>
      FX12_at x6 2 σ59 (fun z60 σ61 =>
      FX12_adds z58 x3 z60 σ61 (fun z62 σ63 =>
      FX12_at x6 2 σ63 (fun z64 σ65 =>
      Rg (x5 + z64) ∧
      ∀ v67 : Int, v67 = x5 + z64 →
      LX12_bound_136 K33 x1 x2 x3 x4 v67 x6 σ65 Φ)))))))))))))))))
def LX12_bound_33 : Nat → Int → Int → Int → Int → Int → Int → PS → (Int → PS → Prop) → Prop
  | 0, _, _, _, _, _, _, _, _ => False
  | n + 1, x1, x2, x3, x4, x5, x6, σ, Φ => BX12_bound_33 (fun x1 x2 x3 x4 x5 x6 σ => LX12_bound_33 n x1 x2 x3 x4 x5 x6 σ Φ) x1 x2 x3 x4 x5 x6 σ Φ
def FX12_bound (a1 : Int) (σ : PS) (Φ : Int → PS → Prop) : Prop :=
  FX12_in a1 0 1 σ (fun z1 σ2 =>
  ((¬ z1 = 0 →
    FX12_clears 15 σ2 (fun z4 σ5 =>
    ∃ n, LX12_bound_33 n a1 12 13 14 0 0 σ5 Φ)) ∧
  (z1 = 0 →
    Φ (-1) σ2)))
theorem cw_RX12_234_v2 : CWV RX12 234 yX12_bound mi_X12_bound_v2 := tb_r [1565, 1542, 1543, 110, 1544] (by decide +kernel)
theorem nm_yX12_bound : ynm yX12_bound 1 := ⟨⟨by decide +kernel, by decide +kernel⟩, by decide +kernel⟩
set_option maxRecDepth 100000 in
theorem TX12_bound_136 {E : EV} (hE : eOK layM E) {Φ : Int → PS → Prop} {K33 : Int → Int → Int → Int → Int → Int → PS → Prop} (x : CX) (hK33 : ∀ (x1 x2 x3 x4 x5 x6 : Int) (σ : PS), Rg x1 → Rg x2 → Rg x3 → Rg x4 → Rg x5 → Rg x6 → RS σ → K33 x1 x2 x3 x4 x5 x6 σ → RW layM E mi_X12_bound Φ 33 [some (.ref (eA E 0)), some (.int (iz x1)), some (.int (iz x2)), some (.int (iz x3)), some (.int (iz x4)), some (.int (iz x5)), some (.int (iz x6)), none] [] σ x) (x1 x2 x3 x4 x5 x6 : Int) (rx1 : Rg x1) (rx2 : Rg x2) (rx3 : Rg x3) (rx4 : Rg x4) (rx5 : Rg x5) (rx6 : Rg x6) (σ : PS) (hs : RS σ) (h : LX12_bound_136 K33 x1 x2 x3 x4 x5 x6 σ Φ) : RW layM E mi_X12_bound Φ 136 [some (.ref (eA E 0)), some (.int (iz x1)), some (.int (iz x2)), some (.int (iz x3)), some (.int (iz x4)), some (.int (iz x5)), some (.int (iz x6)), none] [] σ x := by
  obtain ⟨o1, h⟩ := h
  refine r_iinc (lv' := [some (.ref (eA E 0)), some (.int (iz x1)), some (.int (iz x2)), some (.int (iz x3)), some (.int (iz x4)), some (.int (iz x5)), some (.int (iz (x6 + 1))), none]) (dc D_cX12_bound_1 38 rfl) rfl rfl rfl ?_
  refine r_goto (tgt := 33) (dc D_cX12_bound_1 39 rfl) (by decide) ?_
  exact hK33 _ _ _ _ _ _ _ rx1 rx2 rx3 rx4 rx5 o1 hs h
set_option maxRecDepth 100000 in
theorem TBX12_bound_33 {E : EV} (hE : eOK layM E) {Φ : Int → PS → Prop} {K33 : Int → Int → Int → Int → Int → Int → PS → Prop} (x : CX) (hK33 : ∀ (x1 x2 x3 x4 x5 x6 : Int) (σ : PS), Rg x1 → Rg x2 → Rg x3 → Rg x4 → Rg x5 → Rg x6 → RS σ → K33 x1 x2 x3 x4 x5 x6 σ → RW layM E mi_X12_bound Φ 33 [some (.ref (eA E 0)), some (.int (iz x1)), some (.int (iz x2)), some (.int (iz x3)), some (.int (iz x4)), some (.int (iz x5)), some (.int (iz x6)), none] [] σ x) (x1 x2 x3 x4 x5 x6 : Int) (rx1 : Rg x1) (rx2 : Rg x2) (rx3 : Rg x3) (rx4 : Rg x4) (rx5 : Rg x5) (rx6 : Rg x6) (σ : PS) (hs : RS σ) (h : BX12_bound_33 K33 x1 x2 x3 x4 x5 x6 σ Φ) : RW layM E mi_X12_bound Φ 33 [some (.ref (eA E 0)), some (.int (iz x1)), some (.int (iz x2)), some (.int (iz x3)), some (.int (iz x4)), some (.int (iz x5)), some (.int (iz x6)), none] [] σ x := by
  refine r_iload (dc D_cX12_bound_0 20 rfl) rfl ?_
  refine r_aloadn (dc D_cX12_bound_0 21 rfl) rfl rfl ?_
  refine r_getR (dc D_cX12_bound_0 22 rfl) fw_RX12_9 lM_0 rfl ?_
  refine r_iconst (n := 2) (dc D_cX12_bound_0 23 rfl) ?_
  refine r_iald (N := 183) (dc D_cX12_bound_0 24 rfl) lM_1 rfl rfl ⟨by decide, by decide⟩ ?_
  refine r_icmp_ge (tgt := 142) (dc D_cX12_bound_0 25 rfl) (by decide) rx6 (hs _ _) (fun c1 => ?_) (fun c1 => ?_)
  · have h := h.1 c1
    refine r_aloadn (dc D_cX12_bound_2 0 rfl) rfl rfl ?_
    refine r_aloadn (dc D_cX12_bound_2 1 rfl) rfl rfl ?_
    refine r_getR (dc D_cX12_bound_2 2 rfl) fw_RX12_9 lM_0 rfl ?_
    refine r_iconst (n := 1) (dc D_cX12_bound_2 3 rfl) ?_
    refine r_iald (N := 183) (dc D_cX12_bound_2 4 rfl) lM_1 rfl rfl ⟨by decide, by decide⟩ ?_
    refine r_iload (dc D_cX12_bound_2 5 rfl) rfl ?_
    refine r_ldc (n := (100000000)) (dc D_cX12_bound_2 6 rfl) kw_RX12_141 ?_
    refine r_callV (As := [.int (iz (σ 1 1)), .int (iz x4), .int (iz 100000000)]) (st := []) (dc D_cX12_bound_2 7 rfl) cw_RX12_222 nm_yX12_adds (CX12_adds hE _ _ _ (hs _ _) rx4 (Rl rfl) _ hs h) lM_0 rfl rfl (by decide) rfl rfl rfl (fun z2 σ3 rz2 hσ3 h => ?_)
    show RW layM E mi_X12_bound Φ 156 [some (.ref (eA E 0)), some (.int (iz x1)), some (.int (iz x2)), some (.int (iz x3)), some (.int (iz x4)), some (.int (iz x5)), some (.int (iz x6)), none] [] σ3 x
    refine r_aloadn (dc D_cX12_bound_2 8 rfl) rfl rfl ?_
    refine r_iload (dc D_cX12_bound_2 9 rfl) rfl ?_
    refine r_aloadn (dc D_cX12_bound_2 10 rfl) rfl rfl ?_
    refine r_getR (dc D_cX12_bound_2 11 rfl) fw_RX12_9 lM_0 rfl ?_
    refine r_iconst (n := 0) (dc D_cX12_bound_2 12 rfl) ?_
    refine r_iald (N := 183) (dc D_cX12_bound_2 13 rfl) lM_1 rfl rfl ⟨by decide, by decide⟩ ?_
    refine r_ldc (n := (100000000)) (dc D_cX12_bound_2 14 rfl) kw_RX12_141 ?_
    refine r_callV (As := [.int (iz x4), .int (iz (σ3 1 0)), .int (iz 100000000)]) (st := []) (dc D_cX12_bound_2 15 rfl) cw_RX12_222 nm_yX12_adds (CX12_adds hE _ _ _ rx4 (hσ3 _ _) (Rl rfl) _ hσ3 h) lM_0 rfl rfl (by decide) rfl rfl rfl (fun z4 σ5 rz4 hσ5 h => ?_)
    show RW layM E mi_X12_bound Φ 170 [some (.ref (eA E 0)), some (.int (iz x1)), some (.int (iz x2)), some (.int (iz x3)), some (.int (iz x4)), some (.int (iz x5)), some (.int (iz x6)), none] [] σ5 x
    refine r_aloadn (dc D_cX12_bound_2 16 rfl) rfl rfl ?_
    refine r_aloadn (dc D_cX12_bound_2 17 rfl) rfl rfl ?_
    refine r_getR (dc D_cX12_bound_2 18 rfl) fw_RX12_9 lM_0 rfl ?_
    refine r_iconst (n := 0) (dc D_cX12_bound_2 19 rfl) ?_
    refine r_iald (N := 183) (dc D_cX12_bound_2 20 rfl) lM_1 rfl rfl ⟨by decide, by decide⟩ ?_
    refine r_iload (dc D_cX12_bound_2 21 rfl) rfl ?_
    refine r_ldc (n := (100000000)) (dc D_cX12_bound_2 22 rfl) kw_RX12_141 ?_
    refine r_callV (As := [.int (iz (σ5 1 0)), .int (iz x4), .int (iz 100000000)]) (st := []) (dc D_cX12_bound_2 23 rfl) cw_RX12_222 nm_yX12_adds (CX12_adds hE _ _ _ (hσ5 _ _) rx4 (Rl rfl) _ hσ5 h) lM_0 rfl rfl (by decide) rfl rfl rfl (fun z6 σ7 rz6 hσ7 h => ?_)
    show RW layM E mi_X12_bound Φ 184 [some (.ref (eA E 0)), some (.int (iz x1)), some (.int (iz x2)), some (.int (iz x3)), some (.int (iz x4)), some (.int (iz x5)), some (.int (iz x6)), none] [] σ7 x
    refine r_aloadn (dc D_cX12_bound_2 24 rfl) rfl rfl ?_
    refine r_iload (dc D_cX12_bound_2 25 rfl) rfl ?_
    refine r_aloadn (dc D_cX12_bound_2 26 rfl) rfl rfl ?_
    refine r_getR (dc D_cX12_bound_2 27 rfl) fw_RX12_9 lM_0 rfl ?_
    refine r_iconst (n := 1) (dc D_cX12_bound_2 28 rfl) ?_
    refine r_iald (N := 183) (dc D_cX12_bound_2 29 rfl) lM_1 rfl rfl ⟨by decide, by decide⟩ ?_
    refine r_ldc (n := (100000000)) (dc D_cX12_bound_2 30 rfl) kw_RX12_141 ?_
    refine r_callV (As := [.int (iz x4), .int (iz (σ7 1 1)), .int (iz 100000000)]) (st := []) (dc D_cX12_bound_2 31 rfl) cw_RX12_222 nm_yX12_adds (CX12_adds hE _ _ _ rx4 (hσ7 _ _) (Rl rfl) _ hσ7 h) lM_0 rfl rfl (by decide) rfl rfl rfl (fun z8 σ9 rz8 hσ9 h => ?_)
    show RW layM E mi_X12_bound Φ 198 [some (.ref (eA E 0)), some (.int (iz x1)), some (.int (iz x2)), some (.int (iz x3)), some (.int (iz x4)), some (.int (iz x5)), some (.int (iz x6)), none] [] σ9 x
    refine r_aloadn (dc D_cX12_bound_2 32 rfl) rfl rfl ?_
    refine r_iloadn (dc D_cX12_bound_2 33 rfl) rfl rfl ?_
    refine r_iloadn (dc D_cX12_bound_2 34 rfl) rfl rfl ?_
    refine r_callV (As := [.int (iz x2), .int (iz x3)]) (st := []) (dc D_cX12_bound_2 35 rfl) cw_RX12_228 nm_yX12_passes (CX12_passes hE _ _ rx2 rx3 _ hσ9 h) lM_0 rfl rfl (by decide) rfl rfl rfl (fun z10 σ11 rz10 hσ11 h => ?_)
    show RW layM E mi_X12_bound Φ 204 [some (.ref (eA E 0)), some (.int (iz x1)), some (.int (iz x2)), some (.int (iz x3)), some (.int (iz x4)), some (.int (iz x5)), some (.int (iz x6)), none] [.int (iz z10)] σ11 x
    refine r_iload (dc D_cX12_bound_2 36 rfl) rfl ?_
    refine r_icmp_ge (tgt := 212) (dc D_cX12_bound_2 37 rfl) (by decide) rz10 rx5 (fun c12 => ?_) (fun c12 => ?_)
    · have h := h.1 c12
      refine r_aloadn (dc D_cX12_bound_3 0 rfl) rfl rfl ?_
      refine r_getR (dc D_cX12_bound_3 1 rfl) fw_RX12_71 lM_0 rfl ?_
      refine r_aloadn (dc D_cX12_bound_3 2 rfl) rfl rfl ?_
      refine r_getR (dc D_cX12_bound_3 3 rfl) fw_RX12_9 lM_0 rfl ?_
      refine r_iconst (n := 0) (dc D_cX12_bound_3 4 rfl) ?_
      refine r_iald (N := 183) (dc D_cX12_bound_3 5 rfl) lM_1 rfl rfl ⟨by decide, by decide⟩ ?_
      refine r_aloadn (dc D_cX12_bound_3 6 rfl) rfl rfl ?_
      refine r_getI (dc D_cX12_bound_3 7 rfl) fw_RX12_215 lM_0 rfl ?_
      refine r_imul (dc D_cX12_bound_3 8 rfl) ?_
      obtain ⟨o13, h⟩ := h
      refine r_iload (dc D_cX12_bound_3 9 rfl) rfl ?_
      refine r_iadd (dc D_cX12_bound_3 10 rfl) ?_
      obtain ⟨o14, h⟩ := h
      obtain ⟨o15, h⟩ := h
      refine r_iald (N := 11664) (dc D_cX12_bound_3 11 rfl) lM_21 rfl rfl o15 ?_
      refine r_ldc (n := (100000000)) (dc D_cX12_bound_3 12 rfl) kw_RX12_141 ?_
      refine r_isub (dc D_cX12_bound_3 13 rfl) ?_
      obtain ⟨o16, h⟩ := h
      refine r_name (fun v17 ev17 => ?_)
      have h := h v17 ev17
      have rv17 : Rg v17 := Rg_eq ev17 o16
      refine r_istore (lv' := [some (.ref (eA E 0)), some (.int (iz x1)), some (.int (iz x2)), some (.int (iz x3)), some (.int (iz x4)), some (.int (iz x5)), some (.int (iz v17)), none]) (dc D_cX12_bound_3 14 rfl) rfl rfl ?_
      refine r_aloadn (dc D_cX12_bound_3 15 rfl) rfl rfl ?_
      refine r_iloadn (dc D_cX12_bound_3 16 rfl) rfl rfl ?_
      refine r_callV (As := [.int (iz x2)]) (st := []) (dc D_cX12_bound_3 17 rfl) cw_RX12_231 nm_yX12_parts (CX12_parts hE _ rx2 _ hσ11 h) lM_0 rfl rfl (by decide) rfl rfl rfl (fun z18 σ19 rz18 hσ19 h => ?_)
      show RW layM E mi_X12_bound Φ 241 [some (.ref (eA E 0)), some (.int (iz x1)), some (.int (iz x2)), some (.int (iz x3)), some (.int (iz x4)), some (.int (iz x5)), some (.int (iz v17)), none] [] σ19 x
      refine r_aloadn (dc D_cX12_bound_3 18 rfl) rfl rfl ?_
      refine r_iloadn (dc D_cX12_bound_3 19 rfl) rfl rfl ?_
      refine r_callV (As := [.int (iz x3)]) (st := []) (dc D_cX12_bound_3 20 rfl) cw_RX12_231 nm_yX12_parts (CX12_parts hE _ rx3 _ hσ19 h) lM_0 rfl rfl (by decide) rfl rfl rfl (fun z20 σ21 rz20 hσ21 h => ?_)
      show RW layM E mi_X12_bound Φ 246 [some (.ref (eA E 0)), some (.int (iz x1)), some (.int (iz x2)), some (.int (iz x3)), some (.int (iz x4)), some (.int (iz x5)), some (.int (iz v17)), none] [] σ21 x
      refine r_aloadn (dc D_cX12_bound_3 21 rfl) rfl rfl ?_
      refine r_iload (dc D_cX12_bound_3 22 rfl) rfl ?_
      refine r_callV (As := [.int (iz x4)]) (st := []) (dc D_cX12_bound_3 23 rfl) cw_RX12_231 nm_yX12_parts (CX12_parts hE _ rx4 _ hσ21 h) lM_0 rfl rfl (by decide) rfl rfl rfl (fun z22 σ23 rz22 hσ23 h => ?_)
      show RW layM E mi_X12_bound Φ 252 [some (.ref (eA E 0)), some (.int (iz x1)), some (.int (iz x2)), some (.int (iz x3)), some (.int (iz x4)), some (.int (iz x5)), some (.int (iz v17)), none] [] σ23 x
      refine r_iloadn (dc D_cX12_bound_3 24 rfl) rfl rfl ?_
      refine r_if_ne (tgt := 290) (dc D_cX12_bound_3 25 rfl) (by decide) rx1 (fun c24 => ?_) (fun c24 => ?_)
      · have h := h.1 c24
        refine r_iload (dc D_cX12_bound_4 5 rfl) rfl ?_
        refine r_aloadn (dc D_cX12_bound_4 6 rfl) rfl rfl ?_
        refine r_aloadn (dc D_cX12_bound_4 7 rfl) rfl rfl ?_
        refine r_getR (dc D_cX12_bound_4 8 rfl) fw_RX12_9 lM_0 rfl ?_
        refine r_iconst (n := 1) (dc D_cX12_bound_4 9 rfl) ?_
        refine r_iald (N := 183) (dc D_cX12_bound_4 10 rfl) lM_1 rfl rfl ⟨by decide, by decide⟩ ?_
        refine r_aloadn (dc D_cX12_bound_4 11 rfl) rfl rfl ?_
        refine r_getR (dc D_cX12_bound_4 12 rfl) fw_RX12_9 lM_0 rfl ?_
        refine r_iconst (n := 0) (dc D_cX12_bound_4 13 rfl) ?_
        refine r_iald (N := 183) (dc D_cX12_bound_4 14 rfl) lM_1 rfl rfl ⟨by decide, by decide⟩ ?_
        refine r_callV (As := [.int (iz (σ23 1 1)), .int (iz (σ23 1 0))]) (st := [.int (iz v17)]) (dc D_cX12_bound_4 15 rfl) cw_RX12_228 nm_yX12_passes (CX12_passes hE _ _ (hσ23 _ _) (hσ23 _ _) _ hσ23 h) lM_0 rfl rfl (by decide) rfl rfl rfl (fun z25 σ26 rz25 hσ26 h => ?_)
        show RW layM E mi_X12_bound Φ 308 [some (.ref (eA E 0)), some (.int (iz x1)), some (.int (iz x2)), some (.int (iz x3)), some (.int (iz x4)), some (.int (iz x5)), some (.int (iz v17)), none] [.int (iz z25), .int (iz v17)] σ26 x
        refine r_isub (dc D_cX12_bound_4 16 rfl) ?_
        obtain ⟨o27, h⟩ := h
        refine r_name (fun v28 ev28 => ?_)
        have h := h v28 ev28
        have rv28 : Rg v28 := Rg_eq ev28 o27
        refine r_istore (lv' := [some (.ref (eA E 0)), some (.int (iz x1)), some (.int (iz x2)), some (.int (iz x3)), some (.int (iz x4)), some (.int (iz x5)), some (.int (iz v17)), some (.int (iz v28))]) (dc D_cX12_bound_4 17 rfl) rfl rfl ?_
        refine r_iload (dc D_cX12_bound_4 18 rfl) rfl ?_
        refine r_if_lt (tgt := 319) (dc D_cX12_bound_4 19 rfl) (by decide) rv28 (fun c29 => ?_) (fun c29 => ?_)
        · have h := h.1 c29
          refine r_aloadn (dc D_cX12_bound_4 22 rfl) rfl rfl ?_
          refine r_iconst (n := 0) (dc D_cX12_bound_4 23 rfl) ?_
          refine r_callV (As := [.int (iz 0)]) (st := []) (dc D_cX12_bound_4 24 rfl) cw_RX12_234_v2 nm_yX12_bound (CX12_bound_v2 hE _ (Rl rfl) _ hσ26 h) lM_0 rfl rfl (by decide) rfl rfl rfl (fun z30 σ31 rz30 hσ31 h => ?_)
          show RW layM E mi_X12_bound Φ 324 [some (.ref (eA E 0)), some (.int (iz x1)), some (.int (iz x2)), some (.int (iz x3)), some (.int (iz x4)), some (.int (iz x5)), some (.int (iz v17)), some (.int (iz v28))] [.int (iz z30)] σ31 x
          refine r_if_ge (tgt := 332) (dc D_cX12_bound_4 25 rfl) (by decide) rz30 (fun c32 => ?_) (fun c32 => ?_)
          · have h := h.1 c32
            refine r_iconst (n := 0) (dc D_cX12_bound_4 28 rfl) ?_
            exact r_iret (dc D_cX12_bound_4 29 rfl) rfl (Rl rfl) h
          · have h := h.2 c32
            refine r_bipush (n := (-5)) (dc D_cX12_bound_4 26 rfl) (by decide +kernel) ?_
            refine r_goto (tgt := 333) (dc D_cX12_bound_4 27 rfl) (by decide) ?_
            exact r_iret (dc D_cX12_bound_4 29 rfl) rfl (Rl rfl) h
        · have h := h.2 c29
          refine r_iload (dc D_cX12_bound_4 20 rfl) rfl ?_
          exact r_iret (dc D_cX12_bound_4 21 rfl) rfl rv28 h
      · have h := h.2 c24
        refine r_iload (dc D_cX12_bound_3 26 rfl) rfl ?_
        refine r_aloadn (dc D_cX12_bound_3 27 rfl) rfl rfl ?_
        refine r_aloadn (dc D_cX12_bound_3 28 rfl) rfl rfl ?_
        refine r_getR (dc D_cX12_bound_3 29 rfl) fw_RX12_9 lM_0 rfl ?_
        refine r_iconst (n := 0) (dc D_cX12_bound_3 30 rfl) ?_
        refine r_iald (N := 183) (dc D_cX12_bound_3 31 rfl) lM_1 rfl rfl ⟨by decide, by decide⟩ ?_
        refine r_aloadn (dc D_cX12_bound_3 32 rfl) rfl rfl ?_
        refine r_getR (dc D_cX12_bound_3 33 rfl) fw_RX12_9 lM_0 rfl ?_
        refine r_iconst (n := 1) (dc D_cX12_bound_3 34 rfl) ?_
        refine r_iald (N := 183) (dc D_cX12_bound_3 35 rfl) lM_1 rfl rfl ⟨by decide, by decide⟩ ?_
        refine r_callV (As := [.int (iz (σ23 1 0)), .int (iz (σ23 1 1))]) (st := [.int (iz v17)]) (dc D_cX12_bound_3 36 rfl) cw_RX12_228 nm_yX12_passes (CX12_passes hE _ _ (hσ23 _ _) (hσ23 _ _) _ hσ23 h) lM_0 rfl rfl (by decide) rfl rfl rfl (fun z33 σ34 rz33 hσ34 h => ?_)
        show RW layM E mi_X12_bound Φ 274 [some (.ref (eA E 0)), some (.int (iz x1)), some (.int (iz x2)), some (.int (iz x3)), some (.int (iz x4)), some (.int (iz x5)), some (.int (iz v17)), none] [.int (iz z33), .int (iz v17)] σ34 x
        refine r_iadd (dc D_cX12_bound_3 37 rfl) ?_
        obtain ⟨o35, h⟩ := h
        refine r_name (fun v36 ev36 => ?_)
        have h := h v36 ev36
        have rv36 : Rg v36 := Rg_eq ev36 o35
        refine r_istore (lv' := [some (.ref (eA E 0)), some (.int (iz x1)), some (.int (iz x2)), some (.int (iz x3)), some (.int (iz x4)), some (.int (iz x5)), some (.int (iz v17)), some (.int (iz v36))]) (dc D_cX12_bound_3 38 rfl) rfl rfl ?_
        refine r_iload (dc D_cX12_bound_3 39 rfl) rfl ?_
        refine r_if_ge (tgt := 287) (dc D_cX12_bound_4 0 rfl) (by decide) rv36 (fun c37 => ?_) (fun c37 => ?_)
        · have h := h.1 c37
          refine r_iload (dc D_cX12_bound_4 3 rfl) rfl ?_
          exact r_iret (dc D_cX12_bound_4 4 rfl) rfl rv36 h
        · have h := h.2 c37
          refine r_bipush (n := (-5)) (dc D_cX12_bound_4 1 rfl) (by decide +kernel) ?_
          refine r_goto (tgt := 289) (dc D_cX12_bound_4 2 rfl) (by decide) ?_
          exact r_iret (dc D_cX12_bound_4 4 rfl) rfl (Rl rfl) h
    · have h := h.2 c12
      refine r_bipush (n := (-5)) (dc D_cX12_bound_2 38 rfl) (by decide +kernel) ?_
      exact r_iret (dc D_cX12_bound_2 39 rfl) rfl (Rl rfl) h
  · have h := h.2 c1
    refine r_aloadn (dc D_cX12_bound_0 26 rfl) rfl rfl ?_
    refine r_iload (dc D_cX12_bound_0 27 rfl) rfl ?_
    refine r_callV (As := [.int (iz x6)]) (st := []) (dc D_cX12_bound_0 28 rfl) cw_RX12_98 nm_yX12_isOpen (CX12_isOpen hE _ rx6 _ hs h) lM_0 rfl rfl (by decide) rfl rfl rfl (fun z38 σ39 rz38 hσ39 h => ?_)
    show RW layM E mi_X12_bound Φ 50 [some (.ref (eA E 0)), some (.int (iz x1)), some (.int (iz x2)), some (.int (iz x3)), some (.int (iz x4)), some (.int (iz x5)), some (.int (iz x6)), none] [.int (iz z38)] σ39 x
    refine r_if_eq (tgt := 136) (dc D_cX12_bound_0 29 rfl) (by decide) rz38 (fun c40 => ?_) (fun c40 => ?_)
    · have h := h.1 c40
      exact TX12_bound_136 hE x hK33 _ _ _ _ _ _ rx1 rx2 rx3 rx4 rx5 rx6 _ hσ39 h
    · have h := h.2 c40
      refine r_aloadn (dc D_cX12_bound_0 30 rfl) rfl rfl ?_
      refine r_aloadn (dc D_cX12_bound_0 31 rfl) rfl rfl ?_
      refine r_iload (dc D_cX12_bound_0 32 rfl) rfl ?_
      refine r_iconst (n := 0) (dc D_cX12_bound_0 33 rfl) ?_
      refine r_callV (As := [.int (iz x6), .int (iz 0)]) (st := [.ref (eA E 0)]) (dc D_cX12_bound_0 34 rfl) cw_RX12_94 nm_yX12_at (CX12_at hE _ _ rx6 (Rl rfl) _ hσ39 h) lM_0 rfl rfl (by decide) rfl rfl rfl (fun z41 σ42 rz41 hσ42 h => ?_)
      show RW layM E mi_X12_bound Φ 61 [some (.ref (eA E 0)), some (.int (iz x1)), some (.int (iz x2)), some (.int (iz x3)), some (.int (iz x4)), some (.int (iz x5)), some (.int (iz x6)), none] [.int (iz z41), .ref (eA E 0)] σ42 x
      refine r_aloadn (dc D_cX12_bound_0 35 rfl) rfl rfl ?_
      refine r_iload (dc D_cX12_bound_0 36 rfl) rfl ?_
      refine r_iconst (n := 1) (dc D_cX12_bound_0 37 rfl) ?_
      refine r_callV (As := [.int (iz x6), .int (iz 1)]) (st := [.int (iz z41), .ref (eA E 0)]) (dc D_cX12_bound_0 38 rfl) cw_RX12_94 nm_yX12_at (CX12_at hE _ _ rx6 (Rl rfl) _ hσ42 h) lM_0 rfl rfl (by decide) rfl rfl rfl (fun z43 σ44 rz43 hσ44 h => ?_)
      show RW layM E mi_X12_bound Φ 68 [some (.ref (eA E 0)), some (.int (iz x1)), some (.int (iz x2)), some (.int (iz x3)), some (.int (iz x4)), some (.int (iz x5)), some (.int (iz x6)), none] [.int (iz z43), .int (iz z41), .ref (eA E 0)] σ44 x
      refine r_aloadn (dc D_cX12_bound_0 39 rfl) rfl rfl ?_
      refine r_iload (dc D_cX12_bound_1 0 rfl) rfl ?_
      refine r_iconst (n := 3) (dc D_cX12_bound_1 1 rfl) ?_
      refine r_callV (As := [.int (iz x6), .int (iz 3)]) (st := [.int (iz z43), .int (iz z41), .ref (eA E 0)]) (dc D_cX12_bound_1 2 rfl) cw_RX12_94 nm_yX12_at (CX12_at hE _ _ rx6 (Rl rfl) _ hσ44 h) lM_0 rfl rfl (by decide) rfl rfl rfl (fun z45 σ46 rz45 hσ46 h => ?_)
      show RW layM E mi_X12_bound Φ 75 [some (.ref (eA E 0)), some (.int (iz x1)), some (.int (iz x2)), some (.int (iz x3)), some (.int (iz x4)), some (.int (iz x5)), some (.int (iz x6)), none] [.int (iz z45), .int (iz z43), .int (iz z41), .ref (eA E 0)] σ46 x
      refine r_aloadn (dc D_cX12_bound_1 3 rfl) rfl rfl ?_
      refine r_iload (dc D_cX12_bound_1 4 rfl) rfl ?_
      refine r_iconst (n := 2) (dc D_cX12_bound_1 5 rfl) ?_
      refine r_callV (As := [.int (iz x6), .int (iz 2)]) (st := [.int (iz z45), .int (iz z43), .int (iz z41), .ref (eA E 0)]) (dc D_cX12_bound_1 6 rfl) cw_RX12_94 nm_yX12_at (CX12_at hE _ _ rx6 (Rl rfl) _ hσ46 h) lM_0 rfl rfl (by decide) rfl rfl rfl (fun z47 σ48 rz47 hσ48 h => ?_)
      show RW layM E mi_X12_bound Φ 82 [some (.ref (eA E 0)), some (.int (iz x1)), some (.int (iz x2)), some (.int (iz x3)), some (.int (iz x4)), some (.int (iz x5)), some (.int (iz x6)), none] [.int (iz z47), .int (iz z45), .int (iz z43), .int (iz z41), .ref (eA E 0)] σ48 x
      refine r_isub (dc D_cX12_bound_1 7 rfl) ?_
      obtain ⟨o49, h⟩ := h
      refine r_callV (As := [.int (iz z41), .int (iz z43), .int (iz (z45 - z47))]) (st := []) (dc D_cX12_bound_1 8 rfl) cw_RX12_222 nm_yX12_adds (CX12_adds hE _ _ _ rz41 rz43 o49 _ hσ48 h) lM_0 rfl rfl (by decide) rfl rfl rfl (fun z50 σ51 rz50 hσ51 h => ?_)
      show RW layM E mi_X12_bound Φ 86 [some (.ref (eA E 0)), some (.int (iz x1)), some (.int (iz x2)), some (.int (iz x3)), some (.int (iz x4)), some (.int (iz x5)), some (.int (iz x6)), none] [] σ51 x
      refine r_aloadn (dc D_cX12_bound_1 9 rfl) rfl rfl ?_
      refine r_iloadn (dc D_cX12_bound_1 10 rfl) rfl rfl ?_
      refine r_aloadn (dc D_cX12_bound_1 11 rfl) rfl rfl ?_
      refine r_iload (dc D_cX12_bound_1 12 rfl) rfl ?_
      refine r_iconst (n := 1) (dc D_cX12_bound_1 13 rfl) ?_
      refine r_callV (As := [.int (iz x6), .int (iz 1)]) (st := [.int (iz x2), .ref (eA E 0)]) (dc D_cX12_bound_1 14 rfl) cw_RX12_94 nm_yX12_at (CX12_at hE _ _ rx6 (Rl rfl) _ hσ51 h) lM_0 rfl rfl (by decide) rfl rfl rfl (fun z52 σ53 rz52 hσ53 h => ?_)
      show RW layM E mi_X12_bound Φ 95 [some (.ref (eA E 0)), some (.int (iz x1)), some (.int (iz x2)), some (.int (iz x3)), some (.int (iz x4)), some (.int (iz x5)), some (.int (iz x6)), none] [.int (iz z52), .int (iz x2), .ref (eA E 0)] σ53 x
      refine r_aloadn (dc D_cX12_bound_1 15 rfl) rfl rfl ?_
      refine r_iload (dc D_cX12_bound_1 16 rfl) rfl ?_
      refine r_iconst (n := 2) (dc D_cX12_bound_1 17 rfl) ?_
      refine r_callV (As := [.int (iz x6), .int (iz 2)]) (st := [.int (iz z52), .int (iz x2), .ref (eA E 0)]) (dc D_cX12_bound_1 18 rfl) cw_RX12_94 nm_yX12_at (CX12_at hE _ _ rx6 (Rl rfl) _ hσ53 h) lM_0 rfl rfl (by decide) rfl rfl rfl (fun z54 σ55 rz54 hσ55 h => ?_)
      show RW layM E mi_X12_bound Φ 102 [some (.ref (eA E 0)), some (.int (iz x1)), some (.int (iz x2)), some (.int (iz x3)), some (.int (iz x4)), some (.int (iz x5)), some (.int (iz x6)), none] [.int (iz z54), .int (iz z52), .int (iz x2), .ref (eA E 0)] σ55 x
      refine r_callV (As := [.int (iz x2), .int (iz z52), .int (iz z54)]) (st := []) (dc D_cX12_bound_1 19 rfl) cw_RX12_222 nm_yX12_adds (CX12_adds hE _ _ _ rx2 rz52 rz54 _ hσ55 h) lM_0 rfl rfl (by decide) rfl rfl rfl (fun z56 σ57 rz56 hσ57 h => ?_)
      show RW layM E mi_X12_bound Φ 105 [some (.ref (eA E 0)), some (.int (iz x1)), some (.int (iz x2)), some (.int (iz x3)), some (.int (iz x4)), some (.int (iz x5)), some (.int (iz x6)), none] [] σ57 x
      refine r_aloadn (dc D_cX12_bound_1 20 rfl) rfl rfl ?_
      refine r_aloadn (dc D_cX12_bound_1 21 rfl) rfl rfl ?_
      refine r_iload (dc D_cX12_bound_1 22 rfl) rfl ?_
      refine r_iconst (n := 0) (dc D_cX12_bound_1 23 rfl) ?_
      refine r_callV (As := [.int (iz x6), .int (iz 0)]) (st := [.ref (eA E 0)]) (dc D_cX12_bound_1 24 rfl) cw_RX12_94 nm_yX12_at (CX12_at hE _ _ rx6 (Rl rfl) _ hσ57 h) lM_0 rfl rfl (by decide) rfl rfl rfl (fun z58 σ59 rz58 hσ59 h => ?_)
      show RW layM E mi_X12_bound Φ 113 [some (.ref (eA E 0)), some (.int (iz x1)), some (.int (iz x2)), some (.int (iz x3)), some (.int (iz x4)), some (.int (iz x5)), some (.int (iz x6)), none] [.int (iz z58), .ref (eA E 0)] σ59 x
      refine r_iloadn (dc D_cX12_bound_1 25 rfl) rfl rfl ?_
      refine r_aloadn (dc D_cX12_bound_1 26 rfl) rfl rfl ?_
      refine r_iload (dc D_cX12_bound_1 27 rfl) rfl ?_
      refine r_iconst (n := 2) (dc D_cX12_bound_1 28 rfl) ?_
      refine r_callV (As := [.int (iz x6), .int (iz 2)]) (st := [.int (iz x3), .int (iz z58), .ref (eA E 0)]) (dc D_cX12_bound_1 29 rfl) cw_RX12_94 nm_yX12_at (CX12_at hE _ _ rx6 (Rl rfl) _ hσ59 h) lM_0 rfl rfl (by decide) rfl rfl rfl (fun z60 σ61 rz60 hσ61 h => ?_)
      show RW layM E mi_X12_bound Φ 121 [some (.ref (eA E 0)), some (.int (iz x1)), some (.int (iz x2)), some (.int (iz x3)), some (.int (iz x4)), some (.int (iz x5)), some (.int (iz x6)), none] [.int (iz z60), .int (iz x3), .int (iz z58), .ref (eA E 0)] σ61 x
      refine r_callV (As := [.int (iz z58), .int (iz x3), .int (iz z60)]) (st := []) (dc D_cX12_bound_1 30 rfl) cw_RX12_222 nm_yX12_adds (CX12_adds hE _ _ _ rz58 rx3 rz60 _ hσ61 h) lM_0 rfl rfl (by decide) rfl rfl rfl (fun z62 σ63 rz62 hσ63 h => ?_)
      show RW layM E mi_X12_bound Φ 124 [some (.ref (eA E 0)), some (.int (iz x1)), some (.int (iz x2)), some (.int (iz x3)), some (.int (iz x4)), some (.int (iz x5)), some (.int (iz x6)), none] [] σ63 x
      refine r_iload (dc D_cX12_bound_1 31 rfl) rfl ?_
      refine r_aloadn (dc D_cX12_bound_1 32 rfl) rfl rfl ?_
      refine r_iload (dc D_cX12_bound_1 33 rfl) rfl ?_
      refine r_iconst (n := 2) (dc D_cX12_bound_1 34 rfl) ?_
      refine r_callV (As := [.int (iz x6), .int (iz 2)]) (st := [.int (iz x5)]) (dc D_cX12_bound_1 35 rfl) cw_RX12_94 nm_yX12_at (CX12_at hE _ _ rx6 (Rl rfl) _ hσ63 h) lM_0 rfl rfl (by decide) rfl rfl rfl (fun z64 σ65 rz64 hσ65 h => ?_)
      show RW layM E mi_X12_bound Φ 133 [some (.ref (eA E 0)), some (.int (iz x1)), some (.int (iz x2)), some (.int (iz x3)), some (.int (iz x4)), some (.int (iz x5)), some (.int (iz x6)), none] [.int (iz z64), .int (iz x5)] σ65 x
      refine r_iadd (dc D_cX12_bound_1 36 rfl) ?_
      obtain ⟨o66, h⟩ := h
      refine r_name (fun v67 ev67 => ?_)
      have h := h v67 ev67
      have rv67 : Rg v67 := Rg_eq ev67 o66
      refine r_istore (lv' := [some (.ref (eA E 0)), some (.int (iz x1)), some (.int (iz x2)), some (.int (iz x3)), some (.int (iz x4)), some (.int (iz v67)), some (.int (iz x6)), none]) (dc D_cX12_bound_1 37 rfl) rfl rfl ?_
      exact TX12_bound_136 hE x hK33 _ _ _ _ _ _ rx1 rx2 rx3 rx4 rv67 rx6 _ hσ65 h
theorem TX12_bound_33 {E : EV} (hE : eOK layM E) {Φ : Int → PS → Prop} (x : CX) (n : Nat) : ∀ (x1 x2 x3 x4 x5 x6 : Int) (σ : PS), Rg x1 → Rg x2 → Rg x3 → Rg x4 → Rg x5 → Rg x6 → RS σ → LX12_bound_33 n x1 x2 x3 x4 x5 x6 σ Φ → RW layM E mi_X12_bound Φ 33 [some (.ref (eA E 0)), some (.int (iz x1)), some (.int (iz x2)), some (.int (iz x3)), some (.int (iz x4)), some (.int (iz x5)), some (.int (iz x6)), none] [] σ x := by
  induction n with
  | zero => intro x1 x2 x3 x4 x5 x6 σ _ _ _ _ _ _ _ h; exact h.elim
  | succ n ih => intro x1 x2 x3 x4 x5 x6 σ rx1 rx2 rx3 rx4 rx5 rx6 hs h; exact TBX12_bound_33 hE x ih x1 x2 x3 x4 x5 x6 rx1 rx2 rx3 rx4 rx5 rx6 σ hs h
set_option maxRecDepth 100000 in
theorem CX12_bound {E : EV} (hE : eOK layM E) {Φ : Int → PS → Prop} (a1 : Int) (ra1 : Rg a1) (σ : PS) (hs : RS σ) (h : FX12_bound a1 σ Φ) : CT layM E yX12_bound mi_X12_bound [.ref (eA E 0), .int (iz a1)] σ Φ := by
  refine ct_of (by decide +kernel) rfl hE rfl rfl hs (fun x => ?_)
  show RW layM E mi_X12_bound Φ 0 [some (.ref (eA E 0)), some (.int (iz a1)), none, none, none, none, none, none] [] σ x
  refine r_iloadn (dc D_cX12_bound_0 0 rfl) rfl rfl ?_
  refine r_iconst (n := 0) (dc D_cX12_bound_0 1 rfl) ?_
  refine r_iconst (n := 1) (dc D_cX12_bound_0 2 rfl) ?_
  refine r_callS (As := [.int (iz a1), .int (iz 0), .int (iz 1)]) (st := []) (dc D_cX12_bound_0 3 rfl) cw_RX12_90 nm_yX12_in (CX12_in hE _ _ _ ra1 (Rl rfl) (Rl rfl) _ hs h) rfl (by decide) rfl rfl rfl (fun z1 σ2 rz1 hσ2 h => ?_)
  show RW layM E mi_X12_bound Φ 6 [some (.ref (eA E 0)), some (.int (iz a1)), none, none, none, none, none, none] [.int (iz z1)] σ2 x
  refine r_if_ne (tgt := 11) (dc D_cX12_bound_0 4 rfl) (by decide) rz1 (fun c3 => ?_) (fun c3 => ?_)
  · have h := h.1 c3
    refine r_bipush (n := 12) (dc D_cX12_bound_0 7 rfl) (by decide +kernel) ?_
    refine r_istoren (lv' := [some (.ref (eA E 0)), some (.int (iz a1)), some (.int (iz 12)), none, none, none, none, none]) (dc D_cX12_bound_0 8 rfl) rfl rfl rfl ?_
    refine r_bipush (n := 13) (dc D_cX12_bound_0 9 rfl) (by decide +kernel) ?_
    refine r_istoren (lv' := [some (.ref (eA E 0)), some (.int (iz a1)), some (.int (iz 12)), some (.int (iz 13)), none, none, none, none]) (dc D_cX12_bound_0 10 rfl) rfl rfl rfl ?_
    refine r_bipush (n := 14) (dc D_cX12_bound_0 11 rfl) (by decide +kernel) ?_
    refine r_istore (lv' := [some (.ref (eA E 0)), some (.int (iz a1)), some (.int (iz 12)), some (.int (iz 13)), some (.int (iz 14)), none, none, none]) (dc D_cX12_bound_0 12 rfl) rfl rfl ?_
    refine r_aloadn (dc D_cX12_bound_0 13 rfl) rfl rfl ?_
    refine r_bipush (n := 15) (dc D_cX12_bound_0 14 rfl) (by decide +kernel) ?_
    refine r_callV (As := [.int (iz 15)]) (st := []) (dc D_cX12_bound_0 15 rfl) cw_RX12_225 nm_yX12_clears (CX12_clears hE _ (Rl rfl) _ hσ2 h) lM_0 rfl rfl (by decide) rfl rfl rfl (fun z4 σ5 rz4 hσ5 h => ?_)
    show RW layM E mi_X12_bound Φ 27 [some (.ref (eA E 0)), some (.int (iz a1)), some (.int (iz 12)), some (.int (iz 13)), some (.int (iz 14)), none, none, none] [] σ5 x
    refine r_iconst (n := 0) (dc D_cX12_bound_0 16 rfl) ?_
    refine r_istore (lv' := [some (.ref (eA E 0)), some (.int (iz a1)), some (.int (iz 12)), some (.int (iz 13)), some (.int (iz 14)), some (.int (iz 0)), none, none]) (dc D_cX12_bound_0 17 rfl) rfl rfl ?_
    refine r_iconst (n := 0) (dc D_cX12_bound_0 18 rfl) ?_
    refine r_istore (lv' := [some (.ref (eA E 0)), some (.int (iz a1)), some (.int (iz 12)), some (.int (iz 13)), some (.int (iz 14)), some (.int (iz 0)), some (.int (iz 0)), none]) (dc D_cX12_bound_0 19 rfl) rfl rfl ?_
    obtain ⟨n, h⟩ := h
    exact TX12_bound_33 hE x n _ _ _ _ _ _ _ ra1 (Rl rfl) (Rl rfl) (Rl rfl) (Rl rfl) (Rl rfl) hσ5 h
  · have h := h.2 c3
    refine r_iconst (n := (-1)) (dc D_cX12_bound_0 5 rfl) ?_
    exact r_iret (dc D_cX12_bound_0 6 rfl) rfl (Rl rfl) h
-- end of GateFlowModel.bound
def mi_X12_apart : MI := (cX12_apart, RX12, 3, 5, (some .int), 1)
def LX12_apart_110 (K72 : Int → PS → Prop) (x2 : Int) (σ : PS) (Φ : Int → PS → Prop) : Prop :=
  Rg (x2 + 1) ∧
  K72 (x2 + 1) σ
def BX12_apart_72 (K72 : Int → PS → Prop) (x2 : Int) (σ : PS) (Φ : Int → PS → Prop) : Prop :=
  ((σ 1 2 ≤ x2 →
    Rg (12 + (σ 1 0)) ∧
    FX12_passes (12 + (σ 1 0)) (σ 1 1) σ (fun z3 σ4 =>
    Φ z3 σ4)) ∧
  (¬ σ 1 2 ≤ x2 →
    FX12_capacity x2 σ (fun z5 σ6 =>
    ((z5 ≤ 0 →
      LX12_apart_110 K72 x2 σ6 Φ) ∧
    (¬ z5 ≤ 0 →
      FX12_at x2 0 σ6 (fun z8 σ9 =>
      Rg (12 + z8) ∧
      FX12_at x2 1 σ9 (fun z11 σ12 =>
      FX12_adds (12 + z8) z11 1 σ12 (fun z13 σ14 =>
      LX12_apart_110 K72 x2 σ14 Φ))))))))
def LX12_apart_72 : Nat → Int → PS → (Int → PS → Prop) → Prop
  | 0, _, _, _ => False
  | n + 1, x2, σ, Φ => BX12_apart_72 (fun x2 σ => LX12_apart_72 n x2 σ Φ) x2 σ Φ
def LX12_apart_61 (K19 : Int → Int → PS → Prop) (x1 x2 s1 s2 s3 : Int) (σ : PS) (Φ : Int → PS → Prop) : Prop :=
  FX12_adds s1 s2 s3 σ (fun z1 σ2 =>
  Rg (x2 + 1) ∧
  K19 x1 (x2 + 1) σ2)
def LX12_apart_55 (K19 : Int → Int → PS → Prop) (x1 x2 s1 s2 : Int) (σ : PS) (Φ : Int → PS → Prop) : Prop :=
  LX12_apart_61 K19 x1 x2 s1 s2 30 σ Φ
def BX12_apart_19 (K19 : Int → Int → PS → Prop) (x1 x2 : Int) (σ : PS) (Φ : Int → PS → Prop) : Prop :=
  ((12 ≤ x2 →
    ∃ n, LX12_apart_72 n 0 σ Φ) ∧
  (¬ 12 ≤ x2 →
    Rg (12 + x2) ∧
    ((x1 = 0 →
      LX12_apart_55 K19 x1 x2 x2 (12 + x2) σ Φ) ∧
    (¬ x1 = 0 →
      ((x2 = σ 1 0 →
        LX12_apart_55 K19 x1 x2 x2 (12 + x2) σ Φ) ∧
      (¬ x2 = σ 1 0 →
        ((¬ x2 = σ 1 1 →
          LX12_apart_61 K19 x1 x2 x2 (12 + x2) 1 σ Φ) ∧
        (x2 = σ 1 1 →
          LX12_apart_55 K19 x1 x2 x2 (12 + x2) σ Φ))))))))
def LX12_apart_19 : Nat → Int → Int → PS → (Int → PS → Prop) → Prop
  | 0, _, _, _, _ => False
  | n + 1, x1, x2, σ, Φ => BX12_apart_19 (fun x1 x2 σ => LX12_apart_19 n x1 x2 σ Φ) x1 x2 σ Φ
def FX12_apart (a1 : Int) (σ : PS) (Φ : Int → PS → Prop) : Prop :=
  FX12_in a1 0 1 σ (fun z1 σ2 =>
  ((¬ z1 = 0 →
    FX12_clears 24 σ2 (fun z4 σ5 =>
    ∃ n, LX12_apart_19 n a1 0 σ5 Φ)) ∧
  (z1 = 0 →
    Φ (-1) σ2)))
set_option maxRecDepth 100000 in
theorem TX12_apart_110 {E : EV} (hE : eOK layM E) {Φ : Int → PS → Prop} {K72 : Int → PS → Prop} (x : CX) (hK72 : ∀ (x2 : Int) (σ : PS), Rg x2 → RS σ → K72 x2 σ → RW layM E mi_X12_apart Φ 72 [some (.ref (eA E 0)), none, some (.int (iz x2))] [] σ x) (x2 : Int) (rx2 : Rg x2) (σ : PS) (hs : RS σ) (h : LX12_apart_110 K72 x2 σ Φ) : RW layM E mi_X12_apart Φ 110 [some (.ref (eA E 0)), none, some (.int (iz x2))] [] σ x := by
  obtain ⟨o1, h⟩ := h
  refine r_iinc (lv' := [some (.ref (eA E 0)), none, some (.int (iz (x2 + 1)))]) (dc D_cX12_apart_1 25 rfl) rfl rfl rfl ?_
  refine r_goto (tgt := 72) (dc D_cX12_apart_1 26 rfl) (by decide) ?_
  exact hK72 _ _ o1 hs h
set_option maxRecDepth 100000 in
theorem TBX12_apart_72 {E : EV} (hE : eOK layM E) {Φ : Int → PS → Prop} {K72 : Int → PS → Prop} (x : CX) (hK72 : ∀ (x2 : Int) (σ : PS), Rg x2 → RS σ → K72 x2 σ → RW layM E mi_X12_apart Φ 72 [some (.ref (eA E 0)), none, some (.int (iz x2))] [] σ x) (x2 : Int) (rx2 : Rg x2) (σ : PS) (hs : RS σ) (h : BX12_apart_72 K72 x2 σ Φ) : RW layM E mi_X12_apart Φ 72 [some (.ref (eA E 0)), none, some (.int (iz x2))] [] σ x := by
  refine r_iloadn (dc D_cX12_apart_1 2 rfl) rfl rfl ?_
  refine r_aloadn (dc D_cX12_apart_1 3 rfl) rfl rfl ?_
  refine r_getR (dc D_cX12_apart_1 4 rfl) fw_RX12_9 lM_0 rfl ?_
  refine r_iconst (n := 2) (dc D_cX12_apart_1 5 rfl) ?_
  refine r_iald (N := 183) (dc D_cX12_apart_1 6 rfl) lM_1 rfl rfl ⟨by decide, by decide⟩ ?_
  refine r_icmp_ge (tgt := 116) (dc D_cX12_apart_1 7 rfl) (by decide) rx2 (hs _ _) (fun c1 => ?_) (fun c1 => ?_)
  · have h := h.1 c1
    refine r_aloadn (dc D_cX12_apart_1 27 rfl) rfl rfl ?_
    refine r_bipush (n := 12) (dc D_cX12_apart_1 28 rfl) (by decide +kernel) ?_
    refine r_aloadn (dc D_cX12_apart_1 29 rfl) rfl rfl ?_
    refine r_getR (dc D_cX12_apart_1 30 rfl) fw_RX12_9 lM_0 rfl ?_
    refine r_iconst (n := 0) (dc D_cX12_apart_1 31 rfl) ?_
    refine r_iald (N := 183) (dc D_cX12_apart_1 32 rfl) lM_1 rfl rfl ⟨by decide, by decide⟩ ?_
    refine r_iadd (dc D_cX12_apart_1 33 rfl) ?_
    obtain ⟨o2, h⟩ := h
    refine r_aloadn (dc D_cX12_apart_1 34 rfl) rfl rfl ?_
    refine r_getR (dc D_cX12_apart_1 35 rfl) fw_RX12_9 lM_0 rfl ?_
    refine r_iconst (n := 1) (dc D_cX12_apart_1 36 rfl) ?_
    refine r_iald (N := 183) (dc D_cX12_apart_1 37 rfl) lM_1 rfl rfl ⟨by decide, by decide⟩ ?_
    refine r_callV (As := [.int (iz (12 + (σ 1 0))), .int (iz (σ 1 1))]) (st := []) (dc D_cX12_apart_1 38 rfl) cw_RX12_228 nm_yX12_passes (CX12_passes hE _ _ o2 (hs _ _) _ hs h) lM_0 rfl rfl (by decide) rfl rfl rfl (fun z3 σ4 rz3 hσ4 h => ?_)
    show RW layM E mi_X12_apart Φ 135 [some (.ref (eA E 0)), none, some (.int (iz x2))] [.int (iz z3)] σ4 x
    exact r_iret (dc D_cX12_apart_1 39 rfl) rfl rz3 h
  · have h := h.2 c1
    refine r_aloadn (dc D_cX12_apart_1 8 rfl) rfl rfl ?_
    refine r_iloadn (dc D_cX12_apart_1 9 rfl) rfl rfl ?_
    refine r_callV (As := [.int (iz x2)]) (st := []) (dc D_cX12_apart_1 10 rfl) cw_RX12_150 nm_yX12_capacity (CX12_capacity hE _ rx2 _ hs h) lM_0 rfl rfl (by decide) rfl rfl rfl (fun z5 σ6 rz5 hσ6 h => ?_)
    show RW layM E mi_X12_apart Φ 87 [some (.ref (eA E 0)), none, some (.int (iz x2))] [.int (iz z5)] σ6 x
    refine r_if_le (tgt := 110) (dc D_cX12_apart_1 11 rfl) (by decide) rz5 (fun c7 => ?_) (fun c7 => ?_)
    · have h := h.1 c7
      exact TX12_apart_110 hE x hK72 _ rx2 _ hσ6 h
    · have h := h.2 c7
      refine r_aloadn (dc D_cX12_apart_1 12 rfl) rfl rfl ?_
      refine r_bipush (n := 12) (dc D_cX12_apart_1 13 rfl) (by decide +kernel) ?_
      refine r_aloadn (dc D_cX12_apart_1 14 rfl) rfl rfl ?_
      refine r_iloadn (dc D_cX12_apart_1 15 rfl) rfl rfl ?_
      refine r_iconst (n := 0) (dc D_cX12_apart_1 16 rfl) ?_
      refine r_callV (As := [.int (iz x2), .int (iz 0)]) (st := [.int (iz 12), .ref (eA E 0)]) (dc D_cX12_apart_1 17 rfl) cw_RX12_94 nm_yX12_at (CX12_at hE _ _ rx2 (Rl rfl) _ hσ6 h) lM_0 rfl rfl (by decide) rfl rfl rfl (fun z8 σ9 rz8 hσ9 h => ?_)
      show RW layM E mi_X12_apart Φ 99 [some (.ref (eA E 0)), none, some (.int (iz x2))] [.int (iz z8), .int (iz 12), .ref (eA E 0)] σ9 x
      refine r_iadd (dc D_cX12_apart_1 18 rfl) ?_
      obtain ⟨o10, h⟩ := h
      refine r_aloadn (dc D_cX12_apart_1 19 rfl) rfl rfl ?_
      refine r_iloadn (dc D_cX12_apart_1 20 rfl) rfl rfl ?_
      refine r_iconst (n := 1) (dc D_cX12_apart_1 21 rfl) ?_
      refine r_callV (As := [.int (iz x2), .int (iz 1)]) (st := [.int (iz (12 + z8)), .ref (eA E 0)]) (dc D_cX12_apart_1 22 rfl) cw_RX12_94 nm_yX12_at (CX12_at hE _ _ rx2 (Rl rfl) _ hσ9 h) lM_0 rfl rfl (by decide) rfl rfl rfl (fun z11 σ12 rz11 hσ12 h => ?_)
      show RW layM E mi_X12_apart Φ 106 [some (.ref (eA E 0)), none, some (.int (iz x2))] [.int (iz z11), .int (iz (12 + z8)), .ref (eA E 0)] σ12 x
      refine r_iconst (n := 1) (dc D_cX12_apart_1 23 rfl) ?_
      refine r_callV (As := [.int (iz (12 + z8)), .int (iz z11), .int (iz 1)]) (st := []) (dc D_cX12_apart_1 24 rfl) cw_RX12_222 nm_yX12_adds (CX12_adds hE _ _ _ o10 rz11 (Rl rfl) _ hσ12 h) lM_0 rfl rfl (by decide) rfl rfl rfl (fun z13 σ14 rz13 hσ14 h => ?_)
      show RW layM E mi_X12_apart Φ 110 [some (.ref (eA E 0)), none, some (.int (iz x2))] [] σ14 x
      exact TX12_apart_110 hE x hK72 _ rx2 _ hσ14 h
theorem TX12_apart_72 {E : EV} (hE : eOK layM E) {Φ : Int → PS → Prop} (x : CX) (n : Nat) : ∀ (x2 : Int) (σ : PS), Rg x2 → RS σ → LX12_apart_72 n x2 σ Φ → RW layM E mi_X12_apart Φ 72 [some (.ref (eA E 0)), none, some (.int (iz x2))] [] σ x := by
  induction n with
  | zero => intro x2 σ _ _ h; exact h.elim
  | succ n ih => intro x2 σ rx2 hs h; exact TBX12_apart_72 hE x ih x2 rx2 σ hs h
set_option maxRecDepth 100000 in
theorem TX12_apart_61 {E : EV} (hE : eOK layM E) {Φ : Int → PS → Prop} {K19 : Int → Int → PS → Prop} (x : CX) (hK19 : ∀ (x1 x2 : Int) (σ : PS), Rg x1 → Rg x2 → RS σ → K19 x1 x2 σ → RW layM E mi_X12_apart Φ 19 [some (.ref (eA E 0)), some (.int (iz x1)), some (.int (iz x2))] [] σ x) (x1 x2 s1 s2 s3 : Int) (rx1 : Rg x1) (rx2 : Rg x2) (rs1 : Rg s1) (rs2 : Rg s2) (rs3 : Rg s3) (σ : PS) (hs : RS σ) (h : LX12_apart_61 K19 x1 x2 s1 s2 s3 σ Φ) : RW layM E mi_X12_apart Φ 61 [some (.ref (eA E 0)), some (.int (iz x1)), some (.int (iz x2))] [.int (iz s3), .int (iz s2), .int (iz s1), .ref (eA E 0)] σ x := by
  refine r_callV (As := [.int (iz s1), .int (iz s2), .int (iz s3)]) (st := []) (dc D_cX12_apart_0 37 rfl) cw_RX12_222 nm_yX12_adds (CX12_adds hE _ _ _ rs1 rs2 rs3 _ hs h) lM_0 rfl rfl (by decide) rfl rfl rfl (fun z1 σ2 rz1 hσ2 h => ?_)
  show RW layM E mi_X12_apart Φ 64 [some (.ref (eA E 0)), some (.int (iz x1)), some (.int (iz x2))] [] σ2 x
  obtain ⟨o3, h⟩ := h
  refine r_iinc (lv' := [some (.ref (eA E 0)), some (.int (iz x1)), some (.int (iz (x2 + 1)))]) (dc D_cX12_apart_0 38 rfl) rfl rfl rfl ?_
  refine r_goto (tgt := 19) (dc D_cX12_apart_0 39 rfl) (by decide) ?_
  exact hK19 _ _ _ rx1 o3 hσ2 h
set_option maxRecDepth 100000 in
theorem TX12_apart_55 {E : EV} (hE : eOK layM E) {Φ : Int → PS → Prop} {K19 : Int → Int → PS → Prop} (x : CX) (hK19 : ∀ (x1 x2 : Int) (σ : PS), Rg x1 → Rg x2 → RS σ → K19 x1 x2 σ → RW layM E mi_X12_apart Φ 19 [some (.ref (eA E 0)), some (.int (iz x1)), some (.int (iz x2))] [] σ x) (x1 x2 s1 s2 : Int) (rx1 : Rg x1) (rx2 : Rg x2) (rs1 : Rg s1) (rs2 : Rg s2) (σ : PS) (hs : RS σ) (h : LX12_apart_55 K19 x1 x2 s1 s2 σ Φ) : RW layM E mi_X12_apart Φ 55 [some (.ref (eA E 0)), some (.int (iz x1)), some (.int (iz x2))] [.int (iz s2), .int (iz s1), .ref (eA E 0)] σ x := by
  refine r_bipush (n := 30) (dc D_cX12_apart_0 34 rfl) (by decide +kernel) ?_
  refine r_goto (tgt := 61) (dc D_cX12_apart_0 35 rfl) (by decide) ?_
  exact TX12_apart_61 hE x hK19 _ _ _ _ _ rx1 rx2 rs1 rs2 (Rl rfl) _ hs h
set_option maxRecDepth 100000 in
theorem TBX12_apart_19 {E : EV} (hE : eOK layM E) {Φ : Int → PS → Prop} {K19 : Int → Int → PS → Prop} (x : CX) (hK19 : ∀ (x1 x2 : Int) (σ : PS), Rg x1 → Rg x2 → RS σ → K19 x1 x2 σ → RW layM E mi_X12_apart Φ 19 [some (.ref (eA E 0)), some (.int (iz x1)), some (.int (iz x2))] [] σ x) (x1 x2 : Int) (rx1 : Rg x1) (rx2 : Rg x2) (σ : PS) (hs : RS σ) (h : BX12_apart_19 K19 x1 x2 σ Φ) : RW layM E mi_X12_apart Φ 19 [some (.ref (eA E 0)), some (.int (iz x1)), some (.int (iz x2))] [] σ x := by
  refine r_iloadn (dc D_cX12_apart_0 12 rfl) rfl rfl ?_
  refine r_bipush (n := 12) (dc D_cX12_apart_0 13 rfl) (by decide +kernel) ?_
  refine r_icmp_ge (tgt := 70) (dc D_cX12_apart_0 14 rfl) (by decide) rx2 (Rl rfl) (fun c1 => ?_) (fun c1 => ?_)
  · have h := h.1 c1
    refine r_iconst (n := 0) (dc D_cX12_apart_1 0 rfl) ?_
    refine r_istoren (lv' := [some (.ref (eA E 0)), some (.int (iz x1)), some (.int (iz 0))]) (dc D_cX12_apart_1 1 rfl) rfl rfl rfl ?_
    refine r_sub (lv' := [some (.ref (eA E 0)), none, some (.int (iz 0))]) (subL_s (subL_n (subL_s subL_e))) ?_
    obtain ⟨n, h⟩ := h
    exact TX12_apart_72 hE x n _ _ (Rl rfl) hs h
  · have h := h.2 c1
    refine r_aloadn (dc D_cX12_apart_0 15 rfl) rfl rfl ?_
    refine r_iloadn (dc D_cX12_apart_0 16 rfl) rfl rfl ?_
    refine r_bipush (n := 12) (dc D_cX12_apart_0 17 rfl) (by decide +kernel) ?_
    refine r_iloadn (dc D_cX12_apart_0 18 rfl) rfl rfl ?_
    refine r_iadd (dc D_cX12_apart_0 19 rfl) ?_
    obtain ⟨o2, h⟩ := h
    refine r_iloadn (dc D_cX12_apart_0 20 rfl) rfl rfl ?_
    refine r_if_eq (tgt := 55) (dc D_cX12_apart_0 21 rfl) (by decide) rx1 (fun c3 => ?_) (fun c3 => ?_)
    · have h := h.1 c3
      exact TX12_apart_55 hE x hK19 _ _ _ _ rx1 rx2 rx2 o2 _ hs h
    · have h := h.2 c3
      refine r_iloadn (dc D_cX12_apart_0 22 rfl) rfl rfl ?_
      refine r_aloadn (dc D_cX12_apart_0 23 rfl) rfl rfl ?_
      refine r_getR (dc D_cX12_apart_0 24 rfl) fw_RX12_9 lM_0 rfl ?_
      refine r_iconst (n := 0) (dc D_cX12_apart_0 25 rfl) ?_
      refine r_iald (N := 183) (dc D_cX12_apart_0 26 rfl) lM_1 rfl rfl ⟨by decide, by decide⟩ ?_
      refine r_icmp_eq (tgt := 55) (dc D_cX12_apart_0 27 rfl) (by decide) rx2 (hs _ _) (fun c4 => ?_) (fun c4 => ?_)
      · have h := h.1 c4
        exact TX12_apart_55 hE x hK19 _ _ _ _ rx1 rx2 rx2 o2 _ hs h
      · have h := h.2 c4
        refine r_iloadn (dc D_cX12_apart_0 28 rfl) rfl rfl ?_
        refine r_aloadn (dc D_cX12_apart_0 29 rfl) rfl rfl ?_
        refine r_getR (dc D_cX12_apart_0 30 rfl) fw_RX12_9 lM_0 rfl ?_
        refine r_iconst (n := 1) (dc D_cX12_apart_0 31 rfl) ?_
        refine r_iald (N := 183) (dc D_cX12_apart_0 32 rfl) lM_1 rfl rfl ⟨by decide, by decide⟩ ?_
        refine r_icmp_ne (tgt := 60) (dc D_cX12_apart_0 33 rfl) (by decide) rx2 (hs _ _) (fun c5 => ?_) (fun c5 => ?_)
        · have h := h.1 c5
          refine r_iconst (n := 1) (dc D_cX12_apart_0 36 rfl) ?_
          exact TX12_apart_61 hE x hK19 _ _ _ _ _ rx1 rx2 rx2 o2 (Rl rfl) _ hs h
        · have h := h.2 c5
          exact TX12_apart_55 hE x hK19 _ _ _ _ rx1 rx2 rx2 o2 _ hs h
theorem TX12_apart_19 {E : EV} (hE : eOK layM E) {Φ : Int → PS → Prop} (x : CX) (n : Nat) : ∀ (x1 x2 : Int) (σ : PS), Rg x1 → Rg x2 → RS σ → LX12_apart_19 n x1 x2 σ Φ → RW layM E mi_X12_apart Φ 19 [some (.ref (eA E 0)), some (.int (iz x1)), some (.int (iz x2))] [] σ x := by
  induction n with
  | zero => intro x1 x2 σ _ _ _ h; exact h.elim
  | succ n ih => intro x1 x2 σ rx1 rx2 hs h; exact TBX12_apart_19 hE x ih x1 x2 rx1 rx2 σ hs h
set_option maxRecDepth 100000 in
theorem CX12_apart {E : EV} (hE : eOK layM E) {Φ : Int → PS → Prop} (a1 : Int) (ra1 : Rg a1) (σ : PS) (hs : RS σ) (h : FX12_apart a1 σ Φ) : CT layM E yX12_apart mi_X12_apart [.ref (eA E 0), .int (iz a1)] σ Φ := by
  refine ct_of (by decide +kernel) rfl hE rfl rfl hs (fun x => ?_)
  show RW layM E mi_X12_apart Φ 0 [some (.ref (eA E 0)), some (.int (iz a1)), none] [] σ x
  refine r_iloadn (dc D_cX12_apart_0 0 rfl) rfl rfl ?_
  refine r_iconst (n := 0) (dc D_cX12_apart_0 1 rfl) ?_
  refine r_iconst (n := 1) (dc D_cX12_apart_0 2 rfl) ?_
  refine r_callS (As := [.int (iz a1), .int (iz 0), .int (iz 1)]) (st := []) (dc D_cX12_apart_0 3 rfl) cw_RX12_90 nm_yX12_in (CX12_in hE _ _ _ ra1 (Rl rfl) (Rl rfl) _ hs h) rfl (by decide) rfl rfl rfl (fun z1 σ2 rz1 hσ2 h => ?_)
  show RW layM E mi_X12_apart Φ 6 [some (.ref (eA E 0)), some (.int (iz a1)), none] [.int (iz z1)] σ2 x
  refine r_if_ne (tgt := 11) (dc D_cX12_apart_0 4 rfl) (by decide) rz1 (fun c3 => ?_) (fun c3 => ?_)
  · have h := h.1 c3
    refine r_aloadn (dc D_cX12_apart_0 7 rfl) rfl rfl ?_
    refine r_bipush (n := 24) (dc D_cX12_apart_0 8 rfl) (by decide +kernel) ?_
    refine r_callV (As := [.int (iz 24)]) (st := []) (dc D_cX12_apart_0 9 rfl) cw_RX12_225 nm_yX12_clears (CX12_clears hE _ (Rl rfl) _ hσ2 h) lM_0 rfl rfl (by decide) rfl rfl rfl (fun z4 σ5 rz4 hσ5 h => ?_)
    show RW layM E mi_X12_apart Φ 17 [some (.ref (eA E 0)), some (.int (iz a1)), none] [] σ5 x
    refine r_iconst (n := 0) (dc D_cX12_apart_0 10 rfl) ?_
    refine r_istoren (lv' := [some (.ref (eA E 0)), some (.int (iz a1)), some (.int (iz 0))]) (dc D_cX12_apart_0 11 rfl) rfl rfl rfl ?_
    obtain ⟨n, h⟩ := h
    exact TX12_apart_19 hE x n _ _ _ ra1 (Rl rfl) hσ5 h
  · have h := h.2 c3
    refine r_iconst (n := (-1)) (dc D_cX12_apart_0 5 rfl) ?_
    exact r_iret (dc D_cX12_apart_0 6 rfl) rfl (Rl rfl) h
-- end of GateFlowModel.apart
def mi_X12_hours : MI := (cX12_hours, RX12, 4, 5, (some .int), 1)
def LX12_hours_126 (K25 : Int → Int → PS → Prop) (K66 : Int → Int → Int → PS → Prop) (x1 x2 x3 : Int) (σ : PS) (Φ : Int → PS → Prop) : Prop :=
  Rg (x3 + 1) ∧
  K66 x1 x2 (x3 + 1) σ
def BX12_hours_66 (K25 : Int → Int → PS → Prop) (K66 : Int → Int → Int → PS → Prop) (x1 x2 x3 : Int) (σ : PS) (Φ : Int → PS → Prop) : Prop :=
  ((σ 1 2 ≤ x3 →
    Rg (x2 + 1) ∧
    K25 x1 (x2 + 1) σ) ∧
  (¬ σ 1 2 ≤ x3 →
    FX12_at x3 4 σ (fun z3 σ4 =>
    Rg (x2 + z3) ∧
    ((x1 < x2 + z3 →
      LX12_hours_126 K25 K66 x1 x2 x3 σ4 Φ) ∧
    (¬ x1 < x2 + z3 →
      Rg (12 * x2) ∧
      FX12_at x3 0 σ4 (fun z8 σ9 =>
      Rg ((12 * x2) + z8) ∧
      FX12_at x3 4 σ9 (fun z11 σ12 =>
      Rg (x2 + z11) ∧
      Rg (12 * (x2 + z11)) ∧
      FX12_at x3 1 σ12 (fun z15 σ16 =>
      Rg ((12 * (x2 + z11)) + z15) ∧
      FX12_capacity x3 σ16 (fun z18 σ19 =>
      FX12_adds ((12 * x2) + z8) ((12 * (x2 + z11)) + z15) z18 σ19 (fun z20 σ21 =>
      LX12_hours_126 K25 K66 x1 x2 x3 σ21 Φ))))))))))
def LX12_hours_66 (K25 : Int → Int → PS → Prop) : Nat → Int → Int → Int → PS → (Int → PS → Prop) → Prop
  | 0, _, _, _, _, _ => False
  | n + 1, x1, x2, x3, σ, Φ => BX12_hours_66 K25 (fun x1 x2 x3 σ => LX12_hours_66 K25 n x1 x2 x3 σ Φ) x1 x2 x3 σ Φ
def BX12_hours_32 (K25 : Int → Int → PS → Prop) (K32 : Int → Int → Int → PS → Prop) (x1 x2 x3 : Int) (σ : PS) (Φ : Int → PS → Prop) : Prop :=
  ((12 ≤ x3 →
    ∃ n, LX12_hours_66 K25 n x1 x2 0 σ Φ) ∧
  (¬ 12 ≤ x3 →
    Rg (12 * x2) ∧
    Rg ((12 * x2) + x3) ∧
    Rg (x2 + 1) ∧
    Rg (12 * (x2 + 1)) ∧
    Rg ((12 * (x2 + 1)) + x3) ∧
    FX12_adds ((12 * x2) + x3) ((12 * (x2 + 1)) + x3) 100000000 σ (fun z7 σ8 =>
    Rg (x3 + 1) ∧
    K32 x1 x2 (x3 + 1) σ8)))
def LX12_hours_32 (K25 : Int → Int → PS → Prop) : Nat → Int → Int → Int → PS → (Int → PS → Prop) → Prop
  | 0, _, _, _, _, _ => False
  | n + 1, x1, x2, x3, σ, Φ => BX12_hours_32 K25 (fun x1 x2 x3 σ => LX12_hours_32 K25 n x1 x2 x3 σ Φ) x1 x2 x3 σ Φ
def BX12_hours_25 (K25 : Int → Int → PS → Prop) (x1 x2 : Int) (σ : PS) (Φ : Int → PS → Prop) : Prop :=
  ((x1 ≤ x2 →
    Rg (12 * x1) ∧
    Rg ((12 * x1) + (σ 1 1)) ∧
    FX12_passes (σ 1 0) ((12 * x1) + (σ 1 1)) σ (fun z4 σ5 =>
    Φ z4 σ5)) ∧
  (¬ x1 ≤ x2 →
    ∃ n, LX12_hours_32 K25 n x1 x2 0 σ Φ))
def LX12_hours_25 : Nat → Int → Int → PS → (Int → PS → Prop) → Prop
  | 0, _, _, _, _ => False
  | n + 1, x1, x2, σ, Φ => BX12_hours_25 (fun x1 x2 σ => LX12_hours_25 n x1 x2 σ Φ) x1 x2 σ Φ
def FX12_hours (a1 : Int) (σ : PS) (Φ : Int → PS → Prop) : Prop :=
  FX12_in a1 1 8 σ (fun z1 σ2 =>
  ((¬ z1 = 0 →
    Rg (a1 + 1) ∧
    Rg (12 * (a1 + 1)) ∧
    FX12_clears (12 * (a1 + 1)) σ2 (fun z6 σ7 =>
    ∃ n, LX12_hours_25 n a1 0 σ7 Φ)) ∧
  (z1 = 0 →
    Φ (-2) σ2)))
set_option maxRecDepth 100000 in
theorem TX12_hours_126 {E : EV} (hE : eOK layM E) {Φ : Int → PS → Prop} {K25 : Int → Int → PS → Prop} {K66 : Int → Int → Int → PS → Prop} (x : CX) (hK25 : ∀ (x1 x2 : Int) (σ : PS), Rg x1 → Rg x2 → RS σ → K25 x1 x2 σ → RW layM E mi_X12_hours Φ 25 [some (.ref (eA E 0)), some (.int (iz x1)), some (.int (iz x2)), none] [] σ x) (hK66 : ∀ (x1 x2 x3 : Int) (σ : PS), Rg x1 → Rg x2 → Rg x3 → RS σ → K66 x1 x2 x3 σ → RW layM E mi_X12_hours Φ 66 [some (.ref (eA E 0)), some (.int (iz x1)), some (.int (iz x2)), some (.int (iz x3))] [] σ x) (x1 x2 x3 : Int) (rx1 : Rg x1) (rx2 : Rg x2) (rx3 : Rg x3) (σ : PS) (hs : RS σ) (h : LX12_hours_126 K25 K66 x1 x2 x3 σ Φ) : RW layM E mi_X12_hours Φ 126 [some (.ref (eA E 0)), some (.int (iz x1)), some (.int (iz x2)), some (.int (iz x3))] [] σ x := by
  obtain ⟨o1, h⟩ := h
  refine r_iinc (lv' := [some (.ref (eA E 0)), some (.int (iz x1)), some (.int (iz x2)), some (.int (iz (x3 + 1)))]) (dc D_cX12_hours_2 3 rfl) rfl rfl rfl ?_
  refine r_goto (tgt := 66) (dc D_cX12_hours_2 4 rfl) (by decide) ?_
  exact hK66 _ _ _ _ rx1 rx2 o1 hs h
set_option maxRecDepth 100000 in
theorem TBX12_hours_66 {E : EV} (hE : eOK layM E) {Φ : Int → PS → Prop} {K25 : Int → Int → PS → Prop} {K66 : Int → Int → Int → PS → Prop} (x : CX) (hK25 : ∀ (x1 x2 : Int) (σ : PS), Rg x1 → Rg x2 → RS σ → K25 x1 x2 σ → RW layM E mi_X12_hours Φ 25 [some (.ref (eA E 0)), some (.int (iz x1)), some (.int (iz x2)), none] [] σ x) (hK66 : ∀ (x1 x2 x3 : Int) (σ : PS), Rg x1 → Rg x2 → Rg x3 → RS σ → K66 x1 x2 x3 σ → RW layM E mi_X12_hours Φ 66 [some (.ref (eA E 0)), some (.int (iz x1)), some (.int (iz x2)), some (.int (iz x3))] [] σ x) (x1 x2 x3 : Int) (rx1 : Rg x1) (rx2 : Rg x2) (rx3 : Rg x3) (σ : PS) (hs : RS σ) (h : BX12_hours_66 K25 K66 x1 x2 x3 σ Φ) : RW layM E mi_X12_hours Φ 66 [some (.ref (eA E 0)), some (.int (iz x1)), some (.int (iz x2)), some (.int (iz x3))] [] σ x := by
  refine r_iloadn (dc D_cX12_hours_1 3 rfl) rfl rfl ?_
  refine r_aloadn (dc D_cX12_hours_1 4 rfl) rfl rfl ?_
  refine r_getR (dc D_cX12_hours_1 5 rfl) fw_RX12_9 lM_0 rfl ?_
  refine r_iconst (n := 2) (dc D_cX12_hours_1 6 rfl) ?_
  refine r_iald (N := 183) (dc D_cX12_hours_1 7 rfl) lM_1 rfl rfl ⟨by decide, by decide⟩ ?_
  refine r_icmp_ge (tgt := 132) (dc D_cX12_hours_1 8 rfl) (by decide) rx3 (hs _ _) (fun c1 => ?_) (fun c1 => ?_)
  · have h := h.1 c1
    obtain ⟨o2, h⟩ := h
    refine r_iinc (lv' := [some (.ref (eA E 0)), some (.int (iz x1)), some (.int (iz (x2 + 1))), some (.int (iz x3))]) (dc D_cX12_hours_2 5 rfl) rfl rfl rfl ?_
    refine r_goto (tgt := 25) (dc D_cX12_hours_2 6 rfl) (by decide) ?_
    refine r_sub (lv' := [some (.ref (eA E 0)), some (.int (iz x1)), some (.int (iz (x2 + 1))), none]) (subL_s (subL_s (subL_s (subL_n subL_e)))) ?_
    exact hK25 _ _ _ rx1 o2 hs h
  · have h := h.2 c1
    refine r_iloadn (dc D_cX12_hours_1 9 rfl) rfl rfl ?_
    refine r_aloadn (dc D_cX12_hours_1 10 rfl) rfl rfl ?_
    refine r_iloadn (dc D_cX12_hours_1 11 rfl) rfl rfl ?_
    refine r_iconst (n := 4) (dc D_cX12_hours_1 12 rfl) ?_
    refine r_callV (As := [.int (iz x3), .int (iz 4)]) (st := [.int (iz x2)]) (dc D_cX12_hours_1 13 rfl) cw_RX12_94 nm_yX12_at (CX12_at hE _ _ rx3 (Rl rfl) _ hs h) lM_0 rfl rfl (by decide) rfl rfl rfl (fun z3 σ4 rz3 hσ4 h => ?_)
    show RW layM E mi_X12_hours Φ 83 [some (.ref (eA E 0)), some (.int (iz x1)), some (.int (iz x2)), some (.int (iz x3))] [.int (iz z3), .int (iz x2)] σ4 x
    refine r_iadd (dc D_cX12_hours_1 14 rfl) ?_
    obtain ⟨o5, h⟩ := h
    refine r_iloadn (dc D_cX12_hours_1 15 rfl) rfl rfl ?_
    refine r_icmp_gt (tgt := 126) (dc D_cX12_hours_1 16 rfl) (by decide) o5 rx1 (fun c6 => ?_) (fun c6 => ?_)
    · have h := h.1 c6
      exact TX12_hours_126 hE x hK25 hK66 _ _ _ rx1 rx2 rx3 _ hσ4 h
    · have h := h.2 c6
      refine r_aloadn (dc D_cX12_hours_1 17 rfl) rfl rfl ?_
      refine r_bipush (n := 12) (dc D_cX12_hours_1 18 rfl) (by decide +kernel) ?_
      refine r_iloadn (dc D_cX12_hours_1 19 rfl) rfl rfl ?_
      refine r_imul (dc D_cX12_hours_1 20 rfl) ?_
      obtain ⟨o7, h⟩ := h
      refine r_aloadn (dc D_cX12_hours_1 21 rfl) rfl rfl ?_
      refine r_iloadn (dc D_cX12_hours_1 22 rfl) rfl rfl ?_
      refine r_iconst (n := 0) (dc D_cX12_hours_1 23 rfl) ?_
      refine r_callV (As := [.int (iz x3), .int (iz 0)]) (st := [.int (iz (12 * x2)), .ref (eA E 0)]) (dc D_cX12_hours_1 24 rfl) cw_RX12_94 nm_yX12_at (CX12_at hE _ _ rx3 (Rl rfl) _ hσ4 h) lM_0 rfl rfl (by decide) rfl rfl rfl (fun z8 σ9 rz8 hσ9 h => ?_)
      show RW layM E mi_X12_hours Φ 99 [some (.ref (eA E 0)), some (.int (iz x1)), some (.int (iz x2)), some (.int (iz x3))] [.int (iz z8), .int (iz (12 * x2)), .ref (eA E 0)] σ9 x
      refine r_iadd (dc D_cX12_hours_1 25 rfl) ?_
      obtain ⟨o10, h⟩ := h
      refine r_bipush (n := 12) (dc D_cX12_hours_1 26 rfl) (by decide +kernel) ?_
      refine r_iloadn (dc D_cX12_hours_1 27 rfl) rfl rfl ?_
      refine r_aloadn (dc D_cX12_hours_1 28 rfl) rfl rfl ?_
      refine r_iloadn (dc D_cX12_hours_1 29 rfl) rfl rfl ?_
      refine r_iconst (n := 4) (dc D_cX12_hours_1 30 rfl) ?_
      refine r_callV (As := [.int (iz x3), .int (iz 4)]) (st := [.int (iz x2), .int (iz 12), .int (iz ((12 * x2) + z8)), .ref (eA E 0)]) (dc D_cX12_hours_1 31 rfl) cw_RX12_94 nm_yX12_at (CX12_at hE _ _ rx3 (Rl rfl) _ hσ9 h) lM_0 rfl rfl (by decide) rfl rfl rfl (fun z11 σ12 rz11 hσ12 h => ?_)
      show RW layM E mi_X12_hours Φ 109 [some (.ref (eA E 0)), some (.int (iz x1)), some (.int (iz x2)), some (.int (iz x3))] [.int (iz z11), .int (iz x2), .int (iz 12), .int (iz ((12 * x2) + z8)), .ref (eA E 0)] σ12 x
      refine r_iadd (dc D_cX12_hours_1 32 rfl) ?_
      obtain ⟨o13, h⟩ := h
      refine r_imul (dc D_cX12_hours_1 33 rfl) ?_
      obtain ⟨o14, h⟩ := h
      refine r_aloadn (dc D_cX12_hours_1 34 rfl) rfl rfl ?_
      refine r_iloadn (dc D_cX12_hours_1 35 rfl) rfl rfl ?_
      refine r_iconst (n := 1) (dc D_cX12_hours_1 36 rfl) ?_
      refine r_callV (As := [.int (iz x3), .int (iz 1)]) (st := [.int (iz (12 * (x2 + z11))), .int (iz ((12 * x2) + z8)), .ref (eA E 0)]) (dc D_cX12_hours_1 37 rfl) cw_RX12_94 nm_yX12_at (CX12_at hE _ _ rx3 (Rl rfl) _ hσ12 h) lM_0 rfl rfl (by decide) rfl rfl rfl (fun z15 σ16 rz15 hσ16 h => ?_)
      show RW layM E mi_X12_hours Φ 117 [some (.ref (eA E 0)), some (.int (iz x1)), some (.int (iz x2)), some (.int (iz x3))] [.int (iz z15), .int (iz (12 * (x2 + z11))), .int (iz ((12 * x2) + z8)), .ref (eA E 0)] σ16 x
      refine r_iadd (dc D_cX12_hours_1 38 rfl) ?_
      obtain ⟨o17, h⟩ := h
      refine r_aloadn (dc D_cX12_hours_1 39 rfl) rfl rfl ?_
      refine r_iloadn (dc D_cX12_hours_2 0 rfl) rfl rfl ?_
      refine r_callV (As := [.int (iz x3)]) (st := [.int (iz ((12 * (x2 + z11)) + z15)), .int (iz ((12 * x2) + z8)), .ref (eA E 0)]) (dc D_cX12_hours_2 1 rfl) cw_RX12_150 nm_yX12_capacity (CX12_capacity hE _ rx3 _ hσ16 h) lM_0 rfl rfl (by decide) rfl rfl rfl (fun z18 σ19 rz18 hσ19 h => ?_)
      show RW layM E mi_X12_hours Φ 123 [some (.ref (eA E 0)), some (.int (iz x1)), some (.int (iz x2)), some (.int (iz x3))] [.int (iz z18), .int (iz ((12 * (x2 + z11)) + z15)), .int (iz ((12 * x2) + z8)), .ref (eA E 0)] σ19 x
      refine r_callV (As := [.int (iz ((12 * x2) + z8)), .int (iz ((12 * (x2 + z11)) + z15)), .int (iz z18)]) (st := []) (dc D_cX12_hours_2 2 rfl) cw_RX12_222 nm_yX12_adds (CX12_adds hE _ _ _ o10 o17 rz18 _ hσ19 h) lM_0 rfl rfl (by decide) rfl rfl rfl (fun z20 σ21 rz20 hσ21 h => ?_)
      show RW layM E mi_X12_hours Φ 126 [some (.ref (eA E 0)), some (.int (iz x1)), some (.int (iz x2)), some (.int (iz x3))] [] σ21 x
      exact TX12_hours_126 hE x hK25 hK66 _ _ _ rx1 rx2 rx3 _ hσ21 h
theorem TX12_hours_66 {E : EV} (hE : eOK layM E) {Φ : Int → PS → Prop} {K25 : Int → Int → PS → Prop} (x : CX) (hK25 : ∀ (x1 x2 : Int) (σ : PS), Rg x1 → Rg x2 → RS σ → K25 x1 x2 σ → RW layM E mi_X12_hours Φ 25 [some (.ref (eA E 0)), some (.int (iz x1)), some (.int (iz x2)), none] [] σ x) (n : Nat) : ∀ (x1 x2 x3 : Int) (σ : PS), Rg x1 → Rg x2 → Rg x3 → RS σ → LX12_hours_66 K25 n x1 x2 x3 σ Φ → RW layM E mi_X12_hours Φ 66 [some (.ref (eA E 0)), some (.int (iz x1)), some (.int (iz x2)), some (.int (iz x3))] [] σ x := by
  induction n with
  | zero => intro x1 x2 x3 σ _ _ _ _ h; exact h.elim
  | succ n ih => intro x1 x2 x3 σ rx1 rx2 rx3 hs h; exact TBX12_hours_66 hE x hK25 ih x1 x2 x3 rx1 rx2 rx3 σ hs h
set_option maxRecDepth 100000 in
theorem TBX12_hours_32 {E : EV} (hE : eOK layM E) {Φ : Int → PS → Prop} {K25 : Int → Int → PS → Prop} {K32 : Int → Int → Int → PS → Prop} (x : CX) (hK25 : ∀ (x1 x2 : Int) (σ : PS), Rg x1 → Rg x2 → RS σ → K25 x1 x2 σ → RW layM E mi_X12_hours Φ 25 [some (.ref (eA E 0)), some (.int (iz x1)), some (.int (iz x2)), none] [] σ x) (hK32 : ∀ (x1 x2 x3 : Int) (σ : PS), Rg x1 → Rg x2 → Rg x3 → RS σ → K32 x1 x2 x3 σ → RW layM E mi_X12_hours Φ 32 [some (.ref (eA E 0)), some (.int (iz x1)), some (.int (iz x2)), some (.int (iz x3))] [] σ x) (x1 x2 x3 : Int) (rx1 : Rg x1) (rx2 : Rg x2) (rx3 : Rg x3) (σ : PS) (hs : RS σ) (h : BX12_hours_32 K25 K32 x1 x2 x3 σ Φ) : RW layM E mi_X12_hours Φ 32 [some (.ref (eA E 0)), some (.int (iz x1)), some (.int (iz x2)), some (.int (iz x3))] [] σ x := by
  refine r_iloadn (dc D_cX12_hours_0 21 rfl) rfl rfl ?_
  refine r_bipush (n := 12) (dc D_cX12_hours_0 22 rfl) (by decide +kernel) ?_
  refine r_icmp_ge (tgt := 64) (dc D_cX12_hours_0 23 rfl) (by decide) rx3 (Rl rfl) (fun c1 => ?_) (fun c1 => ?_)
  · have h := h.1 c1
    refine r_iconst (n := 0) (dc D_cX12_hours_1 1 rfl) ?_
    refine r_istoren (lv' := [some (.ref (eA E 0)), some (.int (iz x1)), some (.int (iz x2)), some (.int (iz 0))]) (dc D_cX12_hours_1 2 rfl) rfl rfl rfl ?_
    obtain ⟨n, h⟩ := h
    exact TX12_hours_66 hE x hK25 n _ _ _ _ rx1 rx2 (Rl rfl) hs h
  · have h := h.2 c1
    refine r_aloadn (dc D_cX12_hours_0 24 rfl) rfl rfl ?_
    refine r_bipush (n := 12) (dc D_cX12_hours_0 25 rfl) (by decide +kernel) ?_
    refine r_iloadn (dc D_cX12_hours_0 26 rfl) rfl rfl ?_
    refine r_imul (dc D_cX12_hours_0 27 rfl) ?_
    obtain ⟨o2, h⟩ := h
    refine r_iloadn (dc D_cX12_hours_0 28 rfl) rfl rfl ?_
    refine r_iadd (dc D_cX12_hours_0 29 rfl) ?_
    obtain ⟨o3, h⟩ := h
    refine r_bipush (n := 12) (dc D_cX12_hours_0 30 rfl) (by decide +kernel) ?_
    refine r_iloadn (dc D_cX12_hours_0 31 rfl) rfl rfl ?_
    refine r_iconst (n := 1) (dc D_cX12_hours_0 32 rfl) ?_
    refine r_iadd (dc D_cX12_hours_0 33 rfl) ?_
    obtain ⟨o4, h⟩ := h
    refine r_imul (dc D_cX12_hours_0 34 rfl) ?_
    obtain ⟨o5, h⟩ := h
    refine r_iloadn (dc D_cX12_hours_0 35 rfl) rfl rfl ?_
    refine r_iadd (dc D_cX12_hours_0 36 rfl) ?_
    obtain ⟨o6, h⟩ := h
    refine r_ldc (n := (100000000)) (dc D_cX12_hours_0 37 rfl) kw_RX12_141 ?_
    refine r_callV (As := [.int (iz ((12 * x2) + x3)), .int (iz ((12 * (x2 + 1)) + x3)), .int (iz 100000000)]) (st := []) (dc D_cX12_hours_0 38 rfl) cw_RX12_222 nm_yX12_adds (CX12_adds hE _ _ _ o3 o6 (Rl rfl) _ hs h) lM_0 rfl rfl (by decide) rfl rfl rfl (fun z7 σ8 rz7 hσ8 h => ?_)
    show RW layM E mi_X12_hours Φ 58 [some (.ref (eA E 0)), some (.int (iz x1)), some (.int (iz x2)), some (.int (iz x3))] [] σ8 x
    obtain ⟨o9, h⟩ := h
    refine r_iinc (lv' := [some (.ref (eA E 0)), some (.int (iz x1)), some (.int (iz x2)), some (.int (iz (x3 + 1)))]) (dc D_cX12_hours_0 39 rfl) rfl rfl rfl ?_
    refine r_goto (tgt := 32) (dc D_cX12_hours_1 0 rfl) (by decide) ?_
    exact hK32 _ _ _ _ rx1 rx2 o9 hσ8 h
theorem TX12_hours_32 {E : EV} (hE : eOK layM E) {Φ : Int → PS → Prop} {K25 : Int → Int → PS → Prop} (x : CX) (hK25 : ∀ (x1 x2 : Int) (σ : PS), Rg x1 → Rg x2 → RS σ → K25 x1 x2 σ → RW layM E mi_X12_hours Φ 25 [some (.ref (eA E 0)), some (.int (iz x1)), some (.int (iz x2)), none] [] σ x) (n : Nat) : ∀ (x1 x2 x3 : Int) (σ : PS), Rg x1 → Rg x2 → Rg x3 → RS σ → LX12_hours_32 K25 n x1 x2 x3 σ Φ → RW layM E mi_X12_hours Φ 32 [some (.ref (eA E 0)), some (.int (iz x1)), some (.int (iz x2)), some (.int (iz x3))] [] σ x := by
  induction n with
  | zero => intro x1 x2 x3 σ _ _ _ _ h; exact h.elim
  | succ n ih => intro x1 x2 x3 σ rx1 rx2 rx3 hs h; exact TBX12_hours_32 hE x hK25 ih x1 x2 x3 rx1 rx2 rx3 σ hs h
set_option maxRecDepth 100000 in
theorem TBX12_hours_25 {E : EV} (hE : eOK layM E) {Φ : Int → PS → Prop} {K25 : Int → Int → PS → Prop} (x : CX) (hK25 : ∀ (x1 x2 : Int) (σ : PS), Rg x1 → Rg x2 → RS σ → K25 x1 x2 σ → RW layM E mi_X12_hours Φ 25 [some (.ref (eA E 0)), some (.int (iz x1)), some (.int (iz x2)), none] [] σ x) (x1 x2 : Int) (rx1 : Rg x1) (rx2 : Rg x2) (σ : PS) (hs : RS σ) (h : BX12_hours_25 K25 x1 x2 σ Φ) : RW layM E mi_X12_hours Φ 25 [some (.ref (eA E 0)), some (.int (iz x1)), some (.int (iz x2)), none] [] σ x := by
  refine r_iloadn (dc D_cX12_hours_0 16 rfl) rfl rfl ?_
  refine r_iloadn (dc D_cX12_hours_0 17 rfl) rfl rfl ?_
  refine r_icmp_ge (tgt := 138) (dc D_cX12_hours_0 18 rfl) (by decide) rx2 rx1 (fun c1 => ?_) (fun c1 => ?_)
  · have h := h.1 c1
    refine r_aloadn (dc D_cX12_hours_2 7 rfl) rfl rfl ?_
    refine r_aloadn (dc D_cX12_hours_2 8 rfl) rfl rfl ?_
    refine r_getR (dc D_cX12_hours_2 9 rfl) fw_RX12_9 lM_0 rfl ?_
    refine r_iconst (n := 0) (dc D_cX12_hours_2 10 rfl) ?_
    refine r_iald (N := 183) (dc D_cX12_hours_2 11 rfl) lM_1 rfl rfl ⟨by decide, by decide⟩ ?_
    refine r_bipush (n := 12) (dc D_cX12_hours_2 12 rfl) (by decide +kernel) ?_
    refine r_iloadn (dc D_cX12_hours_2 13 rfl) rfl rfl ?_
    refine r_imul (dc D_cX12_hours_2 14 rfl) ?_
    obtain ⟨o2, h⟩ := h
    refine r_aloadn (dc D_cX12_hours_2 15 rfl) rfl rfl ?_
    refine r_getR (dc D_cX12_hours_2 16 rfl) fw_RX12_9 lM_0 rfl ?_
    refine r_iconst (n := 1) (dc D_cX12_hours_2 17 rfl) ?_
    refine r_iald (N := 183) (dc D_cX12_hours_2 18 rfl) lM_1 rfl rfl ⟨by decide, by decide⟩ ?_
    refine r_iadd (dc D_cX12_hours_2 19 rfl) ?_
    obtain ⟨o3, h⟩ := h
    refine r_callV (As := [.int (iz (σ 1 0)), .int (iz ((12 * x1) + (σ 1 1)))]) (st := []) (dc D_cX12_hours_2 20 rfl) cw_RX12_228 nm_yX12_passes (CX12_passes hE _ _ (hs _ _) o3 _ hs h) lM_0 rfl rfl (by decide) rfl rfl rfl (fun z4 σ5 rz4 hσ5 h => ?_)
    show RW layM E mi_X12_hours Φ 159 [some (.ref (eA E 0)), some (.int (iz x1)), some (.int (iz x2)), none] [.int (iz z4)] σ5 x
    exact r_iret (dc D_cX12_hours_2 21 rfl) rfl rz4 h
  · have h := h.2 c1
    refine r_iconst (n := 0) (dc D_cX12_hours_0 19 rfl) ?_
    refine r_istoren (lv' := [some (.ref (eA E 0)), some (.int (iz x1)), some (.int (iz x2)), some (.int (iz 0))]) (dc D_cX12_hours_0 20 rfl) rfl rfl rfl ?_
    obtain ⟨n, h⟩ := h
    exact TX12_hours_32 hE x hK25 n _ _ _ _ rx1 rx2 (Rl rfl) hs h
theorem TX12_hours_25 {E : EV} (hE : eOK layM E) {Φ : Int → PS → Prop} (x : CX) (n : Nat) : ∀ (x1 x2 : Int) (σ : PS), Rg x1 → Rg x2 → RS σ → LX12_hours_25 n x1 x2 σ Φ → RW layM E mi_X12_hours Φ 25 [some (.ref (eA E 0)), some (.int (iz x1)), some (.int (iz x2)), none] [] σ x := by
  induction n with
  | zero => intro x1 x2 σ _ _ _ h; exact h.elim
  | succ n ih => intro x1 x2 σ rx1 rx2 hs h; exact TBX12_hours_25 hE x ih x1 x2 rx1 rx2 σ hs h
set_option maxRecDepth 100000 in
theorem CX12_hours {E : EV} (hE : eOK layM E) {Φ : Int → PS → Prop} (a1 : Int) (ra1 : Rg a1) (σ : PS) (hs : RS σ) (h : FX12_hours a1 σ Φ) : CT layM E yX12_hours mi_X12_hours [.ref (eA E 0), .int (iz a1)] σ Φ := by
  refine ct_of (by decide +kernel) rfl hE rfl rfl hs (fun x => ?_)
  show RW layM E mi_X12_hours Φ 0 [some (.ref (eA E 0)), some (.int (iz a1)), none, none] [] σ x
  refine r_iloadn (dc D_cX12_hours_0 0 rfl) rfl rfl ?_
  refine r_iconst (n := 1) (dc D_cX12_hours_0 1 rfl) ?_
  refine r_bipush (n := 8) (dc D_cX12_hours_0 2 rfl) (by decide +kernel) ?_
  refine r_callS (As := [.int (iz a1), .int (iz 1), .int (iz 8)]) (st := []) (dc D_cX12_hours_0 3 rfl) cw_RX12_90 nm_yX12_in (CX12_in hE _ _ _ ra1 (Rl rfl) (Rl rfl) _ hs h) rfl (by decide) rfl rfl rfl (fun z1 σ2 rz1 hσ2 h => ?_)
  show RW layM E mi_X12_hours Φ 7 [some (.ref (eA E 0)), some (.int (iz a1)), none, none] [.int (iz z1)] σ2 x
  refine r_if_ne (tgt := 13) (dc D_cX12_hours_0 4 rfl) (by decide) rz1 (fun c3 => ?_) (fun c3 => ?_)
  · have h := h.1 c3
    refine r_aloadn (dc D_cX12_hours_0 7 rfl) rfl rfl ?_
    refine r_bipush (n := 12) (dc D_cX12_hours_0 8 rfl) (by decide +kernel) ?_
    refine r_iloadn (dc D_cX12_hours_0 9 rfl) rfl rfl ?_
    refine r_iconst (n := 1) (dc D_cX12_hours_0 10 rfl) ?_
    refine r_iadd (dc D_cX12_hours_0 11 rfl) ?_
    obtain ⟨o4, h⟩ := h
    refine r_imul (dc D_cX12_hours_0 12 rfl) ?_
    obtain ⟨o5, h⟩ := h
    refine r_callV (As := [.int (iz (12 * (a1 + 1)))]) (st := []) (dc D_cX12_hours_0 13 rfl) cw_RX12_225 nm_yX12_clears (CX12_clears hE _ o5 _ hσ2 h) lM_0 rfl rfl (by decide) rfl rfl rfl (fun z6 σ7 rz6 hσ7 h => ?_)
    show RW layM E mi_X12_hours Φ 23 [some (.ref (eA E 0)), some (.int (iz a1)), none, none] [] σ7 x
    refine r_iconst (n := 0) (dc D_cX12_hours_0 14 rfl) ?_
    refine r_istoren (lv' := [some (.ref (eA E 0)), some (.int (iz a1)), some (.int (iz 0)), none]) (dc D_cX12_hours_0 15 rfl) rfl rfl rfl ?_
    obtain ⟨n, h⟩ := h
    exact TX12_hours_25 hE x n _ _ _ ra1 (Rl rfl) hσ7 h
  · have h := h.2 c3
    refine r_bipush (n := (-2)) (dc D_cX12_hours_0 5 rfl) (by decide +kernel) ?_
    exact r_iret (dc D_cX12_hours_0 6 rfl) rfl (Rl rfl) h
-- end of GateFlowModel.hours
def mi_X12_areAlike : MI := (cX12_areAlike, RX12, 3, 2, (some .boolean), 1)
def FX12_areAlike (a1 a2 : Int) (σ : PS) (Φ : Int → PS → Prop) : Prop :=
  FX12_at a1 0 σ (fun z1 σ2 =>
  FX12_at a2 0 σ2 (fun z3 σ4 =>
  ((¬ z1 = z3 →
    Φ 0 σ4) ∧
  (z1 = z3 →
    FX12_at a1 1 σ4 (fun z6 σ7 =>
    FX12_at a2 1 σ7 (fun z8 σ9 =>
    ((¬ z6 = z8 →
      Φ 0 σ9) ∧
    (z6 = z8 →
      Φ 1 σ9))))))))
set_option maxRecDepth 100000 in
theorem CX12_areAlike {E : EV} (hE : eOK layM E) {Φ : Int → PS → Prop} (a1 a2 : Int) (ra1 : Rg a1) (ra2 : Rg a2) (σ : PS) (hs : RS σ) (h : FX12_areAlike a1 a2 σ Φ) : CT layM E yX12_areAlike mi_X12_areAlike [.ref (eA E 0), .int (iz a1), .int (iz a2)] σ Φ := by
  refine ct_of (by decide +kernel) rfl hE rfl rfl hs (fun x => ?_)
  show RW layM E mi_X12_areAlike Φ 0 [some (.ref (eA E 0)), some (.int (iz a1)), some (.int (iz a2))] [] σ x
  refine r_aloadn (dc D_cX12_areAlike_0 0 rfl) rfl rfl ?_
  refine r_iloadn (dc D_cX12_areAlike_0 1 rfl) rfl rfl ?_
  refine r_iconst (n := 0) (dc D_cX12_areAlike_0 2 rfl) ?_
  refine r_callV (As := [.int (iz a1), .int (iz 0)]) (st := []) (dc D_cX12_areAlike_0 3 rfl) cw_RX12_94 nm_yX12_at (CX12_at hE _ _ ra1 (Rl rfl) _ hs h) lM_0 rfl rfl (by decide) rfl rfl rfl (fun z1 σ2 rz1 hσ2 h => ?_)
  show RW layM E mi_X12_areAlike Φ 6 [some (.ref (eA E 0)), some (.int (iz a1)), some (.int (iz a2))] [.int (iz z1)] σ2 x
  refine r_aloadn (dc D_cX12_areAlike_0 4 rfl) rfl rfl ?_
  refine r_iloadn (dc D_cX12_areAlike_0 5 rfl) rfl rfl ?_
  refine r_iconst (n := 0) (dc D_cX12_areAlike_0 6 rfl) ?_
  refine r_callV (As := [.int (iz a2), .int (iz 0)]) (st := [.int (iz z1)]) (dc D_cX12_areAlike_0 7 rfl) cw_RX12_94 nm_yX12_at (CX12_at hE _ _ ra2 (Rl rfl) _ hσ2 h) lM_0 rfl rfl (by decide) rfl rfl rfl (fun z3 σ4 rz3 hσ4 h => ?_)
  show RW layM E mi_X12_areAlike Φ 12 [some (.ref (eA E 0)), some (.int (iz a1)), some (.int (iz a2))] [.int (iz z3), .int (iz z1)] σ4 x
  refine r_icmp_ne (tgt := 34) (dc D_cX12_areAlike_0 8 rfl) (by decide) rz1 rz3 (fun c5 => ?_) (fun c5 => ?_)
  · have h := h.1 c5
    refine r_iconst (n := 0) (dc D_cX12_areAlike_0 20 rfl) ?_
    exact r_zret (dc D_cX12_areAlike_0 21 rfl) rfl (by decide) h
  · have h := h.2 c5
    refine r_aloadn (dc D_cX12_areAlike_0 9 rfl) rfl rfl ?_
    refine r_iloadn (dc D_cX12_areAlike_0 10 rfl) rfl rfl ?_
    refine r_iconst (n := 1) (dc D_cX12_areAlike_0 11 rfl) ?_
    refine r_callV (As := [.int (iz a1), .int (iz 1)]) (st := []) (dc D_cX12_areAlike_0 12 rfl) cw_RX12_94 nm_yX12_at (CX12_at hE _ _ ra1 (Rl rfl) _ hσ4 h) lM_0 rfl rfl (by decide) rfl rfl rfl (fun z6 σ7 rz6 hσ7 h => ?_)
    show RW layM E mi_X12_areAlike Φ 21 [some (.ref (eA E 0)), some (.int (iz a1)), some (.int (iz a2))] [.int (iz z6)] σ7 x
    refine r_aloadn (dc D_cX12_areAlike_0 13 rfl) rfl rfl ?_
    refine r_iloadn (dc D_cX12_areAlike_0 14 rfl) rfl rfl ?_
    refine r_iconst (n := 1) (dc D_cX12_areAlike_0 15 rfl) ?_
    refine r_callV (As := [.int (iz a2), .int (iz 1)]) (st := [.int (iz z6)]) (dc D_cX12_areAlike_0 16 rfl) cw_RX12_94 nm_yX12_at (CX12_at hE _ _ ra2 (Rl rfl) _ hσ7 h) lM_0 rfl rfl (by decide) rfl rfl rfl (fun z8 σ9 rz8 hσ9 h => ?_)
    show RW layM E mi_X12_areAlike Φ 27 [some (.ref (eA E 0)), some (.int (iz a1)), some (.int (iz a2))] [.int (iz z8), .int (iz z6)] σ9 x
    refine r_icmp_ne (tgt := 34) (dc D_cX12_areAlike_0 17 rfl) (by decide) rz6 rz8 (fun c10 => ?_) (fun c10 => ?_)
    · have h := h.1 c10
      refine r_iconst (n := 0) (dc D_cX12_areAlike_0 20 rfl) ?_
      exact r_zret (dc D_cX12_areAlike_0 21 rfl) rfl (by decide) h
    · have h := h.2 c10
      refine r_iconst (n := 1) (dc D_cX12_areAlike_0 18 rfl) ?_
      refine r_goto (tgt := 35) (dc D_cX12_areAlike_0 19 rfl) (by decide) ?_
      exact r_zret (dc D_cX12_areAlike_0 21 rfl) rfl (by decide) h
-- end of GateFlowModel.areAlike
def mi_X12_isFirst : MI := (cX12_isFirst, RX12, 3, 3, (some .boolean), 1)
def BX12_isFirst_2 (K2 : Int → Int → PS → Prop) (x1 x2 : Int) (σ : PS) (Φ : Int → PS → Prop) : Prop :=
  ((x1 ≤ x2 →
    Φ 1 σ) ∧
  (¬ x1 ≤ x2 →
    FX12_areAlike x1 x2 σ (fun z2 σ3 =>
    ((z2 = 0 →
      Rg (x2 + 1) ∧
      K2 x1 (x2 + 1) σ3) ∧
    (¬ z2 = 0 →
      Φ 0 σ3)))))
def LX12_isFirst_2 : Nat → Int → Int → PS → (Int → PS → Prop) → Prop
  | 0, _, _, _, _ => False
  | n + 1, x1, x2, σ, Φ => BX12_isFirst_2 (fun x1 x2 σ => LX12_isFirst_2 n x1 x2 σ Φ) x1 x2 σ Φ
def FX12_isFirst (a1 : Int) (σ : PS) (Φ : Int → PS → Prop) : Prop :=
  ∃ n, LX12_isFirst_2 n a1 0 σ Φ
theorem cw_RX12_237 : CWV RX12 237 yX12_areAlike mi_X12_areAlike := tb_r [1582, 1584, 74, 110, 1585] (by decide +kernel)
theorem nm_yX12_areAlike : ynm yX12_areAlike 2 := ⟨⟨by decide +kernel, by decide +kernel⟩, by decide +kernel⟩
set_option maxRecDepth 100000 in
theorem TBX12_isFirst_2 {E : EV} (hE : eOK layM E) {Φ : Int → PS → Prop} {K2 : Int → Int → PS → Prop} (x : CX) (hK2 : ∀ (x1 x2 : Int) (σ : PS), Rg x1 → Rg x2 → RS σ → K2 x1 x2 σ → RW layM E mi_X12_isFirst Φ 2 [some (.ref (eA E 0)), some (.int (iz x1)), some (.int (iz x2))] [] σ x) (x1 x2 : Int) (rx1 : Rg x1) (rx2 : Rg x2) (σ : PS) (hs : RS σ) (h : BX12_isFirst_2 K2 x1 x2 σ Φ) : RW layM E mi_X12_isFirst Φ 2 [some (.ref (eA E 0)), some (.int (iz x1)), some (.int (iz x2))] [] σ x := by
  refine r_iloadn (dc D_cX12_isFirst_0 2 rfl) rfl rfl ?_
  refine r_iloadn (dc D_cX12_isFirst_0 3 rfl) rfl rfl ?_
  refine r_icmp_ge (tgt := 24) (dc D_cX12_isFirst_0 4 rfl) (by decide) rx2 rx1 (fun c1 => ?_) (fun c1 => ?_)
  · have h := h.1 c1
    refine r_iconst (n := 1) (dc D_cX12_isFirst_0 14 rfl) ?_
    exact r_zret (dc D_cX12_isFirst_0 15 rfl) rfl (by decide) h
  · have h := h.2 c1
    refine r_aloadn (dc D_cX12_isFirst_0 5 rfl) rfl rfl ?_
    refine r_iloadn (dc D_cX12_isFirst_0 6 rfl) rfl rfl ?_
    refine r_iloadn (dc D_cX12_isFirst_0 7 rfl) rfl rfl ?_
    refine r_callV (As := [.int (iz x1), .int (iz x2)]) (st := []) (dc D_cX12_isFirst_0 8 rfl) cw_RX12_237 nm_yX12_areAlike (CX12_areAlike hE _ _ rx1 rx2 _ hs h) lM_0 rfl rfl (by decide) rfl rfl rfl (fun z2 σ3 rz2 hσ3 h => ?_)
    show RW layM E mi_X12_isFirst Φ 13 [some (.ref (eA E 0)), some (.int (iz x1)), some (.int (iz x2))] [.int (iz z2)] σ3 x
    refine r_if_eq (tgt := 18) (dc D_cX12_isFirst_0 9 rfl) (by decide) rz2 (fun c4 => ?_) (fun c4 => ?_)
    · have h := h.1 c4
      obtain ⟨o5, h⟩ := h
      refine r_iinc (lv' := [some (.ref (eA E 0)), some (.int (iz x1)), some (.int (iz (x2 + 1)))]) (dc D_cX12_isFirst_0 12 rfl) rfl rfl rfl ?_
      refine r_goto (tgt := 2) (dc D_cX12_isFirst_0 13 rfl) (by decide) ?_
      exact hK2 _ _ _ rx1 o5 hσ3 h
    · have h := h.2 c4
      refine r_iconst (n := 0) (dc D_cX12_isFirst_0 10 rfl) ?_
      exact r_zret (dc D_cX12_isFirst_0 11 rfl) rfl (by decide) h
theorem TX12_isFirst_2 {E : EV} (hE : eOK layM E) {Φ : Int → PS → Prop} (x : CX) (n : Nat) : ∀ (x1 x2 : Int) (σ : PS), Rg x1 → Rg x2 → RS σ → LX12_isFirst_2 n x1 x2 σ Φ → RW layM E mi_X12_isFirst Φ 2 [some (.ref (eA E 0)), some (.int (iz x1)), some (.int (iz x2))] [] σ x := by
  induction n with
  | zero => intro x1 x2 σ _ _ _ h; exact h.elim
  | succ n ih => intro x1 x2 σ rx1 rx2 hs h; exact TBX12_isFirst_2 hE x ih x1 x2 rx1 rx2 σ hs h
set_option maxRecDepth 100000 in
theorem CX12_isFirst {E : EV} (hE : eOK layM E) {Φ : Int → PS → Prop} (a1 : Int) (ra1 : Rg a1) (σ : PS) (hs : RS σ) (h : FX12_isFirst a1 σ Φ) : CT layM E yX12_isFirst mi_X12_isFirst [.ref (eA E 0), .int (iz a1)] σ Φ := by
  refine ct_of (by decide +kernel) rfl hE rfl rfl hs (fun x => ?_)
  show RW layM E mi_X12_isFirst Φ 0 [some (.ref (eA E 0)), some (.int (iz a1)), none] [] σ x
  refine r_iconst (n := 0) (dc D_cX12_isFirst_0 0 rfl) ?_
  refine r_istoren (lv' := [some (.ref (eA E 0)), some (.int (iz a1)), some (.int (iz 0))]) (dc D_cX12_isFirst_0 1 rfl) rfl rfl rfl ?_
  obtain ⟨n, h⟩ := h
  exact TX12_isFirst_2 hE x n _ _ _ ra1 (Rl rfl) hs h
-- end of GateFlowModel.isFirst
def mi_X12_tellsTwo : MI := (cX12_tellsTwo, RX12, 6, 4, (some .int), 1)
def LX12_tellsTwo_59 (K8 : Int → Int → Int → Int → Int → PS → Prop) (x1 x2 x3 x5 s0 s1 : Int) (σ : PS) (Φ : Int → PS → Prop) : Prop :=
  Rg (s0 + s1) ∧
  ∀ v2 : Int, v2 = s0 + s1 →
  Rg (x5 + 1) ∧
  K8 x1 x2 x3 v2 (x5 + 1) σ
def LX12_tellsTwo_35 (K8 : Int → Int → Int → Int → Int → PS → Prop) (x1 x2 x4 x5 s0 s1 : Int) (σ : PS) (Φ : Int → PS → Prop) : Prop :=
  Rg (s0 + s1) ∧
  ∀ v2 : Int, v2 = s0 + s1 →
  FX12_areAlike x1 x5 σ (fun z3 σ4 =>
  ((z3 = 0 →
    LX12_tellsTwo_59 K8 x1 x2 v2 x5 x4 0 σ4 Φ) ∧
  (¬ z3 = 0 →
    FX12_capacity x5 σ4 (fun z6 σ7 =>
    LX12_tellsTwo_59 K8 x1 x2 v2 x5 x4 z6 σ7 Φ))))
def BX12_tellsTwo_8 (K8 : Int → Int → Int → Int → Int → PS → Prop) (x1 x2 x3 x4 x5 : Int) (σ : PS) (Φ : Int → PS → Prop) : Prop :=
  ((σ 1 2 ≤ x5 →
    ((2 ≤ x2 →
      ((¬ x2 = 2 →
        Φ x4 σ) ∧
      (x2 = 2 →
        Φ x3 σ))) ∧
    (¬ 2 ≤ x2 →
      FX12_at x1 x2 σ (fun z4 σ5 =>
      Φ z4 σ5)))) ∧
  (¬ σ 1 2 ≤ x5 →
    FX12_areAlike x1 x5 σ (fun z6 σ7 =>
    ((z6 = 0 →
      LX12_tellsTwo_35 K8 x1 x2 x4 x5 x3 0 σ7 Φ) ∧
    (¬ z6 = 0 →
      LX12_tellsTwo_35 K8 x1 x2 x4 x5 x3 1 σ7 Φ)))))
def LX12_tellsTwo_8 : Nat → Int → Int → Int → Int → Int → PS → (Int → PS → Prop) → Prop
  | 0, _, _, _, _, _, _, _ => False
  | n + 1, x1, x2, x3, x4, x5, σ, Φ => BX12_tellsTwo_8 (fun x1 x2 x3 x4 x5 σ => LX12_tellsTwo_8 n x1 x2 x3 x4 x5 σ Φ) x1 x2 x3 x4 x5 σ Φ
def FX12_tellsTwo (a1 a2 : Int) (σ : PS) (Φ : Int → PS → Prop) : Prop :=
  ∃ n, LX12_tellsTwo_8 n a1 a2 0 0 a1 σ Φ
set_option maxRecDepth 100000 in
theorem TX12_tellsTwo_59 {E : EV} (hE : eOK layM E) {Φ : Int → PS → Prop} {K8 : Int → Int → Int → Int → Int → PS → Prop} (x : CX) (hK8 : ∀ (x1 x2 x3 x4 x5 : Int) (σ : PS), Rg x1 → Rg x2 → Rg x3 → Rg x4 → Rg x5 → RS σ → K8 x1 x2 x3 x4 x5 σ → RW layM E mi_X12_tellsTwo Φ 8 [some (.ref (eA E 0)), some (.int (iz x1)), some (.int (iz x2)), some (.int (iz x3)), some (.int (iz x4)), some (.int (iz x5))] [] σ x) (x1 x2 x3 x5 s0 s1 : Int) (rx1 : Rg x1) (rx2 : Rg x2) (rx3 : Rg x3) (rx5 : Rg x5) (rs0 : Rg s0) (rs1 : Rg s1) (σ : PS) (hs : RS σ) (h : LX12_tellsTwo_59 K8 x1 x2 x3 x5 s0 s1 σ Φ) : RW layM E mi_X12_tellsTwo Φ 59 [some (.ref (eA E 0)), some (.int (iz x1)), some (.int (iz x2)), some (.int (iz x3)), none, some (.int (iz x5))] [.int (iz s1), .int (iz s0)] σ x := by
  refine r_iadd (dc D_cX12_tellsTwo_0 34 rfl) ?_
  obtain ⟨o1, h⟩ := h
  refine r_name (fun v2 ev2 => ?_)
  have h := h v2 ev2
  have rv2 : Rg v2 := Rg_eq ev2 o1
  refine r_istore (lv' := [some (.ref (eA E 0)), some (.int (iz x1)), some (.int (iz x2)), some (.int (iz x3)), some (.int (iz v2)), some (.int (iz x5))]) (dc D_cX12_tellsTwo_0 35 rfl) rfl rfl ?_
  obtain ⟨o3, h⟩ := h
  refine r_iinc (lv' := [some (.ref (eA E 0)), some (.int (iz x1)), some (.int (iz x2)), some (.int (iz x3)), some (.int (iz v2)), some (.int (iz (x5 + 1)))]) (dc D_cX12_tellsTwo_0 36 rfl) rfl rfl rfl ?_
  refine r_goto (tgt := 8) (dc D_cX12_tellsTwo_0 37 rfl) (by decide) ?_
  exact hK8 _ _ _ _ _ _ rx1 rx2 rx3 rv2 o3 hs h
set_option maxRecDepth 100000 in
theorem TX12_tellsTwo_35 {E : EV} (hE : eOK layM E) {Φ : Int → PS → Prop} {K8 : Int → Int → Int → Int → Int → PS → Prop} (x : CX) (hK8 : ∀ (x1 x2 x3 x4 x5 : Int) (σ : PS), Rg x1 → Rg x2 → Rg x3 → Rg x4 → Rg x5 → RS σ → K8 x1 x2 x3 x4 x5 σ → RW layM E mi_X12_tellsTwo Φ 8 [some (.ref (eA E 0)), some (.int (iz x1)), some (.int (iz x2)), some (.int (iz x3)), some (.int (iz x4)), some (.int (iz x5))] [] σ x) (x1 x2 x4 x5 s0 s1 : Int) (rx1 : Rg x1) (rx2 : Rg x2) (rx4 : Rg x4) (rx5 : Rg x5) (rs0 : Rg s0) (rs1 : Rg s1) (σ : PS) (hs : RS σ) (h : LX12_tellsTwo_35 K8 x1 x2 x4 x5 s0 s1 σ Φ) : RW layM E mi_X12_tellsTwo Φ 35 [some (.ref (eA E 0)), some (.int (iz x1)), some (.int (iz x2)), none, some (.int (iz x4)), some (.int (iz x5))] [.int (iz s1), .int (iz s0)] σ x := by
  refine r_iadd (dc D_cX12_tellsTwo_0 21 rfl) ?_
  obtain ⟨o1, h⟩ := h
  refine r_name (fun v2 ev2 => ?_)
  have h := h v2 ev2
  have rv2 : Rg v2 := Rg_eq ev2 o1
  refine r_istoren (lv' := [some (.ref (eA E 0)), some (.int (iz x1)), some (.int (iz x2)), some (.int (iz v2)), some (.int (iz x4)), some (.int (iz x5))]) (dc D_cX12_tellsTwo_0 22 rfl) rfl rfl rfl ?_
  refine r_iload (dc D_cX12_tellsTwo_0 23 rfl) rfl ?_
  refine r_aloadn (dc D_cX12_tellsTwo_0 24 rfl) rfl rfl ?_
  refine r_iloadn (dc D_cX12_tellsTwo_0 25 rfl) rfl rfl ?_
  refine r_iload (dc D_cX12_tellsTwo_0 26 rfl) rfl ?_
  refine r_callV (As := [.int (iz x1), .int (iz x5)]) (st := [.int (iz x4)]) (dc D_cX12_tellsTwo_0 27 rfl) cw_RX12_237 nm_yX12_areAlike (CX12_areAlike hE _ _ rx1 rx5 _ hs h) lM_0 rfl rfl (by decide) rfl rfl rfl (fun z3 σ4 rz3 hσ4 h => ?_)
  show RW layM E mi_X12_tellsTwo Φ 46 [some (.ref (eA E 0)), some (.int (iz x1)), some (.int (iz x2)), some (.int (iz v2)), some (.int (iz x4)), some (.int (iz x5))] [.int (iz z3), .int (iz x4)] σ4 x
  refine r_if_eq (tgt := 58) (dc D_cX12_tellsTwo_0 28 rfl) (by decide) rz3 (fun c5 => ?_) (fun c5 => ?_)
  · have h := h.1 c5
    refine r_iconst (n := 0) (dc D_cX12_tellsTwo_0 33 rfl) ?_
    refine r_sub (lv' := [some (.ref (eA E 0)), some (.int (iz x1)), some (.int (iz x2)), some (.int (iz v2)), none, some (.int (iz x5))]) (subL_s (subL_s (subL_s (subL_s (subL_n (subL_s subL_e)))))) ?_
    exact TX12_tellsTwo_59 hE x hK8 _ _ _ _ _ _ rx1 rx2 rv2 rx5 rx4 (Rl rfl) _ hσ4 h
  · have h := h.2 c5
    refine r_aloadn (dc D_cX12_tellsTwo_0 29 rfl) rfl rfl ?_
    refine r_iload (dc D_cX12_tellsTwo_0 30 rfl) rfl ?_
    refine r_callV (As := [.int (iz x5)]) (st := [.int (iz x4)]) (dc D_cX12_tellsTwo_0 31 rfl) cw_RX12_150 nm_yX12_capacity (CX12_capacity hE _ rx5 _ hσ4 h) lM_0 rfl rfl (by decide) rfl rfl rfl (fun z6 σ7 rz6 hσ7 h => ?_)
    show RW layM E mi_X12_tellsTwo Φ 55 [some (.ref (eA E 0)), some (.int (iz x1)), some (.int (iz x2)), some (.int (iz v2)), some (.int (iz x4)), some (.int (iz x5))] [.int (iz z6), .int (iz x4)] σ7 x
    refine r_goto (tgt := 59) (dc D_cX12_tellsTwo_0 32 rfl) (by decide) ?_
    refine r_sub (lv' := [some (.ref (eA E 0)), some (.int (iz x1)), some (.int (iz x2)), some (.int (iz v2)), none, some (.int (iz x5))]) (subL_s (subL_s (subL_s (subL_s (subL_n (subL_s subL_e)))))) ?_
    exact TX12_tellsTwo_59 hE x hK8 _ _ _ _ _ _ rx1 rx2 rv2 rx5 rx4 rz6 _ hσ7 h
set_option maxRecDepth 100000 in
theorem TBX12_tellsTwo_8 {E : EV} (hE : eOK layM E) {Φ : Int → PS → Prop} {K8 : Int → Int → Int → Int → Int → PS → Prop} (x : CX) (hK8 : ∀ (x1 x2 x3 x4 x5 : Int) (σ : PS), Rg x1 → Rg x2 → Rg x3 → Rg x4 → Rg x5 → RS σ → K8 x1 x2 x3 x4 x5 σ → RW layM E mi_X12_tellsTwo Φ 8 [some (.ref (eA E 0)), some (.int (iz x1)), some (.int (iz x2)), some (.int (iz x3)), some (.int (iz x4)), some (.int (iz x5))] [] σ x) (x1 x2 x3 x4 x5 : Int) (rx1 : Rg x1) (rx2 : Rg x2) (rx3 : Rg x3) (rx4 : Rg x4) (rx5 : Rg x5) (σ : PS) (hs : RS σ) (h : BX12_tellsTwo_8 K8 x1 x2 x3 x4 x5 σ Φ) : RW layM E mi_X12_tellsTwo Φ 8 [some (.ref (eA E 0)), some (.int (iz x1)), some (.int (iz x2)), some (.int (iz x3)), some (.int (iz x4)), some (.int (iz x5))] [] σ x := by
  refine r_iload (dc D_cX12_tellsTwo_0 6 rfl) rfl ?_
  refine r_aloadn (dc D_cX12_tellsTwo_0 7 rfl) rfl rfl ?_
  refine r_getR (dc D_cX12_tellsTwo_0 8 rfl) fw_RX12_9 lM_0 rfl ?_
  refine r_iconst (n := 2) (dc D_cX12_tellsTwo_0 9 rfl) ?_
  refine r_iald (N := 183) (dc D_cX12_tellsTwo_0 10 rfl) lM_1 rfl rfl ⟨by decide, by decide⟩ ?_
  refine r_icmp_ge (tgt := 68) (dc D_cX12_tellsTwo_0 11 rfl) (by decide) rx5 (hs _ _) (fun c1 => ?_) (fun c1 => ?_)
  · have h := h.1 c1
    refine r_iloadn (dc D_cX12_tellsTwo_0 38 rfl) rfl rfl ?_
    refine r_iconst (n := 2) (dc D_cX12_tellsTwo_0 39 rfl) ?_
    refine r_icmp_ge (tgt := 82) (dc D_cX12_tellsTwo_1 0 rfl) (by decide) rx2 (Rl rfl) (fun c2 => ?_) (fun c2 => ?_)
    · have h := h.1 c2
      refine r_iloadn (dc D_cX12_tellsTwo_1 6 rfl) rfl rfl ?_
      refine r_iconst (n := 2) (dc D_cX12_tellsTwo_1 7 rfl) ?_
      refine r_icmp_ne (tgt := 91) (dc D_cX12_tellsTwo_1 8 rfl) (by decide) rx2 (Rl rfl) (fun c3 => ?_) (fun c3 => ?_)
      · have h := h.1 c3
        refine r_iload (dc D_cX12_tellsTwo_1 11 rfl) rfl ?_
        exact r_iret (dc D_cX12_tellsTwo_1 12 rfl) rfl rx4 h
      · have h := h.2 c3
        refine r_iloadn (dc D_cX12_tellsTwo_1 9 rfl) rfl rfl ?_
        refine r_goto (tgt := 93) (dc D_cX12_tellsTwo_1 10 rfl) (by decide) ?_
        exact r_iret (dc D_cX12_tellsTwo_1 12 rfl) rfl rx3 h
    · have h := h.2 c2
      refine r_aloadn (dc D_cX12_tellsTwo_1 1 rfl) rfl rfl ?_
      refine r_iloadn (dc D_cX12_tellsTwo_1 2 rfl) rfl rfl ?_
      refine r_iloadn (dc D_cX12_tellsTwo_1 3 rfl) rfl rfl ?_
      refine r_callV (As := [.int (iz x1), .int (iz x2)]) (st := []) (dc D_cX12_tellsTwo_1 4 rfl) cw_RX12_94 nm_yX12_at (CX12_at hE _ _ rx1 rx2 _ hs h) lM_0 rfl rfl (by decide) rfl rfl rfl (fun z4 σ5 rz4 hσ5 h => ?_)
      show RW layM E mi_X12_tellsTwo Φ 79 [some (.ref (eA E 0)), some (.int (iz x1)), some (.int (iz x2)), some (.int (iz x3)), some (.int (iz x4)), some (.int (iz x5))] [.int (iz z4)] σ5 x
      refine r_goto (tgt := 93) (dc D_cX12_tellsTwo_1 5 rfl) (by decide) ?_
      exact r_iret (dc D_cX12_tellsTwo_1 12 rfl) rfl rz4 h
  · have h := h.2 c1
    refine r_iloadn (dc D_cX12_tellsTwo_0 12 rfl) rfl rfl ?_
    refine r_aloadn (dc D_cX12_tellsTwo_0 13 rfl) rfl rfl ?_
    refine r_iloadn (dc D_cX12_tellsTwo_0 14 rfl) rfl rfl ?_
    refine r_iload (dc D_cX12_tellsTwo_0 15 rfl) rfl ?_
    refine r_callV (As := [.int (iz x1), .int (iz x5)]) (st := [.int (iz x3)]) (dc D_cX12_tellsTwo_0 16 rfl) cw_RX12_237 nm_yX12_areAlike (CX12_areAlike hE _ _ rx1 rx5 _ hs h) lM_0 rfl rfl (by decide) rfl rfl rfl (fun z6 σ7 rz6 hσ7 h => ?_)
    show RW layM E mi_X12_tellsTwo Φ 27 [some (.ref (eA E 0)), some (.int (iz x1)), some (.int (iz x2)), some (.int (iz x3)), some (.int (iz x4)), some (.int (iz x5))] [.int (iz z6), .int (iz x3)] σ7 x
    refine r_if_eq (tgt := 34) (dc D_cX12_tellsTwo_0 17 rfl) (by decide) rz6 (fun c8 => ?_) (fun c8 => ?_)
    · have h := h.1 c8
      refine r_iconst (n := 0) (dc D_cX12_tellsTwo_0 20 rfl) ?_
      refine r_sub (lv' := [some (.ref (eA E 0)), some (.int (iz x1)), some (.int (iz x2)), none, some (.int (iz x4)), some (.int (iz x5))]) (subL_s (subL_s (subL_s (subL_n (subL_s (subL_s subL_e)))))) ?_
      exact TX12_tellsTwo_35 hE x hK8 _ _ _ _ _ _ rx1 rx2 rx4 rx5 rx3 (Rl rfl) _ hσ7 h
    · have h := h.2 c8
      refine r_iconst (n := 1) (dc D_cX12_tellsTwo_0 18 rfl) ?_
      refine r_goto (tgt := 35) (dc D_cX12_tellsTwo_0 19 rfl) (by decide) ?_
      refine r_sub (lv' := [some (.ref (eA E 0)), some (.int (iz x1)), some (.int (iz x2)), none, some (.int (iz x4)), some (.int (iz x5))]) (subL_s (subL_s (subL_s (subL_n (subL_s (subL_s subL_e)))))) ?_
      exact TX12_tellsTwo_35 hE x hK8 _ _ _ _ _ _ rx1 rx2 rx4 rx5 rx3 (Rl rfl) _ hσ7 h
theorem TX12_tellsTwo_8 {E : EV} (hE : eOK layM E) {Φ : Int → PS → Prop} (x : CX) (n : Nat) : ∀ (x1 x2 x3 x4 x5 : Int) (σ : PS), Rg x1 → Rg x2 → Rg x3 → Rg x4 → Rg x5 → RS σ → LX12_tellsTwo_8 n x1 x2 x3 x4 x5 σ Φ → RW layM E mi_X12_tellsTwo Φ 8 [some (.ref (eA E 0)), some (.int (iz x1)), some (.int (iz x2)), some (.int (iz x3)), some (.int (iz x4)), some (.int (iz x5))] [] σ x := by
  induction n with
  | zero => intro x1 x2 x3 x4 x5 σ _ _ _ _ _ _ h; exact h.elim
  | succ n ih => intro x1 x2 x3 x4 x5 σ rx1 rx2 rx3 rx4 rx5 hs h; exact TBX12_tellsTwo_8 hE x ih x1 x2 x3 x4 x5 rx1 rx2 rx3 rx4 rx5 σ hs h
set_option maxRecDepth 100000 in
theorem CX12_tellsTwo {E : EV} (hE : eOK layM E) {Φ : Int → PS → Prop} (a1 a2 : Int) (ra1 : Rg a1) (ra2 : Rg a2) (σ : PS) (hs : RS σ) (h : FX12_tellsTwo a1 a2 σ Φ) : CT layM E yX12_tellsTwo mi_X12_tellsTwo [.ref (eA E 0), .int (iz a1), .int (iz a2)] σ Φ := by
  refine ct_of (by decide +kernel) rfl hE rfl rfl hs (fun x => ?_)
  show RW layM E mi_X12_tellsTwo Φ 0 [some (.ref (eA E 0)), some (.int (iz a1)), some (.int (iz a2)), none, none, none] [] σ x
  refine r_iconst (n := 0) (dc D_cX12_tellsTwo_0 0 rfl) ?_
  refine r_istoren (lv' := [some (.ref (eA E 0)), some (.int (iz a1)), some (.int (iz a2)), some (.int (iz 0)), none, none]) (dc D_cX12_tellsTwo_0 1 rfl) rfl rfl rfl ?_
  refine r_iconst (n := 0) (dc D_cX12_tellsTwo_0 2 rfl) ?_
  refine r_istore (lv' := [some (.ref (eA E 0)), some (.int (iz a1)), some (.int (iz a2)), some (.int (iz 0)), some (.int (iz 0)), none]) (dc D_cX12_tellsTwo_0 3 rfl) rfl rfl ?_
  refine r_iloadn (dc D_cX12_tellsTwo_0 4 rfl) rfl rfl ?_
  refine r_istore (lv' := [some (.ref (eA E 0)), some (.int (iz a1)), some (.int (iz a2)), some (.int (iz 0)), some (.int (iz 0)), some (.int (iz a1))]) (dc D_cX12_tellsTwo_0 5 rfl) rfl rfl ?_
  obtain ⟨n, h⟩ := h
  exact TX12_tellsTwo_8 hE x n _ _ _ _ _ _ ra1 ra2 (Rl rfl) (Rl rfl) ra1 hs h
-- end of GateFlowModel.tellsTwo
def mi_X12_two : MI := (cX12_two, RX12, 5, 5, (some .int), 1)
def LX12_two_54 (K5 : Int → Int → Int → Int → PS → Prop) (x1 x2 x3 x4 : Int) (σ : PS) (Φ : Int → PS → Prop) : Prop :=
  Rg (x4 + 1) ∧
  K5 x1 x2 x3 (x4 + 1) σ
def BX12_two_5 (K5 : Int → Int → Int → Int → PS → Prop) (x1 x2 x3 x4 : Int) (σ : PS) (Φ : Int → PS → Prop) : Prop :=
  ((σ 1 2 ≤ x4 →
    ((¬ x1 = (-1) →
      Φ (-1) σ) ∧
    (x1 = (-1) →
      Φ x3 σ))) ∧
  (¬ σ 1 2 ≤ x4 →
    FX12_isFirst x4 σ (fun z3 σ4 =>
    ((z3 = 0 →
      LX12_two_54 K5 x1 x2 x3 x4 σ4 Φ) ∧
    (¬ z3 = 0 →
      ((¬ x3 = x1 →
        Rg (x3 + 1) ∧
        LX12_two_54 K5 x1 x2 (x3 + 1) x4 σ4 Φ) ∧
      (x3 = x1 →
        FX12_in x2 0 3 σ4 (fun z8 σ9 =>
        ((z8 = 0 →
          Φ (-1) σ9) ∧
        (¬ z8 = 0 →
          FX12_tellsTwo x4 x2 σ9 (fun z11 σ12 =>
          Φ z11 σ12)))))))))))
def LX12_two_5 : Nat → Int → Int → Int → Int → PS → (Int → PS → Prop) → Prop
  | 0, _, _, _, _, _, _ => False
  | n + 1, x1, x2, x3, x4, σ, Φ => BX12_two_5 (fun x1 x2 x3 x4 σ => LX12_two_5 n x1 x2 x3 x4 σ Φ) x1 x2 x3 x4 σ Φ
def FX12_two (a1 a2 : Int) (σ : PS) (Φ : Int → PS → Prop) : Prop :=
  ∃ n, LX12_two_5 n a1 a2 0 0 σ Φ
theorem cw_RX12_240 : CWV RX12 240 yX12_isFirst mi_X12_isFirst := tb_r [1578, 1580, 73, 110, 1581] (by decide +kernel)
theorem nm_yX12_isFirst : ynm yX12_isFirst 1 := ⟨⟨by decide +kernel, by decide +kernel⟩, by decide +kernel⟩
theorem cw_RX12_243 : CWV RX12 243 yX12_tellsTwo mi_X12_tellsTwo := tb_r [1586, 1588, 75, 110, 1589] (by decide +kernel)
theorem nm_yX12_tellsTwo : ynm yX12_tellsTwo 2 := ⟨⟨by decide +kernel, by decide +kernel⟩, by decide +kernel⟩
set_option maxRecDepth 100000 in
theorem TX12_two_54 {E : EV} (hE : eOK layM E) {Φ : Int → PS → Prop} {K5 : Int → Int → Int → Int → PS → Prop} (x : CX) (hK5 : ∀ (x1 x2 x3 x4 : Int) (σ : PS), Rg x1 → Rg x2 → Rg x3 → Rg x4 → RS σ → K5 x1 x2 x3 x4 σ → RW layM E mi_X12_two Φ 5 [some (.ref (eA E 0)), some (.int (iz x1)), some (.int (iz x2)), some (.int (iz x3)), some (.int (iz x4))] [] σ x) (x1 x2 x3 x4 : Int) (rx1 : Rg x1) (rx2 : Rg x2) (rx3 : Rg x3) (rx4 : Rg x4) (σ : PS) (hs : RS σ) (h : LX12_two_54 K5 x1 x2 x3 x4 σ Φ) : RW layM E mi_X12_two Φ 54 [some (.ref (eA E 0)), some (.int (iz x1)), some (.int (iz x2)), some (.int (iz x3)), some (.int (iz x4))] [] σ x := by
  obtain ⟨o1, h⟩ := h
  refine r_iinc (lv' := [some (.ref (eA E 0)), some (.int (iz x1)), some (.int (iz x2)), some (.int (iz x3)), some (.int (iz (x4 + 1)))]) (dc D_cX12_two_0 30 rfl) rfl rfl rfl ?_
  refine r_goto (tgt := 5) (dc D_cX12_two_0 31 rfl) (by decide) ?_
  exact hK5 _ _ _ _ _ rx1 rx2 rx3 o1 hs h
set_option maxRecDepth 100000 in
theorem TBX12_two_5 {E : EV} (hE : eOK layM E) {Φ : Int → PS → Prop} {K5 : Int → Int → Int → Int → PS → Prop} (x : CX) (hK5 : ∀ (x1 x2 x3 x4 : Int) (σ : PS), Rg x1 → Rg x2 → Rg x3 → Rg x4 → RS σ → K5 x1 x2 x3 x4 σ → RW layM E mi_X12_two Φ 5 [some (.ref (eA E 0)), some (.int (iz x1)), some (.int (iz x2)), some (.int (iz x3)), some (.int (iz x4))] [] σ x) (x1 x2 x3 x4 : Int) (rx1 : Rg x1) (rx2 : Rg x2) (rx3 : Rg x3) (rx4 : Rg x4) (σ : PS) (hs : RS σ) (h : BX12_two_5 K5 x1 x2 x3 x4 σ Φ) : RW layM E mi_X12_two Φ 5 [some (.ref (eA E 0)), some (.int (iz x1)), some (.int (iz x2)), some (.int (iz x3)), some (.int (iz x4))] [] σ x := by
  refine r_iload (dc D_cX12_two_0 4 rfl) rfl ?_
  refine r_aloadn (dc D_cX12_two_0 5 rfl) rfl rfl ?_
  refine r_getR (dc D_cX12_two_0 6 rfl) fw_RX12_9 lM_0 rfl ?_
  refine r_iconst (n := 2) (dc D_cX12_two_0 7 rfl) ?_
  refine r_iald (N := 183) (dc D_cX12_two_0 8 rfl) lM_1 rfl rfl ⟨by decide, by decide⟩ ?_
  refine r_icmp_ge (tgt := 60) (dc D_cX12_two_0 9 rfl) (by decide) rx4 (hs _ _) (fun c1 => ?_) (fun c1 => ?_)
  · have h := h.1 c1
    refine r_iloadn (dc D_cX12_two_0 32 rfl) rfl rfl ?_
    refine r_iconst (n := (-1)) (dc D_cX12_two_0 33 rfl) ?_
    refine r_icmp_ne (tgt := 69) (dc D_cX12_two_0 34 rfl) (by decide) rx1 (Rl rfl) (fun c2 => ?_) (fun c2 => ?_)
    · have h := h.1 c2
      refine r_iconst (n := (-1)) (dc D_cX12_two_0 37 rfl) ?_
      exact r_iret (dc D_cX12_two_0 38 rfl) rfl (Rl rfl) h
    · have h := h.2 c2
      refine r_iloadn (dc D_cX12_two_0 35 rfl) rfl rfl ?_
      refine r_goto (tgt := 70) (dc D_cX12_two_0 36 rfl) (by decide) ?_
      exact r_iret (dc D_cX12_two_0 38 rfl) rfl rx3 h
  · have h := h.2 c1
    refine r_aloadn (dc D_cX12_two_0 10 rfl) rfl rfl ?_
    refine r_iload (dc D_cX12_two_0 11 rfl) rfl ?_
    refine r_callV (As := [.int (iz x4)]) (st := []) (dc D_cX12_two_0 12 rfl) cw_RX12_240 nm_yX12_isFirst (CX12_isFirst hE _ rx4 _ hs h) lM_0 rfl rfl (by decide) rfl rfl rfl (fun z3 σ4 rz3 hσ4 h => ?_)
    show RW layM E mi_X12_two Φ 22 [some (.ref (eA E 0)), some (.int (iz x1)), some (.int (iz x2)), some (.int (iz x3)), some (.int (iz x4))] [.int (iz z3)] σ4 x
    refine r_if_eq (tgt := 54) (dc D_cX12_two_0 13 rfl) (by decide) rz3 (fun c5 => ?_) (fun c5 => ?_)
    · have h := h.1 c5
      exact TX12_two_54 hE x hK5 _ _ _ _ rx1 rx2 rx3 rx4 _ hσ4 h
    · have h := h.2 c5
      refine r_iloadn (dc D_cX12_two_0 14 rfl) rfl rfl ?_
      refine r_iloadn (dc D_cX12_two_0 15 rfl) rfl rfl ?_
      refine r_icmp_ne (tgt := 51) (dc D_cX12_two_0 16 rfl) (by decide) rx3 rx1 (fun c6 => ?_) (fun c6 => ?_)
      · have h := h.1 c6
        obtain ⟨o7, h⟩ := h
        refine r_iinc (lv' := [some (.ref (eA E 0)), some (.int (iz x1)), some (.int (iz x2)), some (.int (iz (x3 + 1))), some (.int (iz x4))]) (dc D_cX12_two_0 29 rfl) rfl rfl rfl ?_
        exact TX12_two_54 hE x hK5 _ _ _ _ rx1 rx2 o7 rx4 _ hσ4 h
      · have h := h.2 c6
        refine r_iloadn (dc D_cX12_two_0 17 rfl) rfl rfl ?_
        refine r_iconst (n := 0) (dc D_cX12_two_0 18 rfl) ?_
        refine r_iconst (n := 3) (dc D_cX12_two_0 19 rfl) ?_
        refine r_callS (As := [.int (iz x2), .int (iz 0), .int (iz 3)]) (st := []) (dc D_cX12_two_0 20 rfl) cw_RX12_90 nm_yX12_in (CX12_in hE _ _ _ rx2 (Rl rfl) (Rl rfl) _ hσ4 h) rfl (by decide) rfl rfl rfl (fun z8 σ9 rz8 hσ9 h => ?_)
        show RW layM E mi_X12_two Φ 36 [some (.ref (eA E 0)), some (.int (iz x1)), some (.int (iz x2)), some (.int (iz x3)), some (.int (iz x4))] [.int (iz z8)] σ9 x
        refine r_if_eq (tgt := 49) (dc D_cX12_two_0 21 rfl) (by decide) rz8 (fun c10 => ?_) (fun c10 => ?_)
        · have h := h.1 c10
          refine r_iconst (n := (-1)) (dc D_cX12_two_0 27 rfl) ?_
          exact r_iret (dc D_cX12_two_0 28 rfl) rfl (Rl rfl) h
        · have h := h.2 c10
          refine r_aloadn (dc D_cX12_two_0 22 rfl) rfl rfl ?_
          refine r_iload (dc D_cX12_two_0 23 rfl) rfl ?_
          refine r_iloadn (dc D_cX12_two_0 24 rfl) rfl rfl ?_
          refine r_callV (As := [.int (iz x4), .int (iz x2)]) (st := []) (dc D_cX12_two_0 25 rfl) cw_RX12_243 nm_yX12_tellsTwo (CX12_tellsTwo hE _ _ rx4 rx2 _ hσ9 h) lM_0 rfl rfl (by decide) rfl rfl rfl (fun z11 σ12 rz11 hσ12 h => ?_)
          show RW layM E mi_X12_two Φ 46 [some (.ref (eA E 0)), some (.int (iz x1)), some (.int (iz x2)), some (.int (iz x3)), some (.int (iz x4))] [.int (iz z11)] σ12 x
          refine r_goto (tgt := 50) (dc D_cX12_two_0 26 rfl) (by decide) ?_
          exact r_iret (dc D_cX12_two_0 28 rfl) rfl rz11 h
theorem TX12_two_5 {E : EV} (hE : eOK layM E) {Φ : Int → PS → Prop} (x : CX) (n : Nat) : ∀ (x1 x2 x3 x4 : Int) (σ : PS), Rg x1 → Rg x2 → Rg x3 → Rg x4 → RS σ → LX12_two_5 n x1 x2 x3 x4 σ Φ → RW layM E mi_X12_two Φ 5 [some (.ref (eA E 0)), some (.int (iz x1)), some (.int (iz x2)), some (.int (iz x3)), some (.int (iz x4))] [] σ x := by
  induction n with
  | zero => intro x1 x2 x3 x4 σ _ _ _ _ _ h; exact h.elim
  | succ n ih => intro x1 x2 x3 x4 σ rx1 rx2 rx3 rx4 hs h; exact TBX12_two_5 hE x ih x1 x2 x3 x4 rx1 rx2 rx3 rx4 σ hs h
set_option maxRecDepth 100000 in
theorem CX12_two {E : EV} (hE : eOK layM E) {Φ : Int → PS → Prop} (a1 a2 : Int) (ra1 : Rg a1) (ra2 : Rg a2) (σ : PS) (hs : RS σ) (h : FX12_two a1 a2 σ Φ) : CT layM E yX12_two mi_X12_two [.ref (eA E 0), .int (iz a1), .int (iz a2)] σ Φ := by
  refine ct_of (by decide +kernel) rfl hE rfl rfl hs (fun x => ?_)
  show RW layM E mi_X12_two Φ 0 [some (.ref (eA E 0)), some (.int (iz a1)), some (.int (iz a2)), none, none] [] σ x
  refine r_iconst (n := 0) (dc D_cX12_two_0 0 rfl) ?_
  refine r_istoren (lv' := [some (.ref (eA E 0)), some (.int (iz a1)), some (.int (iz a2)), some (.int (iz 0)), none]) (dc D_cX12_two_0 1 rfl) rfl rfl rfl ?_
  refine r_iconst (n := 0) (dc D_cX12_two_0 2 rfl) ?_
  refine r_istore (lv' := [some (.ref (eA E 0)), some (.int (iz a1)), some (.int (iz a2)), some (.int (iz 0)), some (.int (iz 0))]) (dc D_cX12_two_0 3 rfl) rfl rfl ?_
  obtain ⟨n, h⟩ := h
  exact TX12_two_5 hE x n _ _ _ _ _ ra1 ra2 (Rl rfl) (Rl rfl) hs h
-- end of GateFlowModel.two
def mi_X12_reach : MI := (cX12_reach, RX12, 5, 4, (some .int), 1)
def LX12_reach_175 (K148 : Int → Int → Int → PS → Prop) (x2 x4 s0 s1 : Int) (σ : PS) (Φ : Int → PS → Prop) : Prop :=
  ∀ v1 : Int, v1 = ior s0 s1 →
  Rg (x4 + 1) ∧
  K148 x2 v1 (x4 + 1) σ
def BX12_reach_148 (K148 : Int → Int → Int → PS → Prop) (x2 x3 x4 : Int) (σ : PS) (Φ : Int → PS → Prop) : Prop :=
  ((12 ≤ x4 →
    Φ x3 σ) ∧
  (¬ 12 ≤ x4 →
    (0 ≤ x4 ∧ x4 < 12) ∧
    ((x2 < σ 5 x4.toNat →
      LX12_reach_175 K148 x2 x4 x3 0 σ Φ) ∧
    (¬ x2 < σ 5 x4.toNat →
      LX12_reach_175 K148 x2 x4 x3 (ishl 1 x4) σ Φ))))
def LX12_reach_148 : Nat → Int → Int → Int → PS → (Int → PS → Prop) → Prop
  | 0, _, _, _, _, _ => False
  | n + 1, x2, x3, x4, σ, Φ => BX12_reach_148 (fun x2 x3 x4 σ => LX12_reach_148 n x2 x3 x4 σ Φ) x2 x3 x4 σ Φ
def LX12_reach_131 (K55 : Int → Int → PS → Prop) (K64 : Int → Int → Int → PS → Prop) (x2 x3 x4 : Int) (σ : PS) (Φ : Int → PS → Prop) : Prop :=
  Rg (x4 + 1) ∧
  K64 x2 x3 (x4 + 1) σ
def BX12_reach_64 (K55 : Int → Int → PS → Prop) (K64 : Int → Int → Int → PS → Prop) (x2 x3 x4 : Int) (σ : PS) (Φ : Int → PS → Prop) : Prop :=
  ((σ 1 2 ≤ x4 →
    Rg (x3 + 1) ∧
    K55 x2 (x3 + 1) σ) ∧
  (¬ σ 1 2 ≤ x4 →
    FX12_capacity x4 σ (fun z3 σ4 =>
    ((z3 ≤ 0 →
      LX12_reach_131 K55 K64 x2 x3 x4 σ4 Φ) ∧
    (¬ z3 ≤ 0 →
      FX12_at x4 1 σ4 (fun z6 σ7 =>
      FX12_at x4 1 σ7 (fun z8 σ9 =>
      (0 ≤ z8 ∧ z8 < 12) ∧
      FX12_at x4 0 σ9 (fun z11 σ12 =>
      (0 ≤ z11 ∧ z11 < 12) ∧
      FX12_at x4 4 σ12 (fun z14 σ15 =>
      Rg ((σ12 5 z11.toNat) + z14) ∧
      (0 ≤ z6 ∧ z6 < 12) ∧
      ∀ σ18 : PS, σ18 = up2 σ15 5 z6.toNat (min (σ9 5 z8.toNat) ((σ12 5 z11.toNat) + z14)) →
      LX12_reach_131 K55 K64 x2 x3 x4 σ18 Φ)))))))))
def LX12_reach_64 (K55 : Int → Int → PS → Prop) : Nat → Int → Int → Int → PS → (Int → PS → Prop) → Prop
  | 0, _, _, _, _, _ => False
  | n + 1, x2, x3, x4, σ, Φ => BX12_reach_64 K55 (fun x2 x3 x4 σ => LX12_reach_64 K55 n x2 x3 x4 σ Φ) x2 x3 x4 σ Φ
def BX12_reach_55 (K55 : Int → Int → PS → Prop) (x2 x3 : Int) (σ : PS) (Φ : Int → PS → Prop) : Prop :=
  ((12 ≤ x3 →
    ∃ n, LX12_reach_148 n x2 0 0 σ Φ) ∧
  (¬ 12 ≤ x3 →
    ∃ n, LX12_reach_64 K55 n x2 x3 0 σ Φ))
def LX12_reach_55 : Nat → Int → Int → PS → (Int → PS → Prop) → Prop
  | 0, _, _, _, _ => False
  | n + 1, x2, x3, σ, Φ => BX12_reach_55 (fun x2 x3 σ => LX12_reach_55 n x2 x3 σ Φ) x2 x3 σ Φ
def LX12_reach_46 (K24 : Int → Int → Int → PS → Prop) (x1 x2 x3 s1 s2 : Int) (σ : PS) (Φ : Int → PS → Prop) : Prop :=
  (0 ≤ s1 ∧ s1 < 12) ∧
  ∀ σ2 : PS, σ2 = up2 σ 5 s1.toNat s2 →
  Rg (x3 + 1) ∧
  K24 x1 x2 (x3 + 1) σ2
def BX12_reach_24 (K24 : Int → Int → Int → PS → Prop) (x1 x2 x3 : Int) (σ : PS) (Φ : Int → PS → Prop) : Prop :=
  ((12 ≤ x3 →
    ∃ n, LX12_reach_55 n x2 0 σ Φ) ∧
  (¬ 12 ≤ x3 →
    ((¬ x3 = x1 →
      LX12_reach_46 K24 x1 x2 x3 x3 99 σ Φ) ∧
    (x3 = x1 →
      LX12_reach_46 K24 x1 x2 x3 x3 0 σ Φ))))
def LX12_reach_24 : Nat → Int → Int → Int → PS → (Int → PS → Prop) → Prop
  | 0, _, _, _, _, _ => False
  | n + 1, x1, x2, x3, σ, Φ => BX12_reach_24 (fun x1 x2 x3 σ => LX12_reach_24 n x1 x2 x3 σ Φ) x1 x2 x3 σ Φ
def FX12_reach (a1 a2 : Int) (σ : PS) (Φ : Int → PS → Prop) : Prop :=
  FX12_isNode a1 σ (fun z1 σ2 =>
  ((¬ z1 = 0 →
    FX12_in a2 0 20 σ2 (fun z4 σ5 =>
    ((¬ z4 = 0 →
      ∃ n, LX12_reach_24 n a1 a2 0 σ5 Φ) ∧
    (z4 = 0 →
      Φ (-2) σ5)))) ∧
  (z1 = 0 →
    Φ (-1) σ2)))
set_option maxRecDepth 100000 in
theorem TX12_reach_175 {E : EV} (hE : eOK layM E) {Φ : Int → PS → Prop} {K148 : Int → Int → Int → PS → Prop} (x : CX) (hK148 : ∀ (x2 x3 x4 : Int) (σ : PS), Rg x2 → Rg x3 → Rg x4 → RS σ → K148 x2 x3 x4 σ → RW layM E mi_X12_reach Φ 148 [some (.ref (eA E 0)), none, some (.int (iz x2)), some (.int (iz x3)), some (.int (iz x4))] [] σ x) (x2 x4 s0 s1 : Int) (rx2 : Rg x2) (rx4 : Rg x4) (rs0 : Rg s0) (rs1 : Rg s1) (σ : PS) (hs : RS σ) (h : LX12_reach_175 K148 x2 x4 s0 s1 σ Φ) : RW layM E mi_X12_reach Φ 175 [some (.ref (eA E 0)), none, some (.int (iz x2)), none, some (.int (iz x4))] [.int (iz s1), .int (iz s0)] σ x := by
  refine r_ior (dc D_cX12_reach_2 16 rfl) ?_
  refine r_name (fun v1 ev1 => ?_)
  have h := h v1 ev1
  have rv1 : Rg v1 := Rg_eq ev1 (Rg_of _)
  refine r_istoren (lv' := [some (.ref (eA E 0)), none, some (.int (iz x2)), some (.int (iz v1)), some (.int (iz x4))]) (dc D_cX12_reach_2 17 rfl) rfl rfl rfl ?_
  obtain ⟨o2, h⟩ := h
  refine r_iinc (lv' := [some (.ref (eA E 0)), none, some (.int (iz x2)), some (.int (iz v1)), some (.int (iz (x4 + 1)))]) (dc D_cX12_reach_2 18 rfl) rfl rfl rfl ?_
  refine r_goto (tgt := 148) (dc D_cX12_reach_2 19 rfl) (by decide) ?_
  exact hK148 _ _ _ _ rx2 rv1 o2 hs h
set_option maxRecDepth 100000 in
theorem TBX12_reach_148 {E : EV} (hE : eOK layM E) {Φ : Int → PS → Prop} {K148 : Int → Int → Int → PS → Prop} (x : CX) (hK148 : ∀ (x2 x3 x4 : Int) (σ : PS), Rg x2 → Rg x3 → Rg x4 → RS σ → K148 x2 x3 x4 σ → RW layM E mi_X12_reach Φ 148 [some (.ref (eA E 0)), none, some (.int (iz x2)), some (.int (iz x3)), some (.int (iz x4))] [] σ x) (x2 x3 x4 : Int) (rx2 : Rg x2) (rx3 : Rg x3) (rx4 : Rg x4) (σ : PS) (hs : RS σ) (h : BX12_reach_148 K148 x2 x3 x4 σ Φ) : RW layM E mi_X12_reach Φ 148 [some (.ref (eA E 0)), none, some (.int (iz x2)), some (.int (iz x3)), some (.int (iz x4))] [] σ x := by
  refine r_iload (dc D_cX12_reach_2 1 rfl) rfl ?_
  refine r_bipush (n := 12) (dc D_cX12_reach_2 2 rfl) (by decide +kernel) ?_
  refine r_icmp_ge (tgt := 183) (dc D_cX12_reach_2 3 rfl) (by decide) rx4 (Rl rfl) (fun c1 => ?_) (fun c1 => ?_)
  · have h := h.1 c1
    refine r_iloadn (dc D_cX12_reach_2 20 rfl) rfl rfl ?_
    exact r_iret (dc D_cX12_reach_2 21 rfl) rfl rx3 h
  · have h := h.2 c1
    refine r_iloadn (dc D_cX12_reach_2 4 rfl) rfl rfl ?_
    refine r_aloadn (dc D_cX12_reach_2 5 rfl) rfl rfl ?_
    refine r_getR (dc D_cX12_reach_2 6 rfl) fw_RX12_22 lM_0 rfl ?_
    refine r_iload (dc D_cX12_reach_2 7 rfl) rfl ?_
    obtain ⟨o2, h⟩ := h
    refine r_iald (N := 12) (dc D_cX12_reach_2 8 rfl) lM_5 rfl rfl o2 ?_
    refine r_iloadn (dc D_cX12_reach_2 9 rfl) rfl rfl ?_
    refine r_icmp_gt (tgt := 174) (dc D_cX12_reach_2 10 rfl) (by decide) (hs _ _) rx2 (fun c3 => ?_) (fun c3 => ?_)
    · have h := h.1 c3
      refine r_iconst (n := 0) (dc D_cX12_reach_2 15 rfl) ?_
      refine r_sub (lv' := [some (.ref (eA E 0)), none, some (.int (iz x2)), none, some (.int (iz x4))]) (subL_s (subL_n (subL_s (subL_n (subL_s subL_e))))) ?_
      exact TX12_reach_175 hE x hK148 _ _ _ _ rx2 rx4 rx3 (Rl rfl) _ hs h
    · have h := h.2 c3
      refine r_iconst (n := 1) (dc D_cX12_reach_2 11 rfl) ?_
      refine r_iload (dc D_cX12_reach_2 12 rfl) rfl ?_
      refine r_ishl (dc D_cX12_reach_2 13 rfl) ?_
      refine r_goto (tgt := 175) (dc D_cX12_reach_2 14 rfl) (by decide) ?_
      refine r_sub (lv' := [some (.ref (eA E 0)), none, some (.int (iz x2)), none, some (.int (iz x4))]) (subL_s (subL_n (subL_s (subL_n (subL_s subL_e))))) ?_
      exact TX12_reach_175 hE x hK148 _ _ _ _ rx2 rx4 rx3 (Rg_of _) _ hs h
theorem TX12_reach_148 {E : EV} (hE : eOK layM E) {Φ : Int → PS → Prop} (x : CX) (n : Nat) : ∀ (x2 x3 x4 : Int) (σ : PS), Rg x2 → Rg x3 → Rg x4 → RS σ → LX12_reach_148 n x2 x3 x4 σ Φ → RW layM E mi_X12_reach Φ 148 [some (.ref (eA E 0)), none, some (.int (iz x2)), some (.int (iz x3)), some (.int (iz x4))] [] σ x := by
  induction n with
  | zero => intro x2 x3 x4 σ _ _ _ _ h; exact h.elim
  | succ n ih => intro x2 x3 x4 σ rx2 rx3 rx4 hs h; exact TBX12_reach_148 hE x ih x2 x3 x4 rx2 rx3 rx4 σ hs h
set_option maxRecDepth 100000 in
theorem TX12_reach_131 {E : EV} (hE : eOK layM E) {Φ : Int → PS → Prop} {K55 : Int → Int → PS → Prop} {K64 : Int → Int → Int → PS → Prop} (x : CX) (hK55 : ∀ (x2 x3 : Int) (σ : PS), Rg x2 → Rg x3 → RS σ → K55 x2 x3 σ → RW layM E mi_X12_reach Φ 55 [some (.ref (eA E 0)), none, some (.int (iz x2)), some (.int (iz x3)), none] [] σ x) (hK64 : ∀ (x2 x3 x4 : Int) (σ : PS), Rg x2 → Rg x3 → Rg x4 → RS σ → K64 x2 x3 x4 σ → RW layM E mi_X12_reach Φ 64 [some (.ref (eA E 0)), none, some (.int (iz x2)), some (.int (iz x3)), some (.int (iz x4))] [] σ x) (x2 x3 x4 : Int) (rx2 : Rg x2) (rx3 : Rg x3) (rx4 : Rg x4) (σ : PS) (hs : RS σ) (h : LX12_reach_131 K55 K64 x2 x3 x4 σ Φ) : RW layM E mi_X12_reach Φ 131 [some (.ref (eA E 0)), none, some (.int (iz x2)), some (.int (iz x3)), some (.int (iz x4))] [] σ x := by
  obtain ⟨o1, h⟩ := h
  refine r_iinc (lv' := [some (.ref (eA E 0)), none, some (.int (iz x2)), some (.int (iz x3)), some (.int (iz (x4 + 1)))]) (dc D_cX12_reach_1 33 rfl) rfl rfl rfl ?_
  refine r_goto (tgt := 64) (dc D_cX12_reach_1 34 rfl) (by decide) ?_
  exact hK64 _ _ _ _ rx2 rx3 o1 hs h
set_option maxRecDepth 100000 in
theorem TBX12_reach_64 {E : EV} (hE : eOK layM E) {Φ : Int → PS → Prop} {K55 : Int → Int → PS → Prop} {K64 : Int → Int → Int → PS → Prop} (x : CX) (hK55 : ∀ (x2 x3 : Int) (σ : PS), Rg x2 → Rg x3 → RS σ → K55 x2 x3 σ → RW layM E mi_X12_reach Φ 55 [some (.ref (eA E 0)), none, some (.int (iz x2)), some (.int (iz x3)), none] [] σ x) (hK64 : ∀ (x2 x3 x4 : Int) (σ : PS), Rg x2 → Rg x3 → Rg x4 → RS σ → K64 x2 x3 x4 σ → RW layM E mi_X12_reach Φ 64 [some (.ref (eA E 0)), none, some (.int (iz x2)), some (.int (iz x3)), some (.int (iz x4))] [] σ x) (x2 x3 x4 : Int) (rx2 : Rg x2) (rx3 : Rg x3) (rx4 : Rg x4) (σ : PS) (hs : RS σ) (h : BX12_reach_64 K55 K64 x2 x3 x4 σ Φ) : RW layM E mi_X12_reach Φ 64 [some (.ref (eA E 0)), none, some (.int (iz x2)), some (.int (iz x3)), some (.int (iz x4))] [] σ x := by
  refine r_iload (dc D_cX12_reach_0 36 rfl) rfl ?_
  refine r_aloadn (dc D_cX12_reach_0 37 rfl) rfl rfl ?_
  refine r_getR (dc D_cX12_reach_0 38 rfl) fw_RX12_9 lM_0 rfl ?_
  refine r_iconst (n := 2) (dc D_cX12_reach_0 39 rfl) ?_
  refine r_iald (N := 183) (dc D_cX12_reach_1 0 rfl) lM_1 rfl rfl ⟨by decide, by decide⟩ ?_
  refine r_icmp_ge (tgt := 137) (dc D_cX12_reach_1 1 rfl) (by decide) rx4 (hs _ _) (fun c1 => ?_) (fun c1 => ?_)
  · have h := h.1 c1
    obtain ⟨o2, h⟩ := h
    refine r_iinc (lv' := [some (.ref (eA E 0)), none, some (.int (iz x2)), some (.int (iz (x3 + 1))), some (.int (iz x4))]) (dc D_cX12_reach_1 35 rfl) rfl rfl rfl ?_
    refine r_goto (tgt := 55) (dc D_cX12_reach_1 36 rfl) (by decide) ?_
    refine r_sub (lv' := [some (.ref (eA E 0)), none, some (.int (iz x2)), some (.int (iz (x3 + 1))), none]) (subL_s (subL_n (subL_s (subL_s (subL_n subL_e))))) ?_
    exact hK55 _ _ _ rx2 o2 hs h
  · have h := h.2 c1
    refine r_aloadn (dc D_cX12_reach_1 2 rfl) rfl rfl ?_
    refine r_iload (dc D_cX12_reach_1 3 rfl) rfl ?_
    refine r_callV (As := [.int (iz x4)]) (st := []) (dc D_cX12_reach_1 4 rfl) cw_RX12_150 nm_yX12_capacity (CX12_capacity hE _ rx4 _ hs h) lM_0 rfl rfl (by decide) rfl rfl rfl (fun z3 σ4 rz3 hσ4 h => ?_)
    show RW layM E mi_X12_reach Φ 81 [some (.ref (eA E 0)), none, some (.int (iz x2)), some (.int (iz x3)), some (.int (iz x4))] [.int (iz z3)] σ4 x
    refine r_if_le (tgt := 131) (dc D_cX12_reach_1 5 rfl) (by decide) rz3 (fun c5 => ?_) (fun c5 => ?_)
    · have h := h.1 c5
      exact TX12_reach_131 hE x hK55 hK64 _ _ _ rx2 rx3 rx4 _ hσ4 h
    · have h := h.2 c5
      refine r_aloadn (dc D_cX12_reach_1 6 rfl) rfl rfl ?_
      refine r_getR (dc D_cX12_reach_1 7 rfl) fw_RX12_22 lM_0 rfl ?_
      refine r_aloadn (dc D_cX12_reach_1 8 rfl) rfl rfl ?_
      refine r_iload (dc D_cX12_reach_1 9 rfl) rfl ?_
      refine r_iconst (n := 1) (dc D_cX12_reach_1 10 rfl) ?_
      refine r_callV (As := [.int (iz x4), .int (iz 1)]) (st := [.ref (eA E 5)]) (dc D_cX12_reach_1 11 rfl) cw_RX12_94 nm_yX12_at (CX12_at hE _ _ rx4 (Rl rfl) _ hσ4 h) lM_0 rfl rfl (by decide) rfl rfl rfl (fun z6 σ7 rz6 hσ7 h => ?_)
      show RW layM E mi_X12_reach Φ 95 [some (.ref (eA E 0)), none, some (.int (iz x2)), some (.int (iz x3)), some (.int (iz x4))] [.int (iz z6), .ref (eA E 5)] σ7 x
      refine r_aloadn (dc D_cX12_reach_1 12 rfl) rfl rfl ?_
      refine r_getR (dc D_cX12_reach_1 13 rfl) fw_RX12_22 lM_0 rfl ?_
      refine r_aloadn (dc D_cX12_reach_1 14 rfl) rfl rfl ?_
      refine r_iload (dc D_cX12_reach_1 15 rfl) rfl ?_
      refine r_iconst (n := 1) (dc D_cX12_reach_1 16 rfl) ?_
      refine r_callV (As := [.int (iz x4), .int (iz 1)]) (st := [.ref (eA E 5), .int (iz z6), .ref (eA E 5)]) (dc D_cX12_reach_1 17 rfl) cw_RX12_94 nm_yX12_at (CX12_at hE _ _ rx4 (Rl rfl) _ hσ7 h) lM_0 rfl rfl (by decide) rfl rfl rfl (fun z8 σ9 rz8 hσ9 h => ?_)
      show RW layM E mi_X12_reach Φ 106 [some (.ref (eA E 0)), none, some (.int (iz x2)), some (.int (iz x3)), some (.int (iz x4))] [.int (iz z8), .ref (eA E 5), .int (iz z6), .ref (eA E 5)] σ9 x
      obtain ⟨o10, h⟩ := h
      refine r_iald (N := 12) (dc D_cX12_reach_1 18 rfl) lM_5 rfl rfl o10 ?_
      refine r_aloadn (dc D_cX12_reach_1 19 rfl) rfl rfl ?_
      refine r_getR (dc D_cX12_reach_1 20 rfl) fw_RX12_22 lM_0 rfl ?_
      refine r_aloadn (dc D_cX12_reach_1 21 rfl) rfl rfl ?_
      refine r_iload (dc D_cX12_reach_1 22 rfl) rfl ?_
      refine r_iconst (n := 0) (dc D_cX12_reach_1 23 rfl) ?_
      refine r_callV (As := [.int (iz x4), .int (iz 0)]) (st := [.ref (eA E 5), .int (iz (σ9 5 z8.toNat)), .int (iz z6), .ref (eA E 5)]) (dc D_cX12_reach_1 24 rfl) cw_RX12_94 nm_yX12_at (CX12_at hE _ _ rx4 (Rl rfl) _ hσ9 h) lM_0 rfl rfl (by decide) rfl rfl rfl (fun z11 σ12 rz11 hσ12 h => ?_)
      show RW layM E mi_X12_reach Φ 118 [some (.ref (eA E 0)), none, some (.int (iz x2)), some (.int (iz x3)), some (.int (iz x4))] [.int (iz z11), .ref (eA E 5), .int (iz (σ9 5 z8.toNat)), .int (iz z6), .ref (eA E 5)] σ12 x
      obtain ⟨o13, h⟩ := h
      refine r_iald (N := 12) (dc D_cX12_reach_1 25 rfl) lM_5 rfl rfl o13 ?_
      refine r_aloadn (dc D_cX12_reach_1 26 rfl) rfl rfl ?_
      refine r_iload (dc D_cX12_reach_1 27 rfl) rfl ?_
      refine r_iconst (n := 4) (dc D_cX12_reach_1 28 rfl) ?_
      refine r_callV (As := [.int (iz x4), .int (iz 4)]) (st := [.int (iz (σ12 5 z11.toNat)), .int (iz (σ9 5 z8.toNat)), .int (iz z6), .ref (eA E 5)]) (dc D_cX12_reach_1 29 rfl) cw_RX12_94 nm_yX12_at (CX12_at hE _ _ rx4 (Rl rfl) _ hσ12 h) lM_0 rfl rfl (by decide) rfl rfl rfl (fun z14 σ15 rz14 hσ15 h => ?_)
      show RW layM E mi_X12_reach Φ 126 [some (.ref (eA E 0)), none, some (.int (iz x2)), some (.int (iz x3)), some (.int (iz x4))] [.int (iz z14), .int (iz (σ12 5 z11.toNat)), .int (iz (σ9 5 z8.toNat)), .int (iz z6), .ref (eA E 5)] σ15 x
      refine r_iadd (dc D_cX12_reach_1 30 rfl) ?_
      obtain ⟨o16, h⟩ := h
      refine r_min (dc D_cX12_reach_1 31 rfl) mw_RX12_145 (hσ9 _ _) o16 (by decide) rfl ?_
      obtain ⟨o17, h⟩ := h
      refine r_iast (N := 12) (dc D_cX12_reach_1 32 rfl) lM_5 rfl rfl o17 (Rg_min (hσ9 _ _) o16) ?_
      refine r_sig (fun σ18 eσ18 => ?_)
      have h := h σ18 eσ18
      have hσ18 : RS σ18 := RS_eq eσ18 (RS.up hσ15 (Rg_min (hσ9 _ _) o16) _ _)
      exact TX12_reach_131 hE x hK55 hK64 _ _ _ rx2 rx3 rx4 _ hσ18 h
theorem TX12_reach_64 {E : EV} (hE : eOK layM E) {Φ : Int → PS → Prop} {K55 : Int → Int → PS → Prop} (x : CX) (hK55 : ∀ (x2 x3 : Int) (σ : PS), Rg x2 → Rg x3 → RS σ → K55 x2 x3 σ → RW layM E mi_X12_reach Φ 55 [some (.ref (eA E 0)), none, some (.int (iz x2)), some (.int (iz x3)), none] [] σ x) (n : Nat) : ∀ (x2 x3 x4 : Int) (σ : PS), Rg x2 → Rg x3 → Rg x4 → RS σ → LX12_reach_64 K55 n x2 x3 x4 σ Φ → RW layM E mi_X12_reach Φ 64 [some (.ref (eA E 0)), none, some (.int (iz x2)), some (.int (iz x3)), some (.int (iz x4))] [] σ x := by
  induction n with
  | zero => intro x2 x3 x4 σ _ _ _ _ h; exact h.elim
  | succ n ih => intro x2 x3 x4 σ rx2 rx3 rx4 hs h; exact TBX12_reach_64 hE x hK55 ih x2 x3 x4 rx2 rx3 rx4 σ hs h
set_option maxRecDepth 100000 in
theorem TBX12_reach_55 {E : EV} (hE : eOK layM E) {Φ : Int → PS → Prop} {K55 : Int → Int → PS → Prop} (x : CX) (hK55 : ∀ (x2 x3 : Int) (σ : PS), Rg x2 → Rg x3 → RS σ → K55 x2 x3 σ → RW layM E mi_X12_reach Φ 55 [some (.ref (eA E 0)), none, some (.int (iz x2)), some (.int (iz x3)), none] [] σ x) (x2 x3 : Int) (rx2 : Rg x2) (rx3 : Rg x3) (σ : PS) (hs : RS σ) (h : BX12_reach_55 K55 x2 x3 σ Φ) : RW layM E mi_X12_reach Φ 55 [some (.ref (eA E 0)), none, some (.int (iz x2)), some (.int (iz x3)), none] [] σ x := by
  refine r_iloadn (dc D_cX12_reach_0 31 rfl) rfl rfl ?_
  refine r_bipush (n := 12) (dc D_cX12_reach_0 32 rfl) (by decide +kernel) ?_
  refine r_icmp_ge (tgt := 143) (dc D_cX12_reach_0 33 rfl) (by decide) rx3 (Rl rfl) (fun c1 => ?_) (fun c1 => ?_)
  · have h := h.1 c1
    refine r_iconst (n := 0) (dc D_cX12_reach_1 37 rfl) ?_
    refine r_istoren (lv' := [some (.ref (eA E 0)), none, some (.int (iz x2)), some (.int (iz 0)), none]) (dc D_cX12_reach_1 38 rfl) rfl rfl rfl ?_
    refine r_iconst (n := 0) (dc D_cX12_reach_1 39 rfl) ?_
    refine r_istore (lv' := [some (.ref (eA E 0)), none, some (.int (iz x2)), some (.int (iz 0)), some (.int (iz 0))]) (dc D_cX12_reach_2 0 rfl) rfl rfl ?_
    obtain ⟨n, h⟩ := h
    exact TX12_reach_148 hE x n _ _ _ _ rx2 (Rl rfl) (Rl rfl) hs h
  · have h := h.2 c1
    refine r_iconst (n := 0) (dc D_cX12_reach_0 34 rfl) ?_
    refine r_istore (lv' := [some (.ref (eA E 0)), none, some (.int (iz x2)), some (.int (iz x3)), some (.int (iz 0))]) (dc D_cX12_reach_0 35 rfl) rfl rfl ?_
    obtain ⟨n, h⟩ := h
    exact TX12_reach_64 hE x hK55 n _ _ _ _ rx2 rx3 (Rl rfl) hs h
theorem TX12_reach_55 {E : EV} (hE : eOK layM E) {Φ : Int → PS → Prop} (x : CX) (n : Nat) : ∀ (x2 x3 : Int) (σ : PS), Rg x2 → Rg x3 → RS σ → LX12_reach_55 n x2 x3 σ Φ → RW layM E mi_X12_reach Φ 55 [some (.ref (eA E 0)), none, some (.int (iz x2)), some (.int (iz x3)), none] [] σ x := by
  induction n with
  | zero => intro x2 x3 σ _ _ _ h; exact h.elim
  | succ n ih => intro x2 x3 σ rx2 rx3 hs h; exact TBX12_reach_55 hE x ih x2 x3 rx2 rx3 σ hs h
set_option maxRecDepth 100000 in
theorem TX12_reach_46 {E : EV} (hE : eOK layM E) {Φ : Int → PS → Prop} {K24 : Int → Int → Int → PS → Prop} (x : CX) (hK24 : ∀ (x1 x2 x3 : Int) (σ : PS), Rg x1 → Rg x2 → Rg x3 → RS σ → K24 x1 x2 x3 σ → RW layM E mi_X12_reach Φ 24 [some (.ref (eA E 0)), some (.int (iz x1)), some (.int (iz x2)), some (.int (iz x3)), none] [] σ x) (x1 x2 x3 s1 s2 : Int) (rx1 : Rg x1) (rx2 : Rg x2) (rx3 : Rg x3) (rs1 : Rg s1) (rs2 : Rg s2) (σ : PS) (hs : RS σ) (h : LX12_reach_46 K24 x1 x2 x3 s1 s2 σ Φ) : RW layM E mi_X12_reach Φ 46 [some (.ref (eA E 0)), some (.int (iz x1)), some (.int (iz x2)), some (.int (iz x3)), none] [.int (iz s2), .int (iz s1), .ref (eA E 5)] σ x := by
  obtain ⟨o1, h⟩ := h
  refine r_iast (N := 12) (dc D_cX12_reach_0 26 rfl) lM_5 rfl rfl o1 rs2 ?_
  refine r_sig (fun σ2 eσ2 => ?_)
  have h := h σ2 eσ2
  have hσ2 : RS σ2 := RS_eq eσ2 (RS.up hs rs2 _ _)
  obtain ⟨o3, h⟩ := h
  refine r_iinc (lv' := [some (.ref (eA E 0)), some (.int (iz x1)), some (.int (iz x2)), some (.int (iz (x3 + 1))), none]) (dc D_cX12_reach_0 27 rfl) rfl rfl rfl ?_
  refine r_goto (tgt := 24) (dc D_cX12_reach_0 28 rfl) (by decide) ?_
  exact hK24 _ _ _ _ rx1 rx2 o3 hσ2 h
set_option maxRecDepth 100000 in
theorem TBX12_reach_24 {E : EV} (hE : eOK layM E) {Φ : Int → PS → Prop} {K24 : Int → Int → Int → PS → Prop} (x : CX) (hK24 : ∀ (x1 x2 x3 : Int) (σ : PS), Rg x1 → Rg x2 → Rg x3 → RS σ → K24 x1 x2 x3 σ → RW layM E mi_X12_reach Φ 24 [some (.ref (eA E 0)), some (.int (iz x1)), some (.int (iz x2)), some (.int (iz x3)), none] [] σ x) (x1 x2 x3 : Int) (rx1 : Rg x1) (rx2 : Rg x2) (rx3 : Rg x3) (σ : PS) (hs : RS σ) (h : BX12_reach_24 K24 x1 x2 x3 σ Φ) : RW layM E mi_X12_reach Φ 24 [some (.ref (eA E 0)), some (.int (iz x1)), some (.int (iz x2)), some (.int (iz x3)), none] [] σ x := by
  refine r_iloadn (dc D_cX12_reach_0 14 rfl) rfl rfl ?_
  refine r_bipush (n := 12) (dc D_cX12_reach_0 15 rfl) (by decide +kernel) ?_
  refine r_icmp_ge (tgt := 53) (dc D_cX12_reach_0 16 rfl) (by decide) rx3 (Rl rfl) (fun c1 => ?_) (fun c1 => ?_)
  · have h := h.1 c1
    refine r_iconst (n := 0) (dc D_cX12_reach_0 29 rfl) ?_
    refine r_istoren (lv' := [some (.ref (eA E 0)), some (.int (iz x1)), some (.int (iz x2)), some (.int (iz 0)), none]) (dc D_cX12_reach_0 30 rfl) rfl rfl rfl ?_
    refine r_sub (lv' := [some (.ref (eA E 0)), none, some (.int (iz x2)), some (.int (iz 0)), none]) (subL_s (subL_n (subL_s (subL_s (subL_n subL_e))))) ?_
    obtain ⟨n, h⟩ := h
    exact TX12_reach_55 hE x n _ _ _ rx2 (Rl rfl) hs h
  · have h := h.2 c1
    refine r_aloadn (dc D_cX12_reach_0 17 rfl) rfl rfl ?_
    refine r_getR (dc D_cX12_reach_0 18 rfl) fw_RX12_22 lM_0 rfl ?_
    refine r_iloadn (dc D_cX12_reach_0 19 rfl) rfl rfl ?_
    refine r_iloadn (dc D_cX12_reach_0 20 rfl) rfl rfl ?_
    refine r_iloadn (dc D_cX12_reach_0 21 rfl) rfl rfl ?_
    refine r_icmp_ne (tgt := 44) (dc D_cX12_reach_0 22 rfl) (by decide) rx3 rx1 (fun c2 => ?_) (fun c2 => ?_)
    · have h := h.1 c2
      refine r_bipush (n := 99) (dc D_cX12_reach_0 25 rfl) (by decide +kernel) ?_
      exact TX12_reach_46 hE x hK24 _ _ _ _ _ rx1 rx2 rx3 rx3 (Rl rfl) _ hs h
    · have h := h.2 c2
      refine r_iconst (n := 0) (dc D_cX12_reach_0 23 rfl) ?_
      refine r_goto (tgt := 46) (dc D_cX12_reach_0 24 rfl) (by decide) ?_
      exact TX12_reach_46 hE x hK24 _ _ _ _ _ rx1 rx2 rx3 rx3 (Rl rfl) _ hs h
theorem TX12_reach_24 {E : EV} (hE : eOK layM E) {Φ : Int → PS → Prop} (x : CX) (n : Nat) : ∀ (x1 x2 x3 : Int) (σ : PS), Rg x1 → Rg x2 → Rg x3 → RS σ → LX12_reach_24 n x1 x2 x3 σ Φ → RW layM E mi_X12_reach Φ 24 [some (.ref (eA E 0)), some (.int (iz x1)), some (.int (iz x2)), some (.int (iz x3)), none] [] σ x := by
  induction n with
  | zero => intro x1 x2 x3 σ _ _ _ _ h; exact h.elim
  | succ n ih => intro x1 x2 x3 σ rx1 rx2 rx3 hs h; exact TBX12_reach_24 hE x ih x1 x2 x3 rx1 rx2 rx3 σ hs h
set_option maxRecDepth 100000 in
theorem CX12_reach {E : EV} (hE : eOK layM E) {Φ : Int → PS → Prop} (a1 a2 : Int) (ra1 : Rg a1) (ra2 : Rg a2) (σ : PS) (hs : RS σ) (h : FX12_reach a1 a2 σ Φ) : CT layM E yX12_reach mi_X12_reach [.ref (eA E 0), .int (iz a1), .int (iz a2)] σ Φ := by
  refine ct_of (by decide +kernel) rfl hE rfl rfl hs (fun x => ?_)
  show RW layM E mi_X12_reach Φ 0 [some (.ref (eA E 0)), some (.int (iz a1)), some (.int (iz a2)), none, none] [] σ x
  refine r_iloadn (dc D_cX12_reach_0 0 rfl) rfl rfl ?_
  refine r_callS (As := [.int (iz a1)]) (st := []) (dc D_cX12_reach_0 1 rfl) cw_RX12_106 nm_yX12_isNode (CX12_isNode hE _ ra1 _ hs h) rfl (by decide) rfl rfl rfl (fun z1 σ2 rz1 hσ2 h => ?_)
  show RW layM E mi_X12_reach Φ 4 [some (.ref (eA E 0)), some (.int (iz a1)), some (.int (iz a2)), none, none] [.int (iz z1)] σ2 x
  refine r_if_ne (tgt := 9) (dc D_cX12_reach_0 2 rfl) (by decide) rz1 (fun c3 => ?_) (fun c3 => ?_)
  · have h := h.1 c3
    refine r_iloadn (dc D_cX12_reach_0 5 rfl) rfl rfl ?_
    refine r_iconst (n := 0) (dc D_cX12_reach_0 6 rfl) ?_
    refine r_bipush (n := 20) (dc D_cX12_reach_0 7 rfl) (by decide +kernel) ?_
    refine r_callS (As := [.int (iz a2), .int (iz 0), .int (iz 20)]) (st := []) (dc D_cX12_reach_0 8 rfl) cw_RX12_90 nm_yX12_in (CX12_in hE _ _ _ ra2 (Rl rfl) (Rl rfl) _ hσ2 h) rfl (by decide) rfl rfl rfl (fun z4 σ5 rz4 hσ5 h => ?_)
    show RW layM E mi_X12_reach Φ 16 [some (.ref (eA E 0)), some (.int (iz a1)), some (.int (iz a2)), none, none] [.int (iz z4)] σ5 x
    refine r_if_ne (tgt := 22) (dc D_cX12_reach_0 9 rfl) (by decide) rz4 (fun c6 => ?_) (fun c6 => ?_)
    · have h := h.1 c6
      refine r_iconst (n := 0) (dc D_cX12_reach_0 12 rfl) ?_
      refine r_istoren (lv' := [some (.ref (eA E 0)), some (.int (iz a1)), some (.int (iz a2)), some (.int (iz 0)), none]) (dc D_cX12_reach_0 13 rfl) rfl rfl rfl ?_
      obtain ⟨n, h⟩ := h
      exact TX12_reach_24 hE x n _ _ _ _ ra1 ra2 (Rl rfl) hσ5 h
    · have h := h.2 c6
      refine r_bipush (n := (-2)) (dc D_cX12_reach_0 10 rfl) (by decide +kernel) ?_
      exact r_iret (dc D_cX12_reach_0 11 rfl) rfl (Rl rfl) h
  · have h := h.2 c3
    refine r_iconst (n := (-1)) (dc D_cX12_reach_0 3 rfl) ?_
    exact r_iret (dc D_cX12_reach_0 4 rfl) rfl (Rl rfl) h
-- end of GateFlowModel.reach
