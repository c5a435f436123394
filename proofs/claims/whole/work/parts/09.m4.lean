def mi_X12_image : MI := (cX12_image, RX12, 2, 1, (some .int), 1)
def BX12_image_2 (K2 : Int → PS → Prop) (x1 : Int) (σ : PS) (Φ : Int → PS → Prop) : Prop :=
  ((183 ≤ x1 →
    ∀ σ2 : PS, σ2 = up2 σ 0 2 1 →
    Φ (σ2 1 2) σ2) ∧
  (¬ 183 ≤ x1 →
    (0 ≤ x1 ∧ x1 < 183) ∧
    (0 ≤ x1 ∧ x1 < 183) ∧
    ∀ σ5 : PS, σ5 = up2 σ 2 x1.toNat (σ 1 x1.toNat) →
    Rg (x1 + 1) ∧
    K2 (x1 + 1) σ5))
def LX12_image_2 : Nat → Int → PS → (Int → PS → Prop) → Prop
  | 0, _, _, _ => False
  | n + 1, x1, σ, Φ => BX12_image_2 (fun x1 σ => LX12_image_2 n x1 σ Φ) x1 σ Φ
def FX12_image (σ : PS) (Φ : Int → PS → Prop) : Prop :=
  ∃ n, LX12_image_2 n 0 σ Φ
theorem fw_RX12_13 : FW RX12 13 12 1 := ⟨RX12, TX12, 39, rfl, by decide, rfl, tb_1 1220 (by decide +kernel), uw_12⟩
theorem fw_RX12_352 : FW RX12 352 12 2 := ⟨RX12, TX12, 39, rfl, by decide, rfl, tb_1 1221 (by decide +kernel), uw_12⟩
theorem fp_12_2 : FP 12 2 .boolean := ⟨RX12, TX12, 39, tyX12, rfl, tyX12_ok, nmX12, rfl, by decide +kernel⟩
set_option maxRecDepth 100000 in
theorem TBX12_image_2 {E : EV} (hE : eOK layM E) {Φ : Int → PS → Prop} {K2 : Int → PS → Prop} (x : CX) (hK2 : ∀ (x1 : Int) (σ : PS), Rg x1 → RS σ → K2 x1 σ → RW layM E mi_X12_image Φ 2 [some (.ref (eA E 0)), some (.int (iz x1))] [] σ x) (x1 : Int) (rx1 : Rg x1) (σ : PS) (hs : RS σ) (h : BX12_image_2 K2 x1 σ Φ) : RW layM E mi_X12_image Φ 2 [some (.ref (eA E 0)), some (.int (iz x1))] [] σ x := by
  refine r_iloadn (dc D_cX12_image_0 2 rfl) rfl rfl ?_
  refine r_sipush (n := 183) (dc D_cX12_image_0 3 rfl) (by decide +kernel) ?_
  refine r_icmp_ge (tgt := 27) (dc D_cX12_image_0 4 rfl) (by decide) rx1 (Rl rfl) (fun c1 => ?_) (fun c1 => ?_)
  · have h := h.1 c1
    refine r_aloadn (dc D_cX12_image_0 15 rfl) rfl rfl ?_
    refine r_iconst (n := 1) (dc D_cX12_image_0 16 rfl) ?_
    refine r_put (dc D_cX12_image_0 17 rfl) fw_RX12_352 fp_12_2 lM_0 rfl (nar_bool (by decide)) (Rl rfl) ?_
    refine r_sig (fun σ2 eσ2 => ?_)
    have h := h σ2 eσ2
    have hσ2 : RS σ2 := RS_eq eσ2 (RS.up hs (Rl rfl) _ _)
    refine r_aloadn (dc D_cX12_image_0 18 rfl) rfl rfl ?_
    refine r_getR (dc D_cX12_image_0 19 rfl) fw_RX12_9 lM_0 rfl ?_
    refine r_iconst (n := 2) (dc D_cX12_image_0 20 rfl) ?_
    refine r_iald (N := 183) (dc D_cX12_image_0 21 rfl) lM_1 rfl rfl ⟨by decide, by decide⟩ ?_
    exact r_iret (dc D_cX12_image_0 22 rfl) rfl (hσ2 _ _) h
  · have h := h.2 c1
    refine r_aloadn (dc D_cX12_image_0 5 rfl) rfl rfl ?_
    refine r_getR (dc D_cX12_image_0 6 rfl) fw_RX12_13 lM_0 rfl ?_
    refine r_iloadn (dc D_cX12_image_0 7 rfl) rfl rfl ?_
    refine r_aloadn (dc D_cX12_image_0 8 rfl) rfl rfl ?_
    refine r_getR (dc D_cX12_image_0 9 rfl) fw_RX12_9 lM_0 rfl ?_
    refine r_iloadn (dc D_cX12_image_0 10 rfl) rfl rfl ?_
    obtain ⟨o3, h⟩ := h
    refine r_iald (N := 183) (dc D_cX12_image_0 11 rfl) lM_1 rfl rfl o3 ?_
    obtain ⟨o4, h⟩ := h
    refine r_iast (N := 183) (dc D_cX12_image_0 12 rfl) lM_2 rfl rfl o4 (hs _ _) ?_
    refine r_sig (fun σ5 eσ5 => ?_)
    have h := h σ5 eσ5
    have hσ5 : RS σ5 := RS_eq eσ5 (RS.up hs (hs _ _) _ _)
    obtain ⟨o6, h⟩ := h
    refine r_iinc (lv' := [some (.ref (eA E 0)), some (.int (iz (x1 + 1)))]) (dc D_cX12_image_0 13 rfl) rfl rfl rfl ?_
    refine r_goto (tgt := 2) (dc D_cX12_image_0 14 rfl) (by decide) ?_
    exact hK2 _ _ o6 hσ5 h
theorem TX12_image_2 {E : EV} (hE : eOK layM E) {Φ : Int → PS → Prop} (x : CX) (n : Nat) : ∀ (x1 : Int) (σ : PS), Rg x1 → RS σ → LX12_image_2 n x1 σ Φ → RW layM E mi_X12_image Φ 2 [some (.ref (eA E 0)), some (.int (iz x1))] [] σ x := by
  induction n with
  | zero => intro x1 σ _ _ h; exact h.elim
  | succ n ih => intro x1 σ rx1 hs h; exact TBX12_image_2 hE x ih x1 rx1 σ hs h
set_option maxRecDepth 100000 in
theorem CX12_image {E : EV} (hE : eOK layM E) {Φ : Int → PS → Prop} (σ : PS) (hs : RS σ) (h : FX12_image σ Φ) : CT layM E yX12_image mi_X12_image [.ref (eA E 0)] σ Φ := by
  refine ct_of (by decide +kernel) rfl hE rfl rfl hs (fun x => ?_)
  show RW layM E mi_X12_image Φ 0 [some (.ref (eA E 0)), none] [] σ x
  refine r_iconst (n := 0) (dc D_cX12_image_0 0 rfl) ?_
  refine r_istoren (lv' := [some (.ref (eA E 0)), some (.int (iz 0))]) (dc D_cX12_image_0 1 rfl) rfl rfl rfl ?_
  obtain ⟨n, h⟩ := h
  exact TX12_image_2 hE x n _ _ (Rl rfl) hs h
-- end of GateFlowModel.image
def mi_X12_undo : MI := (cX12_undo, RX12, 2, 1, (some .int), 1)
def BX12_undo_12 (K12 : Int → PS → Prop) (x1 : Int) (σ : PS) (Φ : Int → PS → Prop) : Prop :=
  ((183 ≤ x1 →
    Φ (σ 1 2) σ) ∧
  (¬ 183 ≤ x1 →
    (0 ≤ x1 ∧ x1 < 183) ∧
    (0 ≤ x1 ∧ x1 < 183) ∧
    ∀ σ4 : PS, σ4 = up2 σ 1 x1.toNat (σ 2 x1.toNat) →
    Rg (x1 + 1) ∧
    K12 (x1 + 1) σ4))
def LX12_undo_12 : Nat → Int → PS → (Int → PS → Prop) → Prop
  | 0, _, _, _ => False
  | n + 1, x1, σ, Φ => BX12_undo_12 (fun x1 σ => LX12_undo_12 n x1 σ Φ) x1 σ Φ
def FX12_undo (σ : PS) (Φ : Int → PS → Prop) : Prop :=
  ((¬ σ 0 2 = 0 →
    ∃ n, LX12_undo_12 n 0 σ Φ) ∧
  (σ 0 2 = 0 →
    Φ (-3) σ))
set_option maxRecDepth 100000 in
theorem TBX12_undo_12 {E : EV} (hE : eOK layM E) {Φ : Int → PS → Prop} {K12 : Int → PS → Prop} (x : CX) (hK12 : ∀ (x1 : Int) (σ : PS), Rg x1 → RS σ → K12 x1 σ → RW layM E mi_X12_undo Φ 12 [some (.ref (eA E 0)), some (.int (iz x1))] [] σ x) (x1 : Int) (rx1 : Rg x1) (σ : PS) (hs : RS σ) (h : BX12_undo_12 K12 x1 σ Φ) : RW layM E mi_X12_undo Φ 12 [some (.ref (eA E 0)), some (.int (iz x1))] [] σ x := by
  refine r_iloadn (dc D_cX12_undo_0 7 rfl) rfl rfl ?_
  refine r_sipush (n := 183) (dc D_cX12_undo_0 8 rfl) (by decide +kernel) ?_
  refine r_icmp_ge (tgt := 37) (dc D_cX12_undo_0 9 rfl) (by decide) rx1 (Rl rfl) (fun c1 => ?_) (fun c1 => ?_)
  · have h := h.1 c1
    refine r_aloadn (dc D_cX12_undo_0 20 rfl) rfl rfl ?_
    refine r_getR (dc D_cX12_undo_0 21 rfl) fw_RX12_9 lM_0 rfl ?_
    refine r_iconst (n := 2) (dc D_cX12_undo_0 22 rfl) ?_
    refine r_iald (N := 183) (dc D_cX12_undo_0 23 rfl) lM_1 rfl rfl ⟨by decide, by decide⟩ ?_
    exact r_iret (dc D_cX12_undo_0 24 rfl) rfl (hs _ _) h
  · have h := h.2 c1
    refine r_aloadn (dc D_cX12_undo_0 10 rfl) rfl rfl ?_
    refine r_getR (dc D_cX12_undo_0 11 rfl) fw_RX12_9 lM_0 rfl ?_
    refine r_iloadn (dc D_cX12_undo_0 12 rfl) rfl rfl ?_
    refine r_aloadn (dc D_cX12_undo_0 13 rfl) rfl rfl ?_
    refine r_getR (dc D_cX12_undo_0 14 rfl) fw_RX12_13 lM_0 rfl ?_
    refine r_iloadn (dc D_cX12_undo_0 15 rfl) rfl rfl ?_
    obtain ⟨o2, h⟩ := h
    refine r_iald (N := 183) (dc D_cX12_undo_0 16 rfl) lM_2 rfl rfl o2 ?_
    obtain ⟨o3, h⟩ := h
    refine r_iast (N := 183) (dc D_cX12_undo_0 17 rfl) lM_1 rfl rfl o3 (hs _ _) ?_
    refine r_sig (fun σ4 eσ4 => ?_)
    have h := h σ4 eσ4
    have hσ4 : RS σ4 := RS_eq eσ4 (RS.up hs (hs _ _) _ _)
    obtain ⟨o5, h⟩ := h
    refine r_iinc (lv' := [some (.ref (eA E 0)), some (.int (iz (x1 + 1)))]) (dc D_cX12_undo_0 18 rfl) rfl rfl rfl ?_
    refine r_goto (tgt := 12) (dc D_cX12_undo_0 19 rfl) (by decide) ?_
    exact hK12 _ _ o5 hσ4 h
theorem TX12_undo_12 {E : EV} (hE : eOK layM E) {Φ : Int → PS → Prop} (x : CX) (n : Nat) : ∀ (x1 : Int) (σ : PS), Rg x1 → RS σ → LX12_undo_12 n x1 σ Φ → RW layM E mi_X12_undo Φ 12 [some (.ref (eA E 0)), some (.int (iz x1))] [] σ x := by
  induction n with
  | zero => intro x1 σ _ _ h; exact h.elim
  | succ n ih => intro x1 σ rx1 hs h; exact TBX12_undo_12 hE x ih x1 rx1 σ hs h
set_option maxRecDepth 100000 in
theorem CX12_undo {E : EV} (hE : eOK layM E) {Φ : Int → PS → Prop} (σ : PS) (hs : RS σ) (h : FX12_undo σ Φ) : CT layM E yX12_undo mi_X12_undo [.ref (eA E 0)] σ Φ := by
  refine ct_of (by decide +kernel) rfl hE rfl rfl hs (fun x => ?_)
  show RW layM E mi_X12_undo Φ 0 [some (.ref (eA E 0)), none] [] σ x
  refine r_aloadn (dc D_cX12_undo_0 0 rfl) rfl rfl ?_
  refine r_getI (dc D_cX12_undo_0 1 rfl) fw_RX12_352 lM_0 rfl ?_
  refine r_if_ne (tgt := 10) (dc D_cX12_undo_0 2 rfl) (by decide) (hs _ _) (fun c1 => ?_) (fun c1 => ?_)
  · have h := h.1 c1
    refine r_iconst (n := 0) (dc D_cX12_undo_0 5 rfl) ?_
    refine r_istoren (lv' := [some (.ref (eA E 0)), some (.int (iz 0))]) (dc D_cX12_undo_0 6 rfl) rfl rfl rfl ?_
    obtain ⟨n, h⟩ := h
    exact TX12_undo_12 hE x n _ _ (Rl rfl) hs h
  · have h := h.2 c1
    refine r_bipush (n := (-3)) (dc D_cX12_undo_0 3 rfl) (by decide +kernel) ?_
    exact r_iret (dc D_cX12_undo_0 4 rfl) rfl (Rl rfl) h
-- end of GateFlowModel.undo

