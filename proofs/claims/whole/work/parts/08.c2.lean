def mi_X0_roomOf : MI := (cX0_roomOf, RX0, 2, 1, (some .int), 1)
def FX0_roomOf (a1 : Int) (σ : PS) (Φ : Int → PS → Prop) : Prop :=
  ((100 ≤ a1 →
    Rg (a1 - 100) ∧
    (0 ≤ a1 - 100 ∧ a1 - 100 < 30) ∧
    Φ (σ 32 (a1 - 100).toNat) σ) ∧
  (¬ 100 ≤ a1 →
    (0 ≤ a1 ∧ a1 < 30) ∧
    (0 ≤ a1 ∧ a1 < 30) ∧
    Rg ((σ 36 a1.toNat) - (σ 32 a1.toNat)) ∧
    Φ ((σ 36 a1.toNat) - (σ 32 a1.toNat)) σ))
set_option maxRecDepth 100000 in
theorem CX0_roomOf {E : EV} (hE : eOK layC E) {Φ : Int → PS → Prop} (a1 : Int) (ra1 : Rg a1) (σ : PS) (hs : RS σ) (h : FX0_roomOf a1 σ Φ) : CT layC E yX0_roomOf mi_X0_roomOf [.ref (eA E 4), .int (iz a1)] σ Φ := by
  refine ct_of (by decide +kernel) rfl hE rfl rfl hs (fun x => ?_)
  show RW layC E mi_X0_roomOf Φ 0 [some (.ref (eA E 4)), some (.int (iz a1))] [] σ x
  refine r_iloadn (dc D_cX0_roomOf_0 0 rfl) rfl rfl ?_
  refine r_bipush (n := 100) (dc D_cX0_roomOf_0 1 rfl) (by decide +kernel) ?_
  refine r_icmp_ge (tgt := 22) (dc D_cX0_roomOf_0 2 rfl) (by decide) ra1 (Rl rfl) (fun c1 => ?_) (fun c1 => ?_)
  · have h := h.1 c1
    refine r_aloadn (dc D_cX0_roomOf_0 13 rfl) rfl rfl ?_
    refine r_getR (dc D_cX0_roomOf_0 14 rfl) fw_RX0_9 lC_4 rfl ?_
    refine r_iloadn (dc D_cX0_roomOf_0 15 rfl) rfl rfl ?_
    refine r_bipush (n := 100) (dc D_cX0_roomOf_0 16 rfl) (by decide +kernel) ?_
    refine r_isub (dc D_cX0_roomOf_0 17 rfl) ?_
    obtain ⟨o2, h⟩ := h
    obtain ⟨o3, h⟩ := h
    refine r_iald (N := 30) (dc D_cX0_roomOf_0 18 rfl) lC_32 rfl rfl o3 ?_
    exact r_iret (dc D_cX0_roomOf_0 19 rfl) rfl (hs _ _) h
  · have h := h.2 c1
    refine r_aloadn (dc D_cX0_roomOf_0 3 rfl) rfl rfl ?_
    refine r_getR (dc D_cX0_roomOf_0 4 rfl) fw_RX0_24 lC_4 rfl ?_
    refine r_iloadn (dc D_cX0_roomOf_0 5 rfl) rfl rfl ?_
    obtain ⟨o4, h⟩ := h
    refine r_iald (N := 30) (dc D_cX0_roomOf_0 6 rfl) lC_36 rfl rfl o4 ?_
    refine r_aloadn (dc D_cX0_roomOf_0 7 rfl) rfl rfl ?_
    refine r_getR (dc D_cX0_roomOf_0 8 rfl) fw_RX0_9 lC_4 rfl ?_
    refine r_iloadn (dc D_cX0_roomOf_0 9 rfl) rfl rfl ?_
    obtain ⟨o5, h⟩ := h
    refine r_iald (N := 30) (dc D_cX0_roomOf_0 10 rfl) lC_32 rfl rfl o5 ?_
    refine r_isub (dc D_cX0_roomOf_0 11 rfl) ?_
    obtain ⟨o6, h⟩ := h
    refine r_goto (tgt := 31) (dc D_cX0_roomOf_0 12 rfl) (by decide) ?_
    exact r_iret (dc D_cX0_roomOf_0 19 rfl) rfl o6 h
-- end of GateFlow$ByHeights.roomOf
def mi_X0_serve : MI := (cX0_serve, RX0, 5, 5, none, 0)
def LX0_serve_77 (K12 : Int → Int → PS → Prop) (x2 x3 : Int) (σ : PS) (Φ : Int → PS → Prop) : Prop :=
  Rg (x3 + 1) ∧
  K12 x2 (x3 + 1) σ
def BX0_serve_12 (K12 : Int → Int → PS → Prop) (x2 x3 : Int) (σ : PS) (Φ : Int → PS → Prop) : Prop :=
  ((1000000 ≤ x3 →
    Φ 0 σ) ∧
  (¬ 1000000 ≤ x3 →
    (0 ≤ x2 ∧ x2 < 12) ∧
    ((σ 37 x2.toNat ≤ 0 →
      Φ 0 σ) ∧
    (¬ σ 37 x2.toNat ≤ 0 →
      FX0_downStep x2 σ (fun z4 σ5 =>
      ((z4 < 0 →
        FX0_lift x2 σ5 (fun z7 σ8 =>
        ((¬ z7 = 0 →
          LX0_serve_77 K12 x2 x3 σ8 Φ) ∧
        (z7 = 0 →
          Φ 0 σ8)))) ∧
      (¬ z4 < 0 →
        (0 ≤ x2 ∧ x2 < 12) ∧
        FX0_roomOf z4 σ5 (fun z11 σ12 =>
        FX0_push z4 (min (σ5 37 x2.toNat) z11) σ12 (fun z13 σ14 =>
        LX0_serve_77 K12 x2 x3 σ14 Φ)))))))))
def LX0_serve_12 : Nat → Int → Int → PS → (Int → PS → Prop) → Prop
  | 0, _, _, _, _ => False
  | n + 1, x2, x3, σ, Φ => BX0_serve_12 (fun x2 x3 σ => LX0_serve_12 n x2 x3 σ Φ) x2 x3 σ Φ
def FX0_serve (a2 : Int) (σ : PS) (Φ : Int → PS → Prop) : Prop :=
  (0 ≤ a2 ∧ a2 < 12) ∧
  Rg ((σ 35 a2.toNat) + 1) ∧
  (0 ≤ a2 ∧ a2 < 12) ∧
  ∀ σ4 : PS, σ4 = up2 σ 35 a2.toNat ((σ 35 a2.toNat) + 1) →
  ∃ n, LX0_serve_12 n a2 0 σ4 Φ
theorem kw_RX0_40 : Cond.constant RX0 40 (iz 1000000) ∈ TB := tb_1 689 (by decide +kernel)
theorem cw_RX0_80 : CWV RX0 80 yX0_downStep mi_X0_downStep := tb_r [694, 696, 13, 100, 697] (by decide +kernel)
theorem nm_yX0_downStep : ynm yX0_downStep 2 := ⟨⟨by decide +kernel, by decide +kernel⟩, by decide +kernel⟩
theorem cw_RX0_94 : CWV RX0 94 yX0_lift mi_X0_lift := tb_r [703, 705, 15, 100, 706] (by decide +kernel)
theorem nm_yX0_lift : ynm yX0_lift 2 := ⟨⟨by decide +kernel, by decide +kernel⟩, by decide +kernel⟩
theorem cw_RX0_84 : CWV RX0 84 yX0_roomOf mi_X0_roomOf := tb_r [698, 700, 14, 100, 701] (by decide +kernel)
theorem nm_yX0_roomOf : ynm yX0_roomOf 1 := ⟨⟨by decide +kernel, by decide +kernel⟩, by decide +kernel⟩
set_option maxRecDepth 100000 in
theorem TX0_serve_77 {E : EV} (hE : eOK layC E) {Φ : Int → PS → Prop} {K12 : Int → Int → PS → Prop} (x : CX) (hK12 : ∀ (x2 x3 : Int) (σ : PS), Rg x2 → Rg x3 → RS σ → K12 x2 x3 σ → RW layC E mi_X0_serve Φ 12 [some (.ref (eA E 4)), some (.ref (eA E 1)), some (.int (iz x2)), some (.int (iz x3)), none] [] σ x) (x2 x3 : Int) (rx2 : Rg x2) (rx3 : Rg x3) (σ : PS) (hs : RS σ) (h : LX0_serve_77 K12 x2 x3 σ Φ) : RW layC E mi_X0_serve Φ 77 [some (.ref (eA E 4)), some (.ref (eA E 1)), some (.int (iz x2)), some (.int (iz x3)), none] [] σ x := by
  obtain ⟨o1, h⟩ := h
  refine r_iinc (lv' := [some (.ref (eA E 4)), some (.ref (eA E 1)), some (.int (iz x2)), some (.int (iz (x3 + 1))), none]) (dc D_cX0_serve_1 4 rfl) rfl rfl rfl ?_
  refine r_goto (tgt := 12) (dc D_cX0_serve_1 5 rfl) (by decide) ?_
  exact hK12 _ _ _ rx2 o1 hs h
set_option maxRecDepth 100000 in
theorem TBX0_serve_12 {E : EV} (hE : eOK layC E) {Φ : Int → PS → Prop} {K12 : Int → Int → PS → Prop} (x : CX) (hK12 : ∀ (x2 x3 : Int) (σ : PS), Rg x2 → Rg x3 → RS σ → K12 x2 x3 σ → RW layC E mi_X0_serve Φ 12 [some (.ref (eA E 4)), some (.ref (eA E 1)), some (.int (iz x2)), some (.int (iz x3)), none] [] σ x) (x2 x3 : Int) (rx2 : Rg x2) (rx3 : Rg x3) (σ : PS) (hs : RS σ) (h : BX0_serve_12 K12 x2 x3 σ Φ) : RW layC E mi_X0_serve Φ 12 [some (.ref (eA E 4)), some (.ref (eA E 1)), some (.int (iz x2)), some (.int (iz x3)), none] [] σ x := by
  refine r_iloadn (dc D_cX0_serve_0 10 rfl) rfl rfl ?_
  refine r_ldc (n := (1000000)) (dc D_cX0_serve_0 11 rfl) kw_RX0_40 ?_
  refine r_icmp_ge (tgt := 83) (dc D_cX0_serve_0 12 rfl) (by decide) rx3 (Rl rfl) (fun c1 => ?_) (fun c1 => ?_)
  · have h := h.1 c1
    exact r_vret (dc D_cX0_serve_1 6 rfl) rfl h
  · have h := h.2 c1
    refine r_aloadn (dc D_cX0_serve_0 13 rfl) rfl rfl ?_
    refine r_getR (dc D_cX0_serve_0 14 rfl) fw_RX0_27 lC_4 rfl ?_
    refine r_iloadn (dc D_cX0_serve_0 15 rfl) rfl rfl ?_
    obtain ⟨o2, h⟩ := h
    refine r_iald (N := 12) (dc D_cX0_serve_0 16 rfl) lC_37 rfl rfl o2 ?_
    refine r_if_le (tgt := 83) (dc D_cX0_serve_0 17 rfl) (by decide) (hs _ _) (fun c3 => ?_) (fun c3 => ?_)
    · have h := h.1 c3
      exact r_vret (dc D_cX0_serve_1 6 rfl) rfl h
    · have h := h.2 c3
      refine r_aloadn (dc D_cX0_serve_0 18 rfl) rfl rfl ?_
      refine r_aloadn (dc D_cX0_serve_0 19 rfl) rfl rfl ?_
      refine r_iloadn (dc D_cX0_serve_0 20 rfl) rfl rfl ?_
      refine r_callV (As := [.ref (eA E 1), .int (iz x2)]) (st := []) (dc D_cX0_serve_0 21 rfl) cw_RX0_80 nm_yX0_downStep (CX0_downStep hE _ rx2 _ hs h) lC_4 rfl rfl (by decide) rfl rfl rfl (fun z4 σ5 rz4 hσ5 h => ?_)
      show RW layC E mi_X0_serve Φ 33 [some (.ref (eA E 4)), some (.ref (eA E 1)), some (.int (iz x2)), some (.int (iz x3)), none] [.int (iz z4)] σ5 x
      refine r_istore (lv' := [some (.ref (eA E 4)), some (.ref (eA E 1)), some (.int (iz x2)), some (.int (iz x3)), some (.int (iz z4))]) (dc D_cX0_serve_0 22 rfl) rfl rfl ?_
      refine r_iload (dc D_cX0_serve_0 23 rfl) rfl ?_
      refine r_if_lt (tgt := 65) (dc D_cX0_serve_0 24 rfl) (by decide) rz4 (fun c6 => ?_) (fun c6 => ?_)
      · have h := h.1 c6
        refine r_aloadn (dc D_cX0_serve_0 38 rfl) rfl rfl ?_
        refine r_aloadn (dc D_cX0_serve_0 39 rfl) rfl rfl ?_
        refine r_iloadn (dc D_cX0_serve_1 0 rfl) rfl rfl ?_
        refine r_callV (As := [.ref (eA E 1), .int (iz x2)]) (st := []) (dc D_cX0_serve_1 1 rfl) cw_RX0_94 nm_yX0_lift (CX0_lift hE _ rx2 _ hσ5 h) lC_4 rfl rfl (by decide) rfl rfl rfl (fun z7 σ8 rz7 hσ8 h => ?_)
        show RW layC E mi_X0_serve Φ 71 [some (.ref (eA E 4)), some (.ref (eA E 1)), some (.int (iz x2)), some (.int (iz x3)), some (.int (iz z4))] [.int (iz z7)] σ8 x
        refine r_if_ne (tgt := 77) (dc D_cX0_serve_1 2 rfl) (by decide) rz7 (fun c9 => ?_) (fun c9 => ?_)
        · have h := h.1 c9
          refine r_sub (lv' := [some (.ref (eA E 4)), some (.ref (eA E 1)), some (.int (iz x2)), some (.int (iz x3)), none]) (subL_s (subL_s (subL_s (subL_s (subL_n subL_e))))) ?_
          exact TX0_serve_77 hE x hK12 _ _ rx2 rx3 _ hσ8 h
        · have h := h.2 c9
          refine r_goto (tgt := 83) (dc D_cX0_serve_1 3 rfl) (by decide) ?_
          exact r_vret (dc D_cX0_serve_1 6 rfl) rfl h
      · have h := h.2 c6
        refine r_aloadn (dc D_cX0_serve_0 25 rfl) rfl rfl ?_
        refine r_aloadn (dc D_cX0_serve_0 26 rfl) rfl rfl ?_
        refine r_iload (dc D_cX0_serve_0 27 rfl) rfl ?_
        refine r_aloadn (dc D_cX0_serve_0 28 rfl) rfl rfl ?_
        refine r_getR (dc D_cX0_serve_0 29 rfl) fw_RX0_27 lC_4 rfl ?_
        refine r_iloadn (dc D_cX0_serve_0 30 rfl) rfl rfl ?_
        obtain ⟨o10, h⟩ := h
        refine r_iald (N := 12) (dc D_cX0_serve_0 31 rfl) lC_37 rfl rfl o10 ?_
        refine r_aloadn (dc D_cX0_serve_0 32 rfl) rfl rfl ?_
        refine r_iload (dc D_cX0_serve_0 33 rfl) rfl ?_
        refine r_callV (As := [.int (iz z4)]) (st := [.int (iz (σ5 37 x2.toNat)), .int (iz z4), .ref (eA E 1), .ref (eA E 4)]) (dc D_cX0_serve_0 34 rfl) cw_RX0_84 nm_yX0_roomOf (CX0_roomOf hE _ rz4 _ hσ5 h) lC_4 rfl rfl (by decide) rfl rfl rfl (fun z11 σ12 rz11 hσ12 h => ?_)
        show RW layC E mi_X0_serve Φ 56 [some (.ref (eA E 4)), some (.ref (eA E 1)), some (.int (iz x2)), some (.int (iz x3)), some (.int (iz z4))] [.int (iz z11), .int (iz (σ5 37 x2.toNat)), .int (iz z4), .ref (eA E 1), .ref (eA E 4)] σ12 x
        refine r_min (dc D_cX0_serve_0 35 rfl) mw_RX0_88 (hσ5 _ _) rz11 (by decide) rfl ?_
        refine r_callV (As := [.ref (eA E 1), .int (iz z4), .int (iz (min (σ5 37 x2.toNat) z11))]) (st := []) (dc D_cX0_serve_0 36 rfl) cw_RX0_76 nm_yX0_push (CX0_push hE _ _ rz4 (Rg_min (hσ5 _ _) rz11) _ hσ12 h) lC_4 rfl rfl (by decide) rfl rfl rfl (fun z13 σ14 rz13 hσ14 h => ?_)
        show RW layC E mi_X0_serve Φ 62 [some (.ref (eA E 4)), some (.ref (eA E 1)), some (.int (iz x2)), some (.int (iz x3)), some (.int (iz z4))] [] σ14 x
        refine r_goto (tgt := 77) (dc D_cX0_serve_0 37 rfl) (by decide) ?_
        refine r_sub (lv' := [some (.ref (eA E 4)), some (.ref (eA E 1)), some (.int (iz x2)), some (.int (iz x3)), none]) (subL_s (subL_s (subL_s (subL_s (subL_n subL_e))))) ?_
        exact TX0_serve_77 hE x hK12 _ _ rx2 rx3 _ hσ14 h
theorem TX0_serve_12 {E : EV} (hE : eOK layC E) {Φ : Int → PS → Prop} (x : CX) (n : Nat) : ∀ (x2 x3 : Int) (σ : PS), Rg x2 → Rg x3 → RS σ → LX0_serve_12 n x2 x3 σ Φ → RW layC E mi_X0_serve Φ 12 [some (.ref (eA E 4)), some (.ref (eA E 1)), some (.int (iz x2)), some (.int (iz x3)), none] [] σ x := by
  induction n with
  | zero => intro x2 x3 σ _ _ _ h; exact h.elim
  | succ n ih => intro x2 x3 σ rx2 rx3 hs h; exact TBX0_serve_12 hE x ih x2 x3 rx2 rx3 σ hs h
set_option maxRecDepth 100000 in
theorem CX0_serve {E : EV} (hE : eOK layC E) {Φ : Int → PS → Prop} (a2 : Int) (ra2 : Rg a2) (σ : PS) (hs : RS σ) (h : FX0_serve a2 σ Φ) : CT layC E yX0_serve mi_X0_serve [.ref (eA E 4), .ref (eA E 1), .int (iz a2)] σ Φ := by
  refine ct_of (by decide +kernel) rfl hE rfl rfl hs (fun x => ?_)
  show RW layC E mi_X0_serve Φ 0 [some (.ref (eA E 4)), some (.ref (eA E 1)), some (.int (iz a2)), none, none] [] σ x
  refine r_aloadn (dc D_cX0_serve_0 0 rfl) rfl rfl ?_
  refine r_getR (dc D_cX0_serve_0 1 rfl) fw_RX0_21 lC_4 rfl ?_
  refine r_iloadn (dc D_cX0_serve_0 2 rfl) rfl rfl ?_
  refine r_dup2 (dc D_cX0_serve_0 3 rfl) rfl rfl ?_
  obtain ⟨o1, h⟩ := h
  refine r_iald (N := 12) (dc D_cX0_serve_0 4 rfl) lC_35 rfl rfl o1 ?_
  refine r_iconst (n := 1) (dc D_cX0_serve_0 5 rfl) ?_
  refine r_iadd (dc D_cX0_serve_0 6 rfl) ?_
  obtain ⟨o2, h⟩ := h
  obtain ⟨o3, h⟩ := h
  refine r_iast (N := 12) (dc D_cX0_serve_0 7 rfl) lC_35 rfl rfl o3 o2 ?_
  refine r_sig (fun σ4 eσ4 => ?_)
  have h := h σ4 eσ4
  have hσ4 : RS σ4 := RS_eq eσ4 (RS.up hs o2 _ _)
  refine r_iconst (n := 0) (dc D_cX0_serve_0 8 rfl) ?_
  refine r_istoren (lv' := [some (.ref (eA E 4)), some (.ref (eA E 1)), some (.int (iz a2)), some (.int (iz 0)), none]) (dc D_cX0_serve_0 9 rfl) rfl rfl rfl ?_
  obtain ⟨n, h⟩ := h
  exact TX0_serve_12 hE x n _ _ _ ra2 (Rl rfl) hσ4 h
-- end of GateFlow$ByHeights.serve
def mi_X0_run : MI := (cX0_run, RX0, 4, 6, none, 0)
def BX0_run_7 (K7 : Int → PS → Prop) (x2 : Int) (σ : PS) (Φ : Int → PS → Prop) : Prop :=
  ((1000000 ≤ x2 →
    Φ 0 σ) ∧
  (¬ 1000000 ≤ x2 →
    ((σ 4 9 ≤ 0 →
      Φ 0 σ) ∧
    (¬ σ 4 9 ≤ 0 →
      (0 ≤ σ 4 8 ∧ σ 4 8 < 12) ∧
      ∀ v4 : Int, v4 = σ 38 (σ 4 8).toNat →
      FX0_serve v4 σ (fun z5 σ6 =>
      Rg ((σ6 4 8) + 1) ∧
      0 ≤ (σ6 4 8) + 1 ∧
      ∀ σ9 : PS, σ9 = up2 σ6 4 8 (((σ6 4 8) + 1) % 12) →
      Rg ((σ9 4 9) - 1) ∧
      ∀ σ11 : PS, σ11 = up2 σ9 4 9 ((σ9 4 9) - 1) →
      (0 ≤ v4 ∧ v4 < 12) ∧
      ∀ σ13 : PS, σ13 = up2 σ11 39 v4.toNat 0 →
      Rg (x2 + 1) ∧
      K7 (x2 + 1) σ13)))))
def LX0_run_7 : Nat → Int → PS → (Int → PS → Prop) → Prop
  | 0, _, _, _ => False
  | n + 1, x2, σ, Φ => BX0_run_7 (fun x2 σ => LX0_run_7 n x2 σ Φ) x2 σ Φ
def FX0_run (σ : PS) (Φ : Int → PS → Prop) : Prop :=
  FX0_begin σ (fun z1 σ2 =>
  ∃ n, LX0_run_7 n 0 σ2 Φ)
theorem cw_RX0_48 : CWV RX0 48 yX0_serve mi_X0_serve := tb_r [690, 692, 12, 100, 693] (by decide +kernel)
theorem nm_yX0_serve : ynm yX0_serve 2 := ⟨⟨by decide +kernel, by decide +kernel⟩, by decide +kernel⟩
theorem cw_RX0_36 : CWV RX0 36 yX0_begin mi_X0_begin := tb_r [679, 681, 10, 100, 682] (by decide +kernel)
theorem nm_yX0_begin : ynm yX0_begin 1 := ⟨⟨by decide +kernel, by decide +kernel⟩, by decide +kernel⟩
set_option maxRecDepth 100000 in
theorem TBX0_run_7 {E : EV} (hE : eOK layC E) {Φ : Int → PS → Prop} {K7 : Int → PS → Prop} (x : CX) (hK7 : ∀ (x2 : Int) (σ : PS), Rg x2 → RS σ → K7 x2 σ → RW layC E mi_X0_run Φ 7 [some (.ref (eA E 4)), some (.ref (eA E 1)), some (.int (iz x2)), none] [] σ x) (x2 : Int) (rx2 : Rg x2) (σ : PS) (hs : RS σ) (h : BX0_run_7 K7 x2 σ Φ) : RW layC E mi_X0_run Φ 7 [some (.ref (eA E 4)), some (.ref (eA E 1)), some (.int (iz x2)), none] [] σ x := by
  refine r_iloadn (dc D_cX0_run_0 5 rfl) rfl rfl ?_
  refine r_ldc (n := (1000000)) (dc D_cX0_run_0 6 rfl) kw_RX0_40 ?_
  refine r_icmp_ge (tgt := 72) (dc D_cX0_run_0 7 rfl) (by decide) rx2 (Rl rfl) (fun c1 => ?_) (fun c1 => ?_)
  · have h := h.1 c1
    exact r_vret (dc D_cX0_run_1 2 rfl) rfl h
  · have h := h.2 c1
    refine r_aloadn (dc D_cX0_run_0 8 rfl) rfl rfl ?_
    refine r_getI (dc D_cX0_run_0 9 rfl) fw_RX0_41 lC_4 rfl ?_
    refine r_if_le (tgt := 72) (dc D_cX0_run_0 10 rfl) (by decide) (hs _ _) (fun c2 => ?_) (fun c2 => ?_)
    · have h := h.1 c2
      exact r_vret (dc D_cX0_run_1 2 rfl) rfl h
    · have h := h.2 c2
      refine r_aloadn (dc D_cX0_run_0 11 rfl) rfl rfl ?_
      refine r_getR (dc D_cX0_run_0 12 rfl) fw_RX0_30 lC_4 rfl ?_
      refine r_aloadn (dc D_cX0_run_0 13 rfl) rfl rfl ?_
      refine r_getI (dc D_cX0_run_0 14 rfl) fw_RX0_45 lC_4 rfl ?_
      obtain ⟨o3, h⟩ := h
      refine r_iald (N := 12) (dc D_cX0_run_0 15 rfl) lC_38 rfl rfl o3 ?_
      refine r_name (fun v4 ev4 => ?_)
      have h := h v4 ev4
      have rv4 : Rg v4 := Rg_eq ev4 (hs _ _)
      refine r_istoren (lv' := [some (.ref (eA E 4)), some (.ref (eA E 1)), some (.int (iz x2)), some (.int (iz v4))]) (dc D_cX0_run_0 16 rfl) rfl rfl rfl ?_
      refine r_aloadn (dc D_cX0_run_0 17 rfl) rfl rfl ?_
      refine r_aloadn (dc D_cX0_run_0 18 rfl) rfl rfl ?_
      refine r_iloadn (dc D_cX0_run_0 19 rfl) rfl rfl ?_
      refine r_callV (As := [.ref (eA E 1), .int (iz v4)]) (st := []) (dc D_cX0_run_0 20 rfl) cw_RX0_48 nm_yX0_serve (CX0_serve hE _ rv4 _ hs h) lC_4 rfl rfl (by decide) rfl rfl rfl (fun z5 σ6 rz5 hσ6 h => ?_)
      show RW layC E mi_X0_run Φ 36 [some (.ref (eA E 4)), some (.ref (eA E 1)), some (.int (iz x2)), some (.int (iz v4))] [] σ6 x
      refine r_aloadn (dc D_cX0_run_0 21 rfl) rfl rfl ?_
      refine r_aloadn (dc D_cX0_run_0 22 rfl) rfl rfl ?_
      refine r_getI (dc D_cX0_run_0 23 rfl) fw_RX0_45 lC_4 rfl ?_
      refine r_iconst (n := 1) (dc D_cX0_run_0 24 rfl) ?_
      refine r_iadd (dc D_cX0_run_0 25 rfl) ?_
      obtain ⟨o7, h⟩ := h
      refine r_bipush (n := 12) (dc D_cX0_run_0 26 rfl) (by decide +kernel) ?_
      obtain ⟨o8, h⟩ := h
      refine r_irem (dc D_cX0_run_0 27 rfl) o7 (Rl rfl) o8 (by decide) ?_
      refine r_put (dc D_cX0_run_0 28 rfl) fw_RX0_45 fp_0_8 lC_4 rfl (nar_int _) (Rg_mod o7 o8 rfl) ?_
      refine r_sig (fun σ9 eσ9 => ?_)
      have h := h σ9 eσ9
      have hσ9 : RS σ9 := RS_eq eσ9 (RS.up hσ6 (Rg_mod o7 o8 rfl) _ _)
      refine r_aloadn (dc D_cX0_run_0 29 rfl) rfl rfl ?_
      refine r_dup (dc D_cX0_run_0 30 rfl) rfl ?_
      refine r_getI (dc D_cX0_run_0 31 rfl) fw_RX0_41 lC_4 rfl ?_
      refine r_iconst (n := 1) (dc D_cX0_run_0 32 rfl) ?_
      refine r_isub (dc D_cX0_run_0 33 rfl) ?_
      obtain ⟨o10, h⟩ := h
      refine r_put (dc D_cX0_run_0 34 rfl) fw_RX0_41 fp_0_9 lC_4 rfl (nar_int _) o10 ?_
      refine r_sig (fun σ11 eσ11 => ?_)
      have h := h σ11 eσ11
      have hσ11 : RS σ11 := RS_eq eσ11 (RS.up hσ9 o10 _ _)
      refine r_aloadn (dc D_cX0_run_0 35 rfl) rfl rfl ?_
      refine r_getR (dc D_cX0_run_0 36 rfl) fw_RX0_33 lC_4 rfl ?_
      refine r_iloadn (dc D_cX0_run_0 37 rfl) rfl rfl ?_
      refine r_iconst (n := 0) (dc D_cX0_run_0 38 rfl) ?_
      obtain ⟨o12, h⟩ := h
      refine r_iast (N := 12) (dc D_cX0_run_0 39 rfl) lC_39 rfl rfl o12 (Rl rfl) ?_
      refine r_sig (fun σ13 eσ13 => ?_)
      have h := h σ13 eσ13
      have hσ13 : RS σ13 := RS_eq eσ13 (RS.up hσ11 (Rl rfl) _ _)
      obtain ⟨o14, h⟩ := h
      refine r_iinc (lv' := [some (.ref (eA E 4)), some (.ref (eA E 1)), some (.int (iz (x2 + 1))), some (.int (iz v4))]) (dc D_cX0_run_1 0 rfl) rfl rfl rfl ?_
      refine r_goto (tgt := 7) (dc D_cX0_run_1 1 rfl) (by decide) ?_
      refine r_sub (lv' := [some (.ref (eA E 4)), some (.ref (eA E 1)), some (.int (iz (x2 + 1))), none]) (subL_s (subL_s (subL_s (subL_n subL_e)))) ?_
      exact hK7 _ _ o14 hσ13 h
theorem TX0_run_7 {E : EV} (hE : eOK layC E) {Φ : Int → PS → Prop} (x : CX) (n : Nat) : ∀ (x2 : Int) (σ : PS), Rg x2 → RS σ → LX0_run_7 n x2 σ Φ → RW layC E mi_X0_run Φ 7 [some (.ref (eA E 4)), some (.ref (eA E 1)), some (.int (iz x2)), none] [] σ x := by
  induction n with
  | zero => intro x2 σ _ _ h; exact h.elim
  | succ n ih => intro x2 σ rx2 hs h; exact TBX0_run_7 hE x ih x2 rx2 σ hs h
set_option maxRecDepth 100000 in
theorem CX0_run {E : EV} (hE : eOK layC E) {Φ : Int → PS → Prop} (σ : PS) (hs : RS σ) (h : FX0_run σ Φ) : CT layC E yX0_run mi_X0_run [.ref (eA E 4), .ref (eA E 1)] σ Φ := by
  refine ct_of (by decide +kernel) rfl hE rfl rfl hs (fun x => ?_)
  show RW layC E mi_X0_run Φ 0 [some (.ref (eA E 4)), some (.ref (eA E 1)), none, none] [] σ x
  refine r_aloadn (dc D_cX0_run_0 0 rfl) rfl rfl ?_
  refine r_aloadn (dc D_cX0_run_0 1 rfl) rfl rfl ?_
  refine r_callV (As := [.ref (eA E 1)]) (st := []) (dc D_cX0_run_0 2 rfl) cw_RX0_36 nm_yX0_begin (CX0_begin hE  _ hs h) lC_4 rfl rfl (by decide) rfl rfl rfl (fun z1 σ2 rz1 hσ2 h => ?_)
  show RW layC E mi_X0_run Φ 5 [some (.ref (eA E 4)), some (.ref (eA E 1)), none, none] [] σ2 x
  refine r_iconst (n := 0) (dc D_cX0_run_0 3 rfl) ?_
  refine r_istoren (lv' := [some (.ref (eA E 4)), some (.ref (eA E 1)), some (.int (iz 0)), none]) (dc D_cX0_run_0 4 rfl) rfl rfl rfl ?_
  obtain ⟨n, h⟩ := h
  exact TX0_run_7 hE x n _ _ (Rl rfl) hσ2 h
-- end of GateFlow$ByHeights.run
def mi_X11_freshHeights : MI := (cX11_freshHeights, RX11, 1, 7, (some (.object "GateFlow$ByHeights")), 2)
def FX11_freshHeights (σ : PS) (Φ : Int → PS → Prop) : Prop :=
  ((¬ σ 0 6 = 0 →
    Φ 4 σ) ∧
  (σ 0 6 = 0 →
    FX0_run σ (fun z2 σ3 =>
    ∀ σ4 : PS, σ4 = up2 σ3 0 6 1 →
    Φ 4 σ4)))
theorem cw_RX11_345 : CWV RX11 345 yX0_run mi_X0_run := tb_r [675, 676, 677, 100, 678] (by decide +kernel)
theorem nm_yX0_run : ynm yX0_run 1 := ⟨⟨by decide +kernel, by decide +kernel⟩, by decide +kernel⟩
set_option maxRecDepth 100000 in
theorem CX11_freshHeights {E : EV} (hE : eOK layC E) {Φ : Int → PS → Prop} (σ : PS) (hs : RS σ) (h : FX11_freshHeights σ Φ) : CT layC E yX11_freshHeights mi_X11_freshHeights [.ref (eA E 0)] σ Φ := by
  refine ct_of (by decide +kernel) rfl hE rfl rfl hs (fun x => ?_)
  show RW layC E mi_X11_freshHeights Φ 0 [some (.ref (eA E 0))] [] σ x
  refine r_aloadn (dc D_cX11_freshHeights_0 0 rfl) rfl rfl ?_
  refine r_getI (dc D_cX11_freshHeights_0 1 rfl) fw_RX11_333 lC_0 rfl ?_
  refine r_if_ne (tgt := 23) (dc D_cX11_freshHeights_0 2 rfl) (by decide) (hs _ _) (fun c1 => ?_) (fun c1 => ?_)
  · have h := h.1 c1
    refine r_aloadn (dc D_cX11_freshHeights_0 11 rfl) rfl rfl ?_
    refine r_getR (dc D_cX11_freshHeights_0 12 rfl) fw_RX11_29 lC_0 rfl ?_
    exact r_aret (z := 4) (dc D_cX11_freshHeights_0 13 rfl) rfl rfl (Rl rfl) h
  · have h := h.2 c1
    refine r_aloadn (dc D_cX11_freshHeights_0 3 rfl) rfl rfl ?_
    refine r_getR (dc D_cX11_freshHeights_0 4 rfl) fw_RX11_29 lC_0 rfl ?_
    refine r_aloadn (dc D_cX11_freshHeights_0 5 rfl) rfl rfl ?_
    refine r_getR (dc D_cX11_freshHeights_0 6 rfl) fw_RX11_12 lC_0 rfl ?_
    refine r_callV (As := [.ref (eA E 1)]) (st := []) (dc D_cX11_freshHeights_0 7 rfl) cw_RX11_345 nm_yX0_run (CX0_run hE  _ hs h) lC_4 rfl rfl (by decide) rfl rfl rfl (fun z2 σ3 rz2 hσ3 h => ?_)
    show RW layC E mi_X11_freshHeights Φ 18 [some (.ref (eA E 0))] [] σ3 x
    refine r_aloadn (dc D_cX11_freshHeights_0 8 rfl) rfl rfl ?_
    refine r_iconst (n := 1) (dc D_cX11_freshHeights_0 9 rfl) ?_
    refine r_put (dc D_cX11_freshHeights_0 10 rfl) fw_RX11_333 fp_11_6 lC_0 rfl (nar_bool (by decide)) (Rl rfl) ?_
    refine r_sig (fun σ4 eσ4 => ?_)
    have h := h σ4 eσ4
    have hσ4 : RS σ4 := RS_eq eσ4 (RS.up hσ3 (Rl rfl) _ _)
    refine r_aloadn (dc D_cX11_freshHeights_0 11 rfl) rfl rfl ?_
    refine r_getR (dc D_cX11_freshHeights_0 12 rfl) fw_RX11_29 lC_0 rfl ?_
    exact r_aret (z := 4) (dc D_cX11_freshHeights_0 13 rfl) rfl rfl (Rl rfl) h
-- end of GateFlow.freshHeights
def mi_X11_byHeights : MI := (cX11_byHeights, RX11, 2, 8, (some .int), 1)
def FX11_byHeights (a1 : Int) (σ : PS) (Φ : Int → PS → Prop) : Prop :=
  FX3_has a1 σ (fun z1 σ2 =>
  ((z1 = 0 →
    Φ (-1) σ2) ∧
  (¬ z1 = 0 →
    FX11_freshHeights σ2 (fun z4 σ5 => z4 = 4 ∧ ((0 ≤ a1 ∧ a1 < 30) ∧
    Φ (σ5 32 a1.toNat) σ5)))))
theorem fw_RX11_158 : FW RX11 158 0 0 := ⟨RX0, TX0, 11, rfl, by decide, rfl, tb_1 268 (by decide +kernel), uw_0⟩
theorem cw_RX11_154 : CWV RX11 154 yX11_freshHeights mi_X11_freshHeights := tb_r [671, 673, 9, 97, 674] (by decide +kernel)
theorem nm_yX11_freshHeights : ynm yX11_freshHeights 0 := ⟨⟨by decide +kernel, by decide +kernel⟩, by decide +kernel⟩
set_option maxRecDepth 100000 in
theorem CX11_byHeights {E : EV} (hE : eOK layC E) {Φ : Int → PS → Prop} (a1 : Int) (ra1 : Rg a1) (σ : PS) (hs : RS σ) (h : FX11_byHeights a1 σ Φ) : CT layC E yX11_byHeights mi_X11_byHeights [.ref (eA E 0), .int (iz a1)] σ Φ := by
  refine ct_of (by decide +kernel) rfl hE rfl rfl hs (fun x => ?_)
  show RW layC E mi_X11_byHeights Φ 0 [some (.ref (eA E 0)), some (.int (iz a1))] [] σ x
  refine r_aloadn (dc D_cX11_byHeights_0 0 rfl) rfl rfl ?_
  refine r_getR (dc D_cX11_byHeights_0 1 rfl) fw_RX11_12 lC_0 rfl ?_
  refine r_iloadn (dc D_cX11_byHeights_0 2 rfl) rfl rfl ?_
  refine r_callV (As := [.int (iz a1)]) (st := []) (dc D_cX11_byHeights_0 3 rfl) cw_RX11_103 nm_yX3_has (CX3_has hE _ ra1 _ hs h) lC_1 rfl rfl (by decide) rfl rfl rfl (fun z1 σ2 rz1 hσ2 h => ?_)
  show RW layC E mi_X11_byHeights Φ 8 [some (.ref (eA E 0)), some (.int (iz a1))] [.int (iz z1)] σ2 x
  refine r_if_eq (tgt := 23) (dc D_cX11_byHeights_0 4 rfl) (by decide) rz1 (fun c3 => ?_) (fun c3 => ?_)
  · have h := h.1 c3
    refine r_iconst (n := (-1)) (dc D_cX11_byHeights_0 11 rfl) ?_
    exact r_iret (dc D_cX11_byHeights_0 12 rfl) rfl (Rl rfl) h
  · have h := h.2 c3
    refine r_aloadn (dc D_cX11_byHeights_0 5 rfl) rfl rfl ?_
    refine r_callV (As := []) (st := []) (dc D_cX11_byHeights_0 6 rfl) cw_RX11_154 nm_yX11_freshHeights (CX11_freshHeights hE  _ hσ2 h) lC_0 rfl rfl (by decide) rfl rfl rfl (fun z4 σ5 rz4 hσ5 h => ?_)
    obtain ⟨rfl, h⟩ := h
    show RW layC E mi_X11_byHeights Φ 15 [some (.ref (eA E 0)), some (.int (iz a1))] [.ref (eA E 4)] σ5 x
    refine r_getR (dc D_cX11_byHeights_0 7 rfl) fw_RX11_158 lC_4 rfl ?_
    refine r_iloadn (dc D_cX11_byHeights_0 8 rfl) rfl rfl ?_
    obtain ⟨o6, h⟩ := h
    refine r_iald (N := 30) (dc D_cX11_byHeights_0 9 rfl) lC_32 rfl rfl o6 ?_
    refine r_goto (tgt := 24) (dc D_cX11_byHeights_0 10 rfl) (by decide) ?_
    exact r_iret (dc D_cX11_byHeights_0 12 rfl) rfl (hσ5 _ _) h
-- end of GateFlow.byHeights
def mi_X11_heights : MI := (cX11_heights, RX11, 3, 8, (some .int), 1)
def FX11_heights (a1 a2 : Int) (σ : PS) (Φ : Int → PS → Prop) : Prop :=
  ((¬ a1 = (-1) →
    FX11_isNode a1 σ (fun z2 σ3 =>
    ((¬ z2 = 0 →
      (a2 = 0 →
        FX11_freshHeights σ3 (fun z5 σ6 => z5 = 4 ∧ ((0 ≤ a1 ∧ a1 < 12) ∧
        Φ (σ6 33 a1.toNat) σ6))) ∧
      (a2 = 1 →
        FX11_freshHeights σ3 (fun z9 σ10 => z9 = 4 ∧ ((0 ≤ a1 ∧ a1 < 12) ∧
        Φ (σ10 34 a1.toNat) σ10))) ∧
      (a2 = 2 →
        FX11_freshHeights σ3 (fun z13 σ14 => z13 = 4 ∧ ((0 ≤ a1 ∧ a1 < 12) ∧
        Φ (σ14 35 a1.toNat) σ14))) ∧
      ((a2 < 0 ∨ 2 < a2) →
        Φ (-1) σ3)) ∧
    (z2 = 0 →
      Φ (-1) σ3)))) ∧
  (a1 = (-1) →
    ((¬ a2 = 0 →
      Φ (-1) σ) ∧
    (a2 = 0 →
      FX11_freshHeights σ (fun z19 σ20 => z19 = 4 ∧ (Φ (σ20 4 10) σ20))))))
theorem fw_RX11_162 : FW RX11 162 0 1 := ⟨RX0, TX0, 11, rfl, by decide, rfl, tb_1 270 (by decide +kernel), uw_0⟩
theorem fw_RX11_168 : FW RX11 168 0 3 := ⟨RX0, TX0, 11, rfl, by decide, rfl, tb_1 274 (by decide +kernel), uw_0⟩
theorem fw_RX11_165 : FW RX11 165 0 2 := ⟨RX0, TX0, 11, rfl, by decide, rfl, tb_1 272 (by decide +kernel), uw_0⟩
theorem fw_RX11_159 : FW RX11 159 0 10 := ⟨RX0, TX0, 11, rfl, by decide, rfl, tb_1 282 (by decide +kernel), uw_0⟩
set_option maxRecDepth 100000 in
theorem CX11_heights {E : EV} (hE : eOK layC E) {Φ : Int → PS → Prop} (a1 a2 : Int) (ra1 : Rg a1) (ra2 : Rg a2) (σ : PS) (hs : RS σ) (h : FX11_heights a1 a2 σ Φ) : CT layC E yX11_heights mi_X11_heights [.ref (eA E 0), .int (iz a1), .int (iz a2)] σ Φ := by
  refine ct_of (by decide +kernel) rfl hE rfl rfl hs (fun x => ?_)
  show RW layC E mi_X11_heights Φ 0 [some (.ref (eA E 0)), some (.int (iz a1)), some (.int (iz a2))] [] σ x
  refine r_iloadn (dc D_cX11_heights_0 0 rfl) rfl rfl ?_
  refine r_iconst (n := (-1)) (dc D_cX11_heights_0 1 rfl) ?_
  refine r_icmp_ne (tgt := 21) (dc D_cX11_heights_0 2 rfl) (by decide) ra1 (Rl rfl) (fun c1 => ?_) (fun c1 => ?_)
  · have h := h.1 c1
    refine r_iloadn (dc D_cX11_heights_0 11 rfl) rfl rfl ?_
    refine r_callS (As := [.int (iz a1)]) (st := []) (dc D_cX11_heights_0 12 rfl) cw_RX11_82 nm_yX11_isNode (CX11_isNode hE _ ra1 _ hs h) rfl (by decide) rfl rfl rfl (fun z2 σ3 rz2 hσ3 h => ?_)
    show RW layC E mi_X11_heights Φ 25 [some (.ref (eA E 0)), some (.int (iz a1)), some (.int (iz a2))] [.int (iz z2)] σ3 x
    refine r_if_ne (tgt := 30) (dc D_cX11_heights_0 13 rfl) (by decide) rz2 (fun c4 => ?_) (fun c4 => ?_)
    · have h := h.1 c4
      refine r_iloadn (dc D_cX11_heights_0 16 rfl) rfl rfl ?_
      refine r_by (c := a2 = 0) (fun c8 => ?_) (fun nc8 => ?_)
      · refine r_swIn (tgt := 56) (off := 25) (v := 0) (dc D_cX11_heights_0 17 rfl) c8 (by decide) (by decide) ?_
        have h := h.1 c8
        refine r_aloadn (dc D_cX11_heights_0 18 rfl) rfl rfl ?_
        refine r_callV (As := []) (st := []) (dc D_cX11_heights_0 19 rfl) cw_RX11_154 nm_yX11_freshHeights (CX11_freshHeights hE  _ hσ3 h) lC_0 rfl rfl (by decide) rfl rfl rfl (fun z5 σ6 rz5 hσ6 h => ?_)
        obtain ⟨rfl, h⟩ := h
        show RW layC E mi_X11_heights Φ 60 [some (.ref (eA E 0)), some (.int (iz a1)), some (.int (iz a2))] [.ref (eA E 4)] σ6 x
        refine r_getR (dc D_cX11_heights_0 20 rfl) fw_RX11_162 lC_4 rfl ?_
        refine r_iloadn (dc D_cX11_heights_0 21 rfl) rfl rfl ?_
        obtain ⟨o7, h⟩ := h
        refine r_iald (N := 12) (dc D_cX11_heights_0 22 rfl) lC_33 rfl rfl o7 ?_
        exact r_iret (dc D_cX11_heights_0 23 rfl) rfl (hσ6 _ _) h
      replace h := h.2
      refine r_by (c := a2 = 1) (fun c12 => ?_) (fun nc12 => ?_)
      · refine r_swIn (tgt := 66) (off := 35) (v := 1) (dc D_cX11_heights_0 17 rfl) c12 (by decide) (by decide) ?_
        have h := h.1 c12
        refine r_aloadn (dc D_cX11_heights_0 24 rfl) rfl rfl ?_
        refine r_callV (As := []) (st := []) (dc D_cX11_heights_0 25 rfl) cw_RX11_154 nm_yX11_freshHeights (CX11_freshHeights hE  _ hσ3 h) lC_0 rfl rfl (by decide) rfl rfl rfl (fun z9 σ10 rz9 hσ10 h => ?_)
        obtain ⟨rfl, h⟩ := h
        show RW layC E mi_X11_heights Φ 70 [some (.ref (eA E 0)), some (.int (iz a1)), some (.int (iz a2))] [.ref (eA E 4)] σ10 x
        refine r_getR (dc D_cX11_heights_0 26 rfl) fw_RX11_165 lC_4 rfl ?_
        refine r_iloadn (dc D_cX11_heights_0 27 rfl) rfl rfl ?_
        obtain ⟨o11, h⟩ := h
        refine r_iald (N := 12) (dc D_cX11_heights_0 28 rfl) lC_34 rfl rfl o11 ?_
        exact r_iret (dc D_cX11_heights_0 29 rfl) rfl (hσ10 _ _) h
      replace h := h.2
      refine r_by (c := a2 = 2) (fun c16 => ?_) (fun nc16 => ?_)
      · refine r_swIn (tgt := 76) (off := 45) (v := 2) (dc D_cX11_heights_0 17 rfl) c16 (by decide) (by decide) ?_
        have h := h.1 c16
        refine r_aloadn (dc D_cX11_heights_0 30 rfl) rfl rfl ?_
        refine r_callV (As := []) (st := []) (dc D_cX11_heights_0 31 rfl) cw_RX11_154 nm_yX11_freshHeights (CX11_freshHeights hE  _ hσ3 h) lC_0 rfl rfl (by decide) rfl rfl rfl (fun z13 σ14 rz13 hσ14 h => ?_)
        obtain ⟨rfl, h⟩ := h
        show RW layC E mi_X11_heights Φ 80 [some (.ref (eA E 0)), some (.int (iz a1)), some (.int (iz a2))] [.ref (eA E 4)] σ14 x
        refine r_getR (dc D_cX11_heights_0 32 rfl) fw_RX11_168 lC_4 rfl ?_
        refine r_iloadn (dc D_cX11_heights_0 33 rfl) rfl rfl ?_
        obtain ⟨o15, h⟩ := h
        refine r_iald (N := 12) (dc D_cX11_heights_0 34 rfl) lC_35 rfl rfl o15 ?_
        exact r_iret (dc D_cX11_heights_0 35 rfl) rfl (hσ14 _ _) h
      replace h := h.2
      have c17 : a2 < 0 ∨ 2 < a2 := by omega
      have h := h c17
      refine r_swOut (tgt := 86) (dc D_cX11_heights_0 17 rfl) (by decide) ra2 c17 ?_
      refine r_iconst (n := (-1)) (dc D_cX11_heights_0 36 rfl) ?_
      exact r_iret (dc D_cX11_heights_0 37 rfl) rfl (Rl rfl) h
    · have h := h.2 c4
      refine r_iconst (n := (-1)) (dc D_cX11_heights_0 14 rfl) ?_
      exact r_iret (dc D_cX11_heights_0 15 rfl) rfl (Rl rfl) h
  · have h := h.2 c1
    refine r_iloadn (dc D_cX11_heights_0 3 rfl) rfl rfl ?_
    refine r_if_ne (tgt := 19) (dc D_cX11_heights_0 4 rfl) (by decide) ra2 (fun c18 => ?_) (fun c18 => ?_)
    · have h := h.1 c18
      refine r_iconst (n := (-1)) (dc D_cX11_heights_0 9 rfl) ?_
      exact r_iret (dc D_cX11_heights_0 10 rfl) rfl (Rl rfl) h
    · have h := h.2 c18
      refine r_aloadn (dc D_cX11_heights_0 5 rfl) rfl rfl ?_
      refine r_callV (As := []) (st := []) (dc D_cX11_heights_0 6 rfl) cw_RX11_154 nm_yX11_freshHeights (CX11_freshHeights hE  _ hs h) lC_0 rfl rfl (by decide) rfl rfl rfl (fun z19 σ20 rz19 hσ20 h => ?_)
      obtain ⟨rfl, h⟩ := h
      show RW layC E mi_X11_heights Φ 13 [some (.ref (eA E 0)), some (.int (iz a1)), some (.int (iz a2))] [.ref (eA E 4)] σ20 x
      refine r_getI (dc D_cX11_heights_0 7 rfl) fw_RX11_159 lC_4 rfl ?_
      refine r_goto (tgt := 20) (dc D_cX11_heights_0 8 rfl) (by decide) ?_
      exact r_iret (dc D_cX11_heights_0 10 rfl) rfl (hσ20 _ _) h
-- end of GateFlow.heights
def mi_X11_near : MI := (cX11_near, RX11, 1, 7, (some .int), 1)
def FX11_near (σ : PS) (Φ : Int → PS → Prop) : Prop :=
  FX11_freshWays σ (fun z1 σ2 => z1 = 3 ∧ (Φ (σ2 3 9) σ2))
theorem fw_RX11_171 : FW RX11 171 1 9 := ⟨RX1, TX1, 11, rfl, by decide, rfl, tb_1 235 (by decide +kernel), uw_1⟩
set_option maxRecDepth 100000 in
theorem CX11_near {E : EV} (hE : eOK layC E) {Φ : Int → PS → Prop} (σ : PS) (hs : RS σ) (h : FX11_near σ Φ) : CT layC E yX11_near mi_X11_near [.ref (eA E 0)] σ Φ := by
  refine ct_of (by decide +kernel) rfl hE rfl rfl hs (fun x => ?_)
  show RW layC E mi_X11_near Φ 0 [some (.ref (eA E 0))] [] σ x
  refine r_aloadn (dc D_cX11_near_0 0 rfl) rfl rfl ?_
  refine r_callV (As := []) (st := []) (dc D_cX11_near_0 1 rfl) cw_RX11_134 nm_yX11_freshWays (CX11_freshWays hE  _ hs h) lC_0 rfl rfl (by decide) rfl rfl rfl (fun z1 σ2 rz1 hσ2 h => ?_)
  obtain ⟨rfl, h⟩ := h
  show RW layC E mi_X11_near Φ 4 [some (.ref (eA E 0))] [.ref (eA E 3)] σ2 x
  refine r_getI (dc D_cX11_near_0 2 rfl) fw_RX11_171 lC_3 rfl ?_
  exact r_iret (dc D_cX11_near_0 3 rfl) rfl (hσ2 _ _) h
-- end of GateFlow.near
def mi_X11_far : MI := (cX11_far, RX11, 1, 7, (some .int), 1)
def FX11_far (σ : PS) (Φ : Int → PS → Prop) : Prop :=
  FX11_freshWays σ (fun z1 σ2 => z1 = 3 ∧ (Φ (σ2 3 10) σ2))
theorem fw_RX11_174 : FW RX11 174 1 10 := ⟨RX1, TX1, 11, rfl, by decide, rfl, tb_1 237 (by decide +kernel), uw_1⟩
set_option maxRecDepth 100000 in
theorem CX11_far {E : EV} (hE : eOK layC E) {Φ : Int → PS → Prop} (σ : PS) (hs : RS σ) (h : FX11_far σ Φ) : CT layC E yX11_far mi_X11_far [.ref (eA E 0)] σ Φ := by
  refine ct_of (by decide +kernel) rfl hE rfl rfl hs (fun x => ?_)
  show RW layC E mi_X11_far Φ 0 [some (.ref (eA E 0))] [] σ x
  refine r_aloadn (dc D_cX11_far_0 0 rfl) rfl rfl ?_
  refine r_callV (As := []) (st := []) (dc D_cX11_far_0 1 rfl) cw_RX11_134 nm_yX11_freshWays (CX11_freshWays hE  _ hs h) lC_0 rfl rfl (by decide) rfl rfl rfl (fun z1 σ2 rz1 hσ2 h => ?_)
  obtain ⟨rfl, h⟩ := h
  show RW layC E mi_X11_far Φ 4 [some (.ref (eA E 0))] [.ref (eA E 3)] σ2 x
  refine r_getI (dc D_cX11_far_0 2 rfl) fw_RX11_174 lC_3 rfl ?_
  exact r_iret (dc D_cX11_far_0 3 rfl) rfl (hσ2 _ _) h
-- end of GateFlow.far
def mi_X11_cut : MI := (cX11_cut, RX11, 6, 7, (some .int), 1)
def LX11_cut_156 (K19 : Int → Int → Int → PS → Prop) (x1 x3 x4 : Int) (σ : PS) (Φ : Int → PS → Prop) : Prop :=
  Rg (x4 + 1) ∧
  K19 x1 x3 (x4 + 1) σ
def LX11_cut_128 (K19 : Int → Int → Int → PS → Prop) (x1 x3 x4 s0 : Int) (σ : PS) (Φ : Int → PS → Prop) : Prop :=
  ((s0 = 0 →
    LX11_cut_156 K19 x1 x3 x4 σ Φ) ∧
  (¬ s0 = 0 →
    (0 ≤ x4 ∧ x4 < 30) ∧
    ((¬ σ 18 x4.toNat = 1 →
      LX11_cut_156 K19 x1 x3 x4 σ Φ) ∧
    (σ 18 x4.toNat = 1 →
      ∀ v4 : Int, v4 = ior x3 (ishl 1 x4) →
      LX11_cut_156 K19 x1 v4 x4 σ Φ))))
def LX11_cut_127 (K19 : Int → Int → Int → PS → Prop) (x1 x3 x4 : Int) (σ : PS) (Φ : Int → PS → Prop) : Prop :=
  LX11_cut_128 K19 x1 x3 x4 0 σ Φ
def LX11_cut_79 (K19 : Int → Int → Int → PS → Prop) (x1 x3 x4 : Int) (σ : PS) (Φ : Int → PS → Prop) : Prop :=
  LX11_cut_128 K19 x1 x3 x4 0 σ Φ
def BX11_cut_19 (K19 : Int → Int → Int → PS → Prop) (x1 x3 x4 : Int) (σ : PS) (Φ : Int → PS → Prop) : Prop :=
  ((σ 1 6 ≤ x4 →
    Φ x3 σ) ∧
  (¬ σ 1 6 ≤ x4 →
    ((¬ x1 = 0 →
      (0 ≤ x4 ∧ x4 < 30) ∧
      FX11_hasBit (σ 3 10) (σ 13 x4.toNat) σ (fun z4 σ5 =>
      ((¬ z4 = 0 →
        LX11_cut_127 K19 x1 x3 x4 σ5 Φ) ∧
      (z4 = 0 →
        (0 ≤ x4 ∧ x4 < 30) ∧
        FX11_hasBit (σ5 3 10) (σ5 14 x4.toNat) σ5 (fun z8 σ9 =>
        ((z8 = 0 →
          LX11_cut_127 K19 x1 x3 x4 σ9 Φ) ∧
        (¬ z8 = 0 →
          LX11_cut_128 K19 x1 x3 x4 1 σ9 Φ))))))) ∧
    (x1 = 0 →
      (0 ≤ x4 ∧ x4 < 30) ∧
      FX11_hasBit (σ 3 9) (σ 13 x4.toNat) σ (fun z12 σ13 =>
      ((z12 = 0 →
        LX11_cut_79 K19 x1 x3 x4 σ13 Φ) ∧
      (¬ z12 = 0 →
        (0 ≤ x4 ∧ x4 < 30) ∧
        FX11_hasBit (σ13 3 9) (σ13 14 x4.toNat) σ13 (fun z16 σ17 =>
        ((¬ z16 = 0 →
          LX11_cut_79 K19 x1 x3 x4 σ17 Φ) ∧
        (z16 = 0 →
          LX11_cut_128 K19 x1 x3 x4 1 σ17 Φ))))))))))
def LX11_cut_19 : Nat → Int → Int → Int → PS → (Int → PS → Prop) → Prop
  | 0, _, _, _, _, _ => False
  | n + 1, x1, x3, x4, σ, Φ => BX11_cut_19 (fun x1 x3 x4 σ => LX11_cut_19 n x1 x3 x4 σ Φ) x1 x3 x4 σ Φ
def FX11_cut (a1 : Int) (σ : PS) (Φ : Int → PS → Prop) : Prop :=
  FX11_isOneOrZero a1 σ (fun z1 σ2 =>
  ((¬ z1 = 0 →
    FX11_freshWays σ2 (fun z4 σ5 => z4 = 3 ∧ (∃ n, LX11_cut_19 n a1 0 0 σ5 Φ))) ∧
  (z1 = 0 →
    Φ (-1) σ2)))
theorem cw_RX11_177 : CWS RX11 177 yX11_hasBit mi_X11_hasBit := tb_r [724, 657, 97, 658] (by decide +kernel)
set_option maxRecDepth 100000 in
theorem TX11_cut_156 {E : EV} (hE : eOK layC E) {Φ : Int → PS → Prop} {K19 : Int → Int → Int → PS → Prop} (x : CX) (hK19 : ∀ (x1 x3 x4 : Int) (σ : PS), Rg x1 → Rg x3 → Rg x4 → RS σ → K19 x1 x3 x4 σ → RW layC E mi_X11_cut Φ 19 [some (.ref (eA E 0)), some (.int (iz x1)), some (.ref (eA E 3)), some (.int (iz x3)), some (.int (iz x4)), none] [] σ x) (x1 x3 x4 : Int) (rx1 : Rg x1) (rx3 : Rg x3) (rx4 : Rg x4) (σ : PS) (hs : RS σ) (h : LX11_cut_156 K19 x1 x3 x4 σ Φ) : RW layC E mi_X11_cut Φ 156 [some (.ref (eA E 0)), some (.int (iz x1)), some (.ref (eA E 3)), some (.int (iz x3)), some (.int (iz x4)), none] [] σ x := by
  obtain ⟨o1, h⟩ := h
  refine r_iinc (lv' := [some (.ref (eA E 0)), some (.int (iz x1)), some (.ref (eA E 3)), some (.int (iz x3)), some (.int (iz (x4 + 1))), none]) (dc D_cX11_cut_1 38 rfl) rfl rfl rfl ?_
  refine r_goto (tgt := 19) (dc D_cX11_cut_1 39 rfl) (by decide) ?_
  exact hK19 _ _ _ _ rx1 rx3 o1 hs h
set_option maxRecDepth 100000 in
theorem TX11_cut_128 {E : EV} (hE : eOK layC E) {Φ : Int → PS → Prop} {K19 : Int → Int → Int → PS → Prop} (x : CX) (hK19 : ∀ (x1 x3 x4 : Int) (σ : PS), Rg x1 → Rg x3 → Rg x4 → RS σ → K19 x1 x3 x4 σ → RW layC E mi_X11_cut Φ 19 [some (.ref (eA E 0)), some (.int (iz x1)), some (.ref (eA E 3)), some (.int (iz x3)), some (.int (iz x4)), none] [] σ x) (x1 x3 x4 s0 : Int) (rx1 : Rg x1) (rx3 : Rg x3) (rx4 : Rg x4) (rs0 : Rg s0) (σ : PS) (hs : RS σ) (h : LX11_cut_128 K19 x1 x3 x4 s0 σ Φ) : RW layC E mi_X11_cut Φ 128 [some (.ref (eA E 0)), some (.int (iz x1)), some (.ref (eA E 3)), some (.int (iz x3)), some (.int (iz x4)), none] [.int (iz s0)] σ x := by
  refine r_istore (lv' := [some (.ref (eA E 0)), some (.int (iz x1)), some (.ref (eA E 3)), some (.int (iz x3)), some (.int (iz x4)), some (.int (iz s0))]) (dc D_cX11_cut_1 22 rfl) rfl rfl ?_
  refine r_iload (dc D_cX11_cut_1 23 rfl) rfl ?_
  refine r_if_eq (tgt := 156) (dc D_cX11_cut_1 24 rfl) (by decide) rs0 (fun c1 => ?_) (fun c1 => ?_)
  · have h := h.1 c1
    refine r_sub (lv' := [some (.ref (eA E 0)), some (.int (iz x1)), some (.ref (eA E 3)), some (.int (iz x3)), some (.int (iz x4)), none]) (subL_s (subL_s (subL_s (subL_s (subL_s (subL_n subL_e)))))) ?_
    exact TX11_cut_156 hE x hK19 _ _ _ rx1 rx3 rx4 _ hs h
  · have h := h.2 c1
    refine r_aloadn (dc D_cX11_cut_1 25 rfl) rfl rfl ?_
    refine r_getR (dc D_cX11_cut_1 26 rfl) fw_RX11_12 lC_0 rfl ?_
    refine r_getR (dc D_cX11_cut_1 27 rfl) fw_RX11_122 lC_1 rfl ?_
    refine r_iload (dc D_cX11_cut_1 28 rfl) rfl ?_
    obtain ⟨o2, h⟩ := h
    refine r_iald (N := 30) (dc D_cX11_cut_1 29 rfl) lC_18 rfl rfl o2 ?_
    refine r_iconst (n := 1) (dc D_cX11_cut_1 30 rfl) ?_
    refine r_icmp_ne (tgt := 156) (dc D_cX11_cut_1 31 rfl) (by decide) (hs _ _) (Rl rfl) (fun c3 => ?_) (fun c3 => ?_)
    · have h := h.1 c3
      refine r_sub (lv' := [some (.ref (eA E 0)), some (.int (iz x1)), some (.ref (eA E 3)), some (.int (iz x3)), some (.int (iz x4)), none]) (subL_s (subL_s (subL_s (subL_s (subL_s (subL_n subL_e)))))) ?_
      exact TX11_cut_156 hE x hK19 _ _ _ rx1 rx3 rx4 _ hs h
    · have h := h.2 c3
      refine r_iloadn (dc D_cX11_cut_1 32 rfl) rfl rfl ?_
      refine r_iconst (n := 1) (dc D_cX11_cut_1 33 rfl) ?_
      refine r_iload (dc D_cX11_cut_1 34 rfl) rfl ?_
      refine r_ishl (dc D_cX11_cut_1 35 rfl) ?_
      refine r_ior (dc D_cX11_cut_1 36 rfl) ?_
      refine r_name (fun v4 ev4 => ?_)
      have h := h v4 ev4
      have rv4 : Rg v4 := Rg_eq ev4 (Rg_of _)
      refine r_istoren (lv' := [some (.ref (eA E 0)), some (.int (iz x1)), some (.ref (eA E 3)), some (.int (iz v4)), some (.int (iz x4)), some (.int (iz s0))]) (dc D_cX11_cut_1 37 rfl) rfl rfl rfl ?_
      refine r_sub (lv' := [some (.ref (eA E 0)), some (.int (iz x1)), some (.ref (eA E 3)), some (.int (iz v4)), some (.int (iz x4)), none]) (subL_s (subL_s (subL_s (subL_s (subL_s (subL_n subL_e)))))) ?_
      exact TX11_cut_156 hE x hK19 _ _ _ rx1 rv4 rx4 _ hs h
set_option maxRecDepth 100000 in
theorem TX11_cut_127 {E : EV} (hE : eOK layC E) {Φ : Int → PS → Prop} {K19 : Int → Int → Int → PS → Prop} (x : CX) (hK19 : ∀ (x1 x3 x4 : Int) (σ : PS), Rg x1 → Rg x3 → Rg x4 → RS σ → K19 x1 x3 x4 σ → RW layC E mi_X11_cut Φ 19 [some (.ref (eA E 0)), some (.int (iz x1)), some (.ref (eA E 3)), some (.int (iz x3)), some (.int (iz x4)), none] [] σ x) (x1 x3 x4 : Int) (rx1 : Rg x1) (rx3 : Rg x3) (rx4 : Rg x4) (σ : PS) (hs : RS σ) (h : LX11_cut_127 K19 x1 x3 x4 σ Φ) : RW layC E mi_X11_cut Φ 127 [some (.ref (eA E 0)), some (.int (iz x1)), some (.ref (eA E 3)), some (.int (iz x3)), some (.int (iz x4)), none] [] σ x := by
  refine r_iconst (n := 0) (dc D_cX11_cut_1 21 rfl) ?_
  exact TX11_cut_128 hE x hK19 _ _ _ _ rx1 rx3 rx4 (Rl rfl) _ hs h
set_option maxRecDepth 100000 in
theorem TX11_cut_79 {E : EV} (hE : eOK layC E) {Φ : Int → PS → Prop} {K19 : Int → Int → Int → PS → Prop} (x : CX) (hK19 : ∀ (x1 x3 x4 : Int) (σ : PS), Rg x1 → Rg x3 → Rg x4 → RS σ → K19 x1 x3 x4 σ → RW layC E mi_X11_cut Φ 19 [some (.ref (eA E 0)), some (.int (iz x1)), some (.ref (eA E 3)), some (.int (iz x3)), some (.int (iz x4)), none] [] σ x) (x1 x3 x4 : Int) (rx1 : Rg x1) (rx3 : Rg x3) (rx4 : Rg x4) (σ : PS) (hs : RS σ) (h : LX11_cut_79 K19 x1 x3 x4 σ Φ) : RW layC E mi_X11_cut Φ 79 [some (.ref (eA E 0)), some (.int (iz x1)), some (.ref (eA E 3)), some (.int (iz x3)), some (.int (iz x4)), none] [] σ x := by
  refine r_iconst (n := 0) (dc D_cX11_cut_0 39 rfl) ?_
  refine r_goto (tgt := 128) (dc D_cX11_cut_1 0 rfl) (by decide) ?_
  exact TX11_cut_128 hE x hK19 _ _ _ _ rx1 rx3 rx4 (Rl rfl) _ hs h
set_option maxRecDepth 100000 in
theorem TBX11_cut_19 {E : EV} (hE : eOK layC E) {Φ : Int → PS → Prop} {K19 : Int → Int → Int → PS → Prop} (x : CX) (hK19 : ∀ (x1 x3 x4 : Int) (σ : PS), Rg x1 → Rg x3 → Rg x4 → RS σ → K19 x1 x3 x4 σ → RW layC E mi_X11_cut Φ 19 [some (.ref (eA E 0)), some (.int (iz x1)), some (.ref (eA E 3)), some (.int (iz x3)), some (.int (iz x4)), none] [] σ x) (x1 x3 x4 : Int) (rx1 : Rg x1) (rx3 : Rg x3) (rx4 : Rg x4) (σ : PS) (hs : RS σ) (h : BX11_cut_19 K19 x1 x3 x4 σ Φ) : RW layC E mi_X11_cut Φ 19 [some (.ref (eA E 0)), some (.int (iz x1)), some (.ref (eA E 3)), some (.int (iz x3)), some (.int (iz x4)), none] [] σ x := by
  refine r_iload (dc D_cX11_cut_0 12 rfl) rfl ?_
  refine r_aloadn (dc D_cX11_cut_0 13 rfl) rfl rfl ?_
  refine r_getR (dc D_cX11_cut_0 14 rfl) fw_RX11_12 lC_0 rfl ?_
  refine r_getI (dc D_cX11_cut_0 15 rfl) fw_RX11_92 lC_1 rfl ?_
  refine r_icmp_ge (tgt := 162) (dc D_cX11_cut_0 16 rfl) (by decide) rx4 (hs _ _) (fun c1 => ?_) (fun c1 => ?_)
  · have h := h.1 c1
    refine r_iloadn (dc D_cX11_cut_2 0 rfl) rfl rfl ?_
    exact r_iret (dc D_cX11_cut_2 1 rfl) rfl rx3 h
  · have h := h.2 c1
    refine r_iloadn (dc D_cX11_cut_0 17 rfl) rfl rfl ?_
    refine r_if_ne (tgt := 83) (dc D_cX11_cut_0 18 rfl) (by decide) rx1 (fun c2 => ?_) (fun c2 => ?_)
    · have h := h.1 c2
      refine r_aloadn (dc D_cX11_cut_1 1 rfl) rfl rfl ?_
      refine r_getI (dc D_cX11_cut_1 2 rfl) fw_RX11_174 lC_3 rfl ?_
      refine r_aloadn (dc D_cX11_cut_1 3 rfl) rfl rfl ?_
      refine r_getR (dc D_cX11_cut_1 4 rfl) fw_RX11_12 lC_0 rfl ?_
      refine r_getR (dc D_cX11_cut_1 5 rfl) fw_RX11_106 lC_1 rfl ?_
      refine r_iload (dc D_cX11_cut_1 6 rfl) rfl ?_
      obtain ⟨o3, h⟩ := h
      refine r_iald (N := 30) (dc D_cX11_cut_1 7 rfl) lC_13 rfl rfl o3 ?_
      refine r_callS (As := [.int (iz (σ 3 10)), .int (iz (σ 13 x4.toNat))]) (st := []) (dc D_cX11_cut_1 8 rfl) cw_RX11_177 nm_yX11_hasBit (CX11_hasBit hE _ _ (hs _ _) (hs _ _) _ hs h) rfl (by decide) rfl rfl rfl (fun z4 σ5 rz4 hσ5 h => ?_)
      show RW layC E mi_X11_cut Φ 100 [some (.ref (eA E 0)), some (.int (iz x1)), some (.ref (eA E 3)), some (.int (iz x3)), some (.int (iz x4)), none] [.int (iz z4)] σ5 x
      refine r_if_ne (tgt := 127) (dc D_cX11_cut_1 9 rfl) (by decide) rz4 (fun c6 => ?_) (fun c6 => ?_)
      · have h := h.1 c6
        exact TX11_cut_127 hE x hK19 _ _ _ rx1 rx3 rx4 _ hσ5 h
      · have h := h.2 c6
        refine r_aloadn (dc D_cX11_cut_1 10 rfl) rfl rfl ?_
        refine r_getI (dc D_cX11_cut_1 11 rfl) fw_RX11_174 lC_3 rfl ?_
        refine r_aloadn (dc D_cX11_cut_1 12 rfl) rfl rfl ?_
        refine r_getR (dc D_cX11_cut_1 13 rfl) fw_RX11_12 lC_0 rfl ?_
        refine r_getR (dc D_cX11_cut_1 14 rfl) fw_RX11_110 lC_1 rfl ?_
        refine r_iload (dc D_cX11_cut_1 15 rfl) rfl ?_
        obtain ⟨o7, h⟩ := h
        refine r_iald (N := 30) (dc D_cX11_cut_1 16 rfl) lC_14 rfl rfl o7 ?_
        refine r_callS (As := [.int (iz (σ5 3 10)), .int (iz (σ5 14 x4.toNat))]) (st := []) (dc D_cX11_cut_1 17 rfl) cw_RX11_177 nm_yX11_hasBit (CX11_hasBit hE _ _ (hσ5 _ _) (hσ5 _ _) _ hσ5 h) rfl (by decide) rfl rfl rfl (fun z8 σ9 rz8 hσ9 h => ?_)
        show RW layC E mi_X11_cut Φ 120 [some (.ref (eA E 0)), some (.int (iz x1)), some (.ref (eA E 3)), some (.int (iz x3)), some (.int (iz x4)), none] [.int (iz z8)] σ9 x
        refine r_if_eq (tgt := 127) (dc D_cX11_cut_1 18 rfl) (by decide) rz8 (fun c10 => ?_) (fun c10 => ?_)
        · have h := h.1 c10
          exact TX11_cut_127 hE x hK19 _ _ _ rx1 rx3 rx4 _ hσ9 h
        · have h := h.2 c10
          refine r_iconst (n := 1) (dc D_cX11_cut_1 19 rfl) ?_
          refine r_goto (tgt := 128) (dc D_cX11_cut_1 20 rfl) (by decide) ?_
          exact TX11_cut_128 hE x hK19 _ _ _ _ rx1 rx3 rx4 (Rl rfl) _ hσ9 h
    · have h := h.2 c2
      refine r_aloadn (dc D_cX11_cut_0 19 rfl) rfl rfl ?_
      refine r_getI (dc D_cX11_cut_0 20 rfl) fw_RX11_171 lC_3 rfl ?_
      refine r_aloadn (dc D_cX11_cut_0 21 rfl) rfl rfl ?_
      refine r_getR (dc D_cX11_cut_0 22 rfl) fw_RX11_12 lC_0 rfl ?_
      refine r_getR (dc D_cX11_cut_0 23 rfl) fw_RX11_106 lC_1 rfl ?_
      refine r_iload (dc D_cX11_cut_0 24 rfl) rfl ?_
      obtain ⟨o11, h⟩ := h
      refine r_iald (N := 30) (dc D_cX11_cut_0 25 rfl) lC_13 rfl rfl o11 ?_
      refine r_callS (As := [.int (iz (σ 3 9)), .int (iz (σ 13 x4.toNat))]) (st := []) (dc D_cX11_cut_0 26 rfl) cw_RX11_177 nm_yX11_hasBit (CX11_hasBit hE _ _ (hs _ _) (hs _ _) _ hs h) rfl (by decide) rfl rfl rfl (fun z12 σ13 rz12 hσ13 h => ?_)
      show RW layC E mi_X11_cut Φ 52 [some (.ref (eA E 0)), some (.int (iz x1)), some (.ref (eA E 3)), some (.int (iz x3)), some (.int (iz x4)), none] [.int (iz z12)] σ13 x
      refine r_if_eq (tgt := 79) (dc D_cX11_cut_0 27 rfl) (by decide) rz12 (fun c14 => ?_) (fun c14 => ?_)
      · have h := h.1 c14
        exact TX11_cut_79 hE x hK19 _ _ _ rx1 rx3 rx4 _ hσ13 h
      · have h := h.2 c14
        refine r_aloadn (dc D_cX11_cut_0 28 rfl) rfl rfl ?_
        refine r_getI (dc D_cX11_cut_0 29 rfl) fw_RX11_171 lC_3 rfl ?_
        refine r_aloadn (dc D_cX11_cut_0 30 rfl) rfl rfl ?_
        refine r_getR (dc D_cX11_cut_0 31 rfl) fw_RX11_12 lC_0 rfl ?_
        refine r_getR (dc D_cX11_cut_0 32 rfl) fw_RX11_110 lC_1 rfl ?_
        refine r_iload (dc D_cX11_cut_0 33 rfl) rfl ?_
        obtain ⟨o15, h⟩ := h
        refine r_iald (N := 30) (dc D_cX11_cut_0 34 rfl) lC_14 rfl rfl o15 ?_
        refine r_callS (As := [.int (iz (σ13 3 9)), .int (iz (σ13 14 x4.toNat))]) (st := []) (dc D_cX11_cut_0 35 rfl) cw_RX11_177 nm_yX11_hasBit (CX11_hasBit hE _ _ (hσ13 _ _) (hσ13 _ _) _ hσ13 h) rfl (by decide) rfl rfl rfl (fun z16 σ17 rz16 hσ17 h => ?_)
        show RW layC E mi_X11_cut Φ 72 [some (.ref (eA E 0)), some (.int (iz x1)), some (.ref (eA E 3)), some (.int (iz x3)), some (.int (iz x4)), none] [.int (iz z16)] σ17 x
        refine r_if_ne (tgt := 79) (dc D_cX11_cut_0 36 rfl) (by decide) rz16 (fun c18 => ?_) (fun c18 => ?_)
        · have h := h.1 c18
          exact TX11_cut_79 hE x hK19 _ _ _ rx1 rx3 rx4 _ hσ17 h
        · have h := h.2 c18
          refine r_iconst (n := 1) (dc D_cX11_cut_0 37 rfl) ?_
          refine r_goto (tgt := 128) (dc D_cX11_cut_0 38 rfl) (by decide) ?_
          exact TX11_cut_128 hE x hK19 _ _ _ _ rx1 rx3 rx4 (Rl rfl) _ hσ17 h
theorem TX11_cut_19 {E : EV} (hE : eOK layC E) {Φ : Int → PS → Prop} (x : CX) (n : Nat) : ∀ (x1 x3 x4 : Int) (σ : PS), Rg x1 → Rg x3 → Rg x4 → RS σ → LX11_cut_19 n x1 x3 x4 σ Φ → RW layC E mi_X11_cut Φ 19 [some (.ref (eA E 0)), some (.int (iz x1)), some (.ref (eA E 3)), some (.int (iz x3)), some (.int (iz x4)), none] [] σ x := by
  induction n with
  | zero => intro x1 x3 x4 σ _ _ _ _ h; exact h.elim
  | succ n ih => intro x1 x3 x4 σ rx1 rx3 rx4 hs h; exact TBX11_cut_19 hE x ih x1 x3 x4 rx1 rx3 rx4 σ hs h
set_option maxRecDepth 100000 in
theorem CX11_cut {E : EV} (hE : eOK layC E) {Φ : Int → PS → Prop} (a1 : Int) (ra1 : Rg a1) (σ : PS) (hs : RS σ) (h : FX11_cut a1 σ Φ) : CT layC E yX11_cut mi_X11_cut [.ref (eA E 0), .int (iz a1)] σ Φ := by
  refine ct_of (by decide +kernel) rfl hE rfl rfl hs (fun x => ?_)
  show RW layC E mi_X11_cut Φ 0 [some (.ref (eA E 0)), some (.int (iz a1)), none, none, none, none] [] σ x
  refine r_iloadn (dc D_cX11_cut_0 0 rfl) rfl rfl ?_
  refine r_callS (As := [.int (iz a1)]) (st := []) (dc D_cX11_cut_0 1 rfl) cw_RX11_125 nm_yX11_isOneOrZero (CX11_isOneOrZero hE _ ra1 _ hs h) rfl (by decide) rfl rfl rfl (fun z1 σ2 rz1 hσ2 h => ?_)
  show RW layC E mi_X11_cut Φ 4 [some (.ref (eA E 0)), some (.int (iz a1)), none, none, none, none] [.int (iz z1)] σ2 x
  refine r_if_ne (tgt := 9) (dc D_cX11_cut_0 2 rfl) (by decide) rz1 (fun c3 => ?_) (fun c3 => ?_)
  · have h := h.1 c3
    refine r_aloadn (dc D_cX11_cut_0 5 rfl) rfl rfl ?_
    refine r_callV (As := []) (st := []) (dc D_cX11_cut_0 6 rfl) cw_RX11_134 nm_yX11_freshWays (CX11_freshWays hE  _ hσ2 h) lC_0 rfl rfl (by decide) rfl rfl rfl (fun z4 σ5 rz4 hσ5 h => ?_)
    obtain ⟨rfl, h⟩ := h
    show RW layC E mi_X11_cut Φ 13 [some (.ref (eA E 0)), some (.int (iz a1)), none, none, none, none] [.ref (eA E 3)] σ5 x
    refine r_astoren (lv' := [some (.ref (eA E 0)), some (.int (iz a1)), some (.ref (eA E 3)), none, none, none]) (dc D_cX11_cut_0 7 rfl) rfl rfl rfl ?_
    refine r_iconst (n := 0) (dc D_cX11_cut_0 8 rfl) ?_
    refine r_istoren (lv' := [some (.ref (eA E 0)), some (.int (iz a1)), some (.ref (eA E 3)), some (.int (iz 0)), none, none]) (dc D_cX11_cut_0 9 rfl) rfl rfl rfl ?_
    refine r_iconst (n := 0) (dc D_cX11_cut_0 10 rfl) ?_
    refine r_istore (lv' := [some (.ref (eA E 0)), some (.int (iz a1)), some (.ref (eA E 3)), some (.int (iz 0)), some (.int (iz 0)), none]) (dc D_cX11_cut_0 11 rfl) rfl rfl ?_
    obtain ⟨n, h⟩ := h
    exact TX11_cut_19 hE x n _ _ _ _ ra1 (Rl rfl) (Rl rfl) hσ5 h
  · have h := h.2 c3
    refine r_iconst (n := (-1)) (dc D_cX11_cut_0 3 rfl) ?_
    exact r_iret (dc D_cX11_cut_0 4 rfl) rfl (Rl rfl) h
-- end of GateFlow.cut
def mi_X11_wide : MI := (cX11_wide, RX11, 4, 7, (some .int), 1)
def LX11_wide_77 (K9 : Int → Int → PS → Prop) (x2 x3 : Int) (σ : PS) (Φ : Int → PS → Prop) : Prop :=
  Rg (x3 + 1) ∧
  K9 x2 (x3 + 1) σ
def BX11_wide_9 (K9 : Int → Int → PS → Prop) (x2 x3 : Int) (σ : PS) (Φ : Int → PS → Prop) : Prop :=
  ((σ 1 6 ≤ x3 →
    Φ x2 σ) ∧
  (¬ σ 1 6 ≤ x3 →
    (0 ≤ x3 ∧ x3 < 30) ∧
    ((¬ σ 18 x3.toNat = 1 →
      LX11_wide_77 K9 x2 x3 σ Φ) ∧
    (σ 18 x3.toNat = 1 →
      (0 ≤ x3 ∧ x3 < 30) ∧
      FX11_hasBit (σ 3 9) (σ 13 x3.toNat) σ (fun z5 σ6 =>
      ((z5 = 0 →
        LX11_wide_77 K9 x2 x3 σ6 Φ) ∧
      (¬ z5 = 0 →
        (0 ≤ x3 ∧ x3 < 30) ∧
        FX11_hasBit (σ6 3 10) (σ6 14 x3.toNat) σ6 (fun z9 σ10 =>
        ((z9 = 0 →
          LX11_wide_77 K9 x2 x3 σ10 Φ) ∧
        (¬ z9 = 0 →
          ∀ v12 : Int, v12 = ior x2 (ishl 1 x3) →
          LX11_wide_77 K9 v12 x3 σ10 Φ))))))))))
def LX11_wide_9 : Nat → Int → Int → PS → (Int → PS → Prop) → Prop
  | 0, _, _, _, _ => False
  | n + 1, x2, x3, σ, Φ => BX11_wide_9 (fun x2 x3 σ => LX11_wide_9 n x2 x3 σ Φ) x2 x3 σ Φ
def FX11_wide (σ : PS) (Φ : Int → PS → Prop) : Prop :=
  FX11_freshWays σ (fun z1 σ2 => z1 = 3 ∧ (∃ n, LX11_wide_9 n 0 0 σ2 Φ))
set_option maxRecDepth 100000 in
theorem TX11_wide_77 {E : EV} (hE : eOK layC E) {Φ : Int → PS → Prop} {K9 : Int → Int → PS → Prop} (x : CX) (hK9 : ∀ (x2 x3 : Int) (σ : PS), Rg x2 → Rg x3 → RS σ → K9 x2 x3 σ → RW layC E mi_X11_wide Φ 9 [some (.ref (eA E 0)), some (.ref (eA E 3)), some (.int (iz x2)), some (.int (iz x3))] [] σ x) (x2 x3 : Int) (rx2 : Rg x2) (rx3 : Rg x3) (σ : PS) (hs : RS σ) (h : LX11_wide_77 K9 x2 x3 σ Φ) : RW layC E mi_X11_wide Φ 77 [some (.ref (eA E 0)), some (.ref (eA E 3)), some (.int (iz x2)), some (.int (iz x3))] [] σ x := by
  obtain ⟨o1, h⟩ := h
  refine r_iinc (lv' := [some (.ref (eA E 0)), some (.ref (eA E 3)), some (.int (iz x2)), some (.int (iz (x3 + 1)))]) (dc D_cX11_wide_1 3 rfl) rfl rfl rfl ?_
  refine r_goto (tgt := 9) (dc D_cX11_wide_1 4 rfl) (by decide) ?_
  exact hK9 _ _ _ rx2 o1 hs h
set_option maxRecDepth 100000 in
theorem TBX11_wide_9 {E : EV} (hE : eOK layC E) {Φ : Int → PS → Prop} {K9 : Int → Int → PS → Prop} (x : CX) (hK9 : ∀ (x2 x3 : Int) (σ : PS), Rg x2 → Rg x3 → RS σ → K9 x2 x3 σ → RW layC E mi_X11_wide Φ 9 [some (.ref (eA E 0)), some (.ref (eA E 3)), some (.int (iz x2)), some (.int (iz x3))] [] σ x) (x2 x3 : Int) (rx2 : Rg x2) (rx3 : Rg x3) (σ : PS) (hs : RS σ) (h : BX11_wide_9 K9 x2 x3 σ Φ) : RW layC E mi_X11_wide Φ 9 [some (.ref (eA E 0)), some (.ref (eA E 3)), some (.int (iz x2)), some (.int (iz x3))] [] σ x := by
  refine r_iloadn (dc D_cX11_wide_0 7 rfl) rfl rfl ?_
  refine r_aloadn (dc D_cX11_wide_0 8 rfl) rfl rfl ?_
  refine r_getR (dc D_cX11_wide_0 9 rfl) fw_RX11_12 lC_0 rfl ?_
  refine r_getI (dc D_cX11_wide_0 10 rfl) fw_RX11_92 lC_1 rfl ?_
  refine r_icmp_ge (tgt := 83) (dc D_cX11_wide_0 11 rfl) (by decide) rx3 (hs _ _) (fun c1 => ?_) (fun c1 => ?_)
  · have h := h.1 c1
    refine r_iloadn (dc D_cX11_wide_1 5 rfl) rfl rfl ?_
    exact r_iret (dc D_cX11_wide_1 6 rfl) rfl rx2 h
  · have h := h.2 c1
    refine r_aloadn (dc D_cX11_wide_0 12 rfl) rfl rfl ?_
    refine r_getR (dc D_cX11_wide_0 13 rfl) fw_RX11_12 lC_0 rfl ?_
    refine r_getR (dc D_cX11_wide_0 14 rfl) fw_RX11_122 lC_1 rfl ?_
    refine r_iloadn (dc D_cX11_wide_0 15 rfl) rfl rfl ?_
    obtain ⟨o2, h⟩ := h
    refine r_iald (N := 30) (dc D_cX11_wide_0 16 rfl) lC_18 rfl rfl o2 ?_
    refine r_iconst (n := 1) (dc D_cX11_wide_0 17 rfl) ?_
    refine r_icmp_ne (tgt := 77) (dc D_cX11_wide_0 18 rfl) (by decide) (hs _ _) (Rl rfl) (fun c3 => ?_) (fun c3 => ?_)
    · have h := h.1 c3
      exact TX11_wide_77 hE x hK9 _ _ rx2 rx3 _ hs h
    · have h := h.2 c3
      refine r_aloadn (dc D_cX11_wide_0 19 rfl) rfl rfl ?_
      refine r_getI (dc D_cX11_wide_0 20 rfl) fw_RX11_171 lC_3 rfl ?_
      refine r_aloadn (dc D_cX11_wide_0 21 rfl) rfl rfl ?_
      refine r_getR (dc D_cX11_wide_0 22 rfl) fw_RX11_12 lC_0 rfl ?_
      refine r_getR (dc D_cX11_wide_0 23 rfl) fw_RX11_106 lC_1 rfl ?_
      refine r_iloadn (dc D_cX11_wide_0 24 rfl) rfl rfl ?_
      obtain ⟨o4, h⟩ := h
      refine r_iald (N := 30) (dc D_cX11_wide_0 25 rfl) lC_13 rfl rfl o4 ?_
      refine r_callS (As := [.int (iz (σ 3 9)), .int (iz (σ 13 x3.toNat))]) (st := []) (dc D_cX11_wide_0 26 rfl) cw_RX11_177 nm_yX11_hasBit (CX11_hasBit hE _ _ (hs _ _) (hs _ _) _ hs h) rfl (by decide) rfl rfl rfl (fun z5 σ6 rz5 hσ6 h => ?_)
      show RW layC E mi_X11_wide Φ 49 [some (.ref (eA E 0)), some (.ref (eA E 3)), some (.int (iz x2)), some (.int (iz x3))] [.int (iz z5)] σ6 x
      refine r_if_eq (tgt := 77) (dc D_cX11_wide_0 27 rfl) (by decide) rz5 (fun c7 => ?_) (fun c7 => ?_)
      · have h := h.1 c7
        exact TX11_wide_77 hE x hK9 _ _ rx2 rx3 _ hσ6 h
      · have h := h.2 c7
        refine r_aloadn (dc D_cX11_wide_0 28 rfl) rfl rfl ?_
        refine r_getI (dc D_cX11_wide_0 29 rfl) fw_RX11_174 lC_3 rfl ?_
        refine r_aloadn (dc D_cX11_wide_0 30 rfl) rfl rfl ?_
        refine r_getR (dc D_cX11_wide_0 31 rfl) fw_RX11_12 lC_0 rfl ?_
        refine r_getR (dc D_cX11_wide_0 32 rfl) fw_RX11_110 lC_1 rfl ?_
        refine r_iloadn (dc D_cX11_wide_0 33 rfl) rfl rfl ?_
        obtain ⟨o8, h⟩ := h
        refine r_iald (N := 30) (dc D_cX11_wide_0 34 rfl) lC_14 rfl rfl o8 ?_
        refine r_callS (As := [.int (iz (σ6 3 10)), .int (iz (σ6 14 x3.toNat))]) (st := []) (dc D_cX11_wide_0 35 rfl) cw_RX11_177 nm_yX11_hasBit (CX11_hasBit hE _ _ (hσ6 _ _) (hσ6 _ _) _ hσ6 h) rfl (by decide) rfl rfl rfl (fun z9 σ10 rz9 hσ10 h => ?_)
        show RW layC E mi_X11_wide Φ 68 [some (.ref (eA E 0)), some (.ref (eA E 3)), some (.int (iz x2)), some (.int (iz x3))] [.int (iz z9)] σ10 x
        refine r_if_eq (tgt := 77) (dc D_cX11_wide_0 36 rfl) (by decide) rz9 (fun c11 => ?_) (fun c11 => ?_)
        · have h := h.1 c11
          exact TX11_wide_77 hE x hK9 _ _ rx2 rx3 _ hσ10 h
        · have h := h.2 c11
          refine r_iloadn (dc D_cX11_wide_0 37 rfl) rfl rfl ?_
          refine r_iconst (n := 1) (dc D_cX11_wide_0 38 rfl) ?_
          refine r_iloadn (dc D_cX11_wide_0 39 rfl) rfl rfl ?_
          refine r_ishl (dc D_cX11_wide_1 0 rfl) ?_
          refine r_ior (dc D_cX11_wide_1 1 rfl) ?_
          refine r_name (fun v12 ev12 => ?_)
          have h := h v12 ev12
          have rv12 : Rg v12 := Rg_eq ev12 (Rg_of _)
          refine r_istoren (lv' := [some (.ref (eA E 0)), some (.ref (eA E 3)), some (.int (iz v12)), some (.int (iz x3))]) (dc D_cX11_wide_1 2 rfl) rfl rfl rfl ?_
          exact TX11_wide_77 hE x hK9 _ _ rv12 rx3 _ hσ10 h
theorem TX11_wide_9 {E : EV} (hE : eOK layC E) {Φ : Int → PS → Prop} (x : CX) (n : Nat) : ∀ (x2 x3 : Int) (σ : PS), Rg x2 → Rg x3 → RS σ → LX11_wide_9 n x2 x3 σ Φ → RW layC E mi_X11_wide Φ 9 [some (.ref (eA E 0)), some (.ref (eA E 3)), some (.int (iz x2)), some (.int (iz x3))] [] σ x := by
  induction n with
  | zero => intro x2 x3 σ _ _ _ h; exact h.elim
  | succ n ih => intro x2 x3 σ rx2 rx3 hs h; exact TBX11_wide_9 hE x ih x2 x3 rx2 rx3 σ hs h
set_option maxRecDepth 100000 in
theorem CX11_wide {E : EV} (hE : eOK layC E) {Φ : Int → PS → Prop} (σ : PS) (hs : RS σ) (h : FX11_wide σ Φ) : CT layC E yX11_wide mi_X11_wide [.ref (eA E 0)] σ Φ := by
  refine ct_of (by decide +kernel) rfl hE rfl rfl hs (fun x => ?_)
  show RW layC E mi_X11_wide Φ 0 [some (.ref (eA E 0)), none, none, none] [] σ x
  refine r_aloadn (dc D_cX11_wide_0 0 rfl) rfl rfl ?_
  refine r_callV (As := []) (st := []) (dc D_cX11_wide_0 1 rfl) cw_RX11_134 nm_yX11_freshWays (CX11_freshWays hE  _ hs h) lC_0 rfl rfl (by decide) rfl rfl rfl (fun z1 σ2 rz1 hσ2 h => ?_)
  obtain ⟨rfl, h⟩ := h
  show RW layC E mi_X11_wide Φ 4 [some (.ref (eA E 0)), none, none, none] [.ref (eA E 3)] σ2 x
  refine r_astoren (lv' := [some (.ref (eA E 0)), some (.ref (eA E 3)), none, none]) (dc D_cX11_wide_0 2 rfl) rfl rfl rfl ?_
  refine r_iconst (n := 0) (dc D_cX11_wide_0 3 rfl) ?_
  refine r_istoren (lv' := [some (.ref (eA E 0)), some (.ref (eA E 3)), some (.int (iz 0)), none]) (dc D_cX11_wide_0 4 rfl) rfl rfl rfl ?_
  refine r_iconst (n := 0) (dc D_cX11_wide_0 5 rfl) ?_
  refine r_istoren (lv' := [some (.ref (eA E 0)), some (.ref (eA E 3)), some (.int (iz 0)), some (.int (iz 0))]) (dc D_cX11_wide_0 6 rfl) rfl rfl rfl ?_
  obtain ⟨n, h⟩ := h
  exact TX11_wide_9 hE x n _ _ _ (Rl rfl) (Rl rfl) hσ2 h
-- end of GateFlow.wide
def mi_X11_narrow : MI := (cX11_narrow, RX11, 5, 7, (some .int), 1)
def LX11_narrow_96 (K9 : Int → Int → PS → Prop) (x2 x3 : Int) (σ : PS) (Φ : Int → PS → Prop) : Prop :=
  Rg (x3 + 1) ∧
  K9 x2 (x3 + 1) σ
def LX11_narrow_51 (K9 : Int → Int → PS → Prop) (x2 x3 s0 : Int) (σ : PS) (Φ : Int → PS → Prop) : Prop :=
  ((s0 = 0 →
    LX11_narrow_96 K9 x2 x3 σ Φ) ∧
  (¬ s0 = 0 →
    (0 ≤ x3 ∧ x3 < 30) ∧
    FX1_spreadAlong (σ 13 x3.toNat) σ (fun z3 σ4 =>
    (0 ≤ x3 ∧ x3 < 30) ∧
    FX11_hasBit z3 (σ4 14 x3.toNat) σ4 (fun z6 σ7 =>
    ((¬ z6 = 0 →
      LX11_narrow_96 K9 x2 x3 σ7 Φ) ∧
    (z6 = 0 →
      ∀ v9 : Int, v9 = ior x2 (ishl 1 x3) →
      LX11_narrow_96 K9 v9 x3 σ7 Φ))))))
def LX11_narrow_50 (K9 : Int → Int → PS → Prop) (x2 x3 : Int) (σ : PS) (Φ : Int → PS → Prop) : Prop :=
  LX11_narrow_51 K9 x2 x3 0 σ Φ
def BX11_narrow_9 (K9 : Int → Int → PS → Prop) (x2 x3 : Int) (σ : PS) (Φ : Int → PS → Prop) : Prop :=
  ((σ 1 6 ≤ x3 →
    Φ x2 σ) ∧
  (¬ σ 1 6 ≤ x3 →
    (0 ≤ x3 ∧ x3 < 30) ∧
    ((σ 25 x3.toNat ≤ 0 →
      LX11_narrow_50 K9 x2 x3 σ Φ) ∧
    (¬ σ 25 x3.toNat ≤ 0 →
      (0 ≤ x3 ∧ x3 < 30) ∧
      FX3_usable x3 σ (fun z5 σ6 =>
      ((¬ σ 25 x3.toNat = z5 →
        LX11_narrow_50 K9 x2 x3 σ6 Φ) ∧
      (σ 25 x3.toNat = z5 →
        LX11_narrow_51 K9 x2 x3 1 σ6 Φ)))))))
def LX11_narrow_9 : Nat → Int → Int → PS → (Int → PS → Prop) → Prop
  | 0, _, _, _, _ => False
  | n + 1, x2, x3, σ, Φ => BX11_narrow_9 (fun x2 x3 σ => LX11_narrow_9 n x2 x3 σ Φ) x2 x3 σ Φ
def FX11_narrow (σ : PS) (Φ : Int → PS → Prop) : Prop :=
  FX11_freshWays σ (fun z1 σ2 => z1 = 3 ∧ (∃ n, LX11_narrow_9 n 0 0 σ2 Φ))
theorem cw_RX11_185 : CWV RX11 185 yX1_spreadAlong mi_X1_spreadAlong := tb_r [734, 653, 654, 99, 655] (by decide +kernel)
theorem cw_RX11_181 : CWV RX11 181 yX3_usable mi_X3_usable := tb_r [733, 615, 616, 98, 617] (by decide +kernel)
set_option maxRecDepth 100000 in
theorem TX11_narrow_96 {E : EV} (hE : eOK layC E) {Φ : Int → PS → Prop} {K9 : Int → Int → PS → Prop} (x : CX) (hK9 : ∀ (x2 x3 : Int) (σ : PS), Rg x2 → Rg x3 → RS σ → K9 x2 x3 σ → RW layC E mi_X11_narrow Φ 9 [some (.ref (eA E 0)), some (.ref (eA E 3)), some (.int (iz x2)), some (.int (iz x3)), none] [] σ x) (x2 x3 : Int) (rx2 : Rg x2) (rx3 : Rg x3) (σ : PS) (hs : RS σ) (h : LX11_narrow_96 K9 x2 x3 σ Φ) : RW layC E mi_X11_narrow Φ 96 [some (.ref (eA E 0)), some (.ref (eA E 3)), some (.int (iz x2)), some (.int (iz x3)), none] [] σ x := by
  obtain ⟨o1, h⟩ := h
  refine r_iinc (lv' := [some (.ref (eA E 0)), some (.ref (eA E 3)), some (.int (iz x2)), some (.int (iz (x3 + 1))), none]) (dc D_cX11_narrow_1 14 rfl) rfl rfl rfl ?_
  refine r_goto (tgt := 9) (dc D_cX11_narrow_1 15 rfl) (by decide) ?_
  exact hK9 _ _ _ rx2 o1 hs h
set_option maxRecDepth 100000 in
theorem TX11_narrow_51 {E : EV} (hE : eOK layC E) {Φ : Int → PS → Prop} {K9 : Int → Int → PS → Prop} (x : CX) (hK9 : ∀ (x2 x3 : Int) (σ : PS), Rg x2 → Rg x3 → RS σ → K9 x2 x3 σ → RW layC E mi_X11_narrow Φ 9 [some (.ref (eA E 0)), some (.ref (eA E 3)), some (.int (iz x2)), some (.int (iz x3)), none] [] σ x) (x2 x3 s0 : Int) (rx2 : Rg x2) (rx3 : Rg x3) (rs0 : Rg s0) (σ : PS) (hs : RS σ) (h : LX11_narrow_51 K9 x2 x3 s0 σ Φ) : RW layC E mi_X11_narrow Φ 51 [some (.ref (eA E 0)), some (.ref (eA E 3)), some (.int (iz x2)), some (.int (iz x3)), none] [.int (iz s0)] σ x := by
  refine r_istore (lv' := [some (.ref (eA E 0)), some (.ref (eA E 3)), some (.int (iz x2)), some (.int (iz x3)), some (.int (iz s0))]) (dc D_cX11_narrow_0 29 rfl) rfl rfl ?_
  refine r_iload (dc D_cX11_narrow_0 30 rfl) rfl ?_
  refine r_if_eq (tgt := 96) (dc D_cX11_narrow_0 31 rfl) (by decide) rs0 (fun c1 => ?_) (fun c1 => ?_)
  · have h := h.1 c1
    refine r_sub (lv' := [some (.ref (eA E 0)), some (.ref (eA E 3)), some (.int (iz x2)), some (.int (iz x3)), none]) (subL_s (subL_s (subL_s (subL_s (subL_n subL_e))))) ?_
    exact TX11_narrow_96 hE x hK9 _ _ rx2 rx3 _ hs h
  · have h := h.2 c1
    refine r_aloadn (dc D_cX11_narrow_0 32 rfl) rfl rfl ?_
    refine r_aloadn (dc D_cX11_narrow_0 33 rfl) rfl rfl ?_
    refine r_getR (dc D_cX11_narrow_0 34 rfl) fw_RX11_12 lC_0 rfl ?_
    refine r_aloadn (dc D_cX11_narrow_0 35 rfl) rfl rfl ?_
    refine r_getR (dc D_cX11_narrow_0 36 rfl) fw_RX11_12 lC_0 rfl ?_
    refine r_getR (dc D_cX11_narrow_0 37 rfl) fw_RX11_106 lC_1 rfl ?_
    refine r_iloadn (dc D_cX11_narrow_0 38 rfl) rfl rfl ?_
    obtain ⟨o2, h⟩ := h
    refine r_iald (N := 30) (dc D_cX11_narrow_0 39 rfl) lC_13 rfl rfl o2 ?_
    refine r_callV (As := [.ref (eA E 1), .int (iz (σ 13 x3.toNat))]) (st := []) (dc D_cX11_narrow_1 0 rfl) cw_RX11_185 nm_yX1_spreadAlong (CX1_spreadAlong hE _ (hs _ _) _ hs h) lC_3 rfl rfl (by decide) rfl rfl rfl (fun z3 σ4 rz3 hσ4 h => ?_)
    show RW layC E mi_X11_narrow Φ 75 [some (.ref (eA E 0)), some (.ref (eA E 3)), some (.int (iz x2)), some (.int (iz x3)), some (.int (iz s0))] [.int (iz z3)] σ4 x
    refine r_aloadn (dc D_cX11_narrow_1 1 rfl) rfl rfl ?_
    refine r_getR (dc D_cX11_narrow_1 2 rfl) fw_RX11_12 lC_0 rfl ?_
    refine r_getR (dc D_cX11_narrow_1 3 rfl) fw_RX11_110 lC_1 rfl ?_
    refine r_iloadn (dc D_cX11_narrow_1 4 rfl) rfl rfl ?_
    obtain ⟨o5, h⟩ := h
    refine r_iald (N := 30) (dc D_cX11_narrow_1 5 rfl) lC_14 rfl rfl o5 ?_
    refine r_callS (As := [.int (iz z3), .int (iz (σ4 14 x3.toNat))]) (st := []) (dc D_cX11_narrow_1 6 rfl) cw_RX11_177 nm_yX11_hasBit (CX11_hasBit hE _ _ rz3 (hσ4 _ _) _ hσ4 h) rfl (by decide) rfl rfl rfl (fun z6 σ7 rz6 hσ7 h => ?_)
    show RW layC E mi_X11_narrow Φ 87 [some (.ref (eA E 0)), some (.ref (eA E 3)), some (.int (iz x2)), some (.int (iz x3)), some (.int (iz s0))] [.int (iz z6)] σ7 x
    refine r_if_ne (tgt := 96) (dc D_cX11_narrow_1 7 rfl) (by decide) rz6 (fun c8 => ?_) (fun c8 => ?_)
    · have h := h.1 c8
      refine r_sub (lv' := [some (.ref (eA E 0)), some (.ref (eA E 3)), some (.int (iz x2)), some (.int (iz x3)), none]) (subL_s (subL_s (subL_s (subL_s (subL_n subL_e))))) ?_
      exact TX11_narrow_96 hE x hK9 _ _ rx2 rx3 _ hσ7 h
    · have h := h.2 c8
      refine r_iloadn (dc D_cX11_narrow_1 8 rfl) rfl rfl ?_
      refine r_iconst (n := 1) (dc D_cX11_narrow_1 9 rfl) ?_
      refine r_iloadn (dc D_cX11_narrow_1 10 rfl) rfl rfl ?_
      refine r_ishl (dc D_cX11_narrow_1 11 rfl) ?_
      refine r_ior (dc D_cX11_narrow_1 12 rfl) ?_
      refine r_name (fun v9 ev9 => ?_)
      have h := h v9 ev9
      have rv9 : Rg v9 := Rg_eq ev9 (Rg_of _)
      refine r_istoren (lv' := [some (.ref (eA E 0)), some (.ref (eA E 3)), some (.int (iz v9)), some (.int (iz x3)), some (.int (iz s0))]) (dc D_cX11_narrow_1 13 rfl) rfl rfl rfl ?_
      refine r_sub (lv' := [some (.ref (eA E 0)), some (.ref (eA E 3)), some (.int (iz v9)), some (.int (iz x3)), none]) (subL_s (subL_s (subL_s (subL_s (subL_n subL_e))))) ?_
      exact TX11_narrow_96 hE x hK9 _ _ rv9 rx3 _ hσ7 h
set_option maxRecDepth 100000 in
theorem TX11_narrow_50 {E : EV} (hE : eOK layC E) {Φ : Int → PS → Prop} {K9 : Int → Int → PS → Prop} (x : CX) (hK9 : ∀ (x2 x3 : Int) (σ : PS), Rg x2 → Rg x3 → RS σ → K9 x2 x3 σ → RW layC E mi_X11_narrow Φ 9 [some (.ref (eA E 0)), some (.ref (eA E 3)), some (.int (iz x2)), some (.int (iz x3)), none] [] σ x) (x2 x3 : Int) (rx2 : Rg x2) (rx3 : Rg x3) (σ : PS) (hs : RS σ) (h : LX11_narrow_50 K9 x2 x3 σ Φ) : RW layC E mi_X11_narrow Φ 50 [some (.ref (eA E 0)), some (.ref (eA E 3)), some (.int (iz x2)), some (.int (iz x3)), none] [] σ x := by
  refine r_iconst (n := 0) (dc D_cX11_narrow_0 28 rfl) ?_
  exact TX11_narrow_51 hE x hK9 _ _ _ rx2 rx3 (Rl rfl) _ hs h
set_option maxRecDepth 100000 in
theorem TBX11_narrow_9 {E : EV} (hE : eOK layC E) {Φ : Int → PS → Prop} {K9 : Int → Int → PS → Prop} (x : CX) (hK9 : ∀ (x2 x3 : Int) (σ : PS), Rg x2 → Rg x3 → RS σ → K9 x2 x3 σ → RW layC E mi_X11_narrow Φ 9 [some (.ref (eA E 0)), some (.ref (eA E 3)), some (.int (iz x2)), some (.int (iz x3)), none] [] σ x) (x2 x3 : Int) (rx2 : Rg x2) (rx3 : Rg x3) (σ : PS) (hs : RS σ) (h : BX11_narrow_9 K9 x2 x3 σ Φ) : RW layC E mi_X11_narrow Φ 9 [some (.ref (eA E 0)), some (.ref (eA E 3)), some (.int (iz x2)), some (.int (iz x3)), none] [] σ x := by
  refine r_iloadn (dc D_cX11_narrow_0 7 rfl) rfl rfl ?_
  refine r_aloadn (dc D_cX11_narrow_0 8 rfl) rfl rfl ?_
  refine r_getR (dc D_cX11_narrow_0 9 rfl) fw_RX11_12 lC_0 rfl ?_
  refine r_getI (dc D_cX11_narrow_0 10 rfl) fw_RX11_92 lC_1 rfl ?_
  refine r_icmp_ge (tgt := 102) (dc D_cX11_narrow_0 11 rfl) (by decide) rx3 (hs _ _) (fun c1 => ?_) (fun c1 => ?_)
  · have h := h.1 c1
    refine r_iloadn (dc D_cX11_narrow_1 16 rfl) rfl rfl ?_
    exact r_iret (dc D_cX11_narrow_1 17 rfl) rfl rx2 h
  · have h := h.2 c1
    refine r_aloadn (dc D_cX11_narrow_0 12 rfl) rfl rfl ?_
    refine r_getR (dc D_cX11_narrow_0 13 rfl) fw_RX11_141 lC_3 rfl ?_
    refine r_iloadn (dc D_cX11_narrow_0 14 rfl) rfl rfl ?_
    obtain ⟨o2, h⟩ := h
    refine r_iald (N := 30) (dc D_cX11_narrow_0 15 rfl) lC_25 rfl rfl o2 ?_
    refine r_if_le (tgt := 50) (dc D_cX11_narrow_0 16 rfl) (by decide) (hs _ _) (fun c3 => ?_) (fun c3 => ?_)
    · have h := h.1 c3
      exact TX11_narrow_50 hE x hK9 _ _ rx2 rx3 _ hs h
    · have h := h.2 c3
      refine r_aloadn (dc D_cX11_narrow_0 17 rfl) rfl rfl ?_
      refine r_getR (dc D_cX11_narrow_0 18 rfl) fw_RX11_141 lC_3 rfl ?_
      refine r_iloadn (dc D_cX11_narrow_0 19 rfl) rfl rfl ?_
      obtain ⟨o4, h⟩ := h
      refine r_iald (N := 30) (dc D_cX11_narrow_0 20 rfl) lC_25 rfl rfl o4 ?_
      refine r_aloadn (dc D_cX11_narrow_0 21 rfl) rfl rfl ?_
      refine r_getR (dc D_cX11_narrow_0 22 rfl) fw_RX11_12 lC_0 rfl ?_
      refine r_iloadn (dc D_cX11_narrow_0 23 rfl) rfl rfl ?_
      refine r_callV (As := [.int (iz x3)]) (st := [.int (iz (σ 25 x3.toNat))]) (dc D_cX11_narrow_0 24 rfl) cw_RX11_181 nm_yX3_usable (CX3_usable hE _ rx3 _ hs h) lC_1 rfl rfl (by decide) rfl rfl rfl (fun z5 σ6 rz5 hσ6 h => ?_)
      show RW layC E mi_X11_narrow Φ 43 [some (.ref (eA E 0)), some (.ref (eA E 3)), some (.int (iz x2)), some (.int (iz x3)), none] [.int (iz z5), .int (iz (σ 25 x3.toNat))] σ6 x
      refine r_icmp_ne (tgt := 50) (dc D_cX11_narrow_0 25 rfl) (by decide) (hs _ _) rz5 (fun c7 => ?_) (fun c7 => ?_)
      · have h := h.1 c7
        exact TX11_narrow_50 hE x hK9 _ _ rx2 rx3 _ hσ6 h
      · have h := h.2 c7
        refine r_iconst (n := 1) (dc D_cX11_narrow_0 26 rfl) ?_
        refine r_goto (tgt := 51) (dc D_cX11_narrow_0 27 rfl) (by decide) ?_
        exact TX11_narrow_51 hE x hK9 _ _ _ rx2 rx3 (Rl rfl) _ hσ6 h
theorem TX11_narrow_9 {E : EV} (hE : eOK layC E) {Φ : Int → PS → Prop} (x : CX) (n : Nat) : ∀ (x2 x3 : Int) (σ : PS), Rg x2 → Rg x3 → RS σ → LX11_narrow_9 n x2 x3 σ Φ → RW layC E mi_X11_narrow Φ 9 [some (.ref (eA E 0)), some (.ref (eA E 3)), some (.int (iz x2)), some (.int (iz x3)), none] [] σ x := by
  induction n with
  | zero => intro x2 x3 σ _ _ _ h; exact h.elim
  | succ n ih => intro x2 x3 σ rx2 rx3 hs h; exact TBX11_narrow_9 hE x ih x2 x3 rx2 rx3 σ hs h
set_option maxRecDepth 100000 in
theorem CX11_narrow {E : EV} (hE : eOK layC E) {Φ : Int → PS → Prop} (σ : PS) (hs : RS σ) (h : FX11_narrow σ Φ) : CT layC E yX11_narrow mi_X11_narrow [.ref (eA E 0)] σ Φ := by
  refine ct_of (by decide +kernel) rfl hE rfl rfl hs (fun x => ?_)
  show RW layC E mi_X11_narrow Φ 0 [some (.ref (eA E 0)), none, none, none, none] [] σ x
  refine r_aloadn (dc D_cX11_narrow_0 0 rfl) rfl rfl ?_
  refine r_callV (As := []) (st := []) (dc D_cX11_narrow_0 1 rfl) cw_RX11_134 nm_yX11_freshWays (CX11_freshWays hE  _ hs h) lC_0 rfl rfl (by decide) rfl rfl rfl (fun z1 σ2 rz1 hσ2 h => ?_)
  obtain ⟨rfl, h⟩ := h
  show RW layC E mi_X11_narrow Φ 4 [some (.ref (eA E 0)), none, none, none, none] [.ref (eA E 3)] σ2 x
  refine r_astoren (lv' := [some (.ref (eA E 0)), some (.ref (eA E 3)), none, none, none]) (dc D_cX11_narrow_0 2 rfl) rfl rfl rfl ?_
  refine r_iconst (n := 0) (dc D_cX11_narrow_0 3 rfl) ?_
  refine r_istoren (lv' := [some (.ref (eA E 0)), some (.ref (eA E 3)), some (.int (iz 0)), none, none]) (dc D_cX11_narrow_0 4 rfl) rfl rfl rfl ?_
  refine r_iconst (n := 0) (dc D_cX11_narrow_0 5 rfl) ?_
  refine r_istoren (lv' := [some (.ref (eA E 0)), some (.ref (eA E 3)), some (.int (iz 0)), some (.int (iz 0)), none]) (dc D_cX11_narrow_0 6 rfl) rfl rfl rfl ?_
  obtain ⟨n, h⟩ := h
  exact TX11_narrow_9 hE x n _ _ _ (Rl rfl) (Rl rfl) hσ2 h
-- end of GateFlow.narrow
def mi_X6_begin : MI := (cX6_begin, RX6, 2, 4, none, 0)
def FX6_begin (a1 : Int) (σ : PS) (Φ : Int → PS → Prop) : Prop :=
  ∀ σ1 : PS, σ1 = up2 σ 8 8 (max 0 (min a1 108)) →
  ∀ σ2 : PS, σ2 = up2 σ1 8 9 0 →
  ∀ σ3 : PS, σ3 = fl2 σ2 49 0 108 (-1) →
  Φ 0 σ3
theorem fw_RX11_43 : FW RX11 43 11 11 := ⟨RX11, TX11, 16, rfl, by decide, rfl, tb_1 508 (by decide +kernel), uw_11⟩
theorem fw_RX5_12 : FW RX5 12 5 0 := ⟨RX5, TX5, 3, rfl, by decide, rfl, tb_1 389 (by decide +kernel), uw_5⟩
theorem fw_RX6_9 : FW RX6 9 6 0 := ⟨RX6, TX6, 10, rfl, by decide, rfl, tb_1 358 (by decide +kernel), uw_6⟩
theorem mw_RX6_36 : MW RX6 36 Lib.Math.min.name Lib.Math.min.code := tb_r [747, 637, 111, 638] (by decide +kernel)
theorem mw_RX6_42 : MW RX6 42 Lib.Math.max.name Lib.Math.max.code := tb_r [748, 749, 111, 750] (by decide +kernel)
theorem fw_RX6_45 : FW RX6 45 6 8 := ⟨RX6, TX6, 10, rfl, by decide, rfl, tb_1 366 (by decide +kernel), uw_6⟩
theorem fp_6_8 : FP 6 8 .int := ⟨RX6, TX6, 10, tyX6, rfl, tyX6_ok, nmX6, rfl, by decide +kernel⟩
theorem fw_RX6_49 : FW RX6 49 6 9 := ⟨RX6, TX6, 10, rfl, by decide, rfl, tb_1 367 (by decide +kernel), uw_6⟩
theorem fp_6_9 : FP 6 9 .int := ⟨RX6, TX6, 10, tyX6, rfl, tyX6_ok, nmX6, rfl, by decide +kernel⟩
theorem cw_RX6_52 : CWS RX6 52 yJ7_fill_53178 mi_fill := tb_r [751, 488, 109, 489] (by decide +kernel)
set_option maxRecDepth 100000 in
theorem CX6_begin {E : EV} (hE : eOK layC E) {Φ : Int → PS → Prop} (a1 : Int) (ra1 : Rg a1) (σ : PS) (hs : RS σ) (h : FX6_begin a1 σ Φ) : CT layC E yX6_begin mi_X6_begin [.ref (eA E 8), .int (iz a1)] σ Φ := by
  refine ct_of (by decide +kernel) rfl hE rfl rfl hs (fun x => ?_)
  show RW layC E mi_X6_begin Φ 0 [some (.ref (eA E 8)), some (.int (iz a1))] [] σ x
  refine r_aloadn (dc D_cX6_begin_0 0 rfl) rfl rfl ?_
  refine r_iconst (n := 0) (dc D_cX6_begin_0 1 rfl) ?_
  refine r_iloadn (dc D_cX6_begin_0 2 rfl) rfl rfl ?_
  refine r_bipush (n := 108) (dc D_cX6_begin_0 3 rfl) (by decide +kernel) ?_
  refine r_min (dc D_cX6_begin_0 4 rfl) mw_RX6_36 ra1 (Rl rfl) (by decide) rfl ?_
  refine r_max (dc D_cX6_begin_0 5 rfl) mw_RX6_42 (Rl rfl) (Rg_min ra1 (Rl rfl)) (by decide) rfl ?_
  refine r_put (dc D_cX6_begin_0 6 rfl) fw_RX6_45 fp_6_8 lC_8 rfl (nar_int _) (Rg_max (Rl rfl) (Rg_min ra1 (Rl rfl))) ?_
  refine r_sig (fun σ1 eσ1 => ?_)
  have h := h σ1 eσ1
  have hσ1 : RS σ1 := RS_eq eσ1 (RS.up hs (Rg_max (Rl rfl) (Rg_min ra1 (Rl rfl))) _ _)
  refine r_aloadn (dc D_cX6_begin_0 7 rfl) rfl rfl ?_
  refine r_iconst (n := 0) (dc D_cX6_begin_0 8 rfl) ?_
  refine r_put (dc D_cX6_begin_0 9 rfl) fw_RX6_49 fp_6_9 lC_8 rfl (nar_int _) (Rl rfl) ?_
  refine r_sig (fun σ2 eσ2 => ?_)
  have h := h σ2 eσ2
  have hσ2 : RS σ2 := RS_eq eσ2 (RS.up hσ1 (Rl rfl) _ _)
  refine r_aloadn (dc D_cX6_begin_0 10 rfl) rfl rfl ?_
  refine r_getR (dc D_cX6_begin_0 11 rfl) fw_RX6_9 lC_8 rfl ?_
  refine r_iconst (n := (-1)) (dc D_cX6_begin_0 12 rfl) ?_
  refine r_fill (n := 108) (dc D_cX6_begin_0 13 rfl) cw_RX6_52 lC_49 rfl (Rl rfl) (by decide) rfl ?_
  refine r_sig (fun σ3 eσ3 => ?_)
  have h := h σ3 eσ3
  have hσ3 : RS σ3 := RS_eq eσ3 (RS.fl hσ2 (Rl rfl))
  exact r_vret (dc D_cX6_begin_0 14 rfl) rfl h
-- end of GateFlow$Net.begin
def mi_X6_isInNet : MI := (cX6_isInNet, RX6, 2, 1, (some .boolean), 1)
def FX6_isInNet (a1 : Int) (σ : PS) (Φ : Int → PS → Prop) : Prop :=
  ((a1 < 0 →
    Φ 0 σ) ∧
  (¬ a1 < 0 →
    ((σ 8 8 ≤ a1 →
      Φ 0 σ) ∧
    (¬ σ 8 8 ≤ a1 →
      Φ 1 σ))))
theorem fw_RX5_29 : FW RX5 29 3 6 := ⟨RX3, TX3, 9, rfl, by decide, rfl, tb_1 169 (by decide +kernel), uw_3⟩
theorem fw_RX5_53 : FW RX5 53 3 7 := ⟨RX3, TX3, 9, rfl, by decide, rfl, tb_1 178 (by decide +kernel), uw_3⟩
theorem fw_RX5_56 : FW RX5 56 3 8 := ⟨RX3, TX3, 9, rfl, by decide, rfl, tb_1 185 (by decide +kernel), uw_3⟩
set_option maxRecDepth 100000 in
theorem CX6_isInNet {E : EV} (hE : eOK layC E) {Φ : Int → PS → Prop} (a1 : Int) (ra1 : Rg a1) (σ : PS) (hs : RS σ) (h : FX6_isInNet a1 σ Φ) : CT layC E yX6_isInNet mi_X6_isInNet [.ref (eA E 8), .int (iz a1)] σ Φ := by
  refine ct_of (by decide +kernel) rfl hE rfl rfl hs (fun x => ?_)
  show RW layC E mi_X6_isInNet Φ 0 [some (.ref (eA E 8)), some (.int (iz a1))] [] σ x
  refine r_iloadn (dc D_cX6_isInNet_0 0 rfl) rfl rfl ?_
  refine r_if_lt (tgt := 16) (dc D_cX6_isInNet_0 1 rfl) (by decide) ra1 (fun c1 => ?_) (fun c1 => ?_)
  · have h := h.1 c1
    refine r_iconst (n := 0) (dc D_cX6_isInNet_0 8 rfl) ?_
    exact r_zret (dc D_cX6_isInNet_0 9 rfl) rfl (by decide) h
  · have h := h.2 c1
    refine r_iloadn (dc D_cX6_isInNet_0 2 rfl) rfl rfl ?_
    refine r_aloadn (dc D_cX6_isInNet_0 3 rfl) rfl rfl ?_
    refine r_getI (dc D_cX6_isInNet_0 4 rfl) fw_RX6_45 lC_8 rfl ?_
    refine r_icmp_ge (tgt := 16) (dc D_cX6_isInNet_0 5 rfl) (by decide) ra1 (hs _ _) (fun c2 => ?_) (fun c2 => ?_)
    · have h := h.1 c2
      refine r_iconst (n := 0) (dc D_cX6_isInNet_0 8 rfl) ?_
      exact r_zret (dc D_cX6_isInNet_0 9 rfl) rfl (by decide) h
    · have h := h.2 c2
      refine r_iconst (n := 1) (dc D_cX6_isInNet_0 6 rfl) ?_
      refine r_goto (tgt := 17) (dc D_cX6_isInNet_0 7 rfl) (by decide) ?_
      exact r_zret (dc D_cX6_isInNet_0 9 rfl) rfl (by decide) h
-- end of GateFlow$Net.isInNet
def mi_X6_layered : MI := (cX6_layered, RX6, 8, 4, (some .boolean), 1)
def LX6_layered_177 (x2 : Int) (σ : PS) (Φ : Int → PS → Prop) : Prop :=
  (0 ≤ x2 ∧ x2 < 108) ∧
  ((σ 51 x2.toNat < 0 →
    Φ 0 σ) ∧
  (¬ σ 51 x2.toNat < 0 →
    Φ 1 σ))
def LX6_layered_171 (K32 : Int → Int → Int → PS → Prop) (x2 x3 x4 : Int) (σ : PS) (Φ : Int → PS → Prop) : Prop :=
  Rg (x4 + 1) ∧
  K32 x2 x3 (x4 + 1) σ
def LX6_layered_156 (K32 : Int → Int → Int → PS → Prop) (K75 : Int → Int → Int → Int → Int → Int → PS → Prop) (x2 x3 x4 x5 x6 x7 : Int) (σ : PS) (Φ : Int → PS → Prop) : Prop :=
  (0 ≤ x6 ∧ x6 < 672) ∧
  ∀ v2 : Int, v2 = σ 54 x6.toNat →
  Rg (x7 + 1) ∧
  K75 x2 x3 x4 x5 v2 (x7 + 1) σ
def BX6_layered_75 (K32 : Int → Int → Int → PS → Prop) (K75 : Int → Int → Int → Int → Int → Int → PS → Prop) (x2 x3 x4 x5 x6 x7 : Int) (σ : PS) (Φ : Int → PS → Prop) : Prop :=
  ((672 ≤ x7 →
    LX6_layered_171 K32 x2 x3 x4 σ Φ) ∧
  (¬ 672 ≤ x7 →
    ((x6 < 0 →
      LX6_layered_171 K32 x2 x3 x4 σ Φ) ∧
    (¬ x6 < 0 →
      (0 ≤ x6 ∧ x6 < 672) ∧
      ((σ 56 x6.toNat ≤ 0 →
        LX6_layered_156 K32 K75 x2 x3 x4 x5 x6 x7 σ Φ) ∧
      (¬ σ 56 x6.toNat ≤ 0 →
        (0 ≤ x6 ∧ x6 < 672) ∧
        (0 ≤ σ 55 x6.toNat ∧ σ 55 x6.toNat < 108) ∧
        ((0 ≤ σ 51 (σ 55 x6.toNat).toNat →
          LX6_layered_156 K32 K75 x2 x3 x4 x5 x6 x7 σ Φ) ∧
        (¬ 0 ≤ σ 51 (σ 55 x6.toNat).toNat →
          ((108 ≤ x3 →
            LX6_layered_156 K32 K75 x2 x3 x4 x5 x6 x7 σ Φ) ∧
          (¬ 108 ≤ x3 →
            (0 ≤ x6 ∧ x6 < 672) ∧
            (0 ≤ x5 ∧ x5 < 108) ∧
            Rg ((σ 51 x5.toNat) + 1) ∧
            (0 ≤ σ 55 x6.toNat ∧ σ 55 x6.toNat < 108) ∧
            ∀ σ13 : PS, σ13 = up2 σ 51 (σ 55 x6.toNat).toNat ((σ 51 x5.toNat) + 1) →
            (0 ≤ x6 ∧ x6 < 672) ∧
            (0 ≤ x3 ∧ x3 < 108) ∧
            ∀ σ16 : PS, σ16 = up2 σ13 52 x3.toNat (σ13 55 x6.toNat) →
            Rg (x3 + 1) ∧
            LX6_layered_156 K32 K75 x2 (x3 + 1) x4 x5 x6 x7 σ16 Φ))))))))))
def LX6_layered_75 (K32 : Int → Int → Int → PS → Prop) : Nat → Int → Int → Int → Int → Int → Int → PS → (Int → PS → Prop) → Prop
  | 0, _, _, _, _, _, _, _, _ => False
  | n + 1, x2, x3, x4, x5, x6, x7, σ, Φ => BX6_layered_75 K32 (fun x2 x3 x4 x5 x6 x7 σ => LX6_layered_75 K32 n x2 x3 x4 x5 x6 x7 σ Φ) x2 x3 x4 x5 x6 x7 σ Φ
def BX6_layered_32 (K32 : Int → Int → Int → PS → Prop) (x2 x3 x4 : Int) (σ : PS) (Φ : Int → PS → Prop) : Prop :=
  ((x3 ≤ x4 →
    LX6_layered_177 x2 σ Φ) ∧
  (¬ x3 ≤ x4 →
    ((108 ≤ x4 →
      LX6_layered_177 x2 σ Φ) ∧
    (¬ 108 ≤ x4 →
      (0 ≤ x2 ∧ x2 < 108) ∧
      ((0 ≤ σ 51 x2.toNat →
        LX6_layered_177 x2 σ Φ) ∧
      (¬ 0 ≤ σ 51 x2.toNat →
        (0 ≤ x4 ∧ x4 < 108) ∧
        ∀ v6 : Int, v6 = σ 52 x4.toNat →
        (0 ≤ v6 ∧ v6 < 108) ∧
        ∀ v8 : Int, v8 = σ 49 v6.toNat →
        ∃ n, LX6_layered_75 K32 n x2 x3 x4 v6 v8 0 σ Φ))))))
def LX6_layered_32 : Nat → Int → Int → Int → PS → (Int → PS → Prop) → Prop
  | 0, _, _, _, _, _ => False
  | n + 1, x2, x3, x4, σ, Φ => BX6_layered_32 (fun x2 x3 x4 σ => LX6_layered_32 n x2 x3 x4 σ Φ) x2 x3 x4 σ Φ
def FX6_layered (a1 a2 : Int) (σ : PS) (Φ : Int → PS → Prop) : Prop :=
  (0 ≤ (0 : Int) ∧ 0 ≤ σ 8 8 ∧ σ 8 8 ≤ 108) ∧
  ∀ σ2 : PS, σ2 = fl2 σ 51 0 (σ 8 8).toNat (-1) →
  (0 ≤ a1 ∧ a1 < 108) ∧
  ∀ σ4 : PS, σ4 = up2 σ2 51 a1.toNat 0 →
  ∀ σ5 : PS, σ5 = up2 σ4 52 0 a1 →
  ∃ n, LX6_layered_32 n a2 1 0 σ5 Φ
theorem fw_RX6_18 : FW RX6 18 6 2 := ⟨RX6, TX6, 10, rfl, by decide, rfl, tb_1 360 (by decide +kernel), uw_6⟩
theorem fw_RX6_21 : FW RX6 21 6 3 := ⟨RX6, TX6, 10, rfl, by decide, rfl, tb_1 361 (by decide +kernel), uw_6⟩
theorem fw_RX6_33 : FW RX6 33 6 7 := ⟨RX6, TX6, 10, rfl, by decide, rfl, tb_1 365 (by decide +kernel), uw_6⟩
theorem fw_RX6_27 : FW RX6 27 6 5 := ⟨RX6, TX6, 10, rfl, by decide, rfl, tb_1 363 (by decide +kernel), uw_6⟩
theorem fw_RX6_30 : FW RX6 30 6 6 := ⟨RX6, TX6, 10, rfl, by decide, rfl, tb_1 364 (by decide +kernel), uw_6⟩
theorem cw_RX6_73 : CWS RX6 73 yJ7_fill_fda19 mi_fill4 := tb_r [774, 775, 109, 776] (by decide +kernel)
set_option maxRecDepth 100000 in
theorem TX6_layered_177 {E : EV} (hE : eOK layC E) {Φ : Int → PS → Prop} (x : CX) (x2 : Int) (rx2 : Rg x2) (σ : PS) (hs : RS σ) (h : LX6_layered_177 x2 σ Φ) : RW layC E mi_X6_layered Φ 177 [some (.ref (eA E 8)), none, some (.int (iz x2)), none, none, none, none, none] [] σ x := by
  refine r_aloadn (dc D_cX6_layered_2 16 rfl) rfl rfl ?_
  refine r_getR (dc D_cX6_layered_2 17 rfl) fw_RX6_18 lC_8 rfl ?_
  refine r_iloadn (dc D_cX6_layered_2 18 rfl) rfl rfl ?_
  obtain ⟨o1, h⟩ := h
  refine r_iald (N := 108) (dc D_cX6_layered_2 19 rfl) lC_51 rfl rfl o1 ?_
  refine r_if_lt (tgt := 190) (dc D_cX6_layered_2 20 rfl) (by decide) (hs _ _) (fun c2 => ?_) (fun c2 => ?_)
  · have h := h.1 c2
    refine r_iconst (n := 0) (dc D_cX6_layered_2 23 rfl) ?_
    exact r_zret (dc D_cX6_layered_2 24 rfl) rfl (by decide) h
  · have h := h.2 c2
    refine r_iconst (n := 1) (dc D_cX6_layered_2 21 rfl) ?_
    refine r_goto (tgt := 191) (dc D_cX6_layered_2 22 rfl) (by decide) ?_
    exact r_zret (dc D_cX6_layered_2 24 rfl) rfl (by decide) h
set_option maxRecDepth 100000 in
theorem TX6_layered_171 {E : EV} (hE : eOK layC E) {Φ : Int → PS → Prop} {K32 : Int → Int → Int → PS → Prop} (x : CX) (hK32 : ∀ (x2 x3 x4 : Int) (σ : PS), Rg x2 → Rg x3 → Rg x4 → RS σ → K32 x2 x3 x4 σ → RW layC E mi_X6_layered Φ 32 [some (.ref (eA E 8)), none, some (.int (iz x2)), some (.int (iz x3)), some (.int (iz x4)), none, none, none] [] σ x) (x2 x3 x4 : Int) (rx2 : Rg x2) (rx3 : Rg x3) (rx4 : Rg x4) (σ : PS) (hs : RS σ) (h : LX6_layered_171 K32 x2 x3 x4 σ Φ) : RW layC E mi_X6_layered Φ 171 [some (.ref (eA E 8)), none, some (.int (iz x2)), some (.int (iz x3)), some (.int (iz x4)), none, none, none] [] σ x := by
  obtain ⟨o1, h⟩ := h
  refine r_iinc (lv' := [some (.ref (eA E 8)), none, some (.int (iz x2)), some (.int (iz x3)), some (.int (iz (x4 + 1))), none, none, none]) (dc D_cX6_layered_2 14 rfl) rfl rfl rfl ?_
  refine r_goto (tgt := 32) (dc D_cX6_layered_2 15 rfl) (by decide) ?_
  exact hK32 _ _ _ _ rx2 rx3 o1 hs h
set_option maxRecDepth 100000 in
theorem TX6_layered_156 {E : EV} (hE : eOK layC E) {Φ : Int → PS → Prop} {K32 : Int → Int → Int → PS → Prop} {K75 : Int → Int → Int → Int → Int → Int → PS → Prop} (x : CX) (hK32 : ∀ (x2 x3 x4 : Int) (σ : PS), Rg x2 → Rg x3 → Rg x4 → RS σ → K32 x2 x3 x4 σ → RW layC E mi_X6_layered Φ 32 [some (.ref (eA E 8)), none, some (.int (iz x2)), some (.int (iz x3)), some (.int (iz x4)), none, none, none] [] σ x) (hK75 : ∀ (x2 x3 x4 x5 x6 x7 : Int) (σ : PS), Rg x2 → Rg x3 → Rg x4 → Rg x5 → Rg x6 → Rg x7 → RS σ → K75 x2 x3 x4 x5 x6 x7 σ → RW layC E mi_X6_layered Φ 75 [some (.ref (eA E 8)), none, some (.int (iz x2)), some (.int (iz x3)), some (.int (iz x4)), some (.int (iz x5)), some (.int (iz x6)), some (.int (iz x7))] [] σ x) (x2 x3 x4 x5 x6 x7 : Int) (rx2 : Rg x2) (rx3 : Rg x3) (rx4 : Rg x4) (rx5 : Rg x5) (rx6 : Rg x6) (rx7 : Rg x7) (σ : PS) (hs : RS σ) (h : LX6_layered_156 K32 K75 x2 x3 x4 x5 x6 x7 σ Φ) : RW layC E mi_X6_layered Φ 156 [some (.ref (eA E 8)), none, some (.int (iz x2)), some (.int (iz x3)), some (.int (iz x4)), some (.int (iz x5)), some (.int (iz x6)), some (.int (iz x7))] [] σ x := by
  refine r_aloadn (dc D_cX6_layered_2 7 rfl) rfl rfl ?_
  refine r_getR (dc D_cX6_layered_2 8 rfl) fw_RX6_27 lC_8 rfl ?_
  refine r_iload (dc D_cX6_layered_2 9 rfl) rfl ?_
  obtain ⟨o1, h⟩ := h
  refine r_iald (N := 672) (dc D_cX6_layered_2 10 rfl) lC_54 rfl rfl o1 ?_
  refine r_name (fun v2 ev2 => ?_)
  have h := h v2 ev2
  have rv2 : Rg v2 := Rg_eq ev2 (hs _ _)
  refine r_istore (lv' := [some (.ref (eA E 8)), none, some (.int (iz x2)), some (.int (iz x3)), some (.int (iz x4)), some (.int (iz x5)), some (.int (iz v2)), some (.int (iz x7))]) (dc D_cX6_layered_2 11 rfl) rfl rfl ?_
  obtain ⟨o3, h⟩ := h
  refine r_iinc (lv' := [some (.ref (eA E 8)), none, some (.int (iz x2)), some (.int (iz x3)), some (.int (iz x4)), some (.int (iz x5)), some (.int (iz v2)), some (.int (iz (x7 + 1)))]) (dc D_cX6_layered_2 12 rfl) rfl rfl rfl ?_
  refine r_goto (tgt := 75) (dc D_cX6_layered_2 13 rfl) (by decide) ?_
  exact hK75 _ _ _ _ _ _ _ rx2 rx3 rx4 rx5 rv2 o3 hs h
set_option maxRecDepth 100000 in
theorem TBX6_layered_75 {E : EV} (hE : eOK layC E) {Φ : Int → PS → Prop} {K32 : Int → Int → Int → PS → Prop} {K75 : Int → Int → Int → Int → Int → Int → PS → Prop} (x : CX) (hK32 : ∀ (x2 x3 x4 : Int) (σ : PS), Rg x2 → Rg x3 → Rg x4 → RS σ → K32 x2 x3 x4 σ → RW layC E mi_X6_layered Φ 32 [some (.ref (eA E 8)), none, some (.int (iz x2)), some (.int (iz x3)), some (.int (iz x4)), none, none, none] [] σ x) (hK75 : ∀ (x2 x3 x4 x5 x6 x7 : Int) (σ : PS), Rg x2 → Rg x3 → Rg x4 → Rg x5 → Rg x6 → Rg x7 → RS σ → K75 x2 x3 x4 x5 x6 x7 σ → RW layC E mi_X6_layered Φ 75 [some (.ref (eA E 8)), none, some (.int (iz x2)), some (.int (iz x3)), some (.int (iz x4)), some (.int (iz x5)), some (.int (iz x6)), some (.int (iz x7))] [] σ x) (x2 x3 x4 x5 x6 x7 : Int) (rx2 : Rg x2) (rx3 : Rg x3) (rx4 : Rg x4) (rx5 : Rg x5) (rx6 : Rg x6) (rx7 : Rg x7) (σ : PS) (hs : RS σ) (h : BX6_layered_75 K32 K75 x2 x3 x4 x5 x6 x7 σ Φ) : RW layC E mi_X6_layered Φ 75 [some (.ref (eA E 8)), none, some (.int (iz x2)), some (.int (iz x3)), some (.int (iz x4)), some (.int (iz x5)), some (.int (iz x6)), some (.int (iz x7))] [] σ x := by
  refine r_iload (dc D_cX6_layered_1 4 rfl) rfl ?_
  refine r_sipush (n := 672) (dc D_cX6_layered_1 5 rfl) (by decide +kernel) ?_
  refine r_icmp_ge (tgt := 171) (dc D_cX6_layered_1 6 rfl) (by decide) rx7 (Rl rfl) (fun c1 => ?_) (fun c1 => ?_)
  · have h := h.1 c1
    refine r_sub (lv' := [some (.ref (eA E 8)), none, some (.int (iz x2)), some (.int (iz x3)), some (.int (iz x4)), none, none, none]) (subL_s (subL_n (subL_s (subL_s (subL_s (subL_n (subL_n (subL_n subL_e)))))))) ?_
    exact TX6_layered_171 hE x hK32 _ _ _ rx2 rx3 rx4 _ hs h
  · have h := h.2 c1
    refine r_iload (dc D_cX6_layered_1 7 rfl) rfl ?_
    refine r_if_lt (tgt := 171) (dc D_cX6_layered_1 8 rfl) (by decide) rx6 (fun c2 => ?_) (fun c2 => ?_)
    · have h := h.1 c2
      refine r_sub (lv' := [some (.ref (eA E 8)), none, some (.int (iz x2)), some (.int (iz x3)), some (.int (iz x4)), none, none, none]) (subL_s (subL_n (subL_s (subL_s (subL_s (subL_n (subL_n (subL_n subL_e)))))))) ?_
      exact TX6_layered_171 hE x hK32 _ _ _ rx2 rx3 rx4 _ hs h
    · have h := h.2 c2
      refine r_aloadn (dc D_cX6_layered_1 9 rfl) rfl rfl ?_
      refine r_getR (dc D_cX6_layered_1 10 rfl) fw_RX6_33 lC_8 rfl ?_
      refine r_iload (dc D_cX6_layered_1 11 rfl) rfl ?_
      obtain ⟨o3, h⟩ := h
      refine r_iald (N := 672) (dc D_cX6_layered_1 12 rfl) lC_56 rfl rfl o3 ?_
      refine r_if_le (tgt := 156) (dc D_cX6_layered_1 13 rfl) (by decide) (hs _ _) (fun c4 => ?_) (fun c4 => ?_)
      · have h := h.1 c4
        exact TX6_layered_156 hE x hK32 hK75 _ _ _ _ _ _ rx2 rx3 rx4 rx5 rx6 rx7 _ hs h
      · have h := h.2 c4
        refine r_aloadn (dc D_cX6_layered_1 14 rfl) rfl rfl ?_
        refine r_getR (dc D_cX6_layered_1 15 rfl) fw_RX6_18 lC_8 rfl ?_
        refine r_aloadn (dc D_cX6_layered_1 16 rfl) rfl rfl ?_
        refine r_getR (dc D_cX6_layered_1 17 rfl) fw_RX6_30 lC_8 rfl ?_
        refine r_iload (dc D_cX6_layered_1 18 rfl) rfl ?_
        obtain ⟨o5, h⟩ := h
        refine r_iald (N := 672) (dc D_cX6_layered_1 19 rfl) lC_55 rfl rfl o5 ?_
        obtain ⟨o6, h⟩ := h
        refine r_iald (N := 108) (dc D_cX6_layered_1 20 rfl) lC_51 rfl rfl o6 ?_
        refine r_if_ge (tgt := 156) (dc D_cX6_layered_1 21 rfl) (by decide) (hs _ _) (fun c7 => ?_) (fun c7 => ?_)
        · have h := h.1 c7
          exact TX6_layered_156 hE x hK32 hK75 _ _ _ _ _ _ rx2 rx3 rx4 rx5 rx6 rx7 _ hs h
        · have h := h.2 c7
          refine r_iloadn (dc D_cX6_layered_1 22 rfl) rfl rfl ?_
          refine r_bipush (n := 108) (dc D_cX6_layered_1 23 rfl) (by decide +kernel) ?_
          refine r_icmp_ge (tgt := 156) (dc D_cX6_layered_1 24 rfl) (by decide) rx3 (Rl rfl) (fun c8 => ?_) (fun c8 => ?_)
          · have h := h.1 c8
            exact TX6_layered_156 hE x hK32 hK75 _ _ _ _ _ _ rx2 rx3 rx4 rx5 rx6 rx7 _ hs h
          · have h := h.2 c8
            refine r_aloadn (dc D_cX6_layered_1 25 rfl) rfl rfl ?_
            refine r_getR (dc D_cX6_layered_1 26 rfl) fw_RX6_18 lC_8 rfl ?_
            refine r_aloadn (dc D_cX6_layered_1 27 rfl) rfl rfl ?_
            refine r_getR (dc D_cX6_layered_1 28 rfl) fw_RX6_30 lC_8 rfl ?_
            refine r_iload (dc D_cX6_layered_1 29 rfl) rfl ?_
            obtain ⟨o9, h⟩ := h
            refine r_iald (N := 672) (dc D_cX6_layered_1 30 rfl) lC_55 rfl rfl o9 ?_
            refine r_aloadn (dc D_cX6_layered_1 31 rfl) rfl rfl ?_
            refine r_getR (dc D_cX6_layered_1 32 rfl) fw_RX6_18 lC_8 rfl ?_
            refine r_iload (dc D_cX6_layered_1 33 rfl) rfl ?_
            obtain ⟨o10, h⟩ := h
            refine r_iald (N := 108) (dc D_cX6_layered_1 34 rfl) lC_51 rfl rfl o10 ?_
            refine r_iconst (n := 1) (dc D_cX6_layered_1 35 rfl) ?_
            refine r_iadd (dc D_cX6_layered_1 36 rfl) ?_
            obtain ⟨o11, h⟩ := h
            obtain ⟨o12, h⟩ := h
            refine r_iast (N := 108) (dc D_cX6_layered_1 37 rfl) lC_51 rfl rfl o12 o11 ?_
            refine r_sig (fun σ13 eσ13 => ?_)
            have h := h σ13 eσ13
            have hσ13 : RS σ13 := RS_eq eσ13 (RS.up hs o11 _ _)
            refine r_aloadn (dc D_cX6_layered_1 38 rfl) rfl rfl ?_
            refine r_getR (dc D_cX6_layered_1 39 rfl) fw_RX6_21 lC_8 rfl ?_
            refine r_iloadn (dc D_cX6_layered_2 0 rfl) rfl rfl ?_
            refine r_aloadn (dc D_cX6_layered_2 1 rfl) rfl rfl ?_
            refine r_getR (dc D_cX6_layered_2 2 rfl) fw_RX6_30 lC_8 rfl ?_
            refine r_iload (dc D_cX6_layered_2 3 rfl) rfl ?_
            obtain ⟨o14, h⟩ := h
            refine r_iald (N := 672) (dc D_cX6_layered_2 4 rfl) lC_55 rfl rfl o14 ?_
            obtain ⟨o15, h⟩ := h
            refine r_iast (N := 108) (dc D_cX6_layered_2 5 rfl) lC_52 rfl rfl o15 (hσ13 _ _) ?_
            refine r_sig (fun σ16 eσ16 => ?_)
            have h := h σ16 eσ16
            have hσ16 : RS σ16 := RS_eq eσ16 (RS.up hσ13 (hσ13 _ _) _ _)
            obtain ⟨o17, h⟩ := h
            refine r_iinc (lv' := [some (.ref (eA E 8)), none, some (.int (iz x2)), some (.int (iz (x3 + 1))), some (.int (iz x4)), some (.int (iz x5)), some (.int (iz x6)), some (.int (iz x7))]) (dc D_cX6_layered_2 6 rfl) rfl rfl rfl ?_
            exact TX6_layered_156 hE x hK32 hK75 _ _ _ _ _ _ rx2 o17 rx4 rx5 rx6 rx7 _ hσ16 h
theorem TX6_layered_75 {E : EV} (hE : eOK layC E) {Φ : Int → PS → Prop} {K32 : Int → Int → Int → PS → Prop} (x : CX) (hK32 : ∀ (x2 x3 x4 : Int) (σ : PS), Rg x2 → Rg x3 → Rg x4 → RS σ → K32 x2 x3 x4 σ → RW layC E mi_X6_layered Φ 32 [some (.ref (eA E 8)), none, some (.int (iz x2)), some (.int (iz x3)), some (.int (iz x4)), none, none, none] [] σ x) (n : Nat) : ∀ (x2 x3 x4 x5 x6 x7 : Int) (σ : PS), Rg x2 → Rg x3 → Rg x4 → Rg x5 → Rg x6 → Rg x7 → RS σ → LX6_layered_75 K32 n x2 x3 x4 x5 x6 x7 σ Φ → RW layC E mi_X6_layered Φ 75 [some (.ref (eA E 8)), none, some (.int (iz x2)), some (.int (iz x3)), some (.int (iz x4)), some (.int (iz x5)), some (.int (iz x6)), some (.int (iz x7))] [] σ x := by
  induction n with
  | zero => intro x2 x3 x4 x5 x6 x7 σ _ _ _ _ _ _ _ h; exact h.elim
  | succ n ih => intro x2 x3 x4 x5 x6 x7 σ rx2 rx3 rx4 rx5 rx6 rx7 hs h; exact TBX6_layered_75 hE x hK32 ih x2 x3 x4 x5 x6 x7 rx2 rx3 rx4 rx5 rx6 rx7 σ hs h
set_option maxRecDepth 100000 in
theorem TBX6_layered_32 {E : EV} (hE : eOK layC E) {Φ : Int → PS → Prop} {K32 : Int → Int → Int → PS → Prop} (x : CX) (hK32 : ∀ (x2 x3 x4 : Int) (σ : PS), Rg x2 → Rg x3 → Rg x4 → RS σ → K32 x2 x3 x4 σ → RW layC E mi_X6_layered Φ 32 [some (.ref (eA E 8)), none, some (.int (iz x2)), some (.int (iz x3)), some (.int (iz x4)), none, none, none] [] σ x) (x2 x3 x4 : Int) (rx2 : Rg x2) (rx3 : Rg x3) (rx4 : Rg x4) (σ : PS) (hs : RS σ) (h : BX6_layered_32 K32 x2 x3 x4 σ Φ) : RW layC E mi_X6_layered Φ 32 [some (.ref (eA E 8)), none, some (.int (iz x2)), some (.int (iz x3)), some (.int (iz x4)), none, none, none] [] σ x := by
  refine r_iload (dc D_cX6_layered_0 21 rfl) rfl ?_
  refine r_iloadn (dc D_cX6_layered_0 22 rfl) rfl rfl ?_
  refine r_icmp_ge (tgt := 177) (dc D_cX6_layered_0 23 rfl) (by decide) rx4 rx3 (fun c1 => ?_) (fun c1 => ?_)
  · have h := h.1 c1
    refine r_sub (lv' := [some (.ref (eA E 8)), none, some (.int (iz x2)), none, none, none, none, none]) (subL_s (subL_n (subL_s (subL_n (subL_n (subL_n (subL_n (subL_n subL_e)))))))) ?_
    exact TX6_layered_177 hE x _ rx2 _ hs h
  · have h := h.2 c1
    refine r_iload (dc D_cX6_layered_0 24 rfl) rfl ?_
    refine r_bipush (n := 108) (dc D_cX6_layered_0 25 rfl) (by decide +kernel) ?_
    refine r_icmp_ge (tgt := 177) (dc D_cX6_layered_0 26 rfl) (by decide) rx4 (Rl rfl) (fun c2 => ?_) (fun c2 => ?_)
    · have h := h.1 c2
      refine r_sub (lv' := [some (.ref (eA E 8)), none, some (.int (iz x2)), none, none, none, none, none]) (subL_s (subL_n (subL_s (subL_n (subL_n (subL_n (subL_n (subL_n subL_e)))))))) ?_
      exact TX6_layered_177 hE x _ rx2 _ hs h
    · have h := h.2 c2
      refine r_aloadn (dc D_cX6_layered_0 27 rfl) rfl rfl ?_
      refine r_getR (dc D_cX6_layered_0 28 rfl) fw_RX6_18 lC_8 rfl ?_
      refine r_iloadn (dc D_cX6_layered_0 29 rfl) rfl rfl ?_
      obtain ⟨o3, h⟩ := h
      refine r_iald (N := 108) (dc D_cX6_layered_0 30 rfl) lC_51 rfl rfl o3 ?_
      refine r_if_ge (tgt := 177) (dc D_cX6_layered_0 31 rfl) (by decide) (hs _ _) (fun c4 => ?_) (fun c4 => ?_)
      · have h := h.1 c4
        refine r_sub (lv' := [some (.ref (eA E 8)), none, some (.int (iz x2)), none, none, none, none, none]) (subL_s (subL_n (subL_s (subL_n (subL_n (subL_n (subL_n (subL_n subL_e)))))))) ?_
        exact TX6_layered_177 hE x _ rx2 _ hs h
      · have h := h.2 c4
        refine r_aloadn (dc D_cX6_layered_0 32 rfl) rfl rfl ?_
        refine r_getR (dc D_cX6_layered_0 33 rfl) fw_RX6_21 lC_8 rfl ?_
        refine r_iload (dc D_cX6_layered_0 34 rfl) rfl ?_
        obtain ⟨o5, h⟩ := h
        refine r_iald (N := 108) (dc D_cX6_layered_0 35 rfl) lC_52 rfl rfl o5 ?_
        refine r_name (fun v6 ev6 => ?_)
        have h := h v6 ev6
        have rv6 : Rg v6 := Rg_eq ev6 (hs _ _)
        refine r_istore (lv' := [some (.ref (eA E 8)), none, some (.int (iz x2)), some (.int (iz x3)), some (.int (iz x4)), some (.int (iz v6)), none, none]) (dc D_cX6_layered_0 36 rfl) rfl rfl ?_
        refine r_aloadn (dc D_cX6_layered_0 37 rfl) rfl rfl ?_
        refine r_getR (dc D_cX6_layered_0 38 rfl) fw_RX6_9 lC_8 rfl ?_
        refine r_iload (dc D_cX6_layered_0 39 rfl) rfl ?_
        obtain ⟨o7, h⟩ := h
        refine r_iald (N := 108) (dc D_cX6_layered_1 0 rfl) lC_49 rfl rfl o7 ?_
        refine r_name (fun v8 ev8 => ?_)
        have h := h v8 ev8
        have rv8 : Rg v8 := Rg_eq ev8 (hs _ _)
        refine r_istore (lv' := [some (.ref (eA E 8)), none, some (.int (iz x2)), some (.int (iz x3)), some (.int (iz x4)), some (.int (iz v6)), some (.int (iz v8)), none]) (dc D_cX6_layered_1 1 rfl) rfl rfl ?_
        refine r_iconst (n := 0) (dc D_cX6_layered_1 2 rfl) ?_
        refine r_istore (lv' := [some (.ref (eA E 8)), none, some (.int (iz x2)), some (.int (iz x3)), some (.int (iz x4)), some (.int (iz v6)), some (.int (iz v8)), some (.int (iz 0))]) (dc D_cX6_layered_1 3 rfl) rfl rfl ?_
        obtain ⟨n, h⟩ := h
        exact TX6_layered_75 hE x hK32 n _ _ _ _ _ _ _ rx2 rx3 rx4 rv6 rv8 (Rl rfl) hs h
theorem TX6_layered_32 {E : EV} (hE : eOK layC E) {Φ : Int → PS → Prop} (x : CX) (n : Nat) : ∀ (x2 x3 x4 : Int) (σ : PS), Rg x2 → Rg x3 → Rg x4 → RS σ → LX6_layered_32 n x2 x3 x4 σ Φ → RW layC E mi_X6_layered Φ 32 [some (.ref (eA E 8)), none, some (.int (iz x2)), some (.int (iz x3)), some (.int (iz x4)), none, none, none] [] σ x := by
  induction n with
  | zero => intro x2 x3 x4 σ _ _ _ _ h; exact h.elim
  | succ n ih => intro x2 x3 x4 σ rx2 rx3 rx4 hs h; exact TBX6_layered_32 hE x ih x2 x3 x4 rx2 rx3 rx4 σ hs h
set_option maxRecDepth 100000 in
theorem CX6_layered {E : EV} (hE : eOK layC E) {Φ : Int → PS → Prop} (a1 a2 : Int) (ra1 : Rg a1) (ra2 : Rg a2) (σ : PS) (hs : RS σ) (h : FX6_layered a1 a2 σ Φ) : CT layC E yX6_layered mi_X6_layered [.ref (eA E 8), .int (iz a1), .int (iz a2)] σ Φ := by
  refine ct_of (by decide +kernel) rfl hE rfl rfl hs (fun x => ?_)
  show RW layC E mi_X6_layered Φ 0 [some (.ref (eA E 8)), some (.int (iz a1)), some (.int (iz a2)), none, none, none, none, none] [] σ x
  refine r_aloadn (dc D_cX6_layered_0 0 rfl) rfl rfl ?_
  refine r_getR (dc D_cX6_layered_0 1 rfl) fw_RX6_18 lC_8 rfl ?_
  refine r_iconst (n := 0) (dc D_cX6_layered_0 2 rfl) ?_
  refine r_aloadn (dc D_cX6_layered_0 3 rfl) rfl rfl ?_
  refine r_getI (dc D_cX6_layered_0 4 rfl) fw_RX6_45 lC_8 rfl ?_
  refine r_iconst (n := (-1)) (dc D_cX6_layered_0 5 rfl) ?_
  obtain ⟨o1, h⟩ := h
  refine r_fill4 (n := 108) (N := 108) (dc D_cX6_layered_0 6 rfl) cw_RX6_73 lC_51 rfl rfl (Rl rfl) (hs _ _) (Rl rfl) o1 (by decide) rfl ?_
  refine r_sig (fun σ2 eσ2 => ?_)
  have h := h σ2 eσ2
  have hσ2 : RS σ2 := RS_eq eσ2 (RS.fl hs (Rl rfl))
  refine r_aloadn (dc D_cX6_layered_0 7 rfl) rfl rfl ?_
  refine r_getR (dc D_cX6_layered_0 8 rfl) fw_RX6_18 lC_8 rfl ?_
  refine r_iloadn (dc D_cX6_layered_0 9 rfl) rfl rfl ?_
  refine r_iconst (n := 0) (dc D_cX6_layered_0 10 rfl) ?_
  obtain ⟨o3, h⟩ := h
  refine r_iast (N := 108) (dc D_cX6_layered_0 11 rfl) lC_51 rfl rfl o3 (Rl rfl) ?_
  refine r_sig (fun σ4 eσ4 => ?_)
  have h := h σ4 eσ4
  have hσ4 : RS σ4 := RS_eq eσ4 (RS.up hσ2 (Rl rfl) _ _)
  refine r_aloadn (dc D_cX6_layered_0 12 rfl) rfl rfl ?_
  refine r_getR (dc D_cX6_layered_0 13 rfl) fw_RX6_21 lC_8 rfl ?_
  refine r_iconst (n := 0) (dc D_cX6_layered_0 14 rfl) ?_
  refine r_iloadn (dc D_cX6_layered_0 15 rfl) rfl rfl ?_
  refine r_iast (N := 108) (dc D_cX6_layered_0 16 rfl) lC_52 rfl rfl ⟨by decide, by decide⟩ ra1 ?_
  refine r_sig (fun σ5 eσ5 => ?_)
  have h := h σ5 eσ5
  have hσ5 : RS σ5 := RS_eq eσ5 (RS.up hσ4 ra1 _ _)
  refine r_iconst (n := 1) (dc D_cX6_layered_0 17 rfl) ?_
  refine r_istoren (lv' := [some (.ref (eA E 8)), some (.int (iz a1)), some (.int (iz a2)), some (.int (iz 1)), none, none, none, none]) (dc D_cX6_layered_0 18 rfl) rfl rfl rfl ?_
  refine r_iconst (n := 0) (dc D_cX6_layered_0 19 rfl) ?_
  refine r_istore (lv' := [some (.ref (eA E 8)), some (.int (iz a1)), some (.int (iz a2)), some (.int (iz 1)), some (.int (iz 0)), none, none, none]) (dc D_cX6_layered_0 20 rfl) rfl rfl ?_
  refine r_sub (lv' := [some (.ref (eA E 8)), none, some (.int (iz a2)), some (.int (iz 1)), some (.int (iz 0)), none, none, none]) (subL_s (subL_n (subL_s (subL_s (subL_s (subL_n (subL_n (subL_n subL_e)))))))) ?_
  obtain ⟨n, h⟩ := h
  exact TX6_layered_32 hE x n _ _ _ _ ra2 (Rl rfl) (Rl rfl) hσ5 h
-- end of GateFlow$Net.layered
def mi_X6_deeperSide : MI := (cX6_deeperSide, RX6, 4, 1, (some .int), 1)
def LX6_deeperSide_67 (x1 x2 : Int) (σ : PS) (Φ : Int → PS → Prop) : Prop :=
  (0 ≤ x1 ∧ x1 < 108) ∧
  ∀ σ2 : PS, σ2 = up2 σ 50 x1.toNat x2 →
  Φ x2 σ2
def LX6_deeperSide_54 (K9 : Int → Int → Int → PS → Prop) (x1 x2 x3 : Int) (σ : PS) (Φ : Int → PS → Prop) : Prop :=
  (0 ≤ x2 ∧ x2 < 672) ∧
  ∀ v2 : Int, v2 = σ 54 x2.toNat →
  Rg (x3 + 1) ∧
  K9 x1 v2 (x3 + 1) σ
def BX6_deeperSide_9 (K9 : Int → Int → Int → PS → Prop) (x1 x2 x3 : Int) (σ : PS) (Φ : Int → PS → Prop) : Prop :=
  ((672 ≤ x3 →
    LX6_deeperSide_67 x1 x2 σ Φ) ∧
  (¬ 672 ≤ x3 →
    ((x2 < 0 →
      LX6_deeperSide_67 x1 x2 σ Φ) ∧
    (¬ x2 < 0 →
      (0 ≤ x2 ∧ x2 < 672) ∧
      ((σ 56 x2.toNat ≤ 0 →
        LX6_deeperSide_54 K9 x1 x2 x3 σ Φ) ∧
      (¬ σ 56 x2.toNat ≤ 0 →
        (0 ≤ x2 ∧ x2 < 672) ∧
        (0 ≤ σ 55 x2.toNat ∧ σ 55 x2.toNat < 108) ∧
        (0 ≤ x1 ∧ x1 < 108) ∧
        Rg ((σ 51 x1.toNat) + 1) ∧
        ((¬ σ 51 (σ 55 x2.toNat).toNat = (σ 51 x1.toNat) + 1 →
          LX6_deeperSide_54 K9 x1 x2 x3 σ Φ) ∧
        (σ 51 (σ 55 x2.toNat).toNat = (σ 51 x1.toNat) + 1 →
          LX6_deeperSide_67 x1 x2 σ Φ))))))))
def LX6_deeperSide_9 : Nat → Int → Int → Int → PS → (Int → PS → Prop) → Prop
  | 0, _, _, _, _, _ => False
  | n + 1, x1, x2, x3, σ, Φ => BX6_deeperSide_9 (fun x1 x2 x3 σ => LX6_deeperSide_9 n x1 x2 x3 σ Φ) x1 x2 x3 σ Φ
def FX6_deeperSide (a1 : Int) (σ : PS) (Φ : Int → PS → Prop) : Prop :=
  (0 ≤ a1 ∧ a1 < 108) ∧
  ∀ v2 : Int, v2 = σ 50 a1.toNat →
  ∃ n, LX6_deeperSide_9 n a1 v2 0 σ Φ
theorem fw_RX6_15 : FW RX6 15 6 1 := ⟨RX6, TX6, 10, rfl, by decide, rfl, tb_1 359 (by decide +kernel), uw_6⟩
set_option maxRecDepth 100000 in
theorem TX6_deeperSide_67 {E : EV} (hE : eOK layC E) {Φ : Int → PS → Prop} (x : CX) (x1 x2 : Int) (rx1 : Rg x1) (rx2 : Rg x2) (σ : PS) (hs : RS σ) (h : LX6_deeperSide_67 x1 x2 σ Φ) : RW layC E mi_X6_deeperSide Φ 67 [some (.ref (eA E 8)), some (.int (iz x1)), some (.int (iz x2)), none] [] σ x := by
  refine r_aloadn (dc D_cX6_deeperSide_0 39 rfl) rfl rfl ?_
  refine r_getR (dc D_cX6_deeperSide_1 0 rfl) fw_RX6_15 lC_8 rfl ?_
  refine r_iloadn (dc D_cX6_deeperSide_1 1 rfl) rfl rfl ?_
  refine r_iloadn (dc D_cX6_deeperSide_1 2 rfl) rfl rfl ?_
  obtain ⟨o1, h⟩ := h
  refine r_iast (N := 108) (dc D_cX6_deeperSide_1 3 rfl) lC_50 rfl rfl o1 rx2 ?_
  refine r_sig (fun σ2 eσ2 => ?_)
  have h := h σ2 eσ2
  have hσ2 : RS σ2 := RS_eq eσ2 (RS.up hs rx2 _ _)
  refine r_iloadn (dc D_cX6_deeperSide_1 4 rfl) rfl rfl ?_
  exact r_iret (dc D_cX6_deeperSide_1 5 rfl) rfl rx2 h
set_option maxRecDepth 100000 in
theorem TX6_deeperSide_54 {E : EV} (hE : eOK layC E) {Φ : Int → PS → Prop} {K9 : Int → Int → Int → PS → Prop} (x : CX) (hK9 : ∀ (x1 x2 x3 : Int) (σ : PS), Rg x1 → Rg x2 → Rg x3 → RS σ → K9 x1 x2 x3 σ → RW layC E mi_X6_deeperSide Φ 9 [some (.ref (eA E 8)), some (.int (iz x1)), some (.int (iz x2)), some (.int (iz x3))] [] σ x) (x1 x2 x3 : Int) (rx1 : Rg x1) (rx2 : Rg x2) (rx3 : Rg x3) (σ : PS) (hs : RS σ) (h : LX6_deeperSide_54 K9 x1 x2 x3 σ Φ) : RW layC E mi_X6_deeperSide Φ 54 [some (.ref (eA E 8)), some (.int (iz x1)), some (.int (iz x2)), some (.int (iz x3))] [] σ x := by
  refine r_aloadn (dc D_cX6_deeperSide_0 32 rfl) rfl rfl ?_
  refine r_getR (dc D_cX6_deeperSide_0 33 rfl) fw_RX6_27 lC_8 rfl ?_
  refine r_iloadn (dc D_cX6_deeperSide_0 34 rfl) rfl rfl ?_
  obtain ⟨o1, h⟩ := h
  refine r_iald (N := 672) (dc D_cX6_deeperSide_0 35 rfl) lC_54 rfl rfl o1 ?_
  refine r_name (fun v2 ev2 => ?_)
  have h := h v2 ev2
  have rv2 : Rg v2 := Rg_eq ev2 (hs _ _)
  refine r_istoren (lv' := [some (.ref (eA E 8)), some (.int (iz x1)), some (.int (iz v2)), some (.int (iz x3))]) (dc D_cX6_deeperSide_0 36 rfl) rfl rfl rfl ?_
  obtain ⟨o3, h⟩ := h
  refine r_iinc (lv' := [some (.ref (eA E 8)), some (.int (iz x1)), some (.int (iz v2)), some (.int (iz (x3 + 1)))]) (dc D_cX6_deeperSide_0 37 rfl) rfl rfl rfl ?_
  refine r_goto (tgt := 9) (dc D_cX6_deeperSide_0 38 rfl) (by decide) ?_
  exact hK9 _ _ _ _ rx1 rv2 o3 hs h
set_option maxRecDepth 100000 in
theorem TBX6_deeperSide_9 {E : EV} (hE : eOK layC E) {Φ : Int → PS → Prop} {K9 : Int → Int → Int → PS → Prop} (x : CX) (hK9 : ∀ (x1 x2 x3 : Int) (σ : PS), Rg x1 → Rg x2 → Rg x3 → RS σ → K9 x1 x2 x3 σ → RW layC E mi_X6_deeperSide Φ 9 [some (.ref (eA E 8)), some (.int (iz x1)), some (.int (iz x2)), some (.int (iz x3))] [] σ x) (x1 x2 x3 : Int) (rx1 : Rg x1) (rx2 : Rg x2) (rx3 : Rg x3) (σ : PS) (hs : RS σ) (h : BX6_deeperSide_9 K9 x1 x2 x3 σ Φ) : RW layC E mi_X6_deeperSide Φ 9 [some (.ref (eA E 8)), some (.int (iz x1)), some (.int (iz x2)), some (.int (iz x3))] [] σ x := by
  refine r_iloadn (dc D_cX6_deeperSide_0 7 rfl) rfl rfl ?_
  refine r_sipush (n := 672) (dc D_cX6_deeperSide_0 8 rfl) (by decide +kernel) ?_
  refine r_icmp_ge (tgt := 67) (dc D_cX6_deeperSide_0 9 rfl) (by decide) rx3 (Rl rfl) (fun c1 => ?_) (fun c1 => ?_)
  · have h := h.1 c1
    refine r_sub (lv' := [some (.ref (eA E 8)), some (.int (iz x1)), some (.int (iz x2)), none]) (subL_s (subL_s (subL_s (subL_n subL_e)))) ?_
    exact TX6_deeperSide_67 hE x _ _ rx1 rx2 _ hs h
  · have h := h.2 c1
    refine r_iloadn (dc D_cX6_deeperSide_0 10 rfl) rfl rfl ?_
    refine r_if_lt (tgt := 67) (dc D_cX6_deeperSide_0 11 rfl) (by decide) rx2 (fun c2 => ?_) (fun c2 => ?_)
    · have h := h.1 c2
      refine r_sub (lv' := [some (.ref (eA E 8)), some (.int (iz x1)), some (.int (iz x2)), none]) (subL_s (subL_s (subL_s (subL_n subL_e)))) ?_
      exact TX6_deeperSide_67 hE x _ _ rx1 rx2 _ hs h
    · have h := h.2 c2
      refine r_aloadn (dc D_cX6_deeperSide_0 12 rfl) rfl rfl ?_
      refine r_getR (dc D_cX6_deeperSide_0 13 rfl) fw_RX6_33 lC_8 rfl ?_
      refine r_iloadn (dc D_cX6_deeperSide_0 14 rfl) rfl rfl ?_
      obtain ⟨o3, h⟩ := h
      refine r_iald (N := 672) (dc D_cX6_deeperSide_0 15 rfl) lC_56 rfl rfl o3 ?_
      refine r_if_le (tgt := 54) (dc D_cX6_deeperSide_0 16 rfl) (by decide) (hs _ _) (fun c4 => ?_) (fun c4 => ?_)
      · have h := h.1 c4
        exact TX6_deeperSide_54 hE x hK9 _ _ _ rx1 rx2 rx3 _ hs h
      · have h := h.2 c4
        refine r_aloadn (dc D_cX6_deeperSide_0 17 rfl) rfl rfl ?_
        refine r_getR (dc D_cX6_deeperSide_0 18 rfl) fw_RX6_18 lC_8 rfl ?_
        refine r_aloadn (dc D_cX6_deeperSide_0 19 rfl) rfl rfl ?_
        refine r_getR (dc D_cX6_deeperSide_0 20 rfl) fw_RX6_30 lC_8 rfl ?_
        refine r_iloadn (dc D_cX6_deeperSide_0 21 rfl) rfl rfl ?_
        obtain ⟨o5, h⟩ := h
        refine r_iald (N := 672) (dc D_cX6_deeperSide_0 22 rfl) lC_55 rfl rfl o5 ?_
        obtain ⟨o6, h⟩ := h
        refine r_iald (N := 108) (dc D_cX6_deeperSide_0 23 rfl) lC_51 rfl rfl o6 ?_
        refine r_aloadn (dc D_cX6_deeperSide_0 24 rfl) rfl rfl ?_
        refine r_getR (dc D_cX6_deeperSide_0 25 rfl) fw_RX6_18 lC_8 rfl ?_
        refine r_iloadn (dc D_cX6_deeperSide_0 26 rfl) rfl rfl ?_
        obtain ⟨o7, h⟩ := h
        refine r_iald (N := 108) (dc D_cX6_deeperSide_0 27 rfl) lC_51 rfl rfl o7 ?_
        refine r_iconst (n := 1) (dc D_cX6_deeperSide_0 28 rfl) ?_
        refine r_iadd (dc D_cX6_deeperSide_0 29 rfl) ?_
        obtain ⟨o8, h⟩ := h
        refine r_icmp_ne (tgt := 54) (dc D_cX6_deeperSide_0 30 rfl) (by decide) (hs _ _) o8 (fun c9 => ?_) (fun c9 => ?_)
        · have h := h.1 c9
          exact TX6_deeperSide_54 hE x hK9 _ _ _ rx1 rx2 rx3 _ hs h
        · have h := h.2 c9
          refine r_goto (tgt := 67) (dc D_cX6_deeperSide_0 31 rfl) (by decide) ?_
          refine r_sub (lv' := [some (.ref (eA E 8)), some (.int (iz x1)), some (.int (iz x2)), none]) (subL_s (subL_s (subL_s (subL_n subL_e)))) ?_
          exact TX6_deeperSide_67 hE x _ _ rx1 rx2 _ hs h
theorem TX6_deeperSide_9 {E : EV} (hE : eOK layC E) {Φ : Int → PS → Prop} (x : CX) (n : Nat) : ∀ (x1 x2 x3 : Int) (σ : PS), Rg x1 → Rg x2 → Rg x3 → RS σ → LX6_deeperSide_9 n x1 x2 x3 σ Φ → RW layC E mi_X6_deeperSide Φ 9 [some (.ref (eA E 8)), some (.int (iz x1)), some (.int (iz x2)), some (.int (iz x3))] [] σ x := by
  induction n with
  | zero => intro x1 x2 x3 σ _ _ _ _ h; exact h.elim
  | succ n ih => intro x1 x2 x3 σ rx1 rx2 rx3 hs h; exact TBX6_deeperSide_9 hE x ih x1 x2 x3 rx1 rx2 rx3 σ hs h
set_option maxRecDepth 100000 in
theorem CX6_deeperSide {E : EV} (hE : eOK layC E) {Φ : Int → PS → Prop} (a1 : Int) (ra1 : Rg a1) (σ : PS) (hs : RS σ) (h : FX6_deeperSide a1 σ Φ) : CT layC E yX6_deeperSide mi_X6_deeperSide [.ref (eA E 8), .int (iz a1)] σ Φ := by
  refine ct_of (by decide +kernel) rfl hE rfl rfl hs (fun x => ?_)
  show RW layC E mi_X6_deeperSide Φ 0 [some (.ref (eA E 8)), some (.int (iz a1)), none, none] [] σ x
  refine r_aloadn (dc D_cX6_deeperSide_0 0 rfl) rfl rfl ?_
  refine r_getR (dc D_cX6_deeperSide_0 1 rfl) fw_RX6_15 lC_8 rfl ?_
  refine r_iloadn (dc D_cX6_deeperSide_0 2 rfl) rfl rfl ?_
  obtain ⟨o1, h⟩ := h
  refine r_iald (N := 108) (dc D_cX6_deeperSide_0 3 rfl) lC_50 rfl rfl o1 ?_
  refine r_name (fun v2 ev2 => ?_)
  have h := h v2 ev2
  have rv2 : Rg v2 := Rg_eq ev2 (hs _ _)
  refine r_istoren (lv' := [some (.ref (eA E 8)), some (.int (iz a1)), some (.int (iz v2)), none]) (dc D_cX6_deeperSide_0 4 rfl) rfl rfl rfl ?_
  refine r_iconst (n := 0) (dc D_cX6_deeperSide_0 5 rfl) ?_
  refine r_istoren (lv' := [some (.ref (eA E 8)), some (.int (iz a1)), some (.int (iz v2)), some (.int (iz 0))]) (dc D_cX6_deeperSide_0 6 rfl) rfl rfl rfl ?_
  obtain ⟨n, h⟩ := h
  exact TX6_deeperSide_9 hE x n _ _ _ _ ra1 rv2 (Rl rfl) hs h
-- end of GateFlow$Net.deeperSide
def mi_X6_passPath : MI := (cX6_passPath, RX6, 4, 4, (some .int), 1)
def BX6_passPath_34 (K34 : Int → Int → Int → PS → Prop) (x1 x2 x3 : Int) (σ : PS) (Φ : Int → PS → Prop) : Prop :=
  ((x1 ≤ x3 →
    Φ x2 σ) ∧
  (¬ x1 ≤ x3 →
    (0 ≤ x3 ∧ x3 < 108) ∧
    (0 ≤ σ 53 x3.toNat ∧ σ 53 x3.toNat < 672) ∧
    Rg ((σ 56 (σ 53 x3.toNat).toNat) - x2) ∧
    (0 ≤ σ 53 x3.toNat ∧ σ 53 x3.toNat < 672) ∧
    ∀ σ6 : PS, σ6 = up2 σ 56 (σ 53 x3.toNat).toNat ((σ 56 (σ 53 x3.toNat).toNat) - x2) →
    (0 ≤ x3 ∧ x3 < 108) ∧
    (0 ≤ ixor (σ6 53 x3.toNat) 1 ∧ ixor (σ6 53 x3.toNat) 1 < 672) ∧
    Rg ((σ6 56 (ixor (σ6 53 x3.toNat) 1).toNat) + x2) ∧
    (0 ≤ ixor (σ6 53 x3.toNat) 1 ∧ ixor (σ6 53 x3.toNat) 1 < 672) ∧
    ∀ σ11 : PS, σ11 = up2 σ6 56 (ixor (σ6 53 x3.toNat) 1).toNat ((σ6 56 (ixor (σ6 53 x3.toNat) 1).toNat) + x2) →
    Rg (x3 + 1) ∧
    K34 x1 x2 (x3 + 1) σ11))
def LX6_passPath_34 : Nat → Int → Int → Int → PS → (Int → PS → Prop) → Prop
  | 0, _, _, _, _, _ => False
  | n + 1, x1, x2, x3, σ, Φ => BX6_passPath_34 (fun x1 x2 x3 σ => LX6_passPath_34 n x1 x2 x3 σ Φ) x1 x2 x3 σ Φ
def BX6_passPath_5 (K5 : Int → Int → Int → PS → Prop) (x1 x2 x3 : Int) (σ : PS) (Φ : Int → PS → Prop) : Prop :=
  ((x1 ≤ x3 →
    ∃ n, LX6_passPath_34 n x1 x2 0 σ Φ) ∧
  (¬ x1 ≤ x3 →
    (0 ≤ x3 ∧ x3 < 108) ∧
    (0 ≤ σ 53 x3.toNat ∧ σ 53 x3.toNat < 672) ∧
    ∀ v4 : Int, v4 = min x2 (σ 56 (σ 53 x3.toNat).toNat) →
    Rg (x3 + 1) ∧
    K5 x1 v4 (x3 + 1) σ))
def LX6_passPath_5 : Nat → Int → Int → Int → PS → (Int → PS → Prop) → Prop
  | 0, _, _, _, _, _ => False
  | n + 1, x1, x2, x3, σ, Φ => BX6_passPath_5 (fun x1 x2 x3 σ => LX6_passPath_5 n x1 x2 x3 σ Φ) x1 x2 x3 σ Φ
def FX6_passPath (a1 : Int) (σ : PS) (Φ : Int → PS → Prop) : Prop :=
  ∃ n, LX6_passPath_5 n a1 1000000000 0 σ Φ
theorem fw_RX6_24 : FW RX6 24 6 4 := ⟨RX6, TX6, 10, rfl, by decide, rfl, tb_1 362 (by decide +kernel), uw_6⟩
theorem kw_RX6_90 : Cond.constant RX6 90 (iz 1000000000) ∈ TB := tb_1 792 (by decide +kernel)
set_option maxRecDepth 100000 in
theorem TBX6_passPath_34 {E : EV} (hE : eOK layC E) {Φ : Int → PS → Prop} {K34 : Int → Int → Int → PS → Prop} (x : CX) (hK34 : ∀ (x1 x2 x3 : Int) (σ : PS), Rg x1 → Rg x2 → Rg x3 → RS σ → K34 x1 x2 x3 σ → RW layC E mi_X6_passPath Φ 34 [some (.ref (eA E 8)), some (.int (iz x1)), some (.int (iz x2)), some (.int (iz x3))] [] σ x) (x1 x2 x3 : Int) (rx1 : Rg x1) (rx2 : Rg x2) (rx3 : Rg x3) (σ : PS) (hs : RS σ) (h : BX6_passPath_34 K34 x1 x2 x3 σ Φ) : RW layC E mi_X6_passPath Φ 34 [some (.ref (eA E 8)), some (.int (iz x1)), some (.int (iz x2)), some (.int (iz x3))] [] σ x := by
  refine r_iloadn (dc D_cX6_passPath_0 21 rfl) rfl rfl ?_
  refine r_iloadn (dc D_cX6_passPath_0 22 rfl) rfl rfl ?_
  refine r_icmp_ge (tgt := 77) (dc D_cX6_passPath_0 23 rfl) (by decide) rx3 rx1 (fun c1 => ?_) (fun c1 => ?_)
  · have h := h.1 c1
    refine r_iloadn (dc D_cX6_passPath_1 10 rfl) rfl rfl ?_
    exact r_iret (dc D_cX6_passPath_1 11 rfl) rfl rx2 h
  · have h := h.2 c1
    refine r_aloadn (dc D_cX6_passPath_0 24 rfl) rfl rfl ?_
    refine r_getR (dc D_cX6_passPath_0 25 rfl) fw_RX6_33 lC_8 rfl ?_
    refine r_aloadn (dc D_cX6_passPath_0 26 rfl) rfl rfl ?_
    refine r_getR (dc D_cX6_passPath_0 27 rfl) fw_RX6_24 lC_8 rfl ?_
    refine r_iloadn (dc D_cX6_passPath_0 28 rfl) rfl rfl ?_
    obtain ⟨o2, h⟩ := h
    refine r_iald (N := 108) (dc D_cX6_passPath_0 29 rfl) lC_53 rfl rfl o2 ?_
    refine r_dup2 (dc D_cX6_passPath_0 30 rfl) rfl rfl ?_
    obtain ⟨o3, h⟩ := h
    refine r_iald (N := 672) (dc D_cX6_passPath_0 31 rfl) lC_56 rfl rfl o3 ?_
    refine r_iloadn (dc D_cX6_passPath_0 32 rfl) rfl rfl ?_
    refine r_isub (dc D_cX6_passPath_0 33 rfl) ?_
    obtain ⟨o4, h⟩ := h
    obtain ⟨o5, h⟩ := h
    refine r_iast (N := 672) (dc D_cX6_passPath_0 34 rfl) lC_56 rfl rfl o5 o4 ?_
    refine r_sig (fun σ6 eσ6 => ?_)
    have h := h σ6 eσ6
    have hσ6 : RS σ6 := RS_eq eσ6 (RS.up hs o4 _ _)
    refine r_aloadn (dc D_cX6_passPath_0 35 rfl) rfl rfl ?_
    refine r_getR (dc D_cX6_passPath_0 36 rfl) fw_RX6_33 lC_8 rfl ?_
    refine r_aloadn (dc D_cX6_passPath_0 37 rfl) rfl rfl ?_
    refine r_getR (dc D_cX6_passPath_0 38 rfl) fw_RX6_24 lC_8 rfl ?_
    refine r_iloadn (dc D_cX6_passPath_0 39 rfl) rfl rfl ?_
    obtain ⟨o7, h⟩ := h
    refine r_iald (N := 108) (dc D_cX6_passPath_1 0 rfl) lC_53 rfl rfl o7 ?_
    refine r_iconst (n := 1) (dc D_cX6_passPath_1 1 rfl) ?_
    refine r_ixor (dc D_cX6_passPath_1 2 rfl) ?_
    refine r_dup2 (dc D_cX6_passPath_1 3 rfl) rfl rfl ?_
    obtain ⟨o8, h⟩ := h
    refine r_iald (N := 672) (dc D_cX6_passPath_1 4 rfl) lC_56 rfl rfl o8 ?_
    refine r_iloadn (dc D_cX6_passPath_1 5 rfl) rfl rfl ?_
    refine r_iadd (dc D_cX6_passPath_1 6 rfl) ?_
    obtain ⟨o9, h⟩ := h
    obtain ⟨o10, h⟩ := h
    refine r_iast (N := 672) (dc D_cX6_passPath_1 7 rfl) lC_56 rfl rfl o10 o9 ?_
    refine r_sig (fun σ11 eσ11 => ?_)
    have h := h σ11 eσ11
    have hσ11 : RS σ11 := RS_eq eσ11 (RS.up hσ6 o9 _ _)
    obtain ⟨o12, h⟩ := h
    refine r_iinc (lv' := [some (.ref (eA E 8)), some (.int (iz x1)), some (.int (iz x2)), some (.int (iz (x3 + 1)))]) (dc D_cX6_passPath_1 8 rfl) rfl rfl rfl ?_
    refine r_goto (tgt := 34) (dc D_cX6_passPath_1 9 rfl) (by decide) ?_
    exact hK34 _ _ _ _ rx1 rx2 o12 hσ11 h
theorem TX6_passPath_34 {E : EV} (hE : eOK layC E) {Φ : Int → PS → Prop} (x : CX) (n : Nat) : ∀ (x1 x2 x3 : Int) (σ : PS), Rg x1 → Rg x2 → Rg x3 → RS σ → LX6_passPath_34 n x1 x2 x3 σ Φ → RW layC E mi_X6_passPath Φ 34 [some (.ref (eA E 8)), some (.int (iz x1)), some (.int (iz x2)), some (.int (iz x3))] [] σ x := by
  induction n with
  | zero => intro x1 x2 x3 σ _ _ _ _ h; exact h.elim
  | succ n ih => intro x1 x2 x3 σ rx1 rx2 rx3 hs h; exact TBX6_passPath_34 hE x ih x1 x2 x3 rx1 rx2 rx3 σ hs h
set_option maxRecDepth 100000 in
theorem TBX6_passPath_5 {E : EV} (hE : eOK layC E) {Φ : Int → PS → Prop} {K5 : Int → Int → Int → PS → Prop} (x : CX) (hK5 : ∀ (x1 x2 x3 : Int) (σ : PS), Rg x1 → Rg x2 → Rg x3 → RS σ → K5 x1 x2 x3 σ → RW layC E mi_X6_passPath Φ 5 [some (.ref (eA E 8)), some (.int (iz x1)), some (.int (iz x2)), some (.int (iz x3))] [] σ x) (x1 x2 x3 : Int) (rx1 : Rg x1) (rx2 : Rg x2) (rx3 : Rg x3) (σ : PS) (hs : RS σ) (h : BX6_passPath_5 K5 x1 x2 x3 σ Φ) : RW layC E mi_X6_passPath Φ 5 [some (.ref (eA E 8)), some (.int (iz x1)), some (.int (iz x2)), some (.int (iz x3))] [] σ x := by
  refine r_iloadn (dc D_cX6_passPath_0 4 rfl) rfl rfl ?_
  refine r_iloadn (dc D_cX6_passPath_0 5 rfl) rfl rfl ?_
  refine r_icmp_ge (tgt := 32) (dc D_cX6_passPath_0 6 rfl) (by decide) rx3 rx1 (fun c1 => ?_) (fun c1 => ?_)
  · have h := h.1 c1
    refine r_iconst (n := 0) (dc D_cX6_passPath_0 19 rfl) ?_
    refine r_istoren (lv' := [some (.ref (eA E 8)), some (.int (iz x1)), some (.int (iz x2)), some (.int (iz 0))]) (dc D_cX6_passPath_0 20 rfl) rfl rfl rfl ?_
    obtain ⟨n, h⟩ := h
    exact TX6_passPath_34 hE x n _ _ _ _ rx1 rx2 (Rl rfl) hs h
  · have h := h.2 c1
    refine r_iloadn (dc D_cX6_passPath_0 7 rfl) rfl rfl ?_
    refine r_aloadn (dc D_cX6_passPath_0 8 rfl) rfl rfl ?_
    refine r_getR (dc D_cX6_passPath_0 9 rfl) fw_RX6_33 lC_8 rfl ?_
    refine r_aloadn (dc D_cX6_passPath_0 10 rfl) rfl rfl ?_
    refine r_getR (dc D_cX6_passPath_0 11 rfl) fw_RX6_24 lC_8 rfl ?_
    refine r_iloadn (dc D_cX6_passPath_0 12 rfl) rfl rfl ?_
    obtain ⟨o2, h⟩ := h
    refine r_iald (N := 108) (dc D_cX6_passPath_0 13 rfl) lC_53 rfl rfl o2 ?_
    obtain ⟨o3, h⟩ := h
    refine r_iald (N := 672) (dc D_cX6_passPath_0 14 rfl) lC_56 rfl rfl o3 ?_
    refine r_min (dc D_cX6_passPath_0 15 rfl) mw_RX6_36 rx2 (hs _ _) (by decide) rfl ?_
    refine r_name (fun v4 ev4 => ?_)
    have h := h v4 ev4
    have rv4 : Rg v4 := Rg_eq ev4 (Rg_min rx2 (hs _ _))
    refine r_istoren (lv' := [some (.ref (eA E 8)), some (.int (iz x1)), some (.int (iz v4)), some (.int (iz x3))]) (dc D_cX6_passPath_0 16 rfl) rfl rfl rfl ?_
    obtain ⟨o5, h⟩ := h
    refine r_iinc (lv' := [some (.ref (eA E 8)), some (.int (iz x1)), some (.int (iz v4)), some (.int (iz (x3 + 1)))]) (dc D_cX6_passPath_0 17 rfl) rfl rfl rfl ?_
    refine r_goto (tgt := 5) (dc D_cX6_passPath_0 18 rfl) (by decide) ?_
    exact hK5 _ _ _ _ rx1 rv4 o5 hs h
theorem TX6_passPath_5 {E : EV} (hE : eOK layC E) {Φ : Int → PS → Prop} (x : CX) (n : Nat) : ∀ (x1 x2 x3 : Int) (σ : PS), Rg x1 → Rg x2 → Rg x3 → RS σ → LX6_passPath_5 n x1 x2 x3 σ Φ → RW layC E mi_X6_passPath Φ 5 [some (.ref (eA E 8)), some (.int (iz x1)), some (.int (iz x2)), some (.int (iz x3))] [] σ x := by
  induction n with
  | zero => intro x1 x2 x3 σ _ _ _ _ h; exact h.elim
  | succ n ih => intro x1 x2 x3 σ rx1 rx2 rx3 hs h; exact TBX6_passPath_5 hE x ih x1 x2 x3 rx1 rx2 rx3 σ hs h
set_option maxRecDepth 100000 in
theorem CX6_passPath {E : EV} (hE : eOK layC E) {Φ : Int → PS → Prop} (a1 : Int) (ra1 : Rg a1) (σ : PS) (hs : RS σ) (h : FX6_passPath a1 σ Φ) : CT layC E yX6_passPath mi_X6_passPath [.ref (eA E 8), .int (iz a1)] σ Φ := by
  refine ct_of (by decide +kernel) rfl hE rfl rfl hs (fun x => ?_)
  show RW layC E mi_X6_passPath Φ 0 [some (.ref (eA E 8)), some (.int (iz a1)), none, none] [] σ x
  refine r_ldc (n := (1000000000)) (dc D_cX6_passPath_0 0 rfl) kw_RX6_90 ?_
  refine r_istoren (lv' := [some (.ref (eA E 8)), some (.int (iz a1)), some (.int (iz 1000000000)), none]) (dc D_cX6_passPath_0 1 rfl) rfl rfl rfl ?_
  refine r_iconst (n := 0) (dc D_cX6_passPath_0 2 rfl) ?_
  refine r_istoren (lv' := [some (.ref (eA E 8)), some (.int (iz a1)), some (.int (iz 1000000000)), some (.int (iz 0))]) (dc D_cX6_passPath_0 3 rfl) rfl rfl rfl ?_
  obtain ⟨n, h⟩ := h
  exact TX6_passPath_5 hE x n _ _ _ _ ra1 (Rl rfl) (Rl rfl) hs h
-- end of GateFlow$Net.passPath
def mi_X6_passLayered : MI := (cX6_passLayered, RX6, 8, 5, (some .int), 1)
def LX6_passLayered_135 (K28 : Int → Int → Int → Int → Int → Int → PS → Prop) (x1 x2 x3 x4 x5 x6 : Int) (σ : PS) (Φ : Int → PS → Prop) : Prop :=
  Rg (x6 + 1) ∧
  K28 x1 x2 x3 x4 x5 (x6 + 1) σ
def LX6_passLayered_103 (K28 : Int → Int → Int → Int → Int → Int → PS → Prop) (x1 x2 x3 x4 x5 x6 : Int) (σ : PS) (Φ : Int → PS → Prop) : Prop :=
  ((x4 ≤ 0 →
    Φ x3 σ) ∧
  (¬ x4 ≤ 0 →
    (0 ≤ x5 ∧ x5 < 108) ∧
    ∀ σ3 : PS, σ3 = up2 σ 51 x5.toNat (-1) →
    Rg (x4 + (-1)) ∧
    (0 ≤ x4 + (-1) ∧ x4 + (-1) < 108) ∧
    (0 ≤ ixor (σ3 53 (x4 + (-1)).toNat) 1 ∧ ixor (σ3 53 (x4 + (-1)).toNat) 1 < 672) ∧
    ∀ v7 : Int, v7 = σ3 55 (ixor (σ3 53 (x4 + (-1)).toNat) 1).toNat →
    LX6_passLayered_135 K28 x1 x2 x3 (x4 + (-1)) v7 x6 σ3 Φ))
def BX6_passLayered_28 (K28 : Int → Int → Int → Int → Int → Int → PS → Prop) (x1 x2 x3 x4 x5 x6 : Int) (σ : PS) (Φ : Int → PS → Prop) : Prop :=
  ((1000000 ≤ x6 →
    Φ x3 σ) ∧
  (¬ 1000000 ≤ x6 →
    ((¬ x5 = x2 →
      FX6_deeperSide x5 σ (fun z3 σ4 =>
      ((z3 < 0 →
        LX6_passLayered_103 K28 x1 x2 x3 x4 x5 x6 σ4 Φ) ∧
      (¬ z3 < 0 →
        ((108 ≤ x4 →
          LX6_passLayered_103 K28 x1 x2 x3 x4 x5 x6 σ4 Φ) ∧
        (¬ 108 ≤ x4 →
          (0 ≤ x4 ∧ x4 < 108) ∧
          ∀ σ8 : PS, σ8 = up2 σ4 53 x4.toNat z3 →
          Rg (x4 + 1) ∧
          (0 ≤ z3 ∧ z3 < 672) ∧
          ∀ v11 : Int, v11 = σ8 55 z3.toNat →
          LX6_passLayered_135 K28 x1 x2 x3 (x4 + 1) v11 x6 σ8 Φ)))))) ∧
    (x5 = x2 →
      FX6_passPath x4 σ (fun z12 σ13 =>
      Rg (x3 + z12) ∧
      ∀ v15 : Int, v15 = x3 + z12 →
      LX6_passLayered_135 K28 x1 x2 v15 0 x1 x6 σ13 Φ)))))
def LX6_passLayered_28 : Nat → Int → Int → Int → Int → Int → Int → PS → (Int → PS → Prop) → Prop
  | 0, _, _, _, _, _, _, _, _ => False
  | n + 1, x1, x2, x3, x4, x5, x6, σ, Φ => BX6_passLayered_28 (fun x1 x2 x3 x4 x5 x6 σ => LX6_passLayered_28 n x1 x2 x3 x4 x5 x6 σ Φ) x1 x2 x3 x4 x5 x6 σ Φ
def FX6_passLayered (a1 a2 : Int) (σ : PS) (Φ : Int → PS → Prop) : Prop :=
  (0 ≤ (0 : Int) ∧ 0 ≤ (0 : Int) ∧ 0 ≤ σ 8 8 ∧ (0 : Int) + σ 8 8 ≤ 108 ∧ (0 : Int) + σ 8 8 ≤ 108) ∧
  ∀ σ2 : PS, σ2 = cp2 σ 49 50 0 0 (σ 8 8).toNat →
  ∃ n, LX6_passLayered_28 n a1 a2 0 0 a1 0 σ2 Φ
theorem kw_RX6_82 : Cond.constant RX6 82 (iz 1000000) ∈ TB := tb_1 787 (by decide +kernel)
theorem cw_RX6_87 : CWV RX6 87 yX6_deeperSide mi_X6_deeperSide := tb_r [793, 795, 21, 103, 796] (by decide +kernel)
theorem nm_yX6_deeperSide : ynm yX6_deeperSide 1 := ⟨⟨by decide +kernel, by decide +kernel⟩, by decide +kernel⟩
theorem cw_RX6_83 : CWV RX6 83 yX6_passPath mi_X6_passPath := tb_r [788, 790, 20, 103, 791] (by decide +kernel)
theorem nm_yX6_passPath : ynm yX6_passPath 1 := ⟨⟨by decide +kernel, by decide +kernel⟩, by decide +kernel⟩
theorem aw_RX6_76 : AW RX6 76 := tb_r [784, 786, 785, 112] (by decide +kernel)
set_option maxRecDepth 100000 in
theorem TX6_passLayered_135 {E : EV} (hE : eOK layC E) {Φ : Int → PS → Prop} {K28 : Int → Int → Int → Int → Int → Int → PS → Prop} (x : CX) (hK28 : ∀ (x1 x2 x3 x4 x5 x6 : Int) (σ : PS), Rg x1 → Rg x2 → Rg x3 → Rg x4 → Rg x5 → Rg x6 → RS σ → K28 x1 x2 x3 x4 x5 x6 σ → RW layC E mi_X6_passLayered Φ 28 [some (.ref (eA E 8)), some (.int (iz x1)), some (.int (iz x2)), some (.int (iz x3)), some (.int (iz x4)), some (.int (iz x5)), some (.int (iz x6)), none] [] σ x) (x1 x2 x3 x4 x5 x6 : Int) (rx1 : Rg x1) (rx2 : Rg x2) (rx3 : Rg x3) (rx4 : Rg x4) (rx5 : Rg x5) (rx6 : Rg x6) (σ : PS) (hs : RS σ) (h : LX6_passLayered_135 K28 x1 x2 x3 x4 x5 x6 σ Φ) : RW layC E mi_X6_passLayered Φ 135 [some (.ref (eA E 8)), some (.int (iz x1)), some (.int (iz x2)), some (.int (iz x3)), some (.int (iz x4)), some (.int (iz x5)), some (.int (iz x6)), none] [] σ x := by
  obtain ⟨o1, h⟩ := h
  refine r_iinc (lv' := [some (.ref (eA E 8)), some (.int (iz x1)), some (.int (iz x2)), some (.int (iz x3)), some (.int (iz x4)), some (.int (iz x5)), some (.int (iz (x6 + 1))), none]) (dc D_cX6_passLayered_1 33 rfl) rfl rfl rfl ?_
  refine r_goto (tgt := 28) (dc D_cX6_passLayered_1 34 rfl) (by decide) ?_
  exact hK28 _ _ _ _ _ _ _ rx1 rx2 rx3 rx4 rx5 o1 hs h
set_option maxRecDepth 100000 in
theorem TX6_passLayered_103 {E : EV} (hE : eOK layC E) {Φ : Int → PS → Prop} {K28 : Int → Int → Int → Int → Int → Int → PS → Prop} (x : CX) (hK28 : ∀ (x1 x2 x3 x4 x5 x6 : Int) (σ : PS), Rg x1 → Rg x2 → Rg x3 → Rg x4 → Rg x5 → Rg x6 → RS σ → K28 x1 x2 x3 x4 x5 x6 σ → RW layC E mi_X6_passLayered Φ 28 [some (.ref (eA E 8)), some (.int (iz x1)), some (.int (iz x2)), some (.int (iz x3)), some (.int (iz x4)), some (.int (iz x5)), some (.int (iz x6)), none] [] σ x) (x1 x2 x3 x4 x5 x6 : Int) (rx1 : Rg x1) (rx2 : Rg x2) (rx3 : Rg x3) (rx4 : Rg x4) (rx5 : Rg x5) (rx6 : Rg x6) (σ : PS) (hs : RS σ) (h : LX6_passLayered_103 K28 x1 x2 x3 x4 x5 x6 σ Φ) : RW layC E mi_X6_passLayered Φ 103 [some (.ref (eA E 8)), some (.int (iz x1)), some (.int (iz x2)), some (.int (iz x3)), some (.int (iz x4)), some (.int (iz x5)), some (.int (iz x6)), none] [] σ x := by
  refine r_iload (dc D_cX6_passLayered_1 15 rfl) rfl ?_
  refine r_if_le (tgt := 141) (dc D_cX6_passLayered_1 16 rfl) (by decide) rx4 (fun c1 => ?_) (fun c1 => ?_)
  · have h := h.1 c1
    refine r_iloadn (dc D_cX6_passLayered_1 35 rfl) rfl rfl ?_
    exact r_iret (dc D_cX6_passLayered_1 36 rfl) rfl rx3 h
  · have h := h.2 c1
    refine r_aloadn (dc D_cX6_passLayered_1 17 rfl) rfl rfl ?_
    refine r_getR (dc D_cX6_passLayered_1 18 rfl) fw_RX6_18 lC_8 rfl ?_
    refine r_iload (dc D_cX6_passLayered_1 19 rfl) rfl ?_
    refine r_iconst (n := (-1)) (dc D_cX6_passLayered_1 20 rfl) ?_
    obtain ⟨o2, h⟩ := h
    refine r_iast (N := 108) (dc D_cX6_passLayered_1 21 rfl) lC_51 rfl rfl o2 (Rl rfl) ?_
    refine r_sig (fun σ3 eσ3 => ?_)
    have h := h σ3 eσ3
    have hσ3 : RS σ3 := RS_eq eσ3 (RS.up hs (Rl rfl) _ _)
    obtain ⟨o4, h⟩ := h
    refine r_iinc (lv' := [some (.ref (eA E 8)), some (.int (iz x1)), some (.int (iz x2)), some (.int (iz x3)), some (.int (iz (x4 + (-1)))), some (.int (iz x5)), some (.int (iz x6)), none]) (dc D_cX6_passLayered_1 22 rfl) rfl rfl rfl ?_
    refine r_aloadn (dc D_cX6_passLayered_1 23 rfl) rfl rfl ?_
    refine r_getR (dc D_cX6_passLayered_1 24 rfl) fw_RX6_30 lC_8 rfl ?_
    refine r_aloadn (dc D_cX6_passLayered_1 25 rfl) rfl rfl ?_
    refine r_getR (dc D_cX6_passLayered_1 26 rfl) fw_RX6_24 lC_8 rfl ?_
    refine r_iload (dc D_cX6_passLayered_1 27 rfl) rfl ?_
    obtain ⟨o5, h⟩ := h
    refine r_iald (N := 108) (dc D_cX6_passLayered_1 28 rfl) lC_53 rfl rfl o5 ?_
    refine r_iconst (n := 1) (dc D_cX6_passLayered_1 29 rfl) ?_
    refine r_ixor (dc D_cX6_passLayered_1 30 rfl) ?_
    obtain ⟨o6, h⟩ := h
    refine r_iald (N := 672) (dc D_cX6_passLayered_1 31 rfl) lC_55 rfl rfl o6 ?_
    refine r_name (fun v7 ev7 => ?_)
    have h := h v7 ev7
    have rv7 : Rg v7 := Rg_eq ev7 (hσ3 _ _)
    refine r_istore (lv' := [some (.ref (eA E 8)), some (.int (iz x1)), some (.int (iz x2)), some (.int (iz x3)), some (.int (iz (x4 + (-1)))), some (.int (iz v7)), some (.int (iz x6)), none]) (dc D_cX6_passLayered_1 32 rfl) rfl rfl ?_
    exact TX6_passLayered_135 hE x hK28 _ _ _ _ _ _ rx1 rx2 rx3 o4 rv7 rx6 _ hσ3 h
set_option maxRecDepth 100000 in
theorem TBX6_passLayered_28 {E : EV} (hE : eOK layC E) {Φ : Int → PS → Prop} {K28 : Int → Int → Int → Int → Int → Int → PS → Prop} (x : CX) (hK28 : ∀ (x1 x2 x3 x4 x5 x6 : Int) (σ : PS), Rg x1 → Rg x2 → Rg x3 → Rg x4 → Rg x5 → Rg x6 → RS σ → K28 x1 x2 x3 x4 x5 x6 σ → RW layC E mi_X6_passLayered Φ 28 [some (.ref (eA E 8)), some (.int (iz x1)), some (.int (iz x2)), some (.int (iz x3)), some (.int (iz x4)), some (.int (iz x5)), some (.int (iz x6)), none] [] σ x) (x1 x2 x3 x4 x5 x6 : Int) (rx1 : Rg x1) (rx2 : Rg x2) (rx3 : Rg x3) (rx4 : Rg x4) (rx5 : Rg x5) (rx6 : Rg x6) (σ : PS) (hs : RS σ) (h : BX6_passLayered_28 K28 x1 x2 x3 x4 x5 x6 σ Φ) : RW layC E mi_X6_passLayered Φ 28 [some (.ref (eA E 8)), some (.int (iz x1)), some (.int (iz x2)), some (.int (iz x3)), some (.int (iz x4)), some (.int (iz x5)), some (.int (iz x6)), none] [] σ x := by
  refine r_iload (dc D_cX6_passLayered_0 17 rfl) rfl ?_
  refine r_ldc (n := (1000000)) (dc D_cX6_passLayered_0 18 rfl) kw_RX6_82 ?_
  refine r_icmp_ge (tgt := 141) (dc D_cX6_passLayered_0 19 rfl) (by decide) rx6 (Rl rfl) (fun c1 => ?_) (fun c1 => ?_)
  · have h := h.1 c1
    refine r_iloadn (dc D_cX6_passLayered_1 35 rfl) rfl rfl ?_
    exact r_iret (dc D_cX6_passLayered_1 36 rfl) rfl rx3 h
  · have h := h.2 c1
    refine r_iload (dc D_cX6_passLayered_0 20 rfl) rfl ?_
    refine r_iloadn (dc D_cX6_passLayered_0 21 rfl) rfl rfl ?_
    refine r_icmp_ne (tgt := 59) (dc D_cX6_passLayered_0 22 rfl) (by decide) rx5 rx2 (fun c2 => ?_) (fun c2 => ?_)
    · have h := h.1 c2
      refine r_aloadn (dc D_cX6_passLayered_0 34 rfl) rfl rfl ?_
      refine r_iload (dc D_cX6_passLayered_0 35 rfl) rfl ?_
      refine r_callV (As := [.int (iz x5)]) (st := []) (dc D_cX6_passLayered_0 36 rfl) cw_RX6_87 nm_yX6_deeperSide (CX6_deeperSide hE _ rx5 _ hs h) lC_8 rfl rfl (by decide) rfl rfl rfl (fun z3 σ4 rz3 hσ4 h => ?_)
      show RW layC E mi_X6_passLayered Φ 65 [some (.ref (eA E 8)), some (.int (iz x1)), some (.int (iz x2)), some (.int (iz x3)), some (.int (iz x4)), some (.int (iz x5)), some (.int (iz x6)), none] [.int (iz z3)] σ4 x
      refine r_istore (lv' := [some (.ref (eA E 8)), some (.int (iz x1)), some (.int (iz x2)), some (.int (iz x3)), some (.int (iz x4)), some (.int (iz x5)), some (.int (iz x6)), some (.int (iz z3))]) (dc D_cX6_passLayered_0 37 rfl) rfl rfl ?_
      refine r_iload (dc D_cX6_passLayered_0 38 rfl) rfl ?_
      refine r_if_lt (tgt := 103) (dc D_cX6_passLayered_0 39 rfl) (by decide) rz3 (fun c5 => ?_) (fun c5 => ?_)
      · have h := h.1 c5
        refine r_sub (lv' := [some (.ref (eA E 8)), some (.int (iz x1)), some (.int (iz x2)), some (.int (iz x3)), some (.int (iz x4)), some (.int (iz x5)), some (.int (iz x6)), none]) (subL_s (subL_s (subL_s (subL_s (subL_s (subL_s (subL_s (subL_n subL_e)))))))) ?_
        exact TX6_passLayered_103 hE x hK28 _ _ _ _ _ _ rx1 rx2 rx3 rx4 rx5 rx6 _ hσ4 h
      · have h := h.2 c5
        refine r_iload (dc D_cX6_passLayered_1 0 rfl) rfl ?_
        refine r_bipush (n := 108) (dc D_cX6_passLayered_1 1 rfl) (by decide +kernel) ?_
        refine r_icmp_ge (tgt := 103) (dc D_cX6_passLayered_1 2 rfl) (by decide) rx4 (Rl rfl) (fun c6 => ?_) (fun c6 => ?_)
        · have h := h.1 c6
          refine r_sub (lv' := [some (.ref (eA E 8)), some (.int (iz x1)), some (.int (iz x2)), some (.int (iz x3)), some (.int (iz x4)), some (.int (iz x5)), some (.int (iz x6)), none]) (subL_s (subL_s (subL_s (subL_s (subL_s (subL_s (subL_s (subL_n subL_e)))))))) ?_
          exact TX6_passLayered_103 hE x hK28 _ _ _ _ _ _ rx1 rx2 rx3 rx4 rx5 rx6 _ hσ4 h
        · have h := h.2 c6
          refine r_aloadn (dc D_cX6_passLayered_1 3 rfl) rfl rfl ?_
          refine r_getR (dc D_cX6_passLayered_1 4 rfl) fw_RX6_24 lC_8 rfl ?_
          refine r_iload (dc D_cX6_passLayered_1 5 rfl) rfl ?_
          refine r_iload (dc D_cX6_passLayered_1 6 rfl) rfl ?_
          obtain ⟨o7, h⟩ := h
          refine r_iast (N := 108) (dc D_cX6_passLayered_1 7 rfl) lC_53 rfl rfl o7 rz3 ?_
          refine r_sig (fun σ8 eσ8 => ?_)
          have h := h σ8 eσ8
          have hσ8 : RS σ8 := RS_eq eσ8 (RS.up hσ4 rz3 _ _)
          obtain ⟨o9, h⟩ := h
          refine r_iinc (lv' := [some (.ref (eA E 8)), some (.int (iz x1)), some (.int (iz x2)), some (.int (iz x3)), some (.int (iz (x4 + 1))), some (.int (iz x5)), some (.int (iz x6)), some (.int (iz z3))]) (dc D_cX6_passLayered_1 8 rfl) rfl rfl rfl ?_
          refine r_aloadn (dc D_cX6_passLayered_1 9 rfl) rfl rfl ?_
          refine r_getR (dc D_cX6_passLayered_1 10 rfl) fw_RX6_30 lC_8 rfl ?_
          refine r_iload (dc D_cX6_passLayered_1 11 rfl) rfl ?_
          obtain ⟨o10, h⟩ := h
          refine r_iald (N := 672) (dc D_cX6_passLayered_1 12 rfl) lC_55 rfl rfl o10 ?_
          refine r_name (fun v11 ev11 => ?_)
          have h := h v11 ev11
          have rv11 : Rg v11 := Rg_eq ev11 (hσ8 _ _)
          refine r_istore (lv' := [some (.ref (eA E 8)), some (.int (iz x1)), some (.int (iz x2)), some (.int (iz x3)), some (.int (iz (x4 + 1))), some (.int (iz v11)), some (.int (iz x6)), some (.int (iz z3))]) (dc D_cX6_passLayered_1 13 rfl) rfl rfl ?_
          refine r_goto (tgt := 135) (dc D_cX6_passLayered_1 14 rfl) (by decide) ?_
          refine r_sub (lv' := [some (.ref (eA E 8)), some (.int (iz x1)), some (.int (iz x2)), some (.int (iz x3)), some (.int (iz (x4 + 1))), some (.int (iz v11)), some (.int (iz x6)), none]) (subL_s (subL_s (subL_s (subL_s (subL_s (subL_s (subL_s (subL_n subL_e)))))))) ?_
          exact TX6_passLayered_135 hE x hK28 _ _ _ _ _ _ rx1 rx2 rx3 o9 rv11 rx6 _ hσ8 h
    · have h := h.2 c2
      refine r_iloadn (dc D_cX6_passLayered_0 23 rfl) rfl rfl ?_
      refine r_aloadn (dc D_cX6_passLayered_0 24 rfl) rfl rfl ?_
      refine r_iload (dc D_cX6_passLayered_0 25 rfl) rfl ?_
      refine r_callV (As := [.int (iz x4)]) (st := [.int (iz x3)]) (dc D_cX6_passLayered_0 26 rfl) cw_RX6_83 nm_yX6_passPath (CX6_passPath hE _ rx4 _ hs h) lC_8 rfl rfl (by decide) rfl rfl rfl (fun z12 σ13 rz12 hσ13 h => ?_)
      show RW layC E mi_X6_passLayered Φ 48 [some (.ref (eA E 8)), some (.int (iz x1)), some (.int (iz x2)), some (.int (iz x3)), some (.int (iz x4)), some (.int (iz x5)), some (.int (iz x6)), none] [.int (iz z12), .int (iz x3)] σ13 x
      refine r_iadd (dc D_cX6_passLayered_0 27 rfl) ?_
      obtain ⟨o14, h⟩ := h
      refine r_name (fun v15 ev15 => ?_)
      have h := h v15 ev15
      have rv15 : Rg v15 := Rg_eq ev15 o14
      refine r_istoren (lv' := [some (.ref (eA E 8)), some (.int (iz x1)), some (.int (iz x2)), some (.int (iz v15)), some (.int (iz x4)), some (.int (iz x5)), some (.int (iz x6)), none]) (dc D_cX6_passLayered_0 28 rfl) rfl rfl rfl ?_
      refine r_iconst (n := 0) (dc D_cX6_passLayered_0 29 rfl) ?_
      refine r_istore (lv' := [some (.ref (eA E 8)), some (.int (iz x1)), some (.int (iz x2)), some (.int (iz v15)), some (.int (iz 0)), some (.int (iz x5)), some (.int (iz x6)), none]) (dc D_cX6_passLayered_0 30 rfl) rfl rfl ?_
      refine r_iloadn (dc D_cX6_passLayered_0 31 rfl) rfl rfl ?_
      refine r_istore (lv' := [some (.ref (eA E 8)), some (.int (iz x1)), some (.int (iz x2)), some (.int (iz v15)), some (.int (iz 0)), some (.int (iz x1)), some (.int (iz x6)), none]) (dc D_cX6_passLayered_0 32 rfl) rfl rfl ?_
      refine r_goto (tgt := 135) (dc D_cX6_passLayered_0 33 rfl) (by decide) ?_
      exact TX6_passLayered_135 hE x hK28 _ _ _ _ _ _ rx1 rx2 rv15 (Rl rfl) rx1 rx6 _ hσ13 h
theorem TX6_passLayered_28 {E : EV} (hE : eOK layC E) {Φ : Int → PS → Prop} (x : CX) (n : Nat) : ∀ (x1 x2 x3 x4 x5 x6 : Int) (σ : PS), Rg x1 → Rg x2 → Rg x3 → Rg x4 → Rg x5 → Rg x6 → RS σ → LX6_passLayered_28 n x1 x2 x3 x4 x5 x6 σ Φ → RW layC E mi_X6_passLayered Φ 28 [some (.ref (eA E 8)), some (.int (iz x1)), some (.int (iz x2)), some (.int (iz x3)), some (.int (iz x4)), some (.int (iz x5)), some (.int (iz x6)), none] [] σ x := by
  induction n with
  | zero => intro x1 x2 x3 x4 x5 x6 σ _ _ _ _ _ _ _ h; exact h.elim
  | succ n ih => intro x1 x2 x3 x4 x5 x6 σ rx1 rx2 rx3 rx4 rx5 rx6 hs h; exact TBX6_passLayered_28 hE x ih x1 x2 x3 x4 x5 x6 rx1 rx2 rx3 rx4 rx5 rx6 σ hs h
set_option maxRecDepth 100000 in
theorem CX6_passLayered {E : EV} (hE : eOK layC E) {Φ : Int → PS → Prop} (a1 a2 : Int) (ra1 : Rg a1) (ra2 : Rg a2) (σ : PS) (hs : RS σ) (h : FX6_passLayered a1 a2 σ Φ) : CT layC E yX6_passLayered mi_X6_passLayered [.ref (eA E 8), .int (iz a1), .int (iz a2)] σ Φ := by
  refine ct_of (by decide +kernel) rfl hE rfl rfl hs (fun x => ?_)
  show RW layC E mi_X6_passLayered Φ 0 [some (.ref (eA E 8)), some (.int (iz a1)), some (.int (iz a2)), none, none, none, none, none] [] σ x
  refine r_aloadn (dc D_cX6_passLayered_0 0 rfl) rfl rfl ?_
  refine r_getR (dc D_cX6_passLayered_0 1 rfl) fw_RX6_9 lC_8 rfl ?_
  refine r_iconst (n := 0) (dc D_cX6_passLayered_0 2 rfl) ?_
  refine r_aloadn (dc D_cX6_passLayered_0 3 rfl) rfl rfl ?_
  refine r_getR (dc D_cX6_passLayered_0 4 rfl) fw_RX6_15 lC_8 rfl ?_
  refine r_iconst (n := 0) (dc D_cX6_passLayered_0 5 rfl) ?_
  refine r_aloadn (dc D_cX6_passLayered_0 6 rfl) rfl rfl ?_
  refine r_getI (dc D_cX6_passLayered_0 7 rfl) fw_RX6_45 lC_8 rfl ?_
  obtain ⟨o1, h⟩ := h
  refine r_acopy (Nj := 108) (Nk := 108) (dc D_cX6_passLayered_0 8 rfl) aw_RX6_76 lC_49 lC_50 rfl rfl rfl rfl o1 (by decide) (by decide +kernel) rfl ?_
  refine r_sig (fun σ2 eσ2 => ?_)
  have h := h σ2 eσ2
  have hσ2 : RS σ2 := RS_eq eσ2 (RS.cp hs)
  refine r_iconst (n := 0) (dc D_cX6_passLayered_0 9 rfl) ?_
  refine r_istoren (lv' := [some (.ref (eA E 8)), some (.int (iz a1)), some (.int (iz a2)), some (.int (iz 0)), none, none, none, none]) (dc D_cX6_passLayered_0 10 rfl) rfl rfl rfl ?_
  refine r_iconst (n := 0) (dc D_cX6_passLayered_0 11 rfl) ?_
  refine r_istore (lv' := [some (.ref (eA E 8)), some (.int (iz a1)), some (.int (iz a2)), some (.int (iz 0)), some (.int (iz 0)), none, none, none]) (dc D_cX6_passLayered_0 12 rfl) rfl rfl ?_
  refine r_iloadn (dc D_cX6_passLayered_0 13 rfl) rfl rfl ?_
  refine r_istore (lv' := [some (.ref (eA E 8)), some (.int (iz a1)), some (.int (iz a2)), some (.int (iz 0)), some (.int (iz 0)), some (.int (iz a1)), none, none]) (dc D_cX6_passLayered_0 14 rfl) rfl rfl ?_
  refine r_iconst (n := 0) (dc D_cX6_passLayered_0 15 rfl) ?_
  refine r_istore (lv' := [some (.ref (eA E 8)), some (.int (iz a1)), some (.int (iz a2)), some (.int (iz 0)), some (.int (iz 0)), some (.int (iz a1)), some (.int (iz 0)), none]) (dc D_cX6_passLayered_0 16 rfl) rfl rfl ?_
  obtain ⟨n, h⟩ := h
  exact TX6_passLayered_28 hE x n _ _ _ _ _ _ _ ra1 ra2 (Rl rfl) (Rl rfl) ra1 (Rl rfl) hσ2 h
-- end of GateFlow$Net.passLayered
def mi_X6_pass : MI := (cX6_pass, RX6, 5, 6, (some .int), 1)
def BX6_pass_28 (K28 : Int → Int → Int → Int → PS → Prop) (x1 x2 x3 x4 : Int) (σ : PS) (Φ : Int → PS → Prop) : Prop :=
  ((108 ≤ x4 →
    Φ x3 σ) ∧
  (¬ 108 ≤ x4 →
    FX6_layered x1 x2 σ (fun z2 σ3 =>
    ((z2 = 0 →
      Φ x3 σ3) ∧
    (¬ z2 = 0 →
      FX6_passLayered x1 x2 σ3 (fun z5 σ6 =>
      Rg (x3 + z5) ∧
      ∀ v8 : Int, v8 = x3 + z5 →
      Rg (x4 + 1) ∧
      K28 x1 x2 v8 (x4 + 1) σ6))))))
def LX6_pass_28 : Nat → Int → Int → Int → Int → PS → (Int → PS → Prop) → Prop
  | 0, _, _, _, _, _, _ => False
  | n + 1, x1, x2, x3, x4, σ, Φ => BX6_pass_28 (fun x1 x2 x3 x4 σ => LX6_pass_28 n x1 x2 x3 x4 σ Φ) x1 x2 x3 x4 σ Φ
def FX6_pass (a1 a2 : Int) (σ : PS) (Φ : Int → PS → Prop) : Prop :=
  FX6_isInNet a1 σ (fun z1 σ2 =>
  ((z1 = 0 →
    Φ 0 σ2) ∧
  (¬ z1 = 0 →
    FX6_isInNet a2 σ2 (fun z4 σ5 =>
    ((z4 = 0 →
      Φ 0 σ5) ∧
    (¬ z4 = 0 →
      ((¬ a1 = a2 →
        ∃ n, LX6_pass_28 n a1 a2 0 0 σ5 Φ) ∧
      (a1 = a2 →
        Φ 0 σ5))))))))
theorem cw_RX6_66 : CWV RX6 66 yX6_layered mi_X6_layered := tb_r [770, 772, 18, 103, 773] (by decide +kernel)
theorem nm_yX6_layered : ynm yX6_layered 2 := ⟨⟨by decide +kernel, by decide +kernel⟩, by decide +kernel⟩
theorem cw_RX6_70 : CWV RX6 70 yX6_passLayered mi_X6_passLayered := tb_r [780, 782, 19, 103, 783] (by decide +kernel)
theorem nm_yX6_passLayered : ynm yX6_passLayered 2 := ⟨⟨by decide +kernel, by decide +kernel⟩, by decide +kernel⟩
theorem cw_RX6_58 : CWV RX6 58 yX6_isInNet mi_X6_isInNet := tb_r [758, 760, 16, 103, 761] (by decide +kernel)
theorem nm_yX6_isInNet : ynm yX6_isInNet 1 := ⟨⟨by decide +kernel, by decide +kernel⟩, by decide +kernel⟩
set_option maxRecDepth 100000 in
theorem TBX6_pass_28 {E : EV} (hE : eOK layC E) {Φ : Int → PS → Prop} {K28 : Int → Int → Int → Int → PS → Prop} (x : CX) (hK28 : ∀ (x1 x2 x3 x4 : Int) (σ : PS), Rg x1 → Rg x2 → Rg x3 → Rg x4 → RS σ → K28 x1 x2 x3 x4 σ → RW layC E mi_X6_pass Φ 28 [some (.ref (eA E 8)), some (.int (iz x1)), some (.int (iz x2)), some (.int (iz x3)), some (.int (iz x4))] [] σ x) (x1 x2 x3 x4 : Int) (rx1 : Rg x1) (rx2 : Rg x2) (rx3 : Rg x3) (rx4 : Rg x4) (σ : PS) (hs : RS σ) (h : BX6_pass_28 K28 x1 x2 x3 x4 σ Φ) : RW layC E mi_X6_pass Φ 28 [some (.ref (eA E 8)), some (.int (iz x1)), some (.int (iz x2)), some (.int (iz x3)), some (.int (iz x4))] [] σ x := by
  refine r_iload (dc D_cX6_pass_0 17 rfl) rfl ?_
  refine r_bipush (n := 108) (dc D_cX6_pass_0 18 rfl) (by decide +kernel) ?_
  refine r_icmp_ge (tgt := 59) (dc D_cX6_pass_0 19 rfl) (by decide) rx4 (Rl rfl) (fun c1 => ?_) (fun c1 => ?_)
  · have h := h.1 c1
    refine r_iloadn (dc D_cX6_pass_0 34 rfl) rfl rfl ?_
    exact r_iret (dc D_cX6_pass_0 35 rfl) rfl rx3 h
  · have h := h.2 c1
    refine r_aloadn (dc D_cX6_pass_0 20 rfl) rfl rfl ?_
    refine r_iloadn (dc D_cX6_pass_0 21 rfl) rfl rfl ?_
    refine r_iloadn (dc D_cX6_pass_0 22 rfl) rfl rfl ?_
    refine r_callV (As := [.int (iz x1), .int (iz x2)]) (st := []) (dc D_cX6_pass_0 23 rfl) cw_RX6_66 nm_yX6_layered (CX6_layered hE _ _ rx1 rx2 _ hs h) lC_8 rfl rfl (by decide) rfl rfl rfl (fun z2 σ3 rz2 hσ3 h => ?_)
    show RW layC E mi_X6_pass Φ 41 [some (.ref (eA E 8)), some (.int (iz x1)), some (.int (iz x2)), some (.int (iz x3)), some (.int (iz x4))] [.int (iz z2)] σ3 x
    refine r_if_eq (tgt := 59) (dc D_cX6_pass_0 24 rfl) (by decide) rz2 (fun c4 => ?_) (fun c4 => ?_)
    · have h := h.1 c4
      refine r_iloadn (dc D_cX6_pass_0 34 rfl) rfl rfl ?_
      exact r_iret (dc D_cX6_pass_0 35 rfl) rfl rx3 h
    · have h := h.2 c4
      refine r_iloadn (dc D_cX6_pass_0 25 rfl) rfl rfl ?_
      refine r_aloadn (dc D_cX6_pass_0 26 rfl) rfl rfl ?_
      refine r_iloadn (dc D_cX6_pass_0 27 rfl) rfl rfl ?_
      refine r_iloadn (dc D_cX6_pass_0 28 rfl) rfl rfl ?_
      refine r_callV (As := [.int (iz x1), .int (iz x2)]) (st := [.int (iz x3)]) (dc D_cX6_pass_0 29 rfl) cw_RX6_70 nm_yX6_passLayered (CX6_passLayered hE _ _ rx1 rx2 _ hσ3 h) lC_8 rfl rfl (by decide) rfl rfl rfl (fun z5 σ6 rz5 hσ6 h => ?_)
      show RW layC E mi_X6_pass Φ 51 [some (.ref (eA E 8)), some (.int (iz x1)), some (.int (iz x2)), some (.int (iz x3)), some (.int (iz x4))] [.int (iz z5), .int (iz x3)] σ6 x
      refine r_iadd (dc D_cX6_pass_0 30 rfl) ?_
      obtain ⟨o7, h⟩ := h
      refine r_name (fun v8 ev8 => ?_)
      have h := h v8 ev8
      have rv8 : Rg v8 := Rg_eq ev8 o7
      refine r_istoren (lv' := [some (.ref (eA E 8)), some (.int (iz x1)), some (.int (iz x2)), some (.int (iz v8)), some (.int (iz x4))]) (dc D_cX6_pass_0 31 rfl) rfl rfl rfl ?_
      obtain ⟨o9, h⟩ := h
      refine r_iinc (lv' := [some (.ref (eA E 8)), some (.int (iz x1)), some (.int (iz x2)), some (.int (iz v8)), some (.int (iz (x4 + 1)))]) (dc D_cX6_pass_0 32 rfl) rfl rfl rfl ?_
      refine r_goto (tgt := 28) (dc D_cX6_pass_0 33 rfl) (by decide) ?_
      exact hK28 _ _ _ _ _ rx1 rx2 rv8 o9 hσ6 h
theorem TX6_pass_28 {E : EV} (hE : eOK layC E) {Φ : Int → PS → Prop} (x : CX) (n : Nat) : ∀ (x1 x2 x3 x4 : Int) (σ : PS), Rg x1 → Rg x2 → Rg x3 → Rg x4 → RS σ → LX6_pass_28 n x1 x2 x3 x4 σ Φ → RW layC E mi_X6_pass Φ 28 [some (.ref (eA E 8)), some (.int (iz x1)), some (.int (iz x2)), some (.int (iz x3)), some (.int (iz x4))] [] σ x := by
  induction n with
  | zero => intro x1 x2 x3 x4 σ _ _ _ _ _ h; exact h.elim
  | succ n ih => intro x1 x2 x3 x4 σ rx1 rx2 rx3 rx4 hs h; exact TBX6_pass_28 hE x ih x1 x2 x3 x4 rx1 rx2 rx3 rx4 σ hs h
set_option maxRecDepth 100000 in
theorem CX6_pass {E : EV} (hE : eOK layC E) {Φ : Int → PS → Prop} (a1 a2 : Int) (ra1 : Rg a1) (ra2 : Rg a2) (σ : PS) (hs : RS σ) (h : FX6_pass a1 a2 σ Φ) : CT layC E yX6_pass mi_X6_pass [.ref (eA E 8), .int (iz a1), .int (iz a2)] σ Φ := by
  refine ct_of (by decide +kernel) rfl hE rfl rfl hs (fun x => ?_)
  show RW layC E mi_X6_pass Φ 0 [some (.ref (eA E 8)), some (.int (iz a1)), some (.int (iz a2)), none, none] [] σ x
  refine r_iconst (n := 0) (dc D_cX6_pass_0 0 rfl) ?_
  refine r_istoren (lv' := [some (.ref (eA E 8)), some (.int (iz a1)), some (.int (iz a2)), some (.int (iz 0)), none]) (dc D_cX6_pass_0 1 rfl) rfl rfl rfl ?_
  refine r_aloadn (dc D_cX6_pass_0 2 rfl) rfl rfl ?_
  refine r_iloadn (dc D_cX6_pass_0 3 rfl) rfl rfl ?_
  refine r_callV (As := [.int (iz a1)]) (st := []) (dc D_cX6_pass_0 4 rfl) cw_RX6_58 nm_yX6_isInNet (CX6_isInNet hE _ ra1 _ hs h) lC_8 rfl rfl (by decide) rfl rfl rfl (fun z1 σ2 rz1 hσ2 h => ?_)
  show RW layC E mi_X6_pass Φ 7 [some (.ref (eA E 8)), some (.int (iz a1)), some (.int (iz a2)), some (.int (iz 0)), none] [.int (iz z1)] σ2 x
  refine r_if_eq (tgt := 23) (dc D_cX6_pass_0 5 rfl) (by decide) rz1 (fun c3 => ?_) (fun c3 => ?_)
  · have h := h.1 c3
    refine r_iloadn (dc D_cX6_pass_0 13 rfl) rfl rfl ?_
    exact r_iret (dc D_cX6_pass_0 14 rfl) rfl (Rl rfl) h
  · have h := h.2 c3
    refine r_aloadn (dc D_cX6_pass_0 6 rfl) rfl rfl ?_
    refine r_iloadn (dc D_cX6_pass_0 7 rfl) rfl rfl ?_
    refine r_callV (As := [.int (iz a2)]) (st := []) (dc D_cX6_pass_0 8 rfl) cw_RX6_58 nm_yX6_isInNet (CX6_isInNet hE _ ra2 _ hσ2 h) lC_8 rfl rfl (by decide) rfl rfl rfl (fun z4 σ5 rz4 hσ5 h => ?_)
    show RW layC E mi_X6_pass Φ 15 [some (.ref (eA E 8)), some (.int (iz a1)), some (.int (iz a2)), some (.int (iz 0)), none] [.int (iz z4)] σ5 x
    refine r_if_eq (tgt := 23) (dc D_cX6_pass_0 9 rfl) (by decide) rz4 (fun c6 => ?_) (fun c6 => ?_)
    · have h := h.1 c6
      refine r_iloadn (dc D_cX6_pass_0 13 rfl) rfl rfl ?_
      exact r_iret (dc D_cX6_pass_0 14 rfl) rfl (Rl rfl) h
    · have h := h.2 c6
      refine r_iloadn (dc D_cX6_pass_0 10 rfl) rfl rfl ?_
      refine r_iloadn (dc D_cX6_pass_0 11 rfl) rfl rfl ?_
      refine r_icmp_ne (tgt := 25) (dc D_cX6_pass_0 12 rfl) (by decide) ra1 ra2 (fun c7 => ?_) (fun c7 => ?_)
      · have h := h.1 c7
        refine r_iconst (n := 0) (dc D_cX6_pass_0 15 rfl) ?_
        refine r_istore (lv' := [some (.ref (eA E 8)), some (.int (iz a1)), some (.int (iz a2)), some (.int (iz 0)), some (.int (iz 0))]) (dc D_cX6_pass_0 16 rfl) rfl rfl ?_
        obtain ⟨n, h⟩ := h
        exact TX6_pass_28 hE x n _ _ _ _ _ ra1 ra2 (Rl rfl) (Rl rfl) hσ5 h
      · have h := h.2 c7
        refine r_iloadn (dc D_cX6_pass_0 13 rfl) rfl rfl ?_
        exact r_iret (dc D_cX6_pass_0 14 rfl) rfl (Rl rfl) h
-- end of GateFlow$Net.pass
def mi_X6_addSide : MI := (cX6_addSide, RX6, 4, 1, none, 0)
def FX6_addSide (a1 a2 a3 : Int) (σ : PS) (Φ : Int → PS → Prop) : Prop :=
  (0 ≤ σ 8 9 ∧ σ 8 9 < 672) ∧
  ∀ σ2 : PS, σ2 = up2 σ 55 (σ 8 9).toNat a2 →
  (0 ≤ σ2 8 9 ∧ σ2 8 9 < 672) ∧
  ∀ σ4 : PS, σ4 = up2 σ2 56 (σ2 8 9).toNat a3 →
  (0 ≤ a1 ∧ a1 < 108) ∧
  (0 ≤ σ4 8 9 ∧ σ4 8 9 < 672) ∧
  ∀ σ7 : PS, σ7 = up2 σ4 54 (σ4 8 9).toNat (σ4 49 a1.toNat) →
  (0 ≤ a1 ∧ a1 < 108) ∧
  ∀ σ9 : PS, σ9 = up2 σ7 49 a1.toNat (σ7 8 9) →
  Rg ((σ9 8 9) + 1) ∧
  ∀ σ11 : PS, σ11 = up2 σ9 8 9 ((σ9 8 9) + 1) →
  Φ 0 σ11
theorem fw_RX5_43 : FW RX5 43 3 0 := ⟨RX3, TX3, 9, rfl, by decide, rfl, tb_1 134 (by decide +kernel), uw_3⟩
theorem fw_RX5_46 : FW RX5 46 3 1 := ⟨RX3, TX3, 9, rfl, by decide, rfl, tb_1 143 (by decide +kernel), uw_3⟩
set_option maxRecDepth 100000 in
theorem CX6_addSide {E : EV} (hE : eOK layC E) {Φ : Int → PS → Prop} (a1 a2 a3 : Int) (ra1 : Rg a1) (ra2 : Rg a2) (ra3 : Rg a3) (σ : PS) (hs : RS σ) (h : FX6_addSide a1 a2 a3 σ Φ) : CT layC E yX6_addSide mi_X6_addSide [.ref (eA E 8), .int (iz a1), .int (iz a2), .int (iz a3)] σ Φ := by
  refine ct_of (by decide +kernel) rfl hE rfl rfl hs (fun x => ?_)
  show RW layC E mi_X6_addSide Φ 0 [some (.ref (eA E 8)), some (.int (iz a1)), some (.int (iz a2)), some (.int (iz a3))] [] σ x
  refine r_aloadn (dc D_cX6_addSide_0 0 rfl) rfl rfl ?_
  refine r_getR (dc D_cX6_addSide_0 1 rfl) fw_RX6_30 lC_8 rfl ?_
  refine r_aloadn (dc D_cX6_addSide_0 2 rfl) rfl rfl ?_
  refine r_getI (dc D_cX6_addSide_0 3 rfl) fw_RX6_49 lC_8 rfl ?_
  refine r_iloadn (dc D_cX6_addSide_0 4 rfl) rfl rfl ?_
  obtain ⟨o1, h⟩ := h
  refine r_iast (N := 672) (dc D_cX6_addSide_0 5 rfl) lC_55 rfl rfl o1 ra2 ?_
  refine r_sig (fun σ2 eσ2 => ?_)
  have h := h σ2 eσ2
  have hσ2 : RS σ2 := RS_eq eσ2 (RS.up hs ra2 _ _)
  refine r_aloadn (dc D_cX6_addSide_0 6 rfl) rfl rfl ?_
  refine r_getR (dc D_cX6_addSide_0 7 rfl) fw_RX6_33 lC_8 rfl ?_
  refine r_aloadn (dc D_cX6_addSide_0 8 rfl) rfl rfl ?_
  refine r_getI (dc D_cX6_addSide_0 9 rfl) fw_RX6_49 lC_8 rfl ?_
  refine r_iloadn (dc D_cX6_addSide_0 10 rfl) rfl rfl ?_
  obtain ⟨o3, h⟩ := h
  refine r_iast (N := 672) (dc D_cX6_addSide_0 11 rfl) lC_56 rfl rfl o3 ra3 ?_
  refine r_sig (fun σ4 eσ4 => ?_)
  have h := h σ4 eσ4
  have hσ4 : RS σ4 := RS_eq eσ4 (RS.up hσ2 ra3 _ _)
  refine r_aloadn (dc D_cX6_addSide_0 12 rfl) rfl rfl ?_
  refine r_getR (dc D_cX6_addSide_0 13 rfl) fw_RX6_27 lC_8 rfl ?_
  refine r_aloadn (dc D_cX6_addSide_0 14 rfl) rfl rfl ?_
  refine r_getI (dc D_cX6_addSide_0 15 rfl) fw_RX6_49 lC_8 rfl ?_
  refine r_aloadn (dc D_cX6_addSide_0 16 rfl) rfl rfl ?_
  refine r_getR (dc D_cX6_addSide_0 17 rfl) fw_RX6_9 lC_8 rfl ?_
  refine r_iloadn (dc D_cX6_addSide_0 18 rfl) rfl rfl ?_
  obtain ⟨o5, h⟩ := h
  refine r_iald (N := 108) (dc D_cX6_addSide_0 19 rfl) lC_49 rfl rfl o5 ?_
  obtain ⟨o6, h⟩ := h
  refine r_iast (N := 672) (dc D_cX6_addSide_0 20 rfl) lC_54 rfl rfl o6 (hσ4 _ _) ?_
  refine r_sig (fun σ7 eσ7 => ?_)
  have h := h σ7 eσ7
  have hσ7 : RS σ7 := RS_eq eσ7 (RS.up hσ4 (hσ4 _ _) _ _)
  refine r_aloadn (dc D_cX6_addSide_0 21 rfl) rfl rfl ?_
  refine r_getR (dc D_cX6_addSide_0 22 rfl) fw_RX6_9 lC_8 rfl ?_
  refine r_iloadn (dc D_cX6_addSide_0 23 rfl) rfl rfl ?_
  refine r_aloadn (dc D_cX6_addSide_0 24 rfl) rfl rfl ?_
  refine r_getI (dc D_cX6_addSide_0 25 rfl) fw_RX6_49 lC_8 rfl ?_
  obtain ⟨o8, h⟩ := h
  refine r_iast (N := 108) (dc D_cX6_addSide_0 26 rfl) lC_49 rfl rfl o8 (hσ7 _ _) ?_
  refine r_sig (fun σ9 eσ9 => ?_)
  have h := h σ9 eσ9
  have hσ9 : RS σ9 := RS_eq eσ9 (RS.up hσ7 (hσ7 _ _) _ _)
  refine r_aloadn (dc D_cX6_addSide_0 27 rfl) rfl rfl ?_
  refine r_dup (dc D_cX6_addSide_0 28 rfl) rfl ?_
  refine r_getI (dc D_cX6_addSide_0 29 rfl) fw_RX6_49 lC_8 rfl ?_
  refine r_iconst (n := 1) (dc D_cX6_addSide_0 30 rfl) ?_
  refine r_iadd (dc D_cX6_addSide_0 31 rfl) ?_
  obtain ⟨o10, h⟩ := h
  refine r_put (dc D_cX6_addSide_0 32 rfl) fw_RX6_49 fp_6_9 lC_8 rfl (nar_int _) o10 ?_
  refine r_sig (fun σ11 eσ11 => ?_)
  have h := h σ11 eσ11
  have hσ11 : RS σ11 := RS_eq eσ11 (RS.up hσ9 o10 _ _)
  exact r_vret (dc D_cX6_addSide_0 33 rfl) rfl h
-- end of GateFlow$Net.addSide
def mi_X6_join : MI := (cX6_join, RX6, 4, 2, (some .int), 1)
def FX6_join (a1 a2 a3 : Int) (σ : PS) (Φ : Int → PS → Prop) : Prop :=
  FX6_isInNet a1 σ (fun z1 σ2 =>
  ((z1 = 0 →
    Φ (-1) σ2) ∧
  (¬ z1 = 0 →
    FX6_isInNet a2 σ2 (fun z4 σ5 =>
    ((z4 = 0 →
      Φ (-1) σ5) ∧
    (¬ z4 = 0 →
      Rg ((σ5 8 9) + 2) ∧
      (((σ5 8 9) + 2 ≤ 672 →
        FX6_addSide a1 a2 a3 σ5 (fun z9 σ10 =>
        FX6_addSide a2 a1 0 σ10 (fun z11 σ12 =>
        Rg ((σ12 8 9) - 2) ∧
        Φ ((σ12 8 9) - 2) σ12))) ∧
      (¬ (σ5 8 9) + 2 ≤ 672 →
        Φ (-1) σ5))))))))
theorem cw_RX6_62 : CWV RX6 62 yX6_addSide mi_X6_addSide := tb_r [762, 764, 17, 103, 765] (by decide +kernel)
theorem nm_yX6_addSide : ynm yX6_addSide 3 := ⟨⟨by decide +kernel, by decide +kernel⟩, by decide +kernel⟩
set_option maxRecDepth 100000 in
theorem CX6_join {E : EV} (hE : eOK layC E) {Φ : Int → PS → Prop} (a1 a2 a3 : Int) (ra1 : Rg a1) (ra2 : Rg a2) (ra3 : Rg a3) (σ : PS) (hs : RS σ) (h : FX6_join a1 a2 a3 σ Φ) : CT layC E yX6_join mi_X6_join [.ref (eA E 8), .int (iz a1), .int (iz a2), .int (iz a3)] σ Φ := by
  refine ct_of (by decide +kernel) rfl hE rfl rfl hs (fun x => ?_)
  show RW layC E mi_X6_join Φ 0 [some (.ref (eA E 8)), some (.int (iz a1)), some (.int (iz a2)), some (.int (iz a3))] [] σ x
  refine r_aloadn (dc D_cX6_join_0 0 rfl) rfl rfl ?_
  refine r_iloadn (dc D_cX6_join_0 1 rfl) rfl rfl ?_
  refine r_callV (As := [.int (iz a1)]) (st := []) (dc D_cX6_join_0 2 rfl) cw_RX6_58 nm_yX6_isInNet (CX6_isInNet hE _ ra1 _ hs h) lC_8 rfl rfl (by decide) rfl rfl rfl (fun z1 σ2 rz1 hσ2 h => ?_)
  show RW layC E mi_X6_join Φ 5 [some (.ref (eA E 8)), some (.int (iz a1)), some (.int (iz a2)), some (.int (iz a3))] [.int (iz z1)] σ2 x
  refine r_if_eq (tgt := 28) (dc D_cX6_join_0 3 rfl) (by decide) rz1 (fun c3 => ?_) (fun c3 => ?_)
  · have h := h.1 c3
    refine r_iconst (n := (-1)) (dc D_cX6_join_0 14 rfl) ?_
    exact r_iret (dc D_cX6_join_0 15 rfl) rfl (Rl rfl) h
  · have h := h.2 c3
    refine r_aloadn (dc D_cX6_join_0 4 rfl) rfl rfl ?_
    refine r_iloadn (dc D_cX6_join_0 5 rfl) rfl rfl ?_
    refine r_callV (As := [.int (iz a2)]) (st := []) (dc D_cX6_join_0 6 rfl) cw_RX6_58 nm_yX6_isInNet (CX6_isInNet hE _ ra2 _ hσ2 h) lC_8 rfl rfl (by decide) rfl rfl rfl (fun z4 σ5 rz4 hσ5 h => ?_)
    show RW layC E mi_X6_join Φ 13 [some (.ref (eA E 8)), some (.int (iz a1)), some (.int (iz a2)), some (.int (iz a3))] [.int (iz z4)] σ5 x
    refine r_if_eq (tgt := 28) (dc D_cX6_join_0 7 rfl) (by decide) rz4 (fun c6 => ?_) (fun c6 => ?_)
    · have h := h.1 c6
      refine r_iconst (n := (-1)) (dc D_cX6_join_0 14 rfl) ?_
      exact r_iret (dc D_cX6_join_0 15 rfl) rfl (Rl rfl) h
    · have h := h.2 c6
      refine r_aloadn (dc D_cX6_join_0 8 rfl) rfl rfl ?_
      refine r_getI (dc D_cX6_join_0 9 rfl) fw_RX6_49 lC_8 rfl ?_
      refine r_iconst (n := 2) (dc D_cX6_join_0 10 rfl) ?_
      refine r_iadd (dc D_cX6_join_0 11 rfl) ?_
      obtain ⟨o7, h⟩ := h
      refine r_sipush (n := 672) (dc D_cX6_join_0 12 rfl) (by decide +kernel) ?_
      refine r_icmp_le (tgt := 30) (dc D_cX6_join_0 13 rfl) (by decide) o7 (Rl rfl) (fun c8 => ?_) (fun c8 => ?_)
      · have h := h.1 c8
        refine r_aloadn (dc D_cX6_join_0 16 rfl) rfl rfl ?_
        refine r_iloadn (dc D_cX6_join_0 17 rfl) rfl rfl ?_
        refine r_iloadn (dc D_cX6_join_0 18 rfl) rfl rfl ?_
        refine r_iloadn (dc D_cX6_join_0 19 rfl) rfl rfl ?_
        refine r_callV (As := [.int (iz a1), .int (iz a2), .int (iz a3)]) (st := []) (dc D_cX6_join_0 20 rfl) cw_RX6_62 nm_yX6_addSide (CX6_addSide hE _ _ _ ra1 ra2 ra3 _ hσ5 h) lC_8 rfl rfl (by decide) rfl rfl rfl (fun z9 σ10 rz9 hσ10 h => ?_)
        show RW layC E mi_X6_join Φ 37 [some (.ref (eA E 8)), some (.int (iz a1)), some (.int (iz a2)), some (.int (iz a3))] [] σ10 x
        refine r_aloadn (dc D_cX6_join_0 21 rfl) rfl rfl ?_
        refine r_iloadn (dc D_cX6_join_0 22 rfl) rfl rfl ?_
        refine r_iloadn (dc D_cX6_join_0 23 rfl) rfl rfl ?_
        refine r_iconst (n := 0) (dc D_cX6_join_0 24 rfl) ?_
        refine r_callV (As := [.int (iz a2), .int (iz a1), .int (iz 0)]) (st := []) (dc D_cX6_join_0 25 rfl) cw_RX6_62 nm_yX6_addSide (CX6_addSide hE _ _ _ ra2 ra1 (Rl rfl) _ hσ10 h) lC_8 rfl rfl (by decide) rfl rfl rfl (fun z11 σ12 rz11 hσ12 h => ?_)
        show RW layC E mi_X6_join Φ 44 [some (.ref (eA E 8)), some (.int (iz a1)), some (.int (iz a2)), some (.int (iz a3))] [] σ12 x
        refine r_aloadn (dc D_cX6_join_0 26 rfl) rfl rfl ?_
        refine r_getI (dc D_cX6_join_0 27 rfl) fw_RX6_49 lC_8 rfl ?_
        refine r_iconst (n := 2) (dc D_cX6_join_0 28 rfl) ?_
        refine r_isub (dc D_cX6_join_0 29 rfl) ?_
        obtain ⟨o13, h⟩ := h
        exact r_iret (dc D_cX6_join_0 30 rfl) rfl o13 h
      · have h := h.2 c8
        refine r_iconst (n := (-1)) (dc D_cX6_join_0 14 rfl) ?_
        exact r_iret (dc D_cX6_join_0 15 rfl) rfl (Rl rfl) h
-- end of GateFlow$Net.join
def mi_X5_mostIf : MI := (cX5_mostIf, RX5, 7, 7, (some .int), 1)
def LX5_mostIf_80 (K12 : Int → Int → Int → Int → PS → Prop) (x2 x3 x4 x5 : Int) (σ : PS) (Φ : Int → PS → Prop) : Prop :=
  Rg (x5 + 1) ∧
  K12 x2 x3 x4 (x5 + 1) σ
def LX5_mostIf_39 (K12 : Int → Int → Int → Int → PS → Prop) (x2 x3 x4 x5 s0 s1 : Int) (σ : PS) (Φ : Int → PS → Prop) : Prop :=
  Rg (s0 + s1) ∧
  ∀ v2 : Int, v2 = s0 + s1 →
  ((v2 ≤ 0 →
    LX5_mostIf_80 K12 x2 x3 x4 x5 σ Φ) ∧
  (¬ v2 ≤ 0 →
    FX11_hasBit x2 x5 σ (fun z4 σ5 =>
    ((¬ z4 = 0 →
      LX5_mostIf_80 K12 x2 x3 x4 x5 σ5 Φ) ∧
    (z4 = 0 →
      (0 ≤ x5 ∧ x5 < 30) ∧
      (0 ≤ x5 ∧ x5 < 30) ∧
      FX6_join (σ5 13 x5.toNat) (σ5 14 x5.toNat) v2 σ5 (fun z9 σ10 =>
      LX5_mostIf_80 K12 x2 x3 x4 x5 σ10 Φ))))))
def BX5_mostIf_12 (K12 : Int → Int → Int → Int → PS → Prop) (x2 x3 x4 x5 : Int) (σ : PS) (Φ : Int → PS → Prop) : Prop :=
  ((σ 1 6 ≤ x5 →
    FX6_pass (σ 1 7) (σ 1 8) σ (fun z2 σ3 =>
    Φ z2 σ3)) ∧
  (¬ σ 1 6 ≤ x5 →
    FX3_usable x5 σ (fun z4 σ5 =>
    ((¬ x5 = x3 →
      LX5_mostIf_39 K12 x2 x3 x4 x5 z4 0 σ5 Φ) ∧
    (x5 = x3 →
      LX5_mostIf_39 K12 x2 x3 x4 x5 z4 x4 σ5 Φ)))))
def LX5_mostIf_12 : Nat → Int → Int → Int → Int → PS → (Int → PS → Prop) → Prop
  | 0, _, _, _, _, _, _ => False
  | n + 1, x2, x3, x4, x5, σ, Φ => BX5_mostIf_12 (fun x2 x3 x4 x5 σ => LX5_mostIf_12 n x2 x3 x4 x5 σ Φ) x2 x3 x4 x5 σ Φ
def FX5_mostIf (a2 a3 a4 : Int) (σ : PS) (Φ : Int → PS → Prop) : Prop :=
  FX6_begin 12 σ (fun z1 σ2 =>
  ∃ n, LX5_mostIf_12 n a2 a3 a4 0 σ2 Φ)
theorem cw_RX5_39 : CWN RX5 39 yX11_hasBit mi_X11_hasBit := ⟨by decide +kernel, tb_r [657, 97, 658] (by decide +kernel)⟩
theorem cw_RX5_49 : CWV RX5 49 yX6_join mi_X6_join := tb_r [754, 755, 756, 103, 757] (by decide +kernel)
theorem nm_yX6_join : ynm yX6_join 3 := ⟨⟨by decide +kernel, by decide +kernel⟩, by decide +kernel⟩
theorem cw_RX5_59 : CWV RX5 59 yX6_pass mi_X6_pass := tb_r [766, 767, 768, 103, 769] (by decide +kernel)
theorem nm_yX6_pass : ynm yX6_pass 2 := ⟨⟨by decide +kernel, by decide +kernel⟩, by decide +kernel⟩
theorem cw_RX5_35 : CWV RX5 35 yX3_usable mi_X3_usable := tb_r [752, 615, 616, 98, 617] (by decide +kernel)
theorem cw_RX5_25 : CWV RX5 25 yX6_begin mi_X6_begin := tb_r [743, 744, 745, 103, 746] (by decide +kernel)
theorem nm_yX6_begin : ynm yX6_begin 1 := ⟨⟨by decide +kernel, by decide +kernel⟩, by decide +kernel⟩
set_option maxRecDepth 100000 in
theorem TX5_mostIf_80 {E : EV} (hE : eOK layC E) {Φ : Int → PS → Prop} {K12 : Int → Int → Int → Int → PS → Prop} (x : CX) (hK12 : ∀ (x2 x3 x4 x5 : Int) (σ : PS), Rg x2 → Rg x3 → Rg x4 → Rg x5 → RS σ → K12 x2 x3 x4 x5 σ → RW layC E mi_X5_mostIf Φ 12 [some (.ref (eA E 7)), some (.ref (eA E 1)), some (.int (iz x2)), some (.int (iz x3)), some (.int (iz x4)), some (.int (iz x5)), none] [] σ x) (x2 x3 x4 x5 : Int) (rx2 : Rg x2) (rx3 : Rg x3) (rx4 : Rg x4) (rx5 : Rg x5) (σ : PS) (hs : RS σ) (h : LX5_mostIf_80 K12 x2 x3 x4 x5 σ Φ) : RW layC E mi_X5_mostIf Φ 80 [some (.ref (eA E 7)), some (.ref (eA E 1)), some (.int (iz x2)), some (.int (iz x3)), some (.int (iz x4)), some (.int (iz x5)), none] [] σ x := by
  obtain ⟨o1, h⟩ := h
  refine r_iinc (lv' := [some (.ref (eA E 7)), some (.ref (eA E 1)), some (.int (iz x2)), some (.int (iz x3)), some (.int (iz x4)), some (.int (iz (x5 + 1))), none]) (dc D_cX5_mostIf_1 0 rfl) rfl rfl rfl ?_
  refine r_goto (tgt := 12) (dc D_cX5_mostIf_1 1 rfl) (by decide) ?_
  exact hK12 _ _ _ _ _ rx2 rx3 rx4 o1 hs h
set_option maxRecDepth 100000 in
theorem TX5_mostIf_39 {E : EV} (hE : eOK layC E) {Φ : Int → PS → Prop} {K12 : Int → Int → Int → Int → PS → Prop} (x : CX) (hK12 : ∀ (x2 x3 x4 x5 : Int) (σ : PS), Rg x2 → Rg x3 → Rg x4 → Rg x5 → RS σ → K12 x2 x3 x4 x5 σ → RW layC E mi_X5_mostIf Φ 12 [some (.ref (eA E 7)), some (.ref (eA E 1)), some (.int (iz x2)), some (.int (iz x3)), some (.int (iz x4)), some (.int (iz x5)), none] [] σ x) (x2 x3 x4 x5 s0 s1 : Int) (rx2 : Rg x2) (rx3 : Rg x3) (rx4 : Rg x4) (rx5 : Rg x5) (rs0 : Rg s0) (rs1 : Rg s1) (σ : PS) (hs : RS σ) (h : LX5_mostIf_39 K12 x2 x3 x4 x5 s0 s1 σ Φ) : RW layC E mi_X5_mostIf Φ 39 [some (.ref (eA E 7)), some (.ref (eA E 1)), some (.int (iz x2)), some (.int (iz x3)), some (.int (iz x4)), some (.int (iz x5)), none] [.int (iz s1), .int (iz s0)] σ x := by
  refine r_iadd (dc D_cX5_mostIf_0 19 rfl) ?_
  obtain ⟨o1, h⟩ := h
  refine r_name (fun v2 ev2 => ?_)
  have h := h v2 ev2
  have rv2 : Rg v2 := Rg_eq ev2 o1
  refine r_istore (lv' := [some (.ref (eA E 7)), some (.ref (eA E 1)), some (.int (iz x2)), some (.int (iz x3)), some (.int (iz x4)), some (.int (iz x5)), some (.int (iz v2))]) (dc D_cX5_mostIf_0 20 rfl) rfl rfl ?_
  refine r_iload (dc D_cX5_mostIf_0 21 rfl) rfl ?_
  refine r_if_le (tgt := 80) (dc D_cX5_mostIf_0 22 rfl) (by decide) rv2 (fun c3 => ?_) (fun c3 => ?_)
  · have h := h.1 c3
    refine r_sub (lv' := [some (.ref (eA E 7)), some (.ref (eA E 1)), some (.int (iz x2)), some (.int (iz x3)), some (.int (iz x4)), some (.int (iz x5)), none]) (subL_s (subL_s (subL_s (subL_s (subL_s (subL_s (subL_n subL_e))))))) ?_
    exact TX5_mostIf_80 hE x hK12 _ _ _ _ rx2 rx3 rx4 rx5 _ hs h
  · have h := h.2 c3
    refine r_iloadn (dc D_cX5_mostIf_0 23 rfl) rfl rfl ?_
    refine r_iload (dc D_cX5_mostIf_0 24 rfl) rfl ?_
    refine r_callN (As := [.int (iz x2), .int (iz x5)]) (st := []) (dc D_cX5_mostIf_0 25 rfl) cw_RX5_39 nm_yX11_hasBit (CX11_hasBit hE _ _ rx2 rx5 _ hs h) rfl (by decide) rfl rfl rfl (fun z4 σ5 rz4 hσ5 h => ?_)
    show RW layC E mi_X5_mostIf Φ 53 [some (.ref (eA E 7)), some (.ref (eA E 1)), some (.int (iz x2)), some (.int (iz x3)), some (.int (iz x4)), some (.int (iz x5)), some (.int (iz v2))] [.int (iz z4)] σ5 x
    refine r_if_ne (tgt := 80) (dc D_cX5_mostIf_0 26 rfl) (by decide) rz4 (fun c6 => ?_) (fun c6 => ?_)
    · have h := h.1 c6
      refine r_sub (lv' := [some (.ref (eA E 7)), some (.ref (eA E 1)), some (.int (iz x2)), some (.int (iz x3)), some (.int (iz x4)), some (.int (iz x5)), none]) (subL_s (subL_s (subL_s (subL_s (subL_s (subL_s (subL_n subL_e))))))) ?_
      exact TX5_mostIf_80 hE x hK12 _ _ _ _ rx2 rx3 rx4 rx5 _ hσ5 h
    · have h := h.2 c6
      refine r_aloadn (dc D_cX5_mostIf_0 27 rfl) rfl rfl ?_
      refine r_getR (dc D_cX5_mostIf_0 28 rfl) fw_RX5_12 lC_7 rfl ?_
      refine r_aloadn (dc D_cX5_mostIf_0 29 rfl) rfl rfl ?_
      refine r_getR (dc D_cX5_mostIf_0 30 rfl) fw_RX5_43 lC_1 rfl ?_
      refine r_iload (dc D_cX5_mostIf_0 31 rfl) rfl ?_
      obtain ⟨o7, h⟩ := h
      refine r_iald (N := 30) (dc D_cX5_mostIf_0 32 rfl) lC_13 rfl rfl o7 ?_
      refine r_aloadn (dc D_cX5_mostIf_0 33 rfl) rfl rfl ?_
      refine r_getR (dc D_cX5_mostIf_0 34 rfl) fw_RX5_46 lC_1 rfl ?_
      refine r_iload (dc D_cX5_mostIf_0 35 rfl) rfl ?_
      obtain ⟨o8, h⟩ := h
      refine r_iald (N := 30) (dc D_cX5_mostIf_0 36 rfl) lC_14 rfl rfl o8 ?_
      refine r_iload (dc D_cX5_mostIf_0 37 rfl) rfl ?_
      refine r_callV (As := [.int (iz (σ5 13 x5.toNat)), .int (iz (σ5 14 x5.toNat)), .int (iz v2)]) (st := []) (dc D_cX5_mostIf_0 38 rfl) cw_RX5_49 nm_yX6_join (CX6_join hE _ _ _ (hσ5 _ _) (hσ5 _ _) rv2 _ hσ5 h) lC_8 rfl rfl (by decide) rfl rfl rfl (fun z9 σ10 rz9 hσ10 h => ?_)
      show RW layC E mi_X5_mostIf Φ 79 [some (.ref (eA E 7)), some (.ref (eA E 1)), some (.int (iz x2)), some (.int (iz x3)), some (.int (iz x4)), some (.int (iz x5)), some (.int (iz v2))] [.int (iz z9)] σ10 x
      refine r_pop (dc D_cX5_mostIf_0 39 rfl) rfl ?_
      refine r_sub (lv' := [some (.ref (eA E 7)), some (.ref (eA E 1)), some (.int (iz x2)), some (.int (iz x3)), some (.int (iz x4)), some (.int (iz x5)), none]) (subL_s (subL_s (subL_s (subL_s (subL_s (subL_s (subL_n subL_e))))))) ?_
      exact TX5_mostIf_80 hE x hK12 _ _ _ _ rx2 rx3 rx4 rx5 _ hσ10 h
set_option maxRecDepth 100000 in
theorem TBX5_mostIf_12 {E : EV} (hE : eOK layC E) {Φ : Int → PS → Prop} {K12 : Int → Int → Int → Int → PS → Prop} (x : CX) (hK12 : ∀ (x2 x3 x4 x5 : Int) (σ : PS), Rg x2 → Rg x3 → Rg x4 → Rg x5 → RS σ → K12 x2 x3 x4 x5 σ → RW layC E mi_X5_mostIf Φ 12 [some (.ref (eA E 7)), some (.ref (eA E 1)), some (.int (iz x2)), some (.int (iz x3)), some (.int (iz x4)), some (.int (iz x5)), none] [] σ x) (x2 x3 x4 x5 : Int) (rx2 : Rg x2) (rx3 : Rg x3) (rx4 : Rg x4) (rx5 : Rg x5) (σ : PS) (hs : RS σ) (h : BX5_mostIf_12 K12 x2 x3 x4 x5 σ Φ) : RW layC E mi_X5_mostIf Φ 12 [some (.ref (eA E 7)), some (.ref (eA E 1)), some (.int (iz x2)), some (.int (iz x3)), some (.int (iz x4)), some (.int (iz x5)), none] [] σ x := by
  refine r_iload (dc D_cX5_mostIf_0 6 rfl) rfl ?_
  refine r_aloadn (dc D_cX5_mostIf_0 7 rfl) rfl rfl ?_
  refine r_getI (dc D_cX5_mostIf_0 8 rfl) fw_RX5_29 lC_1 rfl ?_
  refine r_icmp_ge (tgt := 86) (dc D_cX5_mostIf_0 9 rfl) (by decide) rx5 (hs _ _) (fun c1 => ?_) (fun c1 => ?_)
  · have h := h.1 c1
    refine r_aloadn (dc D_cX5_mostIf_1 2 rfl) rfl rfl ?_
    refine r_getR (dc D_cX5_mostIf_1 3 rfl) fw_RX5_12 lC_7 rfl ?_
    refine r_aloadn (dc D_cX5_mostIf_1 4 rfl) rfl rfl ?_
    refine r_getI (dc D_cX5_mostIf_1 5 rfl) fw_RX5_53 lC_1 rfl ?_
    refine r_aloadn (dc D_cX5_mostIf_1 6 rfl) rfl rfl ?_
    refine r_getI (dc D_cX5_mostIf_1 7 rfl) fw_RX5_56 lC_1 rfl ?_
    refine r_callV (As := [.int (iz (σ 1 7)), .int (iz (σ 1 8))]) (st := []) (dc D_cX5_mostIf_1 8 rfl) cw_RX5_59 nm_yX6_pass (CX6_pass hE _ _ (hs _ _) (hs _ _) _ hs h) lC_8 rfl rfl (by decide) rfl rfl rfl (fun z2 σ3 rz2 hσ3 h => ?_)
    show RW layC E mi_X5_mostIf Φ 101 [some (.ref (eA E 7)), some (.ref (eA E 1)), some (.int (iz x2)), some (.int (iz x3)), some (.int (iz x4)), some (.int (iz x5)), none] [.int (iz z2)] σ3 x
    exact r_iret (dc D_cX5_mostIf_1 9 rfl) rfl rz2 h
  · have h := h.2 c1
    refine r_aloadn (dc D_cX5_mostIf_0 10 rfl) rfl rfl ?_
    refine r_iload (dc D_cX5_mostIf_0 11 rfl) rfl ?_
    refine r_callV (As := [.int (iz x5)]) (st := []) (dc D_cX5_mostIf_0 12 rfl) cw_RX5_35 nm_yX3_usable (CX3_usable hE _ rx5 _ hs h) lC_1 rfl rfl (by decide) rfl rfl rfl (fun z4 σ5 rz4 hσ5 h => ?_)
    show RW layC E mi_X5_mostIf Φ 27 [some (.ref (eA E 7)), some (.ref (eA E 1)), some (.int (iz x2)), some (.int (iz x3)), some (.int (iz x4)), some (.int (iz x5)), none] [.int (iz z4)] σ5 x
    refine r_iload (dc D_cX5_mostIf_0 13 rfl) rfl ?_
    refine r_iloadn (dc D_cX5_mostIf_0 14 rfl) rfl rfl ?_
    refine r_icmp_ne (tgt := 38) (dc D_cX5_mostIf_0 15 rfl) (by decide) rx5 rx3 (fun c6 => ?_) (fun c6 => ?_)
    · have h := h.1 c6
      refine r_iconst (n := 0) (dc D_cX5_mostIf_0 18 rfl) ?_
      exact TX5_mostIf_39 hE x hK12 _ _ _ _ _ _ rx2 rx3 rx4 rx5 rz4 (Rl rfl) _ hσ5 h
    · have h := h.2 c6
      refine r_iload (dc D_cX5_mostIf_0 16 rfl) rfl ?_
      refine r_goto (tgt := 39) (dc D_cX5_mostIf_0 17 rfl) (by decide) ?_
      exact TX5_mostIf_39 hE x hK12 _ _ _ _ _ _ rx2 rx3 rx4 rx5 rz4 rx4 _ hσ5 h
theorem TX5_mostIf_12 {E : EV} (hE : eOK layC E) {Φ : Int → PS → Prop} (x : CX) (n : Nat) : ∀ (x2 x3 x4 x5 : Int) (σ : PS), Rg x2 → Rg x3 → Rg x4 → Rg x5 → RS σ → LX5_mostIf_12 n x2 x3 x4 x5 σ Φ → RW layC E mi_X5_mostIf Φ 12 [some (.ref (eA E 7)), some (.ref (eA E 1)), some (.int (iz x2)), some (.int (iz x3)), some (.int (iz x4)), some (.int (iz x5)), none] [] σ x := by
  induction n with
  | zero => intro x2 x3 x4 x5 σ _ _ _ _ _ h; exact h.elim
  | succ n ih => intro x2 x3 x4 x5 σ rx2 rx3 rx4 rx5 hs h; exact TBX5_mostIf_12 hE x ih x2 x3 x4 x5 rx2 rx3 rx4 rx5 σ hs h
set_option maxRecDepth 100000 in
theorem CX5_mostIf {E : EV} (hE : eOK layC E) {Φ : Int → PS → Prop} (a2 a3 a4 : Int) (ra2 : Rg a2) (ra3 : Rg a3) (ra4 : Rg a4) (σ : PS) (hs : RS σ) (h : FX5_mostIf a2 a3 a4 σ Φ) : CT layC E yX5_mostIf mi_X5_mostIf [.ref (eA E 7), .ref (eA E 1), .int (iz a2), .int (iz a3), .int (iz a4)] σ Φ := by
  refine ct_of (by decide +kernel) rfl hE rfl rfl hs (fun x => ?_)
  show RW layC E mi_X5_mostIf Φ 0 [some (.ref (eA E 7)), some (.ref (eA E 1)), some (.int (iz a2)), some (.int (iz a3)), some (.int (iz a4)), none, none] [] σ x
  refine r_aloadn (dc D_cX5_mostIf_0 0 rfl) rfl rfl ?_
  refine r_getR (dc D_cX5_mostIf_0 1 rfl) fw_RX5_12 lC_7 rfl ?_
  refine r_bipush (n := 12) (dc D_cX5_mostIf_0 2 rfl) (by decide +kernel) ?_
  refine r_callV (As := [.int (iz 12)]) (st := []) (dc D_cX5_mostIf_0 3 rfl) cw_RX5_25 nm_yX6_begin (CX6_begin hE _ (Rl rfl) _ hs h) lC_8 rfl rfl (by decide) rfl rfl rfl (fun z1 σ2 rz1 hσ2 h => ?_)
  show RW layC E mi_X5_mostIf Φ 9 [some (.ref (eA E 7)), some (.ref (eA E 1)), some (.int (iz a2)), some (.int (iz a3)), some (.int (iz a4)), none, none] [] σ2 x
  refine r_iconst (n := 0) (dc D_cX5_mostIf_0 4 rfl) ?_
  refine r_istore (lv' := [some (.ref (eA E 7)), some (.ref (eA E 1)), some (.int (iz a2)), some (.int (iz a3)), some (.int (iz a4)), some (.int (iz 0)), none]) (dc D_cX5_mostIf_0 5 rfl) rfl rfl ?_
  obtain ⟨n, h⟩ := h
  exact TX5_mostIf_12 hE x n _ _ _ _ _ ra2 ra3 ra4 (Rl rfl) hσ2 h
-- end of GateFlow$Models.mostIf
def mi_X11_more : MI := (cX11_more, RX11, 3, 8, (some .int), 1)
def FX11_more (a1 a2 : Int) (σ : PS) (Φ : Int → PS → Prop) : Prop :=
  FX3_has a1 σ (fun z1 σ2 =>
  ((¬ z1 = 0 →
    ((a2 < 0 →
      Φ (-2) σ2) ∧
    (¬ a2 < 0 →
      ((a2 ≤ 999 →
        (0 ≤ a1 ∧ a1 < 30) ∧
        ((¬ σ2 18 a1.toNat = 0 →
          FX5_mostIf 0 a1 a2 σ2 (fun z8 σ9 =>
          FX11_freshWays σ9 (fun z10 σ11 => z10 = 3 ∧ (Rg (z8 - (σ11 3 8)) ∧
          Φ (z8 - (σ11 3 8)) σ11)))) ∧
        (σ2 18 a1.toNat = 0 →
          Φ (-3) σ2))) ∧
      (¬ a2 ≤ 999 →
        Φ (-2) σ2))))) ∧
  (z1 = 0 →
    Φ (-1) σ2)))
theorem cw_RX11_189 : CWV RX11 189 yX5_mostIf mi_X5_mostIf := tb_r [739, 740, 741, 102, 742] (by decide +kernel)
theorem nm_yX5_mostIf : ynm yX5_mostIf 4 := ⟨⟨by decide +kernel, by decide +kernel⟩, by decide +kernel⟩
set_option maxRecDepth 100000 in
theorem CX11_more {E : EV} (hE : eOK layC E) {Φ : Int → PS → Prop} (a1 a2 : Int) (ra1 : Rg a1) (ra2 : Rg a2) (σ : PS) (hs : RS σ) (h : FX11_more a1 a2 σ Φ) : CT layC E yX11_more mi_X11_more [.ref (eA E 0), .int (iz a1), .int (iz a2)] σ Φ := by
  refine ct_of (by decide +kernel) rfl hE rfl rfl hs (fun x => ?_)
  show RW layC E mi_X11_more Φ 0 [some (.ref (eA E 0)), some (.int (iz a1)), some (.int (iz a2))] [] σ x
  refine r_aloadn (dc D_cX11_more_0 0 rfl) rfl rfl ?_
  refine r_getR (dc D_cX11_more_0 1 rfl) fw_RX11_12 lC_0 rfl ?_
  refine r_iloadn (dc D_cX11_more_0 2 rfl) rfl rfl ?_
  refine r_callV (As := [.int (iz a1)]) (st := []) (dc D_cX11_more_0 3 rfl) cw_RX11_103 nm_yX3_has (CX3_has hE _ ra1 _ hs h) lC_1 rfl rfl (by decide) rfl rfl rfl (fun z1 σ2 rz1 hσ2 h => ?_)
  show RW layC E mi_X11_more Φ 8 [some (.ref (eA E 0)), some (.int (iz a1)), some (.int (iz a2))] [.int (iz z1)] σ2 x
  refine r_if_ne (tgt := 13) (dc D_cX11_more_0 4 rfl) (by decide) rz1 (fun c3 => ?_) (fun c3 => ?_)
  · have h := h.1 c3
    refine r_iloadn (dc D_cX11_more_0 7 rfl) rfl rfl ?_
    refine r_if_lt (tgt := 24) (dc D_cX11_more_0 8 rfl) (by decide) ra2 (fun c4 => ?_) (fun c4 => ?_)
    · have h := h.1 c4
      refine r_bipush (n := (-2)) (dc D_cX11_more_0 12 rfl) (by decide +kernel) ?_
      exact r_iret (dc D_cX11_more_0 13 rfl) rfl (Rl rfl) h
    · have h := h.2 c4
      refine r_iloadn (dc D_cX11_more_0 9 rfl) rfl rfl ?_
      refine r_sipush (n := 999) (dc D_cX11_more_0 10 rfl) (by decide +kernel) ?_
      refine r_icmp_le (tgt := 27) (dc D_cX11_more_0 11 rfl) (by decide) ra2 (Rl rfl) (fun c5 => ?_) (fun c5 => ?_)
      · have h := h.1 c5
        refine r_aloadn (dc D_cX11_more_0 14 rfl) rfl rfl ?_
        refine r_getR (dc D_cX11_more_0 15 rfl) fw_RX11_12 lC_0 rfl ?_
        refine r_getR (dc D_cX11_more_0 16 rfl) fw_RX11_122 lC_1 rfl ?_
        refine r_iloadn (dc D_cX11_more_0 17 rfl) rfl rfl ?_
        obtain ⟨o6, h⟩ := h
        refine r_iald (N := 30) (dc D_cX11_more_0 18 rfl) lC_18 rfl rfl o6 ?_
        refine r_if_ne (tgt := 42) (dc D_cX11_more_0 19 rfl) (by decide) (hσ2 _ _) (fun c7 => ?_) (fun c7 => ?_)
        · have h := h.1 c7
          refine r_aloadn (dc D_cX11_more_0 22 rfl) rfl rfl ?_
          refine r_getR (dc D_cX11_more_0 23 rfl) fw_RX11_43 lC_0 rfl ?_
          refine r_aloadn (dc D_cX11_more_0 24 rfl) rfl rfl ?_
          refine r_getR (dc D_cX11_more_0 25 rfl) fw_RX11_12 lC_0 rfl ?_
          refine r_iconst (n := 0) (dc D_cX11_more_0 26 rfl) ?_
          refine r_iloadn (dc D_cX11_more_0 27 rfl) rfl rfl ?_
          refine r_iloadn (dc D_cX11_more_0 28 rfl) rfl rfl ?_
          refine r_callV (As := [.ref (eA E 1), .int (iz 0), .int (iz a1), .int (iz a2)]) (st := []) (dc D_cX11_more_0 29 rfl) cw_RX11_189 nm_yX5_mostIf (CX5_mostIf hE _ _ _ (Rl rfl) ra1 ra2 _ hσ2 h) lC_7 rfl rfl (by decide) rfl rfl rfl (fun z8 σ9 rz8 hσ9 h => ?_)
          show RW layC E mi_X11_more Φ 56 [some (.ref (eA E 0)), some (.int (iz a1)), some (.int (iz a2))] [.int (iz z8)] σ9 x
          refine r_aloadn (dc D_cX11_more_0 30 rfl) rfl rfl ?_
          refine r_callV (As := []) (st := [.int (iz z8)]) (dc D_cX11_more_0 31 rfl) cw_RX11_134 nm_yX11_freshWays (CX11_freshWays hE  _ hσ9 h) lC_0 rfl rfl (by decide) rfl rfl rfl (fun z10 σ11 rz10 hσ11 h => ?_)
          obtain ⟨rfl, h⟩ := h
          show RW layC E mi_X11_more Φ 60 [some (.ref (eA E 0)), some (.int (iz a1)), some (.int (iz a2))] [.ref (eA E 3), .int (iz z8)] σ11 x
          refine r_getI (dc D_cX11_more_0 32 rfl) fw_RX11_138 lC_3 rfl ?_
          refine r_isub (dc D_cX11_more_0 33 rfl) ?_
          obtain ⟨o12, h⟩ := h
          exact r_iret (dc D_cX11_more_0 34 rfl) rfl o12 h
        · have h := h.2 c7
          refine r_bipush (n := (-3)) (dc D_cX11_more_0 20 rfl) (by decide +kernel) ?_
          exact r_iret (dc D_cX11_more_0 21 rfl) rfl (Rl rfl) h
      · have h := h.2 c5
        refine r_bipush (n := (-2)) (dc D_cX11_more_0 12 rfl) (by decide +kernel) ?_
        exact r_iret (dc D_cX11_more_0 13 rfl) rfl (Rl rfl) h
  · have h := h.2 c3
    refine r_iconst (n := (-1)) (dc D_cX11_more_0 5 rfl) ?_
    exact r_iret (dc D_cX11_more_0 6 rfl) rfl (Rl rfl) h
-- end of GateFlow.more
def mi_X3_allBits : MI := (cX3_allBits, RX3, 1, 1, (some .int), 1)
def FX3_allBits (σ : PS) (Φ : Int → PS → Prop) : Prop :=
  Rg ((ishl 1 (σ 1 6)) - 1) ∧
  Φ ((ishl 1 (σ 1 6)) - 1) σ
set_option maxRecDepth 100000 in
theorem CX3_allBits {E : EV} (hE : eOK layC E) {Φ : Int → PS → Prop} (σ : PS) (hs : RS σ) (h : FX3_allBits σ Φ) : CT layC E yX3_allBits mi_X3_allBits [.ref (eA E 1)] σ Φ := by
  refine ct_of (by decide +kernel) rfl hE rfl rfl hs (fun x => ?_)
  show RW layC E mi_X3_allBits Φ 0 [some (.ref (eA E 1))] [] σ x
  refine r_iconst (n := 1) (dc D_cX3_allBits_0 0 rfl) ?_
  refine r_aloadn (dc D_cX3_allBits_0 1 rfl) rfl rfl ?_
  refine r_getI (dc D_cX3_allBits_0 2 rfl) fw_RX3_34 lC_1 rfl ?_
  refine r_ishl (dc D_cX3_allBits_0 3 rfl) ?_
  refine r_iconst (n := 1) (dc D_cX3_allBits_0 4 rfl) ?_
  refine r_isub (dc D_cX3_allBits_0 5 rfl) ?_
  obtain ⟨o1, h⟩ := h
  exact r_iret (dc D_cX3_allBits_0 6 rfl) rfl o1 h
-- end of GateFlow$Gates.allBits
def mi_X11_loss : MI := (cX11_loss, RX11, 2, 8, (some .int), 1)
def FX11_loss (a1 : Int) (σ : PS) (Φ : Int → PS → Prop) : Prop :=
  ((a1 < 0 →
    Φ (-2) σ) ∧
  (¬ a1 < 0 →
    FX3_allBits σ (fun z2 σ3 =>
    ((iand a1 (ixor z2 (-1)) = 0 →
      FX11_freshWays σ3 (fun z5 σ6 => z5 = 3 ∧ (FX5_mostIf a1 (-1) 0 σ6 (fun z7 σ8 =>
      Rg ((σ6 3 8) - z7) ∧
      Φ ((σ6 3 8) - z7) σ8)))) ∧
    (¬ iand a1 (ixor z2 (-1)) = 0 →
      Φ (-2) σ3)))))
theorem cw_RX11_193 : CWV RX11 193 yX3_allBits mi_X3_allBits := tb_r [801, 802, 803, 98, 804] (by decide +kernel)
theorem nm_yX3_allBits : ynm yX3_allBits 0 := ⟨⟨by decide +kernel, by decide +kernel⟩, by decide +kernel⟩
set_option maxRecDepth 100000 in
theorem CX11_loss {E : EV} (hE : eOK layC E) {Φ : Int → PS → Prop} (a1 : Int) (ra1 : Rg a1) (σ : PS) (hs : RS σ) (h : FX11_loss a1 σ Φ) : CT layC E yX11_loss mi_X11_loss [.ref (eA E 0), .int (iz a1)] σ Φ := by
  refine ct_of (by decide +kernel) rfl hE rfl rfl hs (fun x => ?_)
  show RW layC E mi_X11_loss Φ 0 [some (.ref (eA E 0)), some (.int (iz a1))] [] σ x
  refine r_iloadn (dc D_cX11_loss_0 0 rfl) rfl rfl ?_
  refine r_if_lt (tgt := 18) (dc D_cX11_loss_0 1 rfl) (by decide) ra1 (fun c1 => ?_) (fun c1 => ?_)
  · have h := h.1 c1
    refine r_bipush (n := (-2)) (dc D_cX11_loss_0 10 rfl) (by decide +kernel) ?_
    exact r_iret (dc D_cX11_loss_0 11 rfl) rfl (Rl rfl) h
  · have h := h.2 c1
    refine r_iloadn (dc D_cX11_loss_0 2 rfl) rfl rfl ?_
    refine r_aloadn (dc D_cX11_loss_0 3 rfl) rfl rfl ?_
    refine r_getR (dc D_cX11_loss_0 4 rfl) fw_RX11_12 lC_0 rfl ?_
    refine r_callV (As := []) (st := [.int (iz a1)]) (dc D_cX11_loss_0 5 rfl) cw_RX11_193 nm_yX3_allBits (CX3_allBits hE  _ hs h) lC_1 rfl rfl (by decide) rfl rfl rfl (fun z2 σ3 rz2 hσ3 h => ?_)
    show RW layC E mi_X11_loss Φ 12 [some (.ref (eA E 0)), some (.int (iz a1))] [.int (iz z2), .int (iz a1)] σ3 x
    refine r_iconst (n := (-1)) (dc D_cX11_loss_0 6 rfl) ?_
    refine r_ixor (dc D_cX11_loss_0 7 rfl) ?_
    refine r_iand (dc D_cX11_loss_0 8 rfl) ?_
    refine r_if_eq (tgt := 21) (dc D_cX11_loss_0 9 rfl) (by decide) (Rg_of _) (fun c4 => ?_) (fun c4 => ?_)
    · have h := h.1 c4
      refine r_aloadn (dc D_cX11_loss_0 12 rfl) rfl rfl ?_
      refine r_callV (As := []) (st := []) (dc D_cX11_loss_0 13 rfl) cw_RX11_134 nm_yX11_freshWays (CX11_freshWays hE  _ hσ3 h) lC_0 rfl rfl (by decide) rfl rfl rfl (fun z5 σ6 rz5 hσ6 h => ?_)
      obtain ⟨rfl, h⟩ := h
      show RW layC E mi_X11_loss Φ 25 [some (.ref (eA E 0)), some (.int (iz a1))] [.ref (eA E 3)] σ6 x
      refine r_getI (dc D_cX11_loss_0 14 rfl) fw_RX11_138 lC_3 rfl ?_
      refine r_aloadn (dc D_cX11_loss_0 15 rfl) rfl rfl ?_
      refine r_getR (dc D_cX11_loss_0 16 rfl) fw_RX11_43 lC_0 rfl ?_
      refine r_aloadn (dc D_cX11_loss_0 17 rfl) rfl rfl ?_
      refine r_getR (dc D_cX11_loss_0 18 rfl) fw_RX11_12 lC_0 rfl ?_
      refine r_iloadn (dc D_cX11_loss_0 19 rfl) rfl rfl ?_
      refine r_iconst (n := (-1)) (dc D_cX11_loss_0 20 rfl) ?_
      refine r_iconst (n := 0) (dc D_cX11_loss_0 21 rfl) ?_
      refine r_callV (As := [.ref (eA E 1), .int (iz a1), .int (iz (-1)), .int (iz 0)]) (st := [.int (iz (σ6 3 8))]) (dc D_cX11_loss_0 22 rfl) cw_RX11_189 nm_yX5_mostIf (CX5_mostIf hE _ _ _ ra1 (Rl rfl) (Rl rfl) _ hσ6 h) lC_7 rfl rfl (by decide) rfl rfl rfl (fun z7 σ8 rz7 hσ8 h => ?_)
      show RW layC E mi_X11_loss Φ 42 [some (.ref (eA E 0)), some (.int (iz a1))] [.int (iz z7), .int (iz (σ6 3 8))] σ8 x
      refine r_isub (dc D_cX11_loss_0 23 rfl) ?_
      obtain ⟨o9, h⟩ := h
      exact r_iret (dc D_cX11_loss_0 24 rfl) rfl o9 h
    · have h := h.2 c4
      refine r_bipush (n := (-2)) (dc D_cX11_loss_0 10 rfl) (by decide +kernel) ?_
      exact r_iret (dc D_cX11_loss_0 11 rfl) rfl (Rl rfl) h
-- end of GateFlow.loss
def mi_X10_run : MI := (cX10_run, RX10, 8, 8, none, 0)
def LX10_run_220 (K109 : Int → PS → Prop) (K124 : Int → Int → PS → Prop) (x4 x5 : Int) (σ : PS) (Φ : Int → PS → Prop) : Prop :=
  Rg (x5 + 1) ∧
  K124 x4 (x5 + 1) σ
def LX10_run_191 (K109 : Int → PS → Prop) (K124 : Int → Int → PS → Prop) (x4 x5 s0 : Int) (σ : PS) (Φ : Int → PS → Prop) : Prop :=
  ((s0 ≤ σ 6 3 →
    LX10_run_220 K109 K124 x4 x5 σ Φ) ∧
  (¬ s0 ≤ σ 6 3 →
    ∀ σ2 : PS, σ2 = up2 σ 6 3 s0 →
    Rg (100 * x4) ∧
    Rg ((100 * x4) + x5) ∧
    ∀ σ5 : PS, σ5 = up2 σ2 6 2 ((100 * x4) + x5) →
    LX10_run_220 K109 K124 x4 x5 σ5 Φ))
def BX10_run_124 (K109 : Int → PS → Prop) (K124 : Int → Int → PS → Prop) (x4 x5 : Int) (σ : PS) (Φ : Int → PS → Prop) : Prop :=
  ((σ 1 6 ≤ x5 →
    Rg (x4 + 1) ∧
    K109 (x4 + 1) σ) ∧
  (¬ σ 1 6 ≤ x5 →
    (0 ≤ x4 ∧ x4 < 30) ∧
    (0 ≤ x5 ∧ x5 < 30) ∧
    Rg ((σ 25 x4.toNat) + (σ 25 x5.toNat)) ∧
    ∀ v6 : Int, v6 = min ((σ 25 x4.toNat) + (σ 25 x5.toNat)) (σ 3 8) →
    ((v6 ≤ σ 6 3 →
      LX10_run_191 K109 K124 x4 x5 (-1) σ Φ) ∧
    (¬ v6 ≤ σ 6 3 →
      FX5_mostIf (ior (ishl 1 x4) (ishl 1 x5)) (-1) 0 σ (fun z8 σ9 =>
      Rg ((σ 3 8) - z8) ∧
      LX10_run_191 K109 K124 x4 x5 ((σ 3 8) - z8) σ9 Φ)))))
def LX10_run_124 (K109 : Int → PS → Prop) : Nat → Int → Int → PS → (Int → PS → Prop) → Prop
  | 0, _, _, _, _ => False
  | n + 1, x4, x5, σ, Φ => BX10_run_124 K109 (fun x4 x5 σ => LX10_run_124 K109 n x4 x5 σ Φ) x4 x5 σ Φ
def BX10_run_109 (K109 : Int → PS → Prop) (x4 : Int) (σ : PS) (Φ : Int → PS → Prop) : Prop :=
  ((σ 1 6 ≤ x4 →
    Φ 0 σ) ∧
  (¬ σ 1 6 ≤ x4 →
    Rg (x4 + 1) ∧
    ∀ v3 : Int, v3 = x4 + 1 →
    ∃ n, LX10_run_124 K109 n x4 v3 σ Φ))
def LX10_run_109 : Nat → Int → PS → (Int → PS → Prop) → Prop
  | 0, _, _, _ => False
  | n + 1, x4, σ, Φ => BX10_run_109 (fun x4 σ => LX10_run_109 n x4 σ Φ) x4 σ Φ
def LX10_run_100 (K23 : Int → PS → Prop) (x4 : Int) (σ : PS) (Φ : Int → PS → Prop) : Prop :=
  Rg (x4 + 1) ∧
  K23 (x4 + 1) σ
def LX10_run_77 (K23 : Int → PS → Prop) (x4 s0 : Int) (σ : PS) (Φ : Int → PS → Prop) : Prop :=
  ((s0 ≤ σ 6 1 →
    LX10_run_100 K23 x4 σ Φ) ∧
  (¬ s0 ≤ σ 6 1 →
    ∀ σ2 : PS, σ2 = up2 σ 6 1 s0 →
    ∀ σ3 : PS, σ3 = up2 σ2 6 0 x4 →
    LX10_run_100 K23 x4 σ3 Φ))
def BX10_run_23 (K23 : Int → PS → Prop) (x4 : Int) (σ : PS) (Φ : Int → PS → Prop) : Prop :=
  ((σ 1 6 ≤ x4 →
    ∃ n, LX10_run_109 n 0 σ Φ) ∧
  (¬ σ 1 6 ≤ x4 →
    (0 ≤ x4 ∧ x4 < 30) ∧
    ∀ v3 : Int, v3 = min (σ 25 x4.toNat) (σ 3 8) →
    ((v3 ≤ σ 6 1 →
      LX10_run_77 K23 x4 (-1) σ Φ) ∧
    (¬ v3 ≤ σ 6 1 →
      FX5_mostIf (ishl 1 x4) (-1) 0 σ (fun z5 σ6 =>
      Rg ((σ 3 8) - z5) ∧
      LX10_run_77 K23 x4 ((σ 3 8) - z5) σ6 Φ)))))
def LX10_run_23 : Nat → Int → PS → (Int → PS → Prop) → Prop
  | 0, _, _, _ => False
  | n + 1, x4, σ, Φ => BX10_run_23 (fun x4 σ => LX10_run_23 n x4 σ Φ) x4 σ Φ
def FX10_run (σ : PS) (Φ : Int → PS → Prop) : Prop :=
  ∀ σ1 : PS, σ1 = up2 σ 6 0 (-1) →
  ∀ σ2 : PS, σ2 = up2 σ1 6 1 (-1) →
  ∀ σ3 : PS, σ3 = up2 σ2 6 2 (-1) →
  ∀ σ4 : PS, σ4 = up2 σ3 6 3 (-1) →
  ∃ n, LX10_run_23 n 0 σ4 Φ
theorem fw_RX11_50 : FW RX11 50 11 9 := ⟨RX11, TX11, 16, rfl, by decide, rfl, tb_1 506 (by decide +kernel), uw_11⟩
theorem fw_RX10_22 : FW RX10 22 3 6 := ⟨RX3, TX3, 9, rfl, by decide, rfl, tb_1 171 (by decide +kernel), uw_3⟩
theorem fw_RX10_27 : FW RX10 27 1 0 := ⟨RX1, TX1, 11, rfl, by decide, rfl, tb_1 218 (by decide +kernel), uw_1⟩
theorem fw_RX10_33 : FW RX10 33 1 8 := ⟨RX1, TX1, 11, rfl, by decide, rfl, tb_1 232 (by decide +kernel), uw_1⟩
theorem fw_RX10_19 : FW RX10 19 10 3 := ⟨RX10, TX10, 4, rfl, by decide, rfl, tb_1 411 (by decide +kernel), uw_10⟩
theorem fw_RX10_13 : FW RX10 13 10 1 := ⟨RX10, TX10, 4, rfl, by decide, rfl, tb_1 407 (by decide +kernel), uw_10⟩
theorem fp_10_3 : FP 10 3 .int := ⟨RX10, TX10, 4, tyX10, rfl, tyX10_ok, nmX10, rfl, by decide +kernel⟩
theorem fw_RX10_16 : FW RX10 16 10 2 := ⟨RX10, TX10, 4, rfl, by decide, rfl, tb_1 409 (by decide +kernel), uw_10⟩
theorem fp_10_2 : FP 10 2 .int := ⟨RX10, TX10, 4, tyX10, rfl, tyX10_ok, nmX10, rfl, by decide +kernel⟩
theorem mw_RX10_36 : MW RX10 36 Lib.Math.min.name Lib.Math.min.code := tb_r [817, 637, 111, 638] (by decide +kernel)
theorem cw_RX10_42 : CWV RX10 42 yX5_mostIf mi_X5_mostIf := tb_r [818, 740, 741, 102, 742] (by decide +kernel)
theorem fp_10_1 : FP 10 1 .int := ⟨RX10, TX10, 4, tyX10, rfl, tyX10_ok, nmX10, rfl, by decide +kernel⟩
theorem fw_RX10_7 : FW RX10 7 10 0 := ⟨RX10, TX10, 4, rfl, by decide, rfl, tb_1 405 (by decide +kernel), uw_10⟩
theorem fp_10_0 : FP 10 0 .int := ⟨RX10, TX10, 4, tyX10, rfl, tyX10_ok, nmX10, rfl, by decide +kernel⟩
set_option maxRecDepth 100000 in
theorem TX10_run_220 {E : EV} (hE : eOK layC E) {Φ : Int → PS → Prop} {K109 : Int → PS → Prop} {K124 : Int → Int → PS → Prop} (x : CX) (hK109 : ∀ (x4 : Int) (σ : PS), Rg x4 → RS σ → K109 x4 σ → RW layC E mi_X10_run Φ 109 [some (.ref (eA E 6)), some (.ref (eA E 1)), some (.ref (eA E 3)), some (.ref (eA E 7)), some (.int (iz x4)), none, none, none] [] σ x) (hK124 : ∀ (x4 x5 : Int) (σ : PS), Rg x4 → Rg x5 → RS σ → K124 x4 x5 σ → RW layC E mi_X10_run Φ 124 [some (.ref (eA E 6)), some (.ref (eA E 1)), some (.ref (eA E 3)), some (.ref (eA E 7)), some (.int (iz x4)), some (.int (iz x5)), none, none] [] σ x) (x4 x5 : Int) (rx4 : Rg x4) (rx5 : Rg x5) (σ : PS) (hs : RS σ) (h : LX10_run_220 K109 K124 x4 x5 σ Φ) : RW layC E mi_X10_run Φ 220 [some (.ref (eA E 6)), some (.ref (eA E 1)), some (.ref (eA E 3)), some (.ref (eA E 7)), some (.int (iz x4)), some (.int (iz x5)), none, none] [] σ x := by
  obtain ⟨o1, h⟩ := h
  refine r_iinc (lv' := [some (.ref (eA E 6)), some (.ref (eA E 1)), some (.ref (eA E 3)), some (.ref (eA E 7)), some (.int (iz x4)), some (.int (iz (x5 + 1))), none, none]) (dc D_cX10_run_2 39 rfl) rfl rfl rfl ?_
  refine r_goto (tgt := 124) (dc D_cX10_run_3 0 rfl) (by decide) ?_
  exact hK124 _ _ _ rx4 o1 hs h
set_option maxRecDepth 100000 in
theorem TX10_run_191 {E : EV} (hE : eOK layC E) {Φ : Int → PS → Prop} {K109 : Int → PS → Prop} {K124 : Int → Int → PS → Prop} (x : CX) (hK109 : ∀ (x4 : Int) (σ : PS), Rg x4 → RS σ → K109 x4 σ → RW layC E mi_X10_run Φ 109 [some (.ref (eA E 6)), some (.ref (eA E 1)), some (.ref (eA E 3)), some (.ref (eA E 7)), some (.int (iz x4)), none, none, none] [] σ x) (hK124 : ∀ (x4 x5 : Int) (σ : PS), Rg x4 → Rg x5 → RS σ → K124 x4 x5 σ → RW layC E mi_X10_run Φ 124 [some (.ref (eA E 6)), some (.ref (eA E 1)), some (.ref (eA E 3)), some (.ref (eA E 7)), some (.int (iz x4)), some (.int (iz x5)), none, none] [] σ x) (x4 x5 s0 : Int) (rx4 : Rg x4) (rx5 : Rg x5) (rs0 : Rg s0) (σ : PS) (hs : RS σ) (h : LX10_run_191 K109 K124 x4 x5 s0 σ Φ) : RW layC E mi_X10_run Φ 191 [some (.ref (eA E 6)), some (.ref (eA E 1)), some (.ref (eA E 3)), some (.ref (eA E 7)), some (.int (iz x4)), some (.int (iz x5)), none, none] [.int (iz s0)] σ x := by
  refine r_istore (lv' := [some (.ref (eA E 6)), some (.ref (eA E 1)), some (.ref (eA E 3)), some (.ref (eA E 7)), some (.int (iz x4)), some (.int (iz x5)), none, some (.int (iz s0))]) (dc D_cX10_run_2 24 rfl) rfl rfl ?_
  refine r_iload (dc D_cX10_run_2 25 rfl) rfl ?_
  refine r_aloadn (dc D_cX10_run_2 26 rfl) rfl rfl ?_
  refine r_getI (dc D_cX10_run_2 27 rfl) fw_RX10_19 lC_6 rfl ?_
  refine r_icmp_le (tgt := 220) (dc D_cX10_run_2 28 rfl) (by decide) rs0 (hs _ _) (fun c1 => ?_) (fun c1 => ?_)
  · have h := h.1 c1
    refine r_sub (lv' := [some (.ref (eA E 6)), some (.ref (eA E 1)), some (.ref (eA E 3)), some (.ref (eA E 7)), some (.int (iz x4)), some (.int (iz x5)), none, none]) (subL_s (subL_s (subL_s (subL_s (subL_s (subL_s (subL_n (subL_n subL_e)))))))) ?_
    exact TX10_run_220 hE x hK109 hK124 _ _ rx4 rx5 _ hs h
  · have h := h.2 c1
    refine r_aloadn (dc D_cX10_run_2 29 rfl) rfl rfl ?_
    refine r_iload (dc D_cX10_run_2 30 rfl) rfl ?_
    refine r_put (dc D_cX10_run_2 31 rfl) fw_RX10_19 fp_10_3 lC_6 rfl (nar_int _) rs0 ?_
    refine r_sig (fun σ2 eσ2 => ?_)
    have h := h σ2 eσ2
    have hσ2 : RS σ2 := RS_eq eσ2 (RS.up hs rs0 _ _)
    refine r_aloadn (dc D_cX10_run_2 32 rfl) rfl rfl ?_
    refine r_bipush (n := 100) (dc D_cX10_run_2 33 rfl) (by decide +kernel) ?_
    refine r_iload (dc D_cX10_run_2 34 rfl) rfl ?_
    refine r_imul (dc D_cX10_run_2 35 rfl) ?_
    obtain ⟨o3, h⟩ := h
    refine r_iload (dc D_cX10_run_2 36 rfl) rfl ?_
    refine r_iadd (dc D_cX10_run_2 37 rfl) ?_
    obtain ⟨o4, h⟩ := h
    refine r_put (dc D_cX10_run_2 38 rfl) fw_RX10_16 fp_10_2 lC_6 rfl (nar_int _) o4 ?_
    refine r_sig (fun σ5 eσ5 => ?_)
    have h := h σ5 eσ5
    have hσ5 : RS σ5 := RS_eq eσ5 (RS.up hσ2 o4 _ _)
    refine r_sub (lv' := [some (.ref (eA E 6)), some (.ref (eA E 1)), some (.ref (eA E 3)), some (.ref (eA E 7)), some (.int (iz x4)), some (.int (iz x5)), none, none]) (subL_s (subL_s (subL_s (subL_s (subL_s (subL_s (subL_n (subL_n subL_e)))))))) ?_
    exact TX10_run_220 hE x hK109 hK124 _ _ rx4 rx5 _ hσ5 h
set_option maxRecDepth 100000 in
theorem TBX10_run_124 {E : EV} (hE : eOK layC E) {Φ : Int → PS → Prop} {K109 : Int → PS → Prop} {K124 : Int → Int → PS → Prop} (x : CX) (hK109 : ∀ (x4 : Int) (σ : PS), Rg x4 → RS σ → K109 x4 σ → RW layC E mi_X10_run Φ 109 [some (.ref (eA E 6)), some (.ref (eA E 1)), some (.ref (eA E 3)), some (.ref (eA E 7)), some (.int (iz x4)), none, none, none] [] σ x) (hK124 : ∀ (x4 x5 : Int) (σ : PS), Rg x4 → Rg x5 → RS σ → K124 x4 x5 σ → RW layC E mi_X10_run Φ 124 [some (.ref (eA E 6)), some (.ref (eA E 1)), some (.ref (eA E 3)), some (.ref (eA E 7)), some (.int (iz x4)), some (.int (iz x5)), none, none] [] σ x) (x4 x5 : Int) (rx4 : Rg x4) (rx5 : Rg x5) (σ : PS) (hs : RS σ) (h : BX10_run_124 K109 K124 x4 x5 σ Φ) : RW layC E mi_X10_run Φ 124 [some (.ref (eA E 6)), some (.ref (eA E 1)), some (.ref (eA E 3)), some (.ref (eA E 7)), some (.int (iz x4)), some (.int (iz x5)), none, none] [] σ x := by
  refine r_iload (dc D_cX10_run_1 26 rfl) rfl ?_
  refine r_aloadn (dc D_cX10_run_1 27 rfl) rfl rfl ?_
  refine r_getI (dc D_cX10_run_1 28 rfl) fw_RX10_22 lC_1 rfl ?_
  refine r_icmp_ge (tgt := 226) (dc D_cX10_run_1 29 rfl) (by decide) rx5 (hs _ _) (fun c1 => ?_) (fun c1 => ?_)
  · have h := h.1 c1
    obtain ⟨o2, h⟩ := h
    refine r_iinc (lv' := [some (.ref (eA E 6)), some (.ref (eA E 1)), some (.ref (eA E 3)), some (.ref (eA E 7)), some (.int (iz (x4 + 1))), some (.int (iz x5)), none, none]) (dc D_cX10_run_3 1 rfl) rfl rfl rfl ?_
    refine r_goto (tgt := 109) (dc D_cX10_run_3 2 rfl) (by decide) ?_
    refine r_sub (lv' := [some (.ref (eA E 6)), some (.ref (eA E 1)), some (.ref (eA E 3)), some (.ref (eA E 7)), some (.int (iz (x4 + 1))), none, none, none]) (subL_s (subL_s (subL_s (subL_s (subL_s (subL_n (subL_n (subL_n subL_e)))))))) ?_
    exact hK109 _ _ o2 hs h
  · have h := h.2 c1
    refine r_aloadn (dc D_cX10_run_1 30 rfl) rfl rfl ?_
    refine r_getR (dc D_cX10_run_1 31 rfl) fw_RX10_27 lC_3 rfl ?_
    refine r_iload (dc D_cX10_run_1 32 rfl) rfl ?_
    obtain ⟨o3, h⟩ := h
    refine r_iald (N := 30) (dc D_cX10_run_1 33 rfl) lC_25 rfl rfl o3 ?_
    refine r_aloadn (dc D_cX10_run_1 34 rfl) rfl rfl ?_
    refine r_getR (dc D_cX10_run_1 35 rfl) fw_RX10_27 lC_3 rfl ?_
    refine r_iload (dc D_cX10_run_1 36 rfl) rfl ?_
    obtain ⟨o4, h⟩ := h
    refine r_iald (N := 30) (dc D_cX10_run_1 37 rfl) lC_25 rfl rfl o4 ?_
    refine r_iadd (dc D_cX10_run_1 38 rfl) ?_
    obtain ⟨o5, h⟩ := h
    refine r_aloadn (dc D_cX10_run_1 39 rfl) rfl rfl ?_
    refine r_getI (dc D_cX10_run_2 0 rfl) fw_RX10_33 lC_3 rfl ?_
    refine r_min (dc D_cX10_run_2 1 rfl) mw_RX10_36 o5 (hs _ _) (by decide) rfl ?_
    refine r_name (fun v6 ev6 => ?_)
    have h := h v6 ev6
    have rv6 : Rg v6 := Rg_eq ev6 (Rg_min o5 (hs _ _))
    refine r_istore (lv' := [some (.ref (eA E 6)), some (.ref (eA E 1)), some (.ref (eA E 3)), some (.ref (eA E 7)), some (.int (iz x4)), some (.int (iz x5)), some (.int (iz v6)), none]) (dc D_cX10_run_2 2 rfl) rfl rfl ?_
    refine r_iload (dc D_cX10_run_2 3 rfl) rfl ?_
    refine r_aloadn (dc D_cX10_run_2 4 rfl) rfl rfl ?_
    refine r_getI (dc D_cX10_run_2 5 rfl) fw_RX10_19 lC_6 rfl ?_
    refine r_icmp_le (tgt := 190) (dc D_cX10_run_2 6 rfl) (by decide) rv6 (hs _ _) (fun c7 => ?_) (fun c7 => ?_)
    · have h := h.1 c7
      refine r_iconst (n := (-1)) (dc D_cX10_run_2 23 rfl) ?_
      refine r_sub (lv' := [some (.ref (eA E 6)), some (.ref (eA E 1)), some (.ref (eA E 3)), some (.ref (eA E 7)), some (.int (iz x4)), some (.int (iz x5)), none, none]) (subL_s (subL_s (subL_s (subL_s (subL_s (subL_s (subL_n (subL_n subL_e)))))))) ?_
      exact TX10_run_191 hE x hK109 hK124 _ _ _ rx4 rx5 (Rl rfl) _ hs h
    · have h := h.2 c7
      refine r_aloadn (dc D_cX10_run_2 7 rfl) rfl rfl ?_
      refine r_getI (dc D_cX10_run_2 8 rfl) fw_RX10_33 lC_3 rfl ?_
      refine r_aloadn (dc D_cX10_run_2 9 rfl) rfl rfl ?_
      refine r_aloadn (dc D_cX10_run_2 10 rfl) rfl rfl ?_
      refine r_iconst (n := 1) (dc D_cX10_run_2 11 rfl) ?_
      refine r_iload (dc D_cX10_run_2 12 rfl) rfl ?_
      refine r_ishl (dc D_cX10_run_2 13 rfl) ?_
      refine r_iconst (n := 1) (dc D_cX10_run_2 14 rfl) ?_
      refine r_iload (dc D_cX10_run_2 15 rfl) rfl ?_
      refine r_ishl (dc D_cX10_run_2 16 rfl) ?_
      refine r_ior (dc D_cX10_run_2 17 rfl) ?_
      refine r_iconst (n := (-1)) (dc D_cX10_run_2 18 rfl) ?_
      refine r_iconst (n := 0) (dc D_cX10_run_2 19 rfl) ?_
      refine r_callV (As := [.ref (eA E 1), .int (iz (ior (ishl 1 x4) (ishl 1 x5))), .int (iz (-1)), .int (iz 0)]) (st := [.int (iz (σ 3 8))]) (dc D_cX10_run_2 20 rfl) cw_RX10_42 nm_yX5_mostIf (CX5_mostIf hE _ _ _ (Rg_of _) (Rl rfl) (Rl rfl) _ hs h) lC_7 rfl rfl (by decide) rfl rfl rfl (fun z8 σ9 rz8 hσ9 h => ?_)
      show RW layC E mi_X10_run Φ 186 [some (.ref (eA E 6)), some (.ref (eA E 1)), some (.ref (eA E 3)), some (.ref (eA E 7)), some (.int (iz x4)), some (.int (iz x5)), some (.int (iz v6)), none] [.int (iz z8), .int (iz (σ 3 8))] σ9 x
      refine r_isub (dc D_cX10_run_2 21 rfl) ?_
      obtain ⟨o10, h⟩ := h
      refine r_goto (tgt := 191) (dc D_cX10_run_2 22 rfl) (by decide) ?_
      refine r_sub (lv' := [some (.ref (eA E 6)), some (.ref (eA E 1)), some (.ref (eA E 3)), some (.ref (eA E 7)), some (.int (iz x4)), some (.int (iz x5)), none, none]) (subL_s (subL_s (subL_s (subL_s (subL_s (subL_s (subL_n (subL_n subL_e)))))))) ?_
      exact TX10_run_191 hE x hK109 hK124 _ _ _ rx4 rx5 o10 _ hσ9 h
theorem TX10_run_124 {E : EV} (hE : eOK layC E) {Φ : Int → PS → Prop} {K109 : Int → PS → Prop} (x : CX) (hK109 : ∀ (x4 : Int) (σ : PS), Rg x4 → RS σ → K109 x4 σ → RW layC E mi_X10_run Φ 109 [some (.ref (eA E 6)), some (.ref (eA E 1)), some (.ref (eA E 3)), some (.ref (eA E 7)), some (.int (iz x4)), none, none, none] [] σ x) (n : Nat) : ∀ (x4 x5 : Int) (σ : PS), Rg x4 → Rg x5 → RS σ → LX10_run_124 K109 n x4 x5 σ Φ → RW layC E mi_X10_run Φ 124 [some (.ref (eA E 6)), some (.ref (eA E 1)), some (.ref (eA E 3)), some (.ref (eA E 7)), some (.int (iz x4)), some (.int (iz x5)), none, none] [] σ x := by
  induction n with
  | zero => intro x4 x5 σ _ _ _ h; exact h.elim
  | succ n ih => intro x4 x5 σ rx4 rx5 hs h; exact TBX10_run_124 hE x hK109 ih x4 x5 rx4 rx5 σ hs h
set_option maxRecDepth 100000 in
theorem TBX10_run_109 {E : EV} (hE : eOK layC E) {Φ : Int → PS → Prop} {K109 : Int → PS → Prop} (x : CX) (hK109 : ∀ (x4 : Int) (σ : PS), Rg x4 → RS σ → K109 x4 σ → RW layC E mi_X10_run Φ 109 [some (.ref (eA E 6)), some (.ref (eA E 1)), some (.ref (eA E 3)), some (.ref (eA E 7)), some (.int (iz x4)), none, none, none] [] σ x) (x4 : Int) (rx4 : Rg x4) (σ : PS) (hs : RS σ) (h : BX10_run_109 K109 x4 σ Φ) : RW layC E mi_X10_run Φ 109 [some (.ref (eA E 6)), some (.ref (eA E 1)), some (.ref (eA E 3)), some (.ref (eA E 7)), some (.int (iz x4)), none, none, none] [] σ x := by
  refine r_iload (dc D_cX10_run_1 18 rfl) rfl ?_
  refine r_aloadn (dc D_cX10_run_1 19 rfl) rfl rfl ?_
  refine r_getI (dc D_cX10_run_1 20 rfl) fw_RX10_22 lC_1 rfl ?_
  refine r_icmp_ge (tgt := 232) (dc D_cX10_run_1 21 rfl) (by decide) rx4 (hs _ _) (fun c1 => ?_) (fun c1 => ?_)
  · have h := h.1 c1
    exact r_vret (dc D_cX10_run_3 3 rfl) rfl h
  · have h := h.2 c1
    refine r_iload (dc D_cX10_run_1 22 rfl) rfl ?_
    refine r_iconst (n := 1) (dc D_cX10_run_1 23 rfl) ?_
    refine r_iadd (dc D_cX10_run_1 24 rfl) ?_
    obtain ⟨o2, h⟩ := h
    refine r_name (fun v3 ev3 => ?_)
    have h := h v3 ev3
    have rv3 : Rg v3 := Rg_eq ev3 o2
    refine r_istore (lv' := [some (.ref (eA E 6)), some (.ref (eA E 1)), some (.ref (eA E 3)), some (.ref (eA E 7)), some (.int (iz x4)), some (.int (iz v3)), none, none]) (dc D_cX10_run_1 25 rfl) rfl rfl ?_
    obtain ⟨n, h⟩ := h
    exact TX10_run_124 hE x hK109 n _ _ _ rx4 rv3 hs h
theorem TX10_run_109 {E : EV} (hE : eOK layC E) {Φ : Int → PS → Prop} (x : CX) (n : Nat) : ∀ (x4 : Int) (σ : PS), Rg x4 → RS σ → LX10_run_109 n x4 σ Φ → RW layC E mi_X10_run Φ 109 [some (.ref (eA E 6)), some (.ref (eA E 1)), some (.ref (eA E 3)), some (.ref (eA E 7)), some (.int (iz x4)), none, none, none] [] σ x := by
  induction n with
  | zero => intro x4 σ _ _ h; exact h.elim
  | succ n ih => intro x4 σ rx4 hs h; exact TBX10_run_109 hE x ih x4 rx4 σ hs h
set_option maxRecDepth 100000 in
theorem TX10_run_100 {E : EV} (hE : eOK layC E) {Φ : Int → PS → Prop} {K23 : Int → PS → Prop} (x : CX) (hK23 : ∀ (x4 : Int) (σ : PS), Rg x4 → RS σ → K23 x4 σ → RW layC E mi_X10_run Φ 23 [some (.ref (eA E 6)), some (.ref (eA E 1)), some (.ref (eA E 3)), some (.ref (eA E 7)), some (.int (iz x4)), none, none, none] [] σ x) (x4 : Int) (rx4 : Rg x4) (σ : PS) (hs : RS σ) (h : LX10_run_100 K23 x4 σ Φ) : RW layC E mi_X10_run Φ 100 [some (.ref (eA E 6)), some (.ref (eA E 1)), some (.ref (eA E 3)), some (.ref (eA E 7)), some (.int (iz x4)), none, none, none] [] σ x := by
  obtain ⟨o1, h⟩ := h
  refine r_iinc (lv' := [some (.ref (eA E 6)), some (.ref (eA E 1)), some (.ref (eA E 3)), some (.ref (eA E 7)), some (.int (iz (x4 + 1))), none, none, none]) (dc D_cX10_run_1 14 rfl) rfl rfl rfl ?_
  refine r_goto (tgt := 23) (dc D_cX10_run_1 15 rfl) (by decide) ?_
  exact hK23 _ _ o1 hs h
set_option maxRecDepth 100000 in
theorem TX10_run_77 {E : EV} (hE : eOK layC E) {Φ : Int → PS → Prop} {K23 : Int → PS → Prop} (x : CX) (hK23 : ∀ (x4 : Int) (σ : PS), Rg x4 → RS σ → K23 x4 σ → RW layC E mi_X10_run Φ 23 [some (.ref (eA E 6)), some (.ref (eA E 1)), some (.ref (eA E 3)), some (.ref (eA E 7)), some (.int (iz x4)), none, none, none] [] σ x) (x4 s0 : Int) (rx4 : Rg x4) (rs0 : Rg s0) (σ : PS) (hs : RS σ) (h : LX10_run_77 K23 x4 s0 σ Φ) : RW layC E mi_X10_run Φ 77 [some (.ref (eA E 6)), some (.ref (eA E 1)), some (.ref (eA E 3)), some (.ref (eA E 7)), some (.int (iz x4)), none, none, none] [.int (iz s0)] σ x := by
  refine r_istore (lv' := [some (.ref (eA E 6)), some (.ref (eA E 1)), some (.ref (eA E 3)), some (.ref (eA E 7)), some (.int (iz x4)), none, some (.int (iz s0)), none]) (dc D_cX10_run_1 3 rfl) rfl rfl ?_
  refine r_iload (dc D_cX10_run_1 4 rfl) rfl ?_
  refine r_aloadn (dc D_cX10_run_1 5 rfl) rfl rfl ?_
  refine r_getI (dc D_cX10_run_1 6 rfl) fw_RX10_13 lC_6 rfl ?_
  refine r_icmp_le (tgt := 100) (dc D_cX10_run_1 7 rfl) (by decide) rs0 (hs _ _) (fun c1 => ?_) (fun c1 => ?_)
  · have h := h.1 c1
    refine r_sub (lv' := [some (.ref (eA E 6)), some (.ref (eA E 1)), some (.ref (eA E 3)), some (.ref (eA E 7)), some (.int (iz x4)), none, none, none]) (subL_s (subL_s (subL_s (subL_s (subL_s (subL_n (subL_n (subL_n subL_e)))))))) ?_
    exact TX10_run_100 hE x hK23 _ rx4 _ hs h
  · have h := h.2 c1
    refine r_aloadn (dc D_cX10_run_1 8 rfl) rfl rfl ?_
    refine r_iload (dc D_cX10_run_1 9 rfl) rfl ?_
    refine r_put (dc D_cX10_run_1 10 rfl) fw_RX10_13 fp_10_1 lC_6 rfl (nar_int _) rs0 ?_
    refine r_sig (fun σ2 eσ2 => ?_)
    have h := h σ2 eσ2
    have hσ2 : RS σ2 := RS_eq eσ2 (RS.up hs rs0 _ _)
    refine r_aloadn (dc D_cX10_run_1 11 rfl) rfl rfl ?_
    refine r_iload (dc D_cX10_run_1 12 rfl) rfl ?_
    refine r_put (dc D_cX10_run_1 13 rfl) fw_RX10_7 fp_10_0 lC_6 rfl (nar_int _) rx4 ?_
    refine r_sig (fun σ3 eσ3 => ?_)
    have h := h σ3 eσ3
    have hσ3 : RS σ3 := RS_eq eσ3 (RS.up hσ2 rx4 _ _)
    refine r_sub (lv' := [some (.ref (eA E 6)), some (.ref (eA E 1)), some (.ref (eA E 3)), some (.ref (eA E 7)), some (.int (iz x4)), none, none, none]) (subL_s (subL_s (subL_s (subL_s (subL_s (subL_n (subL_n (subL_n subL_e)))))))) ?_
    exact TX10_run_100 hE x hK23 _ rx4 _ hσ3 h
set_option maxRecDepth 100000 in
theorem TBX10_run_23 {E : EV} (hE : eOK layC E) {Φ : Int → PS → Prop} {K23 : Int → PS → Prop} (x : CX) (hK23 : ∀ (x4 : Int) (σ : PS), Rg x4 → RS σ → K23 x4 σ → RW layC E mi_X10_run Φ 23 [some (.ref (eA E 6)), some (.ref (eA E 1)), some (.ref (eA E 3)), some (.ref (eA E 7)), some (.int (iz x4)), none, none, none] [] σ x) (x4 : Int) (rx4 : Rg x4) (σ : PS) (hs : RS σ) (h : BX10_run_23 K23 x4 σ Φ) : RW layC E mi_X10_run Φ 23 [some (.ref (eA E 6)), some (.ref (eA E 1)), some (.ref (eA E 3)), some (.ref (eA E 7)), some (.int (iz x4)), none, none, none] [] σ x := by
  refine r_iload (dc D_cX10_run_0 14 rfl) rfl ?_
  refine r_aloadn (dc D_cX10_run_0 15 rfl) rfl rfl ?_
  refine r_getI (dc D_cX10_run_0 16 rfl) fw_RX10_22 lC_1 rfl ?_
  refine r_icmp_ge (tgt := 106) (dc D_cX10_run_0 17 rfl) (by decide) rx4 (hs _ _) (fun c1 => ?_) (fun c1 => ?_)
  · have h := h.1 c1
    refine r_iconst (n := 0) (dc D_cX10_run_1 16 rfl) ?_
    refine r_istore (lv' := [some (.ref (eA E 6)), some (.ref (eA E 1)), some (.ref (eA E 3)), some (.ref (eA E 7)), some (.int (iz 0)), none, none, none]) (dc D_cX10_run_1 17 rfl) rfl rfl ?_
    obtain ⟨n, h⟩ := h
    exact TX10_run_109 hE x n _ _ (Rl rfl) hs h
  · have h := h.2 c1
    refine r_aloadn (dc D_cX10_run_0 18 rfl) rfl rfl ?_
    refine r_getR (dc D_cX10_run_0 19 rfl) fw_RX10_27 lC_3 rfl ?_
    refine r_iload (dc D_cX10_run_0 20 rfl) rfl ?_
    obtain ⟨o2, h⟩ := h
    refine r_iald (N := 30) (dc D_cX10_run_0 21 rfl) lC_25 rfl rfl o2 ?_
    refine r_aloadn (dc D_cX10_run_0 22 rfl) rfl rfl ?_
    refine r_getI (dc D_cX10_run_0 23 rfl) fw_RX10_33 lC_3 rfl ?_
    refine r_min (dc D_cX10_run_0 24 rfl) mw_RX10_36 (hs _ _) (hs _ _) (by decide) rfl ?_
    refine r_name (fun v3 ev3 => ?_)
    have h := h v3 ev3
    have rv3 : Rg v3 := Rg_eq ev3 (Rg_min (hs _ _) (hs _ _))
    refine r_istore (lv' := [some (.ref (eA E 6)), some (.ref (eA E 1)), some (.ref (eA E 3)), some (.ref (eA E 7)), some (.int (iz x4)), some (.int (iz v3)), none, none]) (dc D_cX10_run_0 25 rfl) rfl rfl ?_
    refine r_iload (dc D_cX10_run_0 26 rfl) rfl ?_
    refine r_aloadn (dc D_cX10_run_0 27 rfl) rfl rfl ?_
    refine r_getI (dc D_cX10_run_0 28 rfl) fw_RX10_13 lC_6 rfl ?_
    refine r_icmp_le (tgt := 76) (dc D_cX10_run_0 29 rfl) (by decide) rv3 (hs _ _) (fun c4 => ?_) (fun c4 => ?_)
    · have h := h.1 c4
      refine r_iconst (n := (-1)) (dc D_cX10_run_1 2 rfl) ?_
      refine r_sub (lv' := [some (.ref (eA E 6)), some (.ref (eA E 1)), some (.ref (eA E 3)), some (.ref (eA E 7)), some (.int (iz x4)), none, none, none]) (subL_s (subL_s (subL_s (subL_s (subL_s (subL_n (subL_n (subL_n subL_e)))))))) ?_
      exact TX10_run_77 hE x hK23 _ _ rx4 (Rl rfl) _ hs h
    · have h := h.2 c4
      refine r_aloadn (dc D_cX10_run_0 30 rfl) rfl rfl ?_
      refine r_getI (dc D_cX10_run_0 31 rfl) fw_RX10_33 lC_3 rfl ?_
      refine r_aloadn (dc D_cX10_run_0 32 rfl) rfl rfl ?_
      refine r_aloadn (dc D_cX10_run_0 33 rfl) rfl rfl ?_
      refine r_iconst (n := 1) (dc D_cX10_run_0 34 rfl) ?_
      refine r_iload (dc D_cX10_run_0 35 rfl) rfl ?_
      refine r_ishl (dc D_cX10_run_0 36 rfl) ?_
      refine r_iconst (n := (-1)) (dc D_cX10_run_0 37 rfl) ?_
      refine r_iconst (n := 0) (dc D_cX10_run_0 38 rfl) ?_
      refine r_callV (As := [.ref (eA E 1), .int (iz (ishl 1 x4)), .int (iz (-1)), .int (iz 0)]) (st := [.int (iz (σ 3 8))]) (dc D_cX10_run_0 39 rfl) cw_RX10_42 nm_yX5_mostIf (CX5_mostIf hE _ _ _ (Rg_of _) (Rl rfl) (Rl rfl) _ hs h) lC_7 rfl rfl (by decide) rfl rfl rfl (fun z5 σ6 rz5 hσ6 h => ?_)
      show RW layC E mi_X10_run Φ 72 [some (.ref (eA E 6)), some (.ref (eA E 1)), some (.ref (eA E 3)), some (.ref (eA E 7)), some (.int (iz x4)), some (.int (iz v3)), none, none] [.int (iz z5), .int (iz (σ 3 8))] σ6 x
      refine r_isub (dc D_cX10_run_1 0 rfl) ?_
      obtain ⟨o7, h⟩ := h
      refine r_goto (tgt := 77) (dc D_cX10_run_1 1 rfl) (by decide) ?_
      refine r_sub (lv' := [some (.ref (eA E 6)), some (.ref (eA E 1)), some (.ref (eA E 3)), some (.ref (eA E 7)), some (.int (iz x4)), none, none, none]) (subL_s (subL_s (subL_s (subL_s (subL_s (subL_n (subL_n (subL_n subL_e)))))))) ?_
      exact TX10_run_77 hE x hK23 _ _ rx4 o7 _ hσ6 h
theorem TX10_run_23 {E : EV} (hE : eOK layC E) {Φ : Int → PS → Prop} (x : CX) (n : Nat) : ∀ (x4 : Int) (σ : PS), Rg x4 → RS σ → LX10_run_23 n x4 σ Φ → RW layC E mi_X10_run Φ 23 [some (.ref (eA E 6)), some (.ref (eA E 1)), some (.ref (eA E 3)), some (.ref (eA E 7)), some (.int (iz x4)), none, none, none] [] σ x := by
  induction n with
  | zero => intro x4 σ _ _ h; exact h.elim
  | succ n ih => intro x4 σ rx4 hs h; exact TBX10_run_23 hE x ih x4 rx4 σ hs h
set_option maxRecDepth 100000 in
theorem CX10_run {E : EV} (hE : eOK layC E) {Φ : Int → PS → Prop} (σ : PS) (hs : RS σ) (h : FX10_run σ Φ) : CT layC E yX10_run mi_X10_run [.ref (eA E 6), .ref (eA E 1), .ref (eA E 3), .ref (eA E 7)] σ Φ := by
  refine ct_of (by decide +kernel) rfl hE rfl rfl hs (fun x => ?_)
  show RW layC E mi_X10_run Φ 0 [some (.ref (eA E 6)), some (.ref (eA E 1)), some (.ref (eA E 3)), some (.ref (eA E 7)), none, none, none, none] [] σ x
  refine r_aloadn (dc D_cX10_run_0 0 rfl) rfl rfl ?_
  refine r_iconst (n := (-1)) (dc D_cX10_run_0 1 rfl) ?_
  refine r_put (dc D_cX10_run_0 2 rfl) fw_RX10_7 fp_10_0 lC_6 rfl (nar_int _) (Rl rfl) ?_
  refine r_sig (fun σ1 eσ1 => ?_)
  have h := h σ1 eσ1
  have hσ1 : RS σ1 := RS_eq eσ1 (RS.up hs (Rl rfl) _ _)
  refine r_aloadn (dc D_cX10_run_0 3 rfl) rfl rfl ?_
  refine r_iconst (n := (-1)) (dc D_cX10_run_0 4 rfl) ?_
  refine r_put (dc D_cX10_run_0 5 rfl) fw_RX10_13 fp_10_1 lC_6 rfl (nar_int _) (Rl rfl) ?_
  refine r_sig (fun σ2 eσ2 => ?_)
  have h := h σ2 eσ2
  have hσ2 : RS σ2 := RS_eq eσ2 (RS.up hσ1 (Rl rfl) _ _)
  refine r_aloadn (dc D_cX10_run_0 6 rfl) rfl rfl ?_
  refine r_iconst (n := (-1)) (dc D_cX10_run_0 7 rfl) ?_
  refine r_put (dc D_cX10_run_0 8 rfl) fw_RX10_16 fp_10_2 lC_6 rfl (nar_int _) (Rl rfl) ?_
  refine r_sig (fun σ3 eσ3 => ?_)
  have h := h σ3 eσ3
  have hσ3 : RS σ3 := RS_eq eσ3 (RS.up hσ2 (Rl rfl) _ _)
  refine r_aloadn (dc D_cX10_run_0 9 rfl) rfl rfl ?_
  refine r_iconst (n := (-1)) (dc D_cX10_run_0 10 rfl) ?_
  refine r_put (dc D_cX10_run_0 11 rfl) fw_RX10_19 fp_10_3 lC_6 rfl (nar_int _) (Rl rfl) ?_
  refine r_sig (fun σ4 eσ4 => ?_)
  have h := h σ4 eσ4
  have hσ4 : RS σ4 := RS_eq eσ4 (RS.up hσ3 (Rl rfl) _ _)
  refine r_iconst (n := 0) (dc D_cX10_run_0 12 rfl) ?_
  refine r_istore (lv' := [some (.ref (eA E 6)), some (.ref (eA E 1)), some (.ref (eA E 3)), some (.ref (eA E 7)), some (.int (iz 0)), none, none, none]) (dc D_cX10_run_0 13 rfl) rfl rfl ?_
  obtain ⟨n, h⟩ := h
  exact TX10_run_23 hE x n _ _ (Rl rfl) hσ4 h
-- end of GateFlow$Worst.run
def mi_X11_freshWorst : MI := (cX11_freshWorst, RX11, 1, 9, (some (.object "GateFlow$Worst")), 2)
def FX11_freshWorst (σ : PS) (Φ : Int → PS → Prop) : Prop :=
  ((¬ σ 0 10 = 0 →
    Φ 6 σ) ∧
  (σ 0 10 = 0 →
    FX11_freshWays σ (fun z2 σ3 => z2 = 3 ∧ (FX10_run σ3 (fun z4 σ5 =>
    ∀ σ6 : PS, σ6 = up2 σ5 0 10 1 →
    Φ 6 σ6)))))
theorem cw_RX11_349 : CWV RX11 349 yX10_run mi_X10_run := tb_r [813, 814, 815, 104, 816] (by decide +kernel)
theorem nm_yX10_run : ynm yX10_run 3 := ⟨⟨by decide +kernel, by decide +kernel⟩, by decide +kernel⟩
set_option maxRecDepth 100000 in
theorem CX11_freshWorst {E : EV} (hE : eOK layC E) {Φ : Int → PS → Prop} (σ : PS) (hs : RS σ) (h : FX11_freshWorst σ Φ) : CT layC E yX11_freshWorst mi_X11_freshWorst [.ref (eA E 0)] σ Φ := by
  refine ct_of (by decide +kernel) rfl hE rfl rfl hs (fun x => ?_)
  show RW layC E mi_X11_freshWorst Φ 0 [some (.ref (eA E 0))] [] σ x
  refine r_aloadn (dc D_cX11_freshWorst_0 0 rfl) rfl rfl ?_
  refine r_getI (dc D_cX11_freshWorst_0 1 rfl) fw_RX11_339 lC_0 rfl ?_
  refine r_if_ne (tgt := 31) (dc D_cX11_freshWorst_0 2 rfl) (by decide) (hs _ _) (fun c1 => ?_) (fun c1 => ?_)
  · have h := h.1 c1
    refine r_aloadn (dc D_cX11_freshWorst_0 15 rfl) rfl rfl ?_
    refine r_getR (dc D_cX11_freshWorst_0 16 rfl) fw_RX11_50 lC_0 rfl ?_
    exact r_aret (z := 6) (dc D_cX11_freshWorst_0 17 rfl) rfl rfl (Rl rfl) h
  · have h := h.2 c1
    refine r_aloadn (dc D_cX11_freshWorst_0 3 rfl) rfl rfl ?_
    refine r_getR (dc D_cX11_freshWorst_0 4 rfl) fw_RX11_50 lC_0 rfl ?_
    refine r_aloadn (dc D_cX11_freshWorst_0 5 rfl) rfl rfl ?_
    refine r_getR (dc D_cX11_freshWorst_0 6 rfl) fw_RX11_12 lC_0 rfl ?_
    refine r_aloadn (dc D_cX11_freshWorst_0 7 rfl) rfl rfl ?_
    refine r_callV (As := []) (st := [.ref (eA E 1), .ref (eA E 6)]) (dc D_cX11_freshWorst_0 8 rfl) cw_RX11_134 nm_yX11_freshWays (CX11_freshWays hE  _ hs h) lC_0 rfl rfl (by decide) rfl rfl rfl (fun z2 σ3 rz2 hσ3 h => ?_)
    obtain ⟨rfl, h⟩ := h
    show RW layC E mi_X11_freshWorst Φ 19 [some (.ref (eA E 0))] [.ref (eA E 3), .ref (eA E 1), .ref (eA E 6)] σ3 x
    refine r_aloadn (dc D_cX11_freshWorst_0 9 rfl) rfl rfl ?_
    refine r_getR (dc D_cX11_freshWorst_0 10 rfl) fw_RX11_43 lC_0 rfl ?_
    refine r_callV (As := [.ref (eA E 1), .ref (eA E 3), .ref (eA E 7)]) (st := []) (dc D_cX11_freshWorst_0 11 rfl) cw_RX11_349 nm_yX10_run (CX10_run hE  _ hσ3 h) lC_6 rfl rfl (by decide) rfl rfl rfl (fun z4 σ5 rz4 hσ5 h => ?_)
    show RW layC E mi_X11_freshWorst Φ 26 [some (.ref (eA E 0))] [] σ5 x
    refine r_aloadn (dc D_cX11_freshWorst_0 12 rfl) rfl rfl ?_
    refine r_iconst (n := 1) (dc D_cX11_freshWorst_0 13 rfl) ?_
    refine r_put (dc D_cX11_freshWorst_0 14 rfl) fw_RX11_339 fp_11_10 lC_0 rfl (nar_bool (by decide)) (Rl rfl) ?_
    refine r_sig (fun σ6 eσ6 => ?_)
    have h := h σ6 eσ6
    have hσ6 : RS σ6 := RS_eq eσ6 (RS.up hσ5 (Rl rfl) _ _)
    refine r_aloadn (dc D_cX11_freshWorst_0 15 rfl) rfl rfl ?_
    refine r_getR (dc D_cX11_freshWorst_0 16 rfl) fw_RX11_50 lC_0 rfl ?_
    exact r_aret (z := 6) (dc D_cX11_freshWorst_0 17 rfl) rfl rfl (Rl rfl) h
-- end of GateFlow.freshWorst
def mi_X11_worst : MI := (cX11_worst, RX11, 3, 10, (some .int), 1)
def LX11_worst_28 (x1 s0 s1 : Int) (σ : PS) (Φ : Int → PS → Prop) : Prop :=
  ((s1 ≤ s0 →
    FX11_freshWorst σ (fun z2 σ3 => z2 = 6 ∧ ((x1 = 0 →
      Φ (σ3 6 0) σ3) ∧
    (x1 = 1 →
      Φ (σ3 6 1) σ3) ∧
    (x1 = 2 →
      Φ (σ3 6 2) σ3) ∧
    ((x1 < 0 ∨ 2 < x1) →
      Φ (σ3 6 3) σ3)))) ∧
  (¬ s1 ≤ s0 →
    Φ (-5) σ))
def FX11_worst (a1 : Int) (σ : PS) (Φ : Int → PS → Prop) : Prop :=
  ((a1 < 0 →
    Φ (-1) σ) ∧
  (¬ a1 < 0 →
    ((a1 ≤ 3 →
      ((2 ≤ a1 →
        LX11_worst_28 a1 (σ 1 6) 2 σ Φ) ∧
      (¬ 2 ≤ a1 →
        LX11_worst_28 a1 (σ 1 6) 1 σ Φ))) ∧
    (¬ a1 ≤ 3 →
      Φ (-1) σ))))
theorem fw_RX11_201 : FW RX11 201 10 0 := ⟨RX10, TX10, 4, rfl, by decide, rfl, tb_1 406 (by decide +kernel), uw_10⟩
theorem fw_RX11_210 : FW RX11 210 10 3 := ⟨RX10, TX10, 4, rfl, by decide, rfl, tb_1 412 (by decide +kernel), uw_10⟩
theorem fw_RX11_207 : FW RX11 207 10 2 := ⟨RX10, TX10, 4, rfl, by decide, rfl, tb_1 410 (by decide +kernel), uw_10⟩
theorem fw_RX11_204 : FW RX11 204 10 1 := ⟨RX10, TX10, 4, rfl, by decide, rfl, tb_1 408 (by decide +kernel), uw_10⟩
theorem cw_RX11_197 : CWV RX11 197 yX11_freshWorst mi_X11_freshWorst := tb_r [809, 811, 22, 97, 812] (by decide +kernel)
theorem nm_yX11_freshWorst : ynm yX11_freshWorst 0 := ⟨⟨by decide +kernel, by decide +kernel⟩, by decide +kernel⟩
set_option maxRecDepth 100000 in
theorem TX11_worst_28 {E : EV} (hE : eOK layC E) {Φ : Int → PS → Prop} (x : CX) (x1 s0 s1 : Int) (rx1 : Rg x1) (rs0 : Rg s0) (rs1 : Rg s1) (σ : PS) (hs : RS σ) (h : LX11_worst_28 x1 s0 s1 σ Φ) : RW layC E mi_X11_worst Φ 28 [some (.ref (eA E 0)), some (.int (iz x1)), none] [.int (iz s1), .int (iz s0)] σ x := by
  refine r_icmp_ge (tgt := 34) (dc D_cX11_worst_0 16 rfl) (by decide) rs0 rs1 (fun c1 => ?_) (fun c1 => ?_)
  · have h := h.1 c1
    refine r_aloadn (dc D_cX11_worst_0 19 rfl) rfl rfl ?_
    refine r_callV (As := []) (st := []) (dc D_cX11_worst_0 20 rfl) cw_RX11_197 nm_yX11_freshWorst (CX11_freshWorst hE  _ hs h) lC_0 rfl rfl (by decide) rfl rfl rfl (fun z2 σ3 rz2 hσ3 h => ?_)
    obtain ⟨rfl, h⟩ := h
    show RW layC E mi_X11_worst Φ 38 [some (.ref (eA E 0)), some (.int (iz x1)), none] [.ref (eA E 6)] σ3 x
    refine r_astoren (lv' := [some (.ref (eA E 0)), some (.int (iz x1)), some (.ref (eA E 6))]) (dc D_cX11_worst_0 21 rfl) rfl rfl rfl ?_
    refine r_iloadn (dc D_cX11_worst_0 22 rfl) rfl rfl ?_
    refine r_by (c := x1 = 0) (fun c4 => ?_) (fun nc4 => ?_)
    · refine r_swIn (tgt := 68) (off := 28) (v := 0) (dc D_cX11_worst_0 23 rfl) c4 (by decide) (by decide) ?_
      have h := h.1 c4
      refine r_aloadn (dc D_cX11_worst_0 24 rfl) rfl rfl ?_
      refine r_getI (dc D_cX11_worst_0 25 rfl) fw_RX11_201 lC_6 rfl ?_
      exact r_iret (dc D_cX11_worst_0 26 rfl) rfl (hσ3 _ _) h
    replace h := h.2
    refine r_by (c := x1 = 1) (fun c5 => ?_) (fun nc5 => ?_)
    · refine r_swIn (tgt := 73) (off := 33) (v := 1) (dc D_cX11_worst_0 23 rfl) c5 (by decide) (by decide) ?_
      have h := h.1 c5
      refine r_aloadn (dc D_cX11_worst_0 27 rfl) rfl rfl ?_
      refine r_getI (dc D_cX11_worst_0 28 rfl) fw_RX11_204 lC_6 rfl ?_
      exact r_iret (dc D_cX11_worst_0 29 rfl) rfl (hσ3 _ _) h
    replace h := h.2
    refine r_by (c := x1 = 2) (fun c6 => ?_) (fun nc6 => ?_)
    · refine r_swIn (tgt := 78) (off := 38) (v := 2) (dc D_cX11_worst_0 23 rfl) c6 (by decide) (by decide) ?_
      have h := h.1 c6
      refine r_aloadn (dc D_cX11_worst_0 30 rfl) rfl rfl ?_
      refine r_getI (dc D_cX11_worst_0 31 rfl) fw_RX11_207 lC_6 rfl ?_
      exact r_iret (dc D_cX11_worst_0 32 rfl) rfl (hσ3 _ _) h
    replace h := h.2
    have c7 : x1 < 0 ∨ 2 < x1 := by omega
    have h := h c7
    refine r_swOut (tgt := 83) (dc D_cX11_worst_0 23 rfl) (by decide) rx1 c7 ?_
    refine r_aloadn (dc D_cX11_worst_0 33 rfl) rfl rfl ?_
    refine r_getI (dc D_cX11_worst_0 34 rfl) fw_RX11_210 lC_6 rfl ?_
    exact r_iret (dc D_cX11_worst_0 35 rfl) rfl (hσ3 _ _) h
  · have h := h.2 c1
    refine r_bipush (n := (-5)) (dc D_cX11_worst_0 17 rfl) (by decide +kernel) ?_
    exact r_iret (dc D_cX11_worst_0 18 rfl) rfl (Rl rfl) h
set_option maxRecDepth 100000 in
theorem CX11_worst {E : EV} (hE : eOK layC E) {Φ : Int → PS → Prop} (a1 : Int) (ra1 : Rg a1) (σ : PS) (hs : RS σ) (h : FX11_worst a1 σ Φ) : CT layC E yX11_worst mi_X11_worst [.ref (eA E 0), .int (iz a1)] σ Φ := by
  refine ct_of (by decide +kernel) rfl hE rfl rfl hs (fun x => ?_)
  show RW layC E mi_X11_worst Φ 0 [some (.ref (eA E 0)), some (.int (iz a1)), none] [] σ x
  refine r_iloadn (dc D_cX11_worst_0 0 rfl) rfl rfl ?_
  refine r_if_lt (tgt := 9) (dc D_cX11_worst_0 1 rfl) (by decide) ra1 (fun c1 => ?_) (fun c1 => ?_)
  · have h := h.1 c1
    refine r_iconst (n := (-1)) (dc D_cX11_worst_0 5 rfl) ?_
    exact r_iret (dc D_cX11_worst_0 6 rfl) rfl (Rl rfl) h
  · have h := h.2 c1
    refine r_iloadn (dc D_cX11_worst_0 2 rfl) rfl rfl ?_
    refine r_iconst (n := 3) (dc D_cX11_worst_0 3 rfl) ?_
    refine r_icmp_le (tgt := 11) (dc D_cX11_worst_0 4 rfl) (by decide) ra1 (Rl rfl) (fun c2 => ?_) (fun c2 => ?_)
    · have h := h.1 c2
      refine r_aloadn (dc D_cX11_worst_0 7 rfl) rfl rfl ?_
      refine r_getR (dc D_cX11_worst_0 8 rfl) fw_RX11_12 lC_0 rfl ?_
      refine r_getI (dc D_cX11_worst_0 9 rfl) fw_RX11_92 lC_1 rfl ?_
      refine r_iloadn (dc D_cX11_worst_0 10 rfl) rfl rfl ?_
      refine r_iconst (n := 2) (dc D_cX11_worst_0 11 rfl) ?_
      refine r_icmp_ge (tgt := 27) (dc D_cX11_worst_0 12 rfl) (by decide) ra1 (Rl rfl) (fun c3 => ?_) (fun c3 => ?_)
      · have h := h.1 c3
        refine r_iconst (n := 2) (dc D_cX11_worst_0 15 rfl) ?_
        exact TX11_worst_28 hE x _ _ _ ra1 (hs _ _) (Rl rfl) _ hs h
      · have h := h.2 c3
        refine r_iconst (n := 1) (dc D_cX11_worst_0 13 rfl) ?_
        refine r_goto (tgt := 28) (dc D_cX11_worst_0 14 rfl) (by decide) ?_
        exact TX11_worst_28 hE x _ _ _ ra1 (hs _ _) (Rl rfl) _ hs h
    · have h := h.2 c2
      refine r_iconst (n := (-1)) (dc D_cX11_worst_0 5 rfl) ?_
      exact r_iret (dc D_cX11_worst_0 6 rfl) rfl (Rl rfl) h
-- end of GateFlow.worst
def mi_X8_firstLeft : MI := (cX8_firstLeft, RX8, 4, 1, (some .int), 1)
def LX8_firstLeft_31 (K2 : Int → Int → PS → Prop) (x2 x3 : Int) (σ : PS) (Φ : Int → PS → Prop) : Prop :=
  Rg (x3 + 1) ∧
  K2 x2 (x3 + 1) σ
def BX8_firstLeft_2 (K2 : Int → Int → PS → Prop) (x2 x3 : Int) (σ : PS) (Φ : Int → PS → Prop) : Prop :=
  ((σ 1 6 ≤ x3 →
    Φ (-1) σ) ∧
  (¬ σ 1 6 ≤ x3 →
    (0 ≤ x3 ∧ x3 < 30) ∧
    ((¬ σ 13 x3.toNat = x2 →
      LX8_firstLeft_31 K2 x2 x3 σ Φ) ∧
    (σ 13 x3.toNat = x2 →
      (0 ≤ x3 ∧ x3 < 30) ∧
      ((σ 44 x3.toNat ≤ 0 →
        LX8_firstLeft_31 K2 x2 x3 σ Φ) ∧
      (¬ σ 44 x3.toNat ≤ 0 →
        Φ x3 σ))))))
def LX8_firstLeft_2 : Nat → Int → Int → PS → (Int → PS → Prop) → Prop
  | 0, _, _, _, _ => False
  | n + 1, x2, x3, σ, Φ => BX8_firstLeft_2 (fun x2 x3 σ => LX8_firstLeft_2 n x2 x3 σ Φ) x2 x3 σ Φ
def FX8_firstLeft (a2 : Int) (σ : PS) (Φ : Int → PS → Prop) : Prop :=
  ∃ n, LX8_firstLeft_2 n a2 0 σ Φ
theorem fw_RX11_36 : FW RX11 36 11 7 := ⟨RX11, TX11, 16, rfl, by decide, rfl, tb_1 504 (by decide +kernel), uw_11⟩
theorem fw_RX8_33 : FW RX8 33 8 7 := ⟨RX8, TX8, 9, rfl, by decide, rfl, tb_1 323 (by decide +kernel), uw_8⟩
theorem fw_RX8_30 : FW RX8 30 8 6 := ⟨RX8, TX8, 9, rfl, by decide, rfl, tb_1 322 (by decide +kernel), uw_8⟩
theorem fw_RX8_53 : FW RX8 53 3 7 := ⟨RX3, TX3, 9, rfl, by decide, rfl, tb_1 179 (by decide +kernel), uw_3⟩
theorem fw_RX8_40 : FW RX8 40 3 6 := ⟨RX3, TX3, 9, rfl, by decide, rfl, tb_1 170 (by decide +kernel), uw_3⟩
theorem fw_RX8_70 : FW RX8 70 3 0 := ⟨RX3, TX3, 9, rfl, by decide, rfl, tb_1 137 (by decide +kernel), uw_3⟩
theorem fw_RX8_24 : FW RX8 24 8 4 := ⟨RX8, TX8, 9, rfl, by decide, rfl, tb_1 320 (by decide +kernel), uw_8⟩
set_option maxRecDepth 100000 in
theorem TX8_firstLeft_31 {E : EV} (hE : eOK layC E) {Φ : Int → PS → Prop} {K2 : Int → Int → PS → Prop} (x : CX) (hK2 : ∀ (x2 x3 : Int) (σ : PS), Rg x2 → Rg x3 → RS σ → K2 x2 x3 σ → RW layC E mi_X8_firstLeft Φ 2 [some (.ref (eA E 5)), some (.ref (eA E 1)), some (.int (iz x2)), some (.int (iz x3))] [] σ x) (x2 x3 : Int) (rx2 : Rg x2) (rx3 : Rg x3) (σ : PS) (hs : RS σ) (h : LX8_firstLeft_31 K2 x2 x3 σ Φ) : RW layC E mi_X8_firstLeft Φ 31 [some (.ref (eA E 5)), some (.ref (eA E 1)), some (.int (iz x2)), some (.int (iz x3))] [] σ x := by
  obtain ⟨o1, h⟩ := h
  refine r_iinc (lv' := [some (.ref (eA E 5)), some (.ref (eA E 1)), some (.int (iz x2)), some (.int (iz (x3 + 1)))]) (dc D_cX8_firstLeft_0 19 rfl) rfl rfl rfl ?_
  refine r_goto (tgt := 2) (dc D_cX8_firstLeft_0 20 rfl) (by decide) ?_
  exact hK2 _ _ _ rx2 o1 hs h
set_option maxRecDepth 100000 in
theorem TBX8_firstLeft_2 {E : EV} (hE : eOK layC E) {Φ : Int → PS → Prop} {K2 : Int → Int → PS → Prop} (x : CX) (hK2 : ∀ (x2 x3 : Int) (σ : PS), Rg x2 → Rg x3 → RS σ → K2 x2 x3 σ → RW layC E mi_X8_firstLeft Φ 2 [some (.ref (eA E 5)), some (.ref (eA E 1)), some (.int (iz x2)), some (.int (iz x3))] [] σ x) (x2 x3 : Int) (rx2 : Rg x2) (rx3 : Rg x3) (σ : PS) (hs : RS σ) (h : BX8_firstLeft_2 K2 x2 x3 σ Φ) : RW layC E mi_X8_firstLeft Φ 2 [some (.ref (eA E 5)), some (.ref (eA E 1)), some (.int (iz x2)), some (.int (iz x3))] [] σ x := by
  refine r_iloadn (dc D_cX8_firstLeft_0 2 rfl) rfl rfl ?_
  refine r_aloadn (dc D_cX8_firstLeft_0 3 rfl) rfl rfl ?_
  refine r_getI (dc D_cX8_firstLeft_0 4 rfl) fw_RX8_40 lC_1 rfl ?_
  refine r_icmp_ge (tgt := 37) (dc D_cX8_firstLeft_0 5 rfl) (by decide) rx3 (hs _ _) (fun c1 => ?_) (fun c1 => ?_)
  · have h := h.1 c1
    refine r_iconst (n := (-1)) (dc D_cX8_firstLeft_0 21 rfl) ?_
    exact r_iret (dc D_cX8_firstLeft_0 22 rfl) rfl (Rl rfl) h
  · have h := h.2 c1
    refine r_aloadn (dc D_cX8_firstLeft_0 6 rfl) rfl rfl ?_
    refine r_getR (dc D_cX8_firstLeft_0 7 rfl) fw_RX8_70 lC_1 rfl ?_
    refine r_iloadn (dc D_cX8_firstLeft_0 8 rfl) rfl rfl ?_
    obtain ⟨o2, h⟩ := h
    refine r_iald (N := 30) (dc D_cX8_firstLeft_0 9 rfl) lC_13 rfl rfl o2 ?_
    refine r_iloadn (dc D_cX8_firstLeft_0 10 rfl) rfl rfl ?_
    refine r_icmp_ne (tgt := 31) (dc D_cX8_firstLeft_0 11 rfl) (by decide) (hs _ _) rx2 (fun c3 => ?_) (fun c3 => ?_)
    · have h := h.1 c3
      exact TX8_firstLeft_31 hE x hK2 _ _ rx2 rx3 _ hs h
    · have h := h.2 c3
      refine r_aloadn (dc D_cX8_firstLeft_0 12 rfl) rfl rfl ?_
      refine r_getR (dc D_cX8_firstLeft_0 13 rfl) fw_RX8_24 lC_5 rfl ?_
      refine r_iloadn (dc D_cX8_firstLeft_0 14 rfl) rfl rfl ?_
      obtain ⟨o4, h⟩ := h
      refine r_iald (N := 30) (dc D_cX8_firstLeft_0 15 rfl) lC_44 rfl rfl o4 ?_
      refine r_if_le (tgt := 31) (dc D_cX8_firstLeft_0 16 rfl) (by decide) (hs _ _) (fun c5 => ?_) (fun c5 => ?_)
      · have h := h.1 c5
        exact TX8_firstLeft_31 hE x hK2 _ _ rx2 rx3 _ hs h
      · have h := h.2 c5
        refine r_iloadn (dc D_cX8_firstLeft_0 17 rfl) rfl rfl ?_
        exact r_iret (dc D_cX8_firstLeft_0 18 rfl) rfl rx3 h
theorem TX8_firstLeft_2 {E : EV} (hE : eOK layC E) {Φ : Int → PS → Prop} (x : CX) (n : Nat) : ∀ (x2 x3 : Int) (σ : PS), Rg x2 → Rg x3 → RS σ → LX8_firstLeft_2 n x2 x3 σ Φ → RW layC E mi_X8_firstLeft Φ 2 [some (.ref (eA E 5)), some (.ref (eA E 1)), some (.int (iz x2)), some (.int (iz x3))] [] σ x := by
  induction n with
  | zero => intro x2 x3 σ _ _ _ h; exact h.elim
  | succ n ih => intro x2 x3 σ rx2 rx3 hs h; exact TBX8_firstLeft_2 hE x ih x2 x3 rx2 rx3 σ hs h
set_option maxRecDepth 100000 in
theorem CX8_firstLeft {E : EV} (hE : eOK layC E) {Φ : Int → PS → Prop} (a2 : Int) (ra2 : Rg a2) (σ : PS) (hs : RS σ) (h : FX8_firstLeft a2 σ Φ) : CT layC E yX8_firstLeft mi_X8_firstLeft [.ref (eA E 5), .ref (eA E 1), .int (iz a2)] σ Φ := by
  refine ct_of (by decide +kernel) rfl hE rfl rfl hs (fun x => ?_)
  show RW layC E mi_X8_firstLeft Φ 0 [some (.ref (eA E 5)), some (.ref (eA E 1)), some (.int (iz a2)), none] [] σ x
  refine r_iconst (n := 0) (dc D_cX8_firstLeft_0 0 rfl) ?_
  refine r_istoren (lv' := [some (.ref (eA E 5)), some (.ref (eA E 1)), some (.int (iz a2)), some (.int (iz 0))]) (dc D_cX8_firstLeft_0 1 rfl) rfl rfl rfl ?_
  obtain ⟨n, h⟩ := h
  exact TX8_firstLeft_2 hE x n _ _ _ ra2 (Rl rfl) hs h
-- end of GateFlow$Strands.firstLeft
def mi_X8_takeStrand : MI := (cX8_takeStrand, RX8, 6, 4, none, 0)
def BX8_takeStrand_41 (K41 : Int → Int → Int → Int → Int → PS → Prop) (x1 x2 x3 x4 x5 : Int) (σ : PS) (Φ : Int → PS → Prop) : Prop :=
  ((x2 ≤ x5 →
    (0 ≤ σ 5 7 ∧ σ 5 7 < 30) ∧
    ∀ σ3 : PS, σ3 = up2 σ 40 (σ 5 7).toNat x4 →
    Rg (x2 - x1) ∧
    (0 ≤ σ3 5 7 ∧ σ3 5 7 < 30) ∧
    ∀ σ6 : PS, σ6 = up2 σ3 41 (σ3 5 7).toNat (x2 - x1) →
    (0 ≤ σ6 5 7 ∧ σ6 5 7 < 30) ∧
    ∀ σ8 : PS, σ8 = up2 σ6 42 (σ6 5 7).toNat x3 →
    Rg ((σ8 5 8) + x3) ∧
    ∀ σ10 : PS, σ10 = up2 σ8 5 8 ((σ8 5 8) + x3) →
    Φ 0 σ10) ∧
  (¬ x2 ≤ x5 →
    (0 ≤ x5 ∧ x5 < 12) ∧
    (0 ≤ σ 45 x5.toNat ∧ σ 45 x5.toNat < 30) ∧
    Rg ((σ 44 (σ 45 x5.toNat).toNat) - x4) ∧
    (0 ≤ σ 45 x5.toNat ∧ σ 45 x5.toNat < 30) ∧
    ∀ σ15 : PS, σ15 = up2 σ 44 (σ 45 x5.toNat).toNat ((σ 44 (σ 45 x5.toNat).toNat) - x4) →
    Rg ((σ15 5 7) * 12) ∧
    Rg (((σ15 5 7) * 12) + x5) ∧
    Rg ((((σ15 5 7) * 12) + x5) - x1) ∧
    (0 ≤ x5 ∧ x5 < 12) ∧
    (0 ≤ (((σ15 5 7) * 12) + x5) - x1 ∧ (((σ15 5 7) * 12) + x5) - x1 < 360) ∧
    ∀ σ21 : PS, σ21 = up2 σ15 43 ((((σ15 5 7) * 12) + x5) - x1).toNat (σ15 45 x5.toNat) →
    Rg (x5 + 1) ∧
    K41 x1 x2 x3 x4 (x5 + 1) σ21))
def LX8_takeStrand_41 : Nat → Int → Int → Int → Int → Int → PS → (Int → PS → Prop) → Prop
  | 0, _, _, _, _, _, _, _ => False
  | n + 1, x1, x2, x3, x4, x5, σ, Φ => BX8_takeStrand_41 (fun x1 x2 x3 x4 x5 σ => LX8_takeStrand_41 n x1 x2 x3 x4 x5 σ Φ) x1 x2 x3 x4 x5 σ Φ
def BX8_takeStrand_7 (K7 : Int → Int → Int → Int → Int → PS → Prop) (x1 x2 x3 x4 x5 : Int) (σ : PS) (Φ : Int → PS → Prop) : Prop :=
  ((x2 ≤ x5 →
    ∃ n, LX8_takeStrand_41 n x1 x2 x3 x4 x1 σ Φ) ∧
  (¬ x2 ≤ x5 →
    (0 ≤ x5 ∧ x5 < 12) ∧
    (0 ≤ σ 45 x5.toNat ∧ σ 45 x5.toNat < 30) ∧
    ∀ v4 : Int, v4 = min x4 (σ 44 (σ 45 x5.toNat).toNat) →
    Rg (x5 + 1) ∧
    K7 x1 x2 x3 v4 (x5 + 1) σ))
def LX8_takeStrand_7 : Nat → Int → Int → Int → Int → Int → PS → (Int → PS → Prop) → Prop
  | 0, _, _, _, _, _, _, _ => False
  | n + 1, x1, x2, x3, x4, x5, σ, Φ => BX8_takeStrand_7 (fun x1 x2 x3 x4 x5 σ => LX8_takeStrand_7 n x1 x2 x3 x4 x5 σ Φ) x1 x2 x3 x4 x5 σ Φ
def FX8_takeStrand (a1 a2 a3 : Int) (σ : PS) (Φ : Int → PS → Prop) : Prop :=
  ∃ n, LX8_takeStrand_7 n a1 a2 a3 1000000000 a1 σ Φ
theorem fw_RX8_27 : FW RX8 27 8 5 := ⟨RX8, TX8, 9, rfl, by decide, rfl, tb_1 321 (by decide +kernel), uw_8⟩
theorem fw_RX8_60 : FW RX8 60 3 1 := ⟨RX3, TX3, 9, rfl, by decide, rfl, tb_1 144 (by decide +kernel), uw_3⟩
theorem fw_RX8_63 : FW RX8 63 3 8 := ⟨RX3, TX3, 9, rfl, by decide, rfl, tb_1 186 (by decide +kernel), uw_3⟩
theorem fw_RX8_9 : FW RX8 9 8 0 := ⟨RX8, TX8, 9, rfl, by decide, rfl, tb_1 312 (by decide +kernel), uw_8⟩
theorem fw_RX8_15 : FW RX8 15 8 1 := ⟨RX8, TX8, 9, rfl, by decide, rfl, tb_1 314 (by decide +kernel), uw_8⟩
theorem fw_RX8_18 : FW RX8 18 8 2 := ⟨RX8, TX8, 9, rfl, by decide, rfl, tb_1 316 (by decide +kernel), uw_8⟩
theorem fw_RX8_37 : FW RX8 37 8 8 := ⟨RX8, TX8, 9, rfl, by decide, rfl, tb_1 325 (by decide +kernel), uw_8⟩
theorem fw_RX8_21 : FW RX8 21 8 3 := ⟨RX8, TX8, 9, rfl, by decide, rfl, tb_1 318 (by decide +kernel), uw_8⟩
theorem fp_8_8 : FP 8 8 .int := ⟨RX8, TX8, 9, tyX8, rfl, tyX8_ok, nmX8, rfl, by decide +kernel⟩
theorem mw_RX8_74 : MW RX8 74 Lib.Math.min.name Lib.Math.min.code := tb_r [845, 637, 111, 638] (by decide +kernel)
theorem kw_RX8_73 : Cond.constant RX8 73 (iz 1000000000) ∈ TB := tb_1 844 (by decide +kernel)
set_option maxRecDepth 100000 in
theorem TBX8_takeStrand_41 {E : EV} (hE : eOK layC E) {Φ : Int → PS → Prop} {K41 : Int → Int → Int → Int → Int → PS → Prop} (x : CX) (hK41 : ∀ (x1 x2 x3 x4 x5 : Int) (σ : PS), Rg x1 → Rg x2 → Rg x3 → Rg x4 → Rg x5 → RS σ → K41 x1 x2 x3 x4 x5 σ → RW layC E mi_X8_takeStrand Φ 41 [some (.ref (eA E 5)), some (.int (iz x1)), some (.int (iz x2)), some (.int (iz x3)), some (.int (iz x4)), some (.int (iz x5))] [] σ x) (x1 x2 x3 x4 x5 : Int) (rx1 : Rg x1) (rx2 : Rg x2) (rx3 : Rg x3) (rx4 : Rg x4) (rx5 : Rg x5) (σ : PS) (hs : RS σ) (h : BX8_takeStrand_41 K41 x1 x2 x3 x4 x5 σ Φ) : RW layC E mi_X8_takeStrand Φ 41 [some (.ref (eA E 5)), some (.int (iz x1)), some (.int (iz x2)), some (.int (iz x3)), some (.int (iz x4)), some (.int (iz x5))] [] σ x := by
  refine r_iload (dc D_cX8_takeStrand_0 21 rfl) rfl ?_
  refine r_iloadn (dc D_cX8_takeStrand_0 22 rfl) rfl rfl ?_
  refine r_icmp_ge (tgt := 94) (dc D_cX8_takeStrand_0 23 rfl) (by decide) rx5 rx2 (fun c1 => ?_) (fun c1 => ?_)
  · have h := h.1 c1
    refine r_aloadn (dc D_cX8_takeStrand_1 12 rfl) rfl rfl ?_
    refine r_getR (dc D_cX8_takeStrand_1 13 rfl) fw_RX8_9 lC_5 rfl ?_
    refine r_aloadn (dc D_cX8_takeStrand_1 14 rfl) rfl rfl ?_
    refine r_getI (dc D_cX8_takeStrand_1 15 rfl) fw_RX8_33 lC_5 rfl ?_
    refine r_iload (dc D_cX8_takeStrand_1 16 rfl) rfl ?_
    obtain ⟨o2, h⟩ := h
    refine r_iast (N := 30) (dc D_cX8_takeStrand_1 17 rfl) lC_40 rfl rfl o2 rx4 ?_
    refine r_sig (fun σ3 eσ3 => ?_)
    have h := h σ3 eσ3
    have hσ3 : RS σ3 := RS_eq eσ3 (RS.up hs rx4 _ _)
    refine r_aloadn (dc D_cX8_takeStrand_1 18 rfl) rfl rfl ?_
    refine r_getR (dc D_cX8_takeStrand_1 19 rfl) fw_RX8_15 lC_5 rfl ?_
    refine r_aloadn (dc D_cX8_takeStrand_1 20 rfl) rfl rfl ?_
    refine r_getI (dc D_cX8_takeStrand_1 21 rfl) fw_RX8_33 lC_5 rfl ?_
    refine r_iloadn (dc D_cX8_takeStrand_1 22 rfl) rfl rfl ?_
    refine r_iloadn (dc D_cX8_takeStrand_1 23 rfl) rfl rfl ?_
    refine r_isub (dc D_cX8_takeStrand_1 24 rfl) ?_
    obtain ⟨o4, h⟩ := h
    obtain ⟨o5, h⟩ := h
    refine r_iast (N := 30) (dc D_cX8_takeStrand_1 25 rfl) lC_41 rfl rfl o5 o4 ?_
    refine r_sig (fun σ6 eσ6 => ?_)
    have h := h σ6 eσ6
    have hσ6 : RS σ6 := RS_eq eσ6 (RS.up hσ3 o4 _ _)
    refine r_aloadn (dc D_cX8_takeStrand_1 26 rfl) rfl rfl ?_
    refine r_getR (dc D_cX8_takeStrand_1 27 rfl) fw_RX8_18 lC_5 rfl ?_
    refine r_aloadn (dc D_cX8_takeStrand_1 28 rfl) rfl rfl ?_
    refine r_getI (dc D_cX8_takeStrand_1 29 rfl) fw_RX8_33 lC_5 rfl ?_
    refine r_iloadn (dc D_cX8_takeStrand_1 30 rfl) rfl rfl ?_
    obtain ⟨o7, h⟩ := h
    refine r_iast (N := 30) (dc D_cX8_takeStrand_1 31 rfl) lC_42 rfl rfl o7 rx3 ?_
    refine r_sig (fun σ8 eσ8 => ?_)
    have h := h σ8 eσ8
    have hσ8 : RS σ8 := RS_eq eσ8 (RS.up hσ6 rx3 _ _)
    refine r_aloadn (dc D_cX8_takeStrand_1 32 rfl) rfl rfl ?_
    refine r_dup (dc D_cX8_takeStrand_1 33 rfl) rfl ?_
    refine r_getI (dc D_cX8_takeStrand_1 34 rfl) fw_RX8_37 lC_5 rfl ?_
    refine r_iloadn (dc D_cX8_takeStrand_1 35 rfl) rfl rfl ?_
    refine r_iadd (dc D_cX8_takeStrand_1 36 rfl) ?_
    obtain ⟨o9, h⟩ := h
    refine r_put (dc D_cX8_takeStrand_1 37 rfl) fw_RX8_37 fp_8_8 lC_5 rfl (nar_int _) o9 ?_
    refine r_sig (fun σ10 eσ10 => ?_)
    have h := h σ10 eσ10
    have hσ10 : RS σ10 := RS_eq eσ10 (RS.up hσ8 o9 _ _)
    exact r_vret (dc D_cX8_takeStrand_1 38 rfl) rfl h
  · have h := h.2 c1
    refine r_aloadn (dc D_cX8_takeStrand_0 24 rfl) rfl rfl ?_
    refine r_getR (dc D_cX8_takeStrand_0 25 rfl) fw_RX8_24 lC_5 rfl ?_
    refine r_aloadn (dc D_cX8_takeStrand_0 26 rfl) rfl rfl ?_
    refine r_getR (dc D_cX8_takeStrand_0 27 rfl) fw_RX8_27 lC_5 rfl ?_
    refine r_iload (dc D_cX8_takeStrand_0 28 rfl) rfl ?_
    obtain ⟨o11, h⟩ := h
    refine r_iald (N := 12) (dc D_cX8_takeStrand_0 29 rfl) lC_45 rfl rfl o11 ?_
    refine r_dup2 (dc D_cX8_takeStrand_0 30 rfl) rfl rfl ?_
    obtain ⟨o12, h⟩ := h
    refine r_iald (N := 30) (dc D_cX8_takeStrand_0 31 rfl) lC_44 rfl rfl o12 ?_
    refine r_iload (dc D_cX8_takeStrand_0 32 rfl) rfl ?_
    refine r_isub (dc D_cX8_takeStrand_0 33 rfl) ?_
    obtain ⟨o13, h⟩ := h
    obtain ⟨o14, h⟩ := h
    refine r_iast (N := 30) (dc D_cX8_takeStrand_0 34 rfl) lC_44 rfl rfl o14 o13 ?_
    refine r_sig (fun σ15 eσ15 => ?_)
    have h := h σ15 eσ15
    have hσ15 : RS σ15 := RS_eq eσ15 (RS.up hs o13 _ _)
    refine r_aloadn (dc D_cX8_takeStrand_0 35 rfl) rfl rfl ?_
    refine r_getR (dc D_cX8_takeStrand_0 36 rfl) fw_RX8_21 lC_5 rfl ?_
    refine r_aloadn (dc D_cX8_takeStrand_0 37 rfl) rfl rfl ?_
    refine r_getI (dc D_cX8_takeStrand_0 38 rfl) fw_RX8_33 lC_5 rfl ?_
    refine r_bipush (n := 12) (dc D_cX8_takeStrand_0 39 rfl) (by decide +kernel) ?_
    refine r_imul (dc D_cX8_takeStrand_1 0 rfl) ?_
    obtain ⟨o16, h⟩ := h
    refine r_iload (dc D_cX8_takeStrand_1 1 rfl) rfl ?_
    refine r_iadd (dc D_cX8_takeStrand_1 2 rfl) ?_
    obtain ⟨o17, h⟩ := h
    refine r_iloadn (dc D_cX8_takeStrand_1 3 rfl) rfl rfl ?_
    refine r_isub (dc D_cX8_takeStrand_1 4 rfl) ?_
    obtain ⟨o18, h⟩ := h
    refine r_aloadn (dc D_cX8_takeStrand_1 5 rfl) rfl rfl ?_
    refine r_getR (dc D_cX8_takeStrand_1 6 rfl) fw_RX8_27 lC_5 rfl ?_
    refine r_iload (dc D_cX8_takeStrand_1 7 rfl) rfl ?_
    obtain ⟨o19, h⟩ := h
    refine r_iald (N := 12) (dc D_cX8_takeStrand_1 8 rfl) lC_45 rfl rfl o19 ?_
    obtain ⟨o20, h⟩ := h
    refine r_iast (N := 360) (dc D_cX8_takeStrand_1 9 rfl) lC_43 rfl rfl o20 (hσ15 _ _) ?_
    refine r_sig (fun σ21 eσ21 => ?_)
    have h := h σ21 eσ21
    have hσ21 : RS σ21 := RS_eq eσ21 (RS.up hσ15 (hσ15 _ _) _ _)
    obtain ⟨o22, h⟩ := h
    refine r_iinc (lv' := [some (.ref (eA E 5)), some (.int (iz x1)), some (.int (iz x2)), some (.int (iz x3)), some (.int (iz x4)), some (.int (iz (x5 + 1)))]) (dc D_cX8_takeStrand_1 10 rfl) rfl rfl rfl ?_
    refine r_goto (tgt := 41) (dc D_cX8_takeStrand_1 11 rfl) (by decide) ?_
    exact hK41 _ _ _ _ _ _ rx1 rx2 rx3 rx4 o22 hσ21 h
theorem TX8_takeStrand_41 {E : EV} (hE : eOK layC E) {Φ : Int → PS → Prop} (x : CX) (n : Nat) : ∀ (x1 x2 x3 x4 x5 : Int) (σ : PS), Rg x1 → Rg x2 → Rg x3 → Rg x4 → Rg x5 → RS σ → LX8_takeStrand_41 n x1 x2 x3 x4 x5 σ Φ → RW layC E mi_X8_takeStrand Φ 41 [some (.ref (eA E 5)), some (.int (iz x1)), some (.int (iz x2)), some (.int (iz x3)), some (.int (iz x4)), some (.int (iz x5))] [] σ x := by
  induction n with
  | zero => intro x1 x2 x3 x4 x5 σ _ _ _ _ _ _ h; exact h.elim
  | succ n ih => intro x1 x2 x3 x4 x5 σ rx1 rx2 rx3 rx4 rx5 hs h; exact TBX8_takeStrand_41 hE x ih x1 x2 x3 x4 x5 rx1 rx2 rx3 rx4 rx5 σ hs h
set_option maxRecDepth 100000 in
theorem TBX8_takeStrand_7 {E : EV} (hE : eOK layC E) {Φ : Int → PS → Prop} {K7 : Int → Int → Int → Int → Int → PS → Prop} (x : CX) (hK7 : ∀ (x1 x2 x3 x4 x5 : Int) (σ : PS), Rg x1 → Rg x2 → Rg x3 → Rg x4 → Rg x5 → RS σ → K7 x1 x2 x3 x4 x5 σ → RW layC E mi_X8_takeStrand Φ 7 [some (.ref (eA E 5)), some (.int (iz x1)), some (.int (iz x2)), some (.int (iz x3)), some (.int (iz x4)), some (.int (iz x5))] [] σ x) (x1 x2 x3 x4 x5 : Int) (rx1 : Rg x1) (rx2 : Rg x2) (rx3 : Rg x3) (rx4 : Rg x4) (rx5 : Rg x5) (σ : PS) (hs : RS σ) (h : BX8_takeStrand_7 K7 x1 x2 x3 x4 x5 σ Φ) : RW layC E mi_X8_takeStrand Φ 7 [some (.ref (eA E 5)), some (.int (iz x1)), some (.int (iz x2)), some (.int (iz x3)), some (.int (iz x4)), some (.int (iz x5))] [] σ x := by
  refine r_iload (dc D_cX8_takeStrand_0 4 rfl) rfl ?_
  refine r_iloadn (dc D_cX8_takeStrand_0 5 rfl) rfl rfl ?_
  refine r_icmp_ge (tgt := 38) (dc D_cX8_takeStrand_0 6 rfl) (by decide) rx5 rx2 (fun c1 => ?_) (fun c1 => ?_)
  · have h := h.1 c1
    refine r_iloadn (dc D_cX8_takeStrand_0 19 rfl) rfl rfl ?_
    refine r_istore (lv' := [some (.ref (eA E 5)), some (.int (iz x1)), some (.int (iz x2)), some (.int (iz x3)), some (.int (iz x4)), some (.int (iz x1))]) (dc D_cX8_takeStrand_0 20 rfl) rfl rfl ?_
    obtain ⟨n, h⟩ := h
    exact TX8_takeStrand_41 hE x n _ _ _ _ _ _ rx1 rx2 rx3 rx4 rx1 hs h
  · have h := h.2 c1
    refine r_iload (dc D_cX8_takeStrand_0 7 rfl) rfl ?_
    refine r_aloadn (dc D_cX8_takeStrand_0 8 rfl) rfl rfl ?_
    refine r_getR (dc D_cX8_takeStrand_0 9 rfl) fw_RX8_24 lC_5 rfl ?_
    refine r_aloadn (dc D_cX8_takeStrand_0 10 rfl) rfl rfl ?_
    refine r_getR (dc D_cX8_takeStrand_0 11 rfl) fw_RX8_27 lC_5 rfl ?_
    refine r_iload (dc D_cX8_takeStrand_0 12 rfl) rfl ?_
    obtain ⟨o2, h⟩ := h
    refine r_iald (N := 12) (dc D_cX8_takeStrand_0 13 rfl) lC_45 rfl rfl o2 ?_
    obtain ⟨o3, h⟩ := h
    refine r_iald (N := 30) (dc D_cX8_takeStrand_0 14 rfl) lC_44 rfl rfl o3 ?_
    refine r_min (dc D_cX8_takeStrand_0 15 rfl) mw_RX8_74 rx4 (hs _ _) (by decide) rfl ?_
    refine r_name (fun v4 ev4 => ?_)
    have h := h v4 ev4
    have rv4 : Rg v4 := Rg_eq ev4 (Rg_min rx4 (hs _ _))
    refine r_istore (lv' := [some (.ref (eA E 5)), some (.int (iz x1)), some (.int (iz x2)), some (.int (iz x3)), some (.int (iz v4)), some (.int (iz x5))]) (dc D_cX8_takeStrand_0 16 rfl) rfl rfl ?_
    obtain ⟨o5, h⟩ := h
    refine r_iinc (lv' := [some (.ref (eA E 5)), some (.int (iz x1)), some (.int (iz x2)), some (.int (iz x3)), some (.int (iz v4)), some (.int (iz (x5 + 1)))]) (dc D_cX8_takeStrand_0 17 rfl) rfl rfl rfl ?_
    refine r_goto (tgt := 7) (dc D_cX8_takeStrand_0 18 rfl) (by decide) ?_
    exact hK7 _ _ _ _ _ _ rx1 rx2 rx3 rv4 o5 hs h
theorem TX8_takeStrand_7 {E : EV} (hE : eOK layC E) {Φ : Int → PS → Prop} (x : CX) (n : Nat) : ∀ (x1 x2 x3 x4 x5 : Int) (σ : PS), Rg x1 → Rg x2 → Rg x3 → Rg x4 → Rg x5 → RS σ → LX8_takeStrand_7 n x1 x2 x3 x4 x5 σ Φ → RW layC E mi_X8_takeStrand Φ 7 [some (.ref (eA E 5)), some (.int (iz x1)), some (.int (iz x2)), some (.int (iz x3)), some (.int (iz x4)), some (.int (iz x5))] [] σ x := by
  induction n with
  | zero => intro x1 x2 x3 x4 x5 σ _ _ _ _ _ _ h; exact h.elim
  | succ n ih => intro x1 x2 x3 x4 x5 σ rx1 rx2 rx3 rx4 rx5 hs h; exact TBX8_takeStrand_7 hE x ih x1 x2 x3 x4 x5 rx1 rx2 rx3 rx4 rx5 σ hs h
set_option maxRecDepth 100000 in
theorem CX8_takeStrand {E : EV} (hE : eOK layC E) {Φ : Int → PS → Prop} (a1 a2 a3 : Int) (ra1 : Rg a1) (ra2 : Rg a2) (ra3 : Rg a3) (σ : PS) (hs : RS σ) (h : FX8_takeStrand a1 a2 a3 σ Φ) : CT layC E yX8_takeStrand mi_X8_takeStrand [.ref (eA E 5), .int (iz a1), .int (iz a2), .int (iz a3)] σ Φ := by
  refine ct_of (by decide +kernel) rfl hE rfl rfl hs (fun x => ?_)
  show RW layC E mi_X8_takeStrand Φ 0 [some (.ref (eA E 5)), some (.int (iz a1)), some (.int (iz a2)), some (.int (iz a3)), none, none] [] σ x
  refine r_ldc (n := (1000000000)) (dc D_cX8_takeStrand_0 0 rfl) kw_RX8_73 ?_
  refine r_istore (lv' := [some (.ref (eA E 5)), some (.int (iz a1)), some (.int (iz a2)), some (.int (iz a3)), some (.int (iz 1000000000)), none]) (dc D_cX8_takeStrand_0 1 rfl) rfl rfl ?_
  refine r_iloadn (dc D_cX8_takeStrand_0 2 rfl) rfl rfl ?_
  refine r_istore (lv' := [some (.ref (eA E 5)), some (.int (iz a1)), some (.int (iz a2)), some (.int (iz a3)), some (.int (iz 1000000000)), some (.int (iz a1))]) (dc D_cX8_takeStrand_0 3 rfl) rfl rfl ?_
  obtain ⟨n, h⟩ := h
  exact TX8_takeStrand_7 hE x n _ _ _ _ _ _ ra1 ra2 ra3 (Rl rfl) ra1 hs h
-- end of GateFlow$Strands.takeStrand
def mi_X8_walk : MI := (cX8_walk, RX8, 5, 5, (some .boolean), 1)
def BX8_walk_15 (K15 : Int → Int → PS → Prop) (x2 x3 : Int) (σ : PS) (Φ : Int → PS → Prop) : Prop :=
  ((12 ≤ x3 →
    Φ 0 σ) ∧
  (¬ 12 ≤ x3 →
    FX8_firstLeft x2 σ (fun z2 σ3 =>
    ((0 ≤ z2 →
      (0 ≤ x2 ∧ x2 < 12) ∧
      ∀ σ6 : PS, σ6 = up2 σ3 46 x2.toNat x3 →
      (0 ≤ x3 ∧ x3 < 12) ∧
      ∀ σ8 : PS, σ8 = up2 σ6 45 x3.toNat z2 →
      (0 ≤ z2 ∧ z2 < 30) ∧
      ∀ v10 : Int, v10 = σ8 14 z2.toNat →
      ((¬ v10 = σ8 1 8 →
        (0 ≤ v10 ∧ v10 < 12) ∧
        ((σ8 46 v10.toNat < 0 →
          Rg (x3 + 1) ∧
          K15 v10 (x3 + 1) σ8) ∧
        (¬ σ8 46 v10.toNat < 0 →
          (0 ≤ v10 ∧ v10 < 12) ∧
          Rg (x3 + 1) ∧
          FX8_takeStrand (σ8 46 v10.toNat) (x3 + 1) 1 σ8 (fun z17 σ18 =>
          Φ 1 σ18)))) ∧
      (v10 = σ8 1 8 →
        Rg (x3 + 1) ∧
        FX8_takeStrand 0 (x3 + 1) 0 σ8 (fun z20 σ21 =>
        Φ 1 σ21)))) ∧
    (¬ 0 ≤ z2 →
      Φ 0 σ3)))))
def LX8_walk_15 : Nat → Int → Int → PS → (Int → PS → Prop) → Prop
  | 0, _, _, _, _ => False
  | n + 1, x2, x3, σ, Φ => BX8_walk_15 (fun x2 x3 σ => LX8_walk_15 n x2 x3 σ Φ) x2 x3 σ Φ
def FX8_walk (σ : PS) (Φ : Int → PS → Prop) : Prop :=
  ∀ σ1 : PS, σ1 = fl2 σ 46 0 12 (-1) →
  ∀ v2 : Int, v2 = σ1 1 7 →
  ∃ n, LX8_walk_15 n v2 0 σ1 Φ
theorem cw_RX8_56 : CWV RX8 56 yX8_firstLeft mi_X8_firstLeft := tb_r [836, 838, 25, 101, 839] (by decide +kernel)
theorem nm_yX8_firstLeft : ynm yX8_firstLeft 2 := ⟨⟨by decide +kernel, by decide +kernel⟩, by decide +kernel⟩
theorem cw_RX8_66 : CWV RX8 66 yX8_takeStrand mi_X8_takeStrand := tb_r [840, 842, 26, 101, 843] (by decide +kernel)
theorem nm_yX8_takeStrand : ynm yX8_takeStrand 3 := ⟨⟨by decide +kernel, by decide +kernel⟩, by decide +kernel⟩
theorem cw_RX8_47 : CWS RX8 47 yJ7_fill_53178 mi_fill := tb_r [835, 488, 109, 489] (by decide +kernel)
set_option maxRecDepth 100000 in
theorem TBX8_walk_15 {E : EV} (hE : eOK layC E) {Φ : Int → PS → Prop} {K15 : Int → Int → PS → Prop} (x : CX) (hK15 : ∀ (x2 x3 : Int) (σ : PS), Rg x2 → Rg x3 → RS σ → K15 x2 x3 σ → RW layC E mi_X8_walk Φ 15 [some (.ref (eA E 5)), some (.ref (eA E 1)), some (.int (iz x2)), some (.int (iz x3)), none] [] σ x) (x2 x3 : Int) (rx2 : Rg x2) (rx3 : Rg x3) (σ : PS) (hs : RS σ) (h : BX8_walk_15 K15 x2 x3 σ Φ) : RW layC E mi_X8_walk Φ 15 [some (.ref (eA E 5)), some (.ref (eA E 1)), some (.int (iz x2)), some (.int (iz x3)), none] [] σ x := by
  refine r_iloadn (dc D_cX8_walk_0 9 rfl) rfl rfl ?_
  refine r_bipush (n := 12) (dc D_cX8_walk_0 10 rfl) (by decide +kernel) ?_
  refine r_icmp_ge (tgt := 110) (dc D_cX8_walk_0 11 rfl) (by decide) rx3 (Rl rfl) (fun c1 => ?_) (fun c1 => ?_)
  · have h := h.1 c1
    refine r_iconst (n := 0) (dc D_cX8_walk_1 27 rfl) ?_
    exact r_zret (dc D_cX8_walk_1 28 rfl) rfl (by decide) h
  · have h := h.2 c1
    refine r_aloadn (dc D_cX8_walk_0 12 rfl) rfl rfl ?_
    refine r_aloadn (dc D_cX8_walk_0 13 rfl) rfl rfl ?_
    refine r_iloadn (dc D_cX8_walk_0 14 rfl) rfl rfl ?_
    refine r_callV (As := [.ref (eA E 1), .int (iz x2)]) (st := []) (dc D_cX8_walk_0 15 rfl) cw_RX8_56 nm_yX8_firstLeft (CX8_firstLeft hE _ rx2 _ hs h) lC_5 rfl rfl (by decide) rfl rfl rfl (fun z2 σ3 rz2 hσ3 h => ?_)
    show RW layC E mi_X8_walk Φ 27 [some (.ref (eA E 5)), some (.ref (eA E 1)), some (.int (iz x2)), some (.int (iz x3)), none] [.int (iz z2)] σ3 x
    refine r_istore (lv' := [some (.ref (eA E 5)), some (.ref (eA E 1)), some (.int (iz x2)), some (.int (iz x3)), some (.int (iz z2))]) (dc D_cX8_walk_0 16 rfl) rfl rfl ?_
    refine r_iload (dc D_cX8_walk_0 17 rfl) rfl ?_
    refine r_if_ge (tgt := 37) (dc D_cX8_walk_0 18 rfl) (by decide) rz2 (fun c4 => ?_) (fun c4 => ?_)
    · have h := h.1 c4
      refine r_aloadn (dc D_cX8_walk_0 20 rfl) rfl rfl ?_
      refine r_getR (dc D_cX8_walk_0 21 rfl) fw_RX8_30 lC_5 rfl ?_
      refine r_iloadn (dc D_cX8_walk_0 22 rfl) rfl rfl ?_
      refine r_iloadn (dc D_cX8_walk_0 23 rfl) rfl rfl ?_
      obtain ⟨o5, h⟩ := h
      refine r_iast (N := 12) (dc D_cX8_walk_0 24 rfl) lC_46 rfl rfl o5 rx3 ?_
      refine r_sig (fun σ6 eσ6 => ?_)
      have h := h σ6 eσ6
      have hσ6 : RS σ6 := RS_eq eσ6 (RS.up hσ3 rx3 _ _)
      refine r_aloadn (dc D_cX8_walk_0 25 rfl) rfl rfl ?_
      refine r_getR (dc D_cX8_walk_0 26 rfl) fw_RX8_27 lC_5 rfl ?_
      refine r_iloadn (dc D_cX8_walk_0 27 rfl) rfl rfl ?_
      refine r_iload (dc D_cX8_walk_0 28 rfl) rfl ?_
      obtain ⟨o7, h⟩ := h
      refine r_iast (N := 12) (dc D_cX8_walk_0 29 rfl) lC_45 rfl rfl o7 rz2 ?_
      refine r_sig (fun σ8 eσ8 => ?_)
      have h := h σ8 eσ8
      have hσ8 : RS σ8 := RS_eq eσ8 (RS.up hσ6 rz2 _ _)
      refine r_aloadn (dc D_cX8_walk_0 30 rfl) rfl rfl ?_
      refine r_getR (dc D_cX8_walk_0 31 rfl) fw_RX8_60 lC_1 rfl ?_
      refine r_iload (dc D_cX8_walk_0 32 rfl) rfl ?_
      obtain ⟨o9, h⟩ := h
      refine r_iald (N := 30) (dc D_cX8_walk_0 33 rfl) lC_14 rfl rfl o9 ?_
      refine r_name (fun v10 ev10 => ?_)
      have h := h v10 ev10
      have rv10 : Rg v10 := Rg_eq ev10 (hσ8 _ _)
      refine r_istoren (lv' := [some (.ref (eA E 5)), some (.ref (eA E 1)), some (.int (iz v10)), some (.int (iz x3)), some (.int (iz z2))]) (dc D_cX8_walk_0 34 rfl) rfl rfl rfl ?_
      refine r_iloadn (dc D_cX8_walk_0 35 rfl) rfl rfl ?_
      refine r_aloadn (dc D_cX8_walk_0 36 rfl) rfl rfl ?_
      refine r_getI (dc D_cX8_walk_0 37 rfl) fw_RX8_63 lC_1 rfl ?_
      refine r_icmp_ne (tgt := 79) (dc D_cX8_walk_0 38 rfl) (by decide) rv10 (hσ8 _ _) (fun c11 => ?_) (fun c11 => ?_)
      · have h := h.1 c11
        refine r_aloadn (dc D_cX8_walk_1 8 rfl) rfl rfl ?_
        refine r_getR (dc D_cX8_walk_1 9 rfl) fw_RX8_30 lC_5 rfl ?_
        refine r_iloadn (dc D_cX8_walk_1 10 rfl) rfl rfl ?_
        obtain ⟨o12, h⟩ := h
        refine r_iald (N := 12) (dc D_cX8_walk_1 11 rfl) lC_46 rfl rfl o12 ?_
        refine r_if_lt (tgt := 104) (dc D_cX8_walk_1 12 rfl) (by decide) (hσ8 _ _) (fun c13 => ?_) (fun c13 => ?_)
        · have h := h.1 c13
          obtain ⟨o14, h⟩ := h
          refine r_iinc (lv' := [some (.ref (eA E 5)), some (.ref (eA E 1)), some (.int (iz v10)), some (.int (iz (x3 + 1))), some (.int (iz z2))]) (dc D_cX8_walk_1 25 rfl) rfl rfl rfl ?_
          refine r_goto (tgt := 15) (dc D_cX8_walk_1 26 rfl) (by decide) ?_
          refine r_sub (lv' := [some (.ref (eA E 5)), some (.ref (eA E 1)), some (.int (iz v10)), some (.int (iz (x3 + 1))), none]) (subL_s (subL_s (subL_s (subL_s (subL_n subL_e))))) ?_
          exact hK15 _ _ _ rv10 o14 hσ8 h
        · have h := h.2 c13
          refine r_aloadn (dc D_cX8_walk_1 13 rfl) rfl rfl ?_
          refine r_aloadn (dc D_cX8_walk_1 14 rfl) rfl rfl ?_
          refine r_getR (dc D_cX8_walk_1 15 rfl) fw_RX8_30 lC_5 rfl ?_
          refine r_iloadn (dc D_cX8_walk_1 16 rfl) rfl rfl ?_
          obtain ⟨o15, h⟩ := h
          refine r_iald (N := 12) (dc D_cX8_walk_1 17 rfl) lC_46 rfl rfl o15 ?_
          refine r_iloadn (dc D_cX8_walk_1 18 rfl) rfl rfl ?_
          refine r_iconst (n := 1) (dc D_cX8_walk_1 19 rfl) ?_
          refine r_iadd (dc D_cX8_walk_1 20 rfl) ?_
          obtain ⟨o16, h⟩ := h
          refine r_iconst (n := 1) (dc D_cX8_walk_1 21 rfl) ?_
          refine r_callV (As := [.int (iz (σ8 46 v10.toNat)), .int (iz (x3 + 1)), .int (iz 1)]) (st := []) (dc D_cX8_walk_1 22 rfl) cw_RX8_66 nm_yX8_takeStrand (CX8_takeStrand hE _ _ _ (hσ8 _ _) o16 (Rl rfl) _ hσ8 h) lC_5 rfl rfl (by decide) rfl rfl rfl (fun z17 σ18 rz17 hσ18 h => ?_)
          show RW layC E mi_X8_walk Φ 102 [some (.ref (eA E 5)), some (.ref (eA E 1)), some (.int (iz v10)), some (.int (iz x3)), some (.int (iz z2))] [] σ18 x
          refine r_iconst (n := 1) (dc D_cX8_walk_1 23 rfl) ?_
          exact r_zret (dc D_cX8_walk_1 24 rfl) rfl (by decide) h
      · have h := h.2 c11
        refine r_aloadn (dc D_cX8_walk_0 39 rfl) rfl rfl ?_
        refine r_iconst (n := 0) (dc D_cX8_walk_1 0 rfl) ?_
        refine r_iloadn (dc D_cX8_walk_1 1 rfl) rfl rfl ?_
        refine r_iconst (n := 1) (dc D_cX8_walk_1 2 rfl) ?_
        refine r_iadd (dc D_cX8_walk_1 3 rfl) ?_
        obtain ⟨o19, h⟩ := h
        refine r_iconst (n := 0) (dc D_cX8_walk_1 4 rfl) ?_
        refine r_callV (As := [.int (iz 0), .int (iz (x3 + 1)), .int (iz 0)]) (st := []) (dc D_cX8_walk_1 5 rfl) cw_RX8_66 nm_yX8_takeStrand (CX8_takeStrand hE _ _ _ (Rl rfl) o19 (Rl rfl) _ hσ8 h) lC_5 rfl rfl (by decide) rfl rfl rfl (fun z20 σ21 rz20 hσ21 h => ?_)
        show RW layC E mi_X8_walk Φ 77 [some (.ref (eA E 5)), some (.ref (eA E 1)), some (.int (iz v10)), some (.int (iz x3)), some (.int (iz z2))] [] σ21 x
        refine r_iconst (n := 1) (dc D_cX8_walk_1 6 rfl) ?_
        exact r_zret (dc D_cX8_walk_1 7 rfl) rfl (by decide) h
    · have h := h.2 c4
      refine r_goto (tgt := 110) (dc D_cX8_walk_0 19 rfl) (by decide) ?_
      refine r_iconst (n := 0) (dc D_cX8_walk_1 27 rfl) ?_
      exact r_zret (dc D_cX8_walk_1 28 rfl) rfl (by decide) h
theorem TX8_walk_15 {E : EV} (hE : eOK layC E) {Φ : Int → PS → Prop} (x : CX) (n : Nat) : ∀ (x2 x3 : Int) (σ : PS), Rg x2 → Rg x3 → RS σ → LX8_walk_15 n x2 x3 σ Φ → RW layC E mi_X8_walk Φ 15 [some (.ref (eA E 5)), some (.ref (eA E 1)), some (.int (iz x2)), some (.int (iz x3)), none] [] σ x := by
  induction n with
  | zero => intro x2 x3 σ _ _ _ h; exact h.elim
  | succ n ih => intro x2 x3 σ rx2 rx3 hs h; exact TBX8_walk_15 hE x ih x2 x3 rx2 rx3 σ hs h
set_option maxRecDepth 100000 in
theorem CX8_walk {E : EV} (hE : eOK layC E) {Φ : Int → PS → Prop} (σ : PS) (hs : RS σ) (h : FX8_walk σ Φ) : CT layC E yX8_walk mi_X8_walk [.ref (eA E 5), .ref (eA E 1)] σ Φ := by
  refine ct_of (by decide +kernel) rfl hE rfl rfl hs (fun x => ?_)
  show RW layC E mi_X8_walk Φ 0 [some (.ref (eA E 5)), some (.ref (eA E 1)), none, none, none] [] σ x
  refine r_aloadn (dc D_cX8_walk_0 0 rfl) rfl rfl ?_
  refine r_getR (dc D_cX8_walk_0 1 rfl) fw_RX8_30 lC_5 rfl ?_
  refine r_iconst (n := (-1)) (dc D_cX8_walk_0 2 rfl) ?_
  refine r_fill (n := 12) (dc D_cX8_walk_0 3 rfl) cw_RX8_47 lC_46 rfl (Rl rfl) (by decide) rfl ?_
  refine r_sig (fun σ1 eσ1 => ?_)
  have h := h σ1 eσ1
  have hσ1 : RS σ1 := RS_eq eσ1 (RS.fl hs (Rl rfl))
  refine r_aloadn (dc D_cX8_walk_0 4 rfl) rfl rfl ?_
  refine r_getI (dc D_cX8_walk_0 5 rfl) fw_RX8_53 lC_1 rfl ?_
  refine r_name (fun v2 ev2 => ?_)
  have h := h v2 ev2
  have rv2 : Rg v2 := Rg_eq ev2 (hσ1 _ _)
  refine r_istoren (lv' := [some (.ref (eA E 5)), some (.ref (eA E 1)), some (.int (iz v2)), none, none]) (dc D_cX8_walk_0 6 rfl) rfl rfl rfl ?_
  refine r_iconst (n := 0) (dc D_cX8_walk_0 7 rfl) ?_
  refine r_istoren (lv' := [some (.ref (eA E 5)), some (.ref (eA E 1)), some (.int (iz v2)), some (.int (iz 0)), none]) (dc D_cX8_walk_0 8 rfl) rfl rfl rfl ?_
  obtain ⟨n, h⟩ := h
  exact TX8_walk_15 hE x n _ _ _ rv2 (Rl rfl) hσ1 h
-- end of GateFlow$Strands.walk
def mi_X8_run : MI := (cX8_run, RX8, 4, 6, none, 0)
def BX8_run_51 (K51 : PS → Prop) (σ : PS) (Φ : Int → PS → Prop) : Prop :=
  ((30 ≤ σ 5 7 →
    Φ 0 σ) ∧
  (¬ 30 ≤ σ 5 7 →
    FX8_walk σ (fun z2 σ3 =>
    ((z2 = 0 →
      Φ 0 σ3) ∧
    (¬ z2 = 0 →
      Rg ((σ3 5 7) + 1) ∧
      ∀ σ6 : PS, σ6 = up2 σ3 5 7 ((σ3 5 7) + 1) →
      K51 σ6)))))
def LX8_run_51 : Nat → PS → (Int → PS → Prop) → Prop
  | 0, _, _ => False
  | n + 1, σ, Φ => BX8_run_51 (fun σ => LX8_run_51 n σ Φ) σ Φ
def LX8_run_44 (K12 : Int → PS → Prop) (x3 s1 s2 : Int) (σ : PS) (Φ : Int → PS → Prop) : Prop :=
  (0 ≤ s1 ∧ s1 < 30) ∧
  ∀ σ2 : PS, σ2 = up2 σ 44 s1.toNat s2 →
  Rg (x3 + 1) ∧
  K12 (x3 + 1) σ2
def LX8_run_43 (K12 : Int → PS → Prop) (x3 s1 : Int) (σ : PS) (Φ : Int → PS → Prop) : Prop :=
  LX8_run_44 K12 x3 s1 0 σ Φ
def BX8_run_12 (K12 : Int → PS → Prop) (x3 : Int) (σ : PS) (Φ : Int → PS → Prop) : Prop :=
  ((30 ≤ x3 →
    ∃ n, LX8_run_51 n σ Φ) ∧
  (¬ 30 ≤ x3 →
    ((σ 1 6 ≤ x3 →
      LX8_run_43 K12 x3 x3 σ Φ) ∧
    (¬ σ 1 6 ≤ x3 →
      ((30 ≤ x3 →
        LX8_run_43 K12 x3 x3 σ Φ) ∧
      (¬ 30 ≤ x3 →
        (0 ≤ x3 ∧ x3 < 30) ∧
        LX8_run_44 K12 x3 x3 (σ 25 x3.toNat) σ Φ))))))
def LX8_run_12 : Nat → Int → PS → (Int → PS → Prop) → Prop
  | 0, _, _, _ => False
  | n + 1, x3, σ, Φ => BX8_run_12 (fun x3 σ => LX8_run_12 n x3 σ Φ) x3 σ Φ
def FX8_run (σ : PS) (Φ : Int → PS → Prop) : Prop :=
  ∀ σ1 : PS, σ1 = up2 σ 5 7 0 →
  ∀ σ2 : PS, σ2 = up2 σ1 5 8 0 →
  ∃ n, LX8_run_12 n 0 σ2 Φ
theorem cw_RX8_43 : CWV RX8 43 yX8_walk mi_X8_walk := tb_r [831, 833, 24, 101, 834] (by decide +kernel)
theorem nm_yX8_walk : ynm yX8_walk 1 := ⟨⟨by decide +kernel, by decide +kernel⟩, by decide +kernel⟩
theorem fp_8_7 : FP 8 7 .int := ⟨RX8, TX8, 9, tyX8, rfl, tyX8_ok, nmX8, rfl, by decide +kernel⟩
set_option maxRecDepth 100000 in
theorem TBX8_run_51 {E : EV} (hE : eOK layC E) {Φ : Int → PS → Prop} {K51 : PS → Prop} (x : CX) (hK51 : ∀ (σ : PS), RS σ → K51 σ → RW layC E mi_X8_run Φ 51 [some (.ref (eA E 5)), some (.ref (eA E 1)), none, none] [] σ x) (σ : PS) (hs : RS σ) (h : BX8_run_51 K51 σ Φ) : RW layC E mi_X8_run Φ 51 [some (.ref (eA E 5)), some (.ref (eA E 1)), none, none] [] σ x := by
  refine r_aloadn (dc D_cX8_run_0 30 rfl) rfl rfl ?_
  refine r_getI (dc D_cX8_run_0 31 rfl) fw_RX8_33 lC_5 rfl ?_
  refine r_bipush (n := 30) (dc D_cX8_run_0 32 rfl) (by decide +kernel) ?_
  refine r_icmp_ge (tgt := 81) (dc D_cX8_run_0 33 rfl) (by decide) (hs _ _) (Rl rfl) (fun c1 => ?_) (fun c1 => ?_)
  · have h := h.1 c1
    exact r_vret (dc D_cX8_run_1 5 rfl) rfl h
  · have h := h.2 c1
    refine r_aloadn (dc D_cX8_run_0 34 rfl) rfl rfl ?_
    refine r_aloadn (dc D_cX8_run_0 35 rfl) rfl rfl ?_
    refine r_callV (As := [.ref (eA E 1)]) (st := []) (dc D_cX8_run_0 36 rfl) cw_RX8_43 nm_yX8_walk (CX8_walk hE  _ hs h) lC_5 rfl rfl (by decide) rfl rfl rfl (fun z2 σ3 rz2 hσ3 h => ?_)
    show RW layC E mi_X8_run Φ 65 [some (.ref (eA E 5)), some (.ref (eA E 1)), none, none] [.int (iz z2)] σ3 x
    refine r_if_eq (tgt := 81) (dc D_cX8_run_0 37 rfl) (by decide) rz2 (fun c4 => ?_) (fun c4 => ?_)
    · have h := h.1 c4
      exact r_vret (dc D_cX8_run_1 5 rfl) rfl h
    · have h := h.2 c4
      refine r_aloadn (dc D_cX8_run_0 38 rfl) rfl rfl ?_
      refine r_dup (dc D_cX8_run_0 39 rfl) rfl ?_
      refine r_getI (dc D_cX8_run_1 0 rfl) fw_RX8_33 lC_5 rfl ?_
      refine r_iconst (n := 1) (dc D_cX8_run_1 1 rfl) ?_
      refine r_iadd (dc D_cX8_run_1 2 rfl) ?_
      obtain ⟨o5, h⟩ := h
      refine r_put (dc D_cX8_run_1 3 rfl) fw_RX8_33 fp_8_7 lC_5 rfl (nar_int _) o5 ?_
      refine r_sig (fun σ6 eσ6 => ?_)
      have h := h σ6 eσ6
      have hσ6 : RS σ6 := RS_eq eσ6 (RS.up hσ3 o5 _ _)
      refine r_goto (tgt := 51) (dc D_cX8_run_1 4 rfl) (by decide) ?_
      exact hK51 _  hσ6 h
theorem TX8_run_51 {E : EV} (hE : eOK layC E) {Φ : Int → PS → Prop} (x : CX) (n : Nat) : ∀ (σ : PS), RS σ → LX8_run_51 n σ Φ → RW layC E mi_X8_run Φ 51 [some (.ref (eA E 5)), some (.ref (eA E 1)), none, none] [] σ x := by
  induction n with
  | zero => intro σ _ h; exact h.elim
  | succ n ih => intro σ hs h; exact TBX8_run_51 hE x ih σ hs h
set_option maxRecDepth 100000 in
theorem TX8_run_44 {E : EV} (hE : eOK layC E) {Φ : Int → PS → Prop} {K12 : Int → PS → Prop} (x : CX) (hK12 : ∀ (x3 : Int) (σ : PS), Rg x3 → RS σ → K12 x3 σ → RW layC E mi_X8_run Φ 12 [some (.ref (eA E 5)), some (.ref (eA E 1)), some (.ref (eA E 25)), some (.int (iz x3))] [] σ x) (x3 s1 s2 : Int) (rx3 : Rg x3) (rs1 : Rg s1) (rs2 : Rg s2) (σ : PS) (hs : RS σ) (h : LX8_run_44 K12 x3 s1 s2 σ Φ) : RW layC E mi_X8_run Φ 44 [some (.ref (eA E 5)), some (.ref (eA E 1)), some (.ref (eA E 25)), some (.int (iz x3))] [.int (iz s2), .int (iz s1), .ref (eA E 44)] σ x := by
  obtain ⟨o1, h⟩ := h
  refine r_iast (N := 30) (dc D_cX8_run_0 27 rfl) lC_44 rfl rfl o1 rs2 ?_
  refine r_sig (fun σ2 eσ2 => ?_)
  have h := h σ2 eσ2
  have hσ2 : RS σ2 := RS_eq eσ2 (RS.up hs rs2 _ _)
  obtain ⟨o3, h⟩ := h
  refine r_iinc (lv' := [some (.ref (eA E 5)), some (.ref (eA E 1)), some (.ref (eA E 25)), some (.int (iz (x3 + 1)))]) (dc D_cX8_run_0 28 rfl) rfl rfl rfl ?_
  refine r_goto (tgt := 12) (dc D_cX8_run_0 29 rfl) (by decide) ?_
  exact hK12 _ _ o3 hσ2 h
set_option maxRecDepth 100000 in
theorem TX8_run_43 {E : EV} (hE : eOK layC E) {Φ : Int → PS → Prop} {K12 : Int → PS → Prop} (x : CX) (hK12 : ∀ (x3 : Int) (σ : PS), Rg x3 → RS σ → K12 x3 σ → RW layC E mi_X8_run Φ 12 [some (.ref (eA E 5)), some (.ref (eA E 1)), some (.ref (eA E 25)), some (.int (iz x3))] [] σ x) (x3 s1 : Int) (rx3 : Rg x3) (rs1 : Rg s1) (σ : PS) (hs : RS σ) (h : LX8_run_43 K12 x3 s1 σ Φ) : RW layC E mi_X8_run Φ 43 [some (.ref (eA E 5)), some (.ref (eA E 1)), some (.ref (eA E 25)), some (.int (iz x3))] [.int (iz s1), .ref (eA E 44)] σ x := by
  refine r_iconst (n := 0) (dc D_cX8_run_0 26 rfl) ?_
  exact TX8_run_44 hE x hK12 _ _ _ rx3 rs1 (Rl rfl) _ hs h
set_option maxRecDepth 100000 in
theorem TBX8_run_12 {E : EV} (hE : eOK layC E) {Φ : Int → PS → Prop} {K12 : Int → PS → Prop} (x : CX) (hK12 : ∀ (x3 : Int) (σ : PS), Rg x3 → RS σ → K12 x3 σ → RW layC E mi_X8_run Φ 12 [some (.ref (eA E 5)), some (.ref (eA E 1)), some (.ref (eA E 25)), some (.int (iz x3))] [] σ x) (x3 : Int) (rx3 : Rg x3) (σ : PS) (hs : RS σ) (h : BX8_run_12 K12 x3 σ Φ) : RW layC E mi_X8_run Φ 12 [some (.ref (eA E 5)), some (.ref (eA E 1)), some (.ref (eA E 25)), some (.int (iz x3))] [] σ x := by
  refine r_iloadn (dc D_cX8_run_0 8 rfl) rfl rfl ?_
  refine r_bipush (n := 30) (dc D_cX8_run_0 9 rfl) (by decide +kernel) ?_
  refine r_icmp_ge (tgt := 51) (dc D_cX8_run_0 10 rfl) (by decide) rx3 (Rl rfl) (fun c1 => ?_) (fun c1 => ?_)
  · have h := h.1 c1
    refine r_sub (lv' := [some (.ref (eA E 5)), some (.ref (eA E 1)), none, none]) (subL_s (subL_s (subL_n (subL_n subL_e)))) ?_
    obtain ⟨n, h⟩ := h
    exact TX8_run_51 hE x n _  hs h
  · have h := h.2 c1
    refine r_aloadn (dc D_cX8_run_0 11 rfl) rfl rfl ?_
    refine r_getR (dc D_cX8_run_0 12 rfl) fw_RX8_24 lC_5 rfl ?_
    refine r_iloadn (dc D_cX8_run_0 13 rfl) rfl rfl ?_
    refine r_iloadn (dc D_cX8_run_0 14 rfl) rfl rfl ?_
    refine r_aloadn (dc D_cX8_run_0 15 rfl) rfl rfl ?_
    refine r_getI (dc D_cX8_run_0 16 rfl) fw_RX8_40 lC_1 rfl ?_
    refine r_icmp_ge (tgt := 43) (dc D_cX8_run_0 17 rfl) (by decide) rx3 (hs _ _) (fun c2 => ?_) (fun c2 => ?_)
    · have h := h.1 c2
      exact TX8_run_43 hE x hK12 _ _ rx3 rx3 _ hs h
    · have h := h.2 c2
      refine r_iloadn (dc D_cX8_run_0 18 rfl) rfl rfl ?_
      refine r_aloadn (dc D_cX8_run_0 19 rfl) rfl rfl ?_
      refine r_alen (N := 30) (dc D_cX8_run_0 20 rfl) lC_25 rfl rfl ?_
      refine r_icmp_ge (tgt := 43) (dc D_cX8_run_0 21 rfl) (by decide) rx3 (Rl rfl) (fun c3 => ?_) (fun c3 => ?_)
      · have h := h.1 c3
        exact TX8_run_43 hE x hK12 _ _ rx3 rx3 _ hs h
      · have h := h.2 c3
        refine r_aloadn (dc D_cX8_run_0 22 rfl) rfl rfl ?_
        refine r_iloadn (dc D_cX8_run_0 23 rfl) rfl rfl ?_
        obtain ⟨o4, h⟩ := h
        refine r_iald (N := 30) (dc D_cX8_run_0 24 rfl) lC_25 rfl rfl o4 ?_
        refine r_goto (tgt := 44) (dc D_cX8_run_0 25 rfl) (by decide) ?_
        exact TX8_run_44 hE x hK12 _ _ _ rx3 rx3 (hs _ _) _ hs h
theorem TX8_run_12 {E : EV} (hE : eOK layC E) {Φ : Int → PS → Prop} (x : CX) (n : Nat) : ∀ (x3 : Int) (σ : PS), Rg x3 → RS σ → LX8_run_12 n x3 σ Φ → RW layC E mi_X8_run Φ 12 [some (.ref (eA E 5)), some (.ref (eA E 1)), some (.ref (eA E 25)), some (.int (iz x3))] [] σ x := by
  induction n with
  | zero => intro x3 σ _ _ h; exact h.elim
  | succ n ih => intro x3 σ rx3 hs h; exact TBX8_run_12 hE x ih x3 rx3 σ hs h
set_option maxRecDepth 100000 in
theorem CX8_run {E : EV} (hE : eOK layC E) {Φ : Int → PS → Prop} (σ : PS) (hs : RS σ) (h : FX8_run σ Φ) : CT layC E yX8_run mi_X8_run [.ref (eA E 5), .ref (eA E 1), .ref (eA E 25)] σ Φ := by
  refine ct_of (by decide +kernel) rfl hE rfl rfl hs (fun x => ?_)
  show RW layC E mi_X8_run Φ 0 [some (.ref (eA E 5)), some (.ref (eA E 1)), some (.ref (eA E 25)), none] [] σ x
  refine r_aloadn (dc D_cX8_run_0 0 rfl) rfl rfl ?_
  refine r_iconst (n := 0) (dc D_cX8_run_0 1 rfl) ?_
  refine r_put (dc D_cX8_run_0 2 rfl) fw_RX8_33 fp_8_7 lC_5 rfl (nar_int _) (Rl rfl) ?_
  refine r_sig (fun σ1 eσ1 => ?_)
  have h := h σ1 eσ1
  have hσ1 : RS σ1 := RS_eq eσ1 (RS.up hs (Rl rfl) _ _)
  refine r_aloadn (dc D_cX8_run_0 3 rfl) rfl rfl ?_
  refine r_iconst (n := 0) (dc D_cX8_run_0 4 rfl) ?_
  refine r_put (dc D_cX8_run_0 5 rfl) fw_RX8_37 fp_8_8 lC_5 rfl (nar_int _) (Rl rfl) ?_
  refine r_sig (fun σ2 eσ2 => ?_)
  have h := h σ2 eσ2
  have hσ2 : RS σ2 := RS_eq eσ2 (RS.up hσ1 (Rl rfl) _ _)
  refine r_iconst (n := 0) (dc D_cX8_run_0 6 rfl) ?_
  refine r_istoren (lv' := [some (.ref (eA E 5)), some (.ref (eA E 1)), some (.ref (eA E 25)), some (.int (iz 0))]) (dc D_cX8_run_0 7 rfl) rfl rfl rfl ?_
  obtain ⟨n, h⟩ := h
  exact TX8_run_12 hE x n _ _ (Rl rfl) hσ2 h
-- end of GateFlow$Strands.run
