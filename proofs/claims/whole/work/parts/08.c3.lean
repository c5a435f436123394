def mi_X11_freshStrands : MI := (cX11_freshStrands, RX11, 1, 7, (some (.object "GateFlow$Strands")), 2)
def FX11_freshStrands (σ : PS) (Φ : Int → PS → Prop) : Prop :=
  ((¬ σ 0 8 = 0 →
    Φ 5 σ) ∧
  (σ 0 8 = 0 →
    FX11_freshWays σ (fun z2 σ3 => z2 = 3 ∧ (FX8_run σ3 (fun z4 σ5 =>
    ∀ σ6 : PS, σ6 = up2 σ5 0 8 1 →
    Φ 5 σ6)))))
theorem cw_RX11_346 : CWV RX11 346 yX8_run mi_X8_run := tb_r [827, 828, 829, 101, 830] (by decide +kernel)
theorem nm_yX8_run : ynm yX8_run 2 := ⟨⟨by decide +kernel, by decide +kernel⟩, by decide +kernel⟩
set_option maxRecDepth 100000 in
theorem CX11_freshStrands {E : EV} (hE : eOK layC E) {Φ : Int → PS → Prop} (σ : PS) (hs : RS σ) (h : FX11_freshStrands σ Φ) : CT layC E yX11_freshStrands mi_X11_freshStrands [.ref (eA E 0)] σ Φ := by
  refine ct_of (by decide +kernel) rfl hE rfl rfl hs (fun x => ?_)
  show RW layC E mi_X11_freshStrands Φ 0 [some (.ref (eA E 0))] [] σ x
  refine r_aloadn (dc D_cX11_freshStrands_0 0 rfl) rfl rfl ?_
  refine r_getI (dc D_cX11_freshStrands_0 1 rfl) fw_RX11_336 lC_0 rfl ?_
  refine r_if_ne (tgt := 30) (dc D_cX11_freshStrands_0 2 rfl) (by decide) (hs _ _) (fun c1 => ?_) (fun c1 => ?_)
  · have h := h.1 c1
    refine r_aloadn (dc D_cX11_freshStrands_0 14 rfl) rfl rfl ?_
    refine r_getR (dc D_cX11_freshStrands_0 15 rfl) fw_RX11_36 lC_0 rfl ?_
    exact r_aret (z := 5) (dc D_cX11_freshStrands_0 16 rfl) rfl rfl (Rl rfl) h
  · have h := h.2 c1
    refine r_aloadn (dc D_cX11_freshStrands_0 3 rfl) rfl rfl ?_
    refine r_getR (dc D_cX11_freshStrands_0 4 rfl) fw_RX11_36 lC_0 rfl ?_
    refine r_aloadn (dc D_cX11_freshStrands_0 5 rfl) rfl rfl ?_
    refine r_getR (dc D_cX11_freshStrands_0 6 rfl) fw_RX11_12 lC_0 rfl ?_
    refine r_aloadn (dc D_cX11_freshStrands_0 7 rfl) rfl rfl ?_
    refine r_callV (As := []) (st := [.ref (eA E 1), .ref (eA E 5)]) (dc D_cX11_freshStrands_0 8 rfl) cw_RX11_134 nm_yX11_freshWays (CX11_freshWays hE  _ hs h) lC_0 rfl rfl (by decide) rfl rfl rfl (fun z2 σ3 rz2 hσ3 h => ?_)
    obtain ⟨rfl, h⟩ := h
    show RW layC E mi_X11_freshStrands Φ 19 [some (.ref (eA E 0))] [.ref (eA E 3), .ref (eA E 1), .ref (eA E 5)] σ3 x
    refine r_getR (dc D_cX11_freshStrands_0 9 rfl) fw_RX11_141 lC_3 rfl ?_
    refine r_callV (As := [.ref (eA E 1), .ref (eA E 25)]) (st := []) (dc D_cX11_freshStrands_0 10 rfl) cw_RX11_346 nm_yX8_run (CX8_run hE  _ hσ3 h) lC_5 rfl rfl (by decide) rfl rfl rfl (fun z4 σ5 rz4 hσ5 h => ?_)
    show RW layC E mi_X11_freshStrands Φ 25 [some (.ref (eA E 0))] [] σ5 x
    refine r_aloadn (dc D_cX11_freshStrands_0 11 rfl) rfl rfl ?_
    refine r_iconst (n := 1) (dc D_cX11_freshStrands_0 12 rfl) ?_
    refine r_put (dc D_cX11_freshStrands_0 13 rfl) fw_RX11_336 fp_11_8 lC_0 rfl (nar_bool (by decide)) (Rl rfl) ?_
    refine r_sig (fun σ6 eσ6 => ?_)
    have h := h σ6 eσ6
    have hσ6 : RS σ6 := RS_eq eσ6 (RS.up hσ5 (Rl rfl) _ _)
    refine r_aloadn (dc D_cX11_freshStrands_0 14 rfl) rfl rfl ?_
    refine r_getR (dc D_cX11_freshStrands_0 15 rfl) fw_RX11_36 lC_0 rfl ?_
    exact r_aret (z := 5) (dc D_cX11_freshStrands_0 16 rfl) rfl rfl (Rl rfl) h
-- end of GateFlow.freshStrands
def mi_X11_lines : MI := (cX11_lines, RX11, 4, 8, (some .int), 1)
def FX11_lines (a1 a2 : Int) (σ : PS) (Φ : Int → PS → Prop) : Prop :=
  FX11_freshStrands σ (fun z1 σ2 => z1 = 5 ∧ (((¬ a1 = (-1) →
    ((a1 < 0 →
      Φ (-1) σ2) ∧
    (¬ a1 < 0 →
      ((a1 < σ2 5 7 →
        (a2 = 0 →
          (0 ≤ a1 ∧ a1 < 30) ∧
          Φ (σ2 40 a1.toNat) σ2) ∧
        (a2 = 1 →
          (0 ≤ a1 ∧ a1 < 30) ∧
          Φ (σ2 41 a1.toNat) σ2) ∧
        (a2 = 2 →
          (0 ≤ a1 ∧ a1 < 30) ∧
          Φ (σ2 42 a1.toNat) σ2) ∧
        ((a2 < 0 ∨ 2 < a2) →
          ((a2 < 10 →
            Φ (-1) σ2) ∧
          (¬ a2 < 10 →
            Rg (a2 - 10) ∧
            (0 ≤ a1 ∧ a1 < 30) ∧
            ((σ2 41 a1.toNat ≤ a2 - 10 →
              Φ (-1) σ2) ∧
            (¬ σ2 41 a1.toNat ≤ a2 - 10 →
              Rg (a1 * 12) ∧
              Rg ((a1 * 12) + a2) ∧
              Rg (((a1 * 12) + a2) - 10) ∧
              (0 ≤ ((a1 * 12) + a2) - 10 ∧ ((a1 * 12) + a2) - 10 < 360) ∧
              Φ (σ2 43 (((a1 * 12) + a2) - 10).toNat) σ2)))))) ∧
      (¬ a1 < σ2 5 7 →
        Φ (-1) σ2))))) ∧
  (a1 = (-1) →
    Φ (σ2 5 7) σ2))))
theorem fw_RX11_217 : FW RX11 217 8 7 := ⟨RX8, TX8, 9, rfl, by decide, rfl, tb_1 324 (by decide +kernel), uw_8⟩
theorem fw_RX11_218 : FW RX11 218 8 0 := ⟨RX8, TX8, 9, rfl, by decide, rfl, tb_1 313 (by decide +kernel), uw_8⟩
theorem fw_RX11_219 : FW RX11 219 8 1 := ⟨RX8, TX8, 9, rfl, by decide, rfl, tb_1 315 (by decide +kernel), uw_8⟩
theorem fw_RX11_223 : FW RX11 223 8 3 := ⟨RX8, TX8, 9, rfl, by decide, rfl, tb_1 319 (by decide +kernel), uw_8⟩
theorem fw_RX11_220 : FW RX11 220 8 2 := ⟨RX8, TX8, 9, rfl, by decide, rfl, tb_1 317 (by decide +kernel), uw_8⟩
theorem cw_RX11_213 : CWV RX11 213 yX11_freshStrands mi_X11_freshStrands := tb_r [823, 825, 23, 97, 826] (by decide +kernel)
theorem nm_yX11_freshStrands : ynm yX11_freshStrands 0 := ⟨⟨by decide +kernel, by decide +kernel⟩, by decide +kernel⟩
set_option maxRecDepth 100000 in
theorem CX11_lines {E : EV} (hE : eOK layC E) {Φ : Int → PS → Prop} (a1 a2 : Int) (ra1 : Rg a1) (ra2 : Rg a2) (σ : PS) (hs : RS σ) (h : FX11_lines a1 a2 σ Φ) : CT layC E yX11_lines mi_X11_lines [.ref (eA E 0), .int (iz a1), .int (iz a2)] σ Φ := by
  refine ct_of (by decide +kernel) rfl hE rfl rfl hs (fun x => ?_)
  show RW layC E mi_X11_lines Φ 0 [some (.ref (eA E 0)), some (.int (iz a1)), some (.int (iz a2)), none] [] σ x
  refine r_aloadn (dc D_cX11_lines_0 0 rfl) rfl rfl ?_
  refine r_callV (As := []) (st := []) (dc D_cX11_lines_0 1 rfl) cw_RX11_213 nm_yX11_freshStrands (CX11_freshStrands hE  _ hs h) lC_0 rfl rfl (by decide) rfl rfl rfl (fun z1 σ2 rz1 hσ2 h => ?_)
  obtain ⟨rfl, h⟩ := h
  show RW layC E mi_X11_lines Φ 4 [some (.ref (eA E 0)), some (.int (iz a1)), some (.int (iz a2)), none] [.ref (eA E 5)] σ2 x
  refine r_astoren (lv' := [some (.ref (eA E 0)), some (.int (iz a1)), some (.int (iz a2)), some (.ref (eA E 5))]) (dc D_cX11_lines_0 2 rfl) rfl rfl rfl ?_
  refine r_iloadn (dc D_cX11_lines_0 3 rfl) rfl rfl ?_
  refine r_iconst (n := (-1)) (dc D_cX11_lines_0 4 rfl) ?_
  refine r_icmp_ne (tgt := 15) (dc D_cX11_lines_0 5 rfl) (by decide) ra1 (Rl rfl) (fun c3 => ?_) (fun c3 => ?_)
  · have h := h.1 c3
    refine r_iloadn (dc D_cX11_lines_0 9 rfl) rfl rfl ?_
    refine r_if_lt (tgt := 27) (dc D_cX11_lines_0 10 rfl) (by decide) ra1 (fun c4 => ?_) (fun c4 => ?_)
    · have h := h.1 c4
      refine r_iconst (n := (-1)) (dc D_cX11_lines_0 15 rfl) ?_
      exact r_iret (dc D_cX11_lines_0 16 rfl) rfl (Rl rfl) h
    · have h := h.2 c4
      refine r_iloadn (dc D_cX11_lines_0 11 rfl) rfl rfl ?_
      refine r_aloadn (dc D_cX11_lines_0 12 rfl) rfl rfl ?_
      refine r_getI (dc D_cX11_lines_0 13 rfl) fw_RX11_217 lC_5 rfl ?_
      refine r_icmp_lt (tgt := 29) (dc D_cX11_lines_0 14 rfl) (by decide) ra1 (hσ2 _ _) (fun c5 => ?_) (fun c5 => ?_)
      · have h := h.1 c5
        refine r_iloadn (dc D_cX11_lines_0 17 rfl) rfl rfl ?_
        refine r_by (c := a2 = 0) (fun c7 => ?_) (fun nc7 => ?_)
        · refine r_swIn (tgt := 56) (off := 26) (v := 0) (dc D_cX11_lines_0 18 rfl) c7 (by decide) (by decide) ?_
          have h := h.1 c7
          refine r_aloadn (dc D_cX11_lines_0 19 rfl) rfl rfl ?_
          refine r_getR (dc D_cX11_lines_0 20 rfl) fw_RX11_218 lC_5 rfl ?_
          refine r_iloadn (dc D_cX11_lines_0 21 rfl) rfl rfl ?_
          obtain ⟨o6, h⟩ := h
          refine r_iald (N := 30) (dc D_cX11_lines_0 22 rfl) lC_40 rfl rfl o6 ?_
          exact r_iret (dc D_cX11_lines_0 23 rfl) rfl (hσ2 _ _) h
        replace h := h.2
        refine r_by (c := a2 = 1) (fun c9 => ?_) (fun nc9 => ?_)
        · refine r_swIn (tgt := 63) (off := 33) (v := 1) (dc D_cX11_lines_0 18 rfl) c9 (by decide) (by decide) ?_
          have h := h.1 c9
          refine r_aloadn (dc D_cX11_lines_0 24 rfl) rfl rfl ?_
          refine r_getR (dc D_cX11_lines_0 25 rfl) fw_RX11_219 lC_5 rfl ?_
          refine r_iloadn (dc D_cX11_lines_0 26 rfl) rfl rfl ?_
          obtain ⟨o8, h⟩ := h
          refine r_iald (N := 30) (dc D_cX11_lines_0 27 rfl) lC_41 rfl rfl o8 ?_
          exact r_iret (dc D_cX11_lines_0 28 rfl) rfl (hσ2 _ _) h
        replace h := h.2
        refine r_by (c := a2 = 2) (fun c11 => ?_) (fun nc11 => ?_)
        · refine r_swIn (tgt := 70) (off := 40) (v := 2) (dc D_cX11_lines_0 18 rfl) c11 (by decide) (by decide) ?_
          have h := h.1 c11
          refine r_aloadn (dc D_cX11_lines_0 29 rfl) rfl rfl ?_
          refine r_getR (dc D_cX11_lines_0 30 rfl) fw_RX11_220 lC_5 rfl ?_
          refine r_iloadn (dc D_cX11_lines_0 31 rfl) rfl rfl ?_
          obtain ⟨o10, h⟩ := h
          refine r_iald (N := 30) (dc D_cX11_lines_0 32 rfl) lC_42 rfl rfl o10 ?_
          exact r_iret (dc D_cX11_lines_0 33 rfl) rfl (hσ2 _ _) h
        replace h := h.2
        have c20 : a2 < 0 ∨ 2 < a2 := by omega
        have h := h c20
        refine r_swOut (tgt := 77) (dc D_cX11_lines_0 18 rfl) (by decide) ra2 c20 ?_
        refine r_iloadn (dc D_cX11_lines_0 34 rfl) rfl rfl ?_
        refine r_bipush (n := 10) (dc D_cX11_lines_0 35 rfl) (by decide +kernel) ?_
        refine r_icmp_lt (tgt := 113) (dc D_cX11_lines_0 36 rfl) (by decide) ra2 (Rl rfl) (fun c12 => ?_) (fun c12 => ?_)
        · have h := h.1 c12
          refine r_iconst (n := (-1)) (dc D_cX11_lines_1 16 rfl) ?_
          exact r_iret (dc D_cX11_lines_1 17 rfl) rfl (Rl rfl) h
        · have h := h.2 c12
          refine r_iloadn (dc D_cX11_lines_0 37 rfl) rfl rfl ?_
          refine r_bipush (n := 10) (dc D_cX11_lines_0 38 rfl) (by decide +kernel) ?_
          refine r_isub (dc D_cX11_lines_0 39 rfl) ?_
          obtain ⟨o13, h⟩ := h
          refine r_aloadn (dc D_cX11_lines_1 0 rfl) rfl rfl ?_
          refine r_getR (dc D_cX11_lines_1 1 rfl) fw_RX11_219 lC_5 rfl ?_
          refine r_iloadn (dc D_cX11_lines_1 2 rfl) rfl rfl ?_
          obtain ⟨o14, h⟩ := h
          refine r_iald (N := 30) (dc D_cX11_lines_1 3 rfl) lC_41 rfl rfl o14 ?_
          refine r_icmp_ge (tgt := 113) (dc D_cX11_lines_1 4 rfl) (by decide) o13 (hσ2 _ _) (fun c15 => ?_) (fun c15 => ?_)
          · have h := h.1 c15
            refine r_iconst (n := (-1)) (dc D_cX11_lines_1 16 rfl) ?_
            exact r_iret (dc D_cX11_lines_1 17 rfl) rfl (Rl rfl) h
          · have h := h.2 c15
            refine r_aloadn (dc D_cX11_lines_1 5 rfl) rfl rfl ?_
            refine r_getR (dc D_cX11_lines_1 6 rfl) fw_RX11_223 lC_5 rfl ?_
            refine r_iloadn (dc D_cX11_lines_1 7 rfl) rfl rfl ?_
            refine r_bipush (n := 12) (dc D_cX11_lines_1 8 rfl) (by decide +kernel) ?_
            refine r_imul (dc D_cX11_lines_1 9 rfl) ?_
            obtain ⟨o16, h⟩ := h
            refine r_iloadn (dc D_cX11_lines_1 10 rfl) rfl rfl ?_
            refine r_iadd (dc D_cX11_lines_1 11 rfl) ?_
            obtain ⟨o17, h⟩ := h
            refine r_bipush (n := 10) (dc D_cX11_lines_1 12 rfl) (by decide +kernel) ?_
            refine r_isub (dc D_cX11_lines_1 13 rfl) ?_
            obtain ⟨o18, h⟩ := h
            obtain ⟨o19, h⟩ := h
            refine r_iald (N := 360) (dc D_cX11_lines_1 14 rfl) lC_43 rfl rfl o19 ?_
            refine r_goto (tgt := 114) (dc D_cX11_lines_1 15 rfl) (by decide) ?_
            exact r_iret (dc D_cX11_lines_1 17 rfl) rfl (hσ2 _ _) h
      · have h := h.2 c5
        refine r_iconst (n := (-1)) (dc D_cX11_lines_0 15 rfl) ?_
        exact r_iret (dc D_cX11_lines_0 16 rfl) rfl (Rl rfl) h
  · have h := h.2 c3
    refine r_aloadn (dc D_cX11_lines_0 6 rfl) rfl rfl ?_
    refine r_getI (dc D_cX11_lines_0 7 rfl) fw_RX11_217 lC_5 rfl ?_
    exact r_iret (dc D_cX11_lines_0 8 rfl) rfl (hσ2 _ _) h
-- end of GateFlow.lines
def mi_X3_usableLeast : MI := (cX3_usableLeast, RX3, 2, 2, (some .int), 1)
def FX3_usableLeast (a1 : Int) (σ : PS) (Φ : Int → PS → Prop) : Prop :=
  FX3_has a1 σ (fun z1 σ2 =>
  ((z1 = 0 →
    Φ 0 σ2) ∧
  (¬ z1 = 0 →
    (0 ≤ a1 ∧ a1 < 30) ∧
    ((¬ σ2 18 a1.toNat = 1 →
      Φ 0 σ2) ∧
    (σ2 18 a1.toNat = 1 →
      (0 ≤ a1 ∧ a1 < 30) ∧
      Φ (σ2 15 a1.toNat) σ2)))))
theorem fw_RX5_18 : FW RX5 18 5 1 := ⟨RX5, TX5, 3, rfl, by decide, rfl, tb_1 390 (by decide +kernel), uw_5⟩
set_option maxRecDepth 100000 in
theorem CX3_usableLeast {E : EV} (hE : eOK layC E) {Φ : Int → PS → Prop} (a1 : Int) (ra1 : Rg a1) (σ : PS) (hs : RS σ) (h : FX3_usableLeast a1 σ Φ) : CT layC E yX3_usableLeast mi_X3_usableLeast [.ref (eA E 1), .int (iz a1)] σ Φ := by
  refine ct_of (by decide +kernel) rfl hE rfl rfl hs (fun x => ?_)
  show RW layC E mi_X3_usableLeast Φ 0 [some (.ref (eA E 1)), some (.int (iz a1))] [] σ x
  refine r_aloadn (dc D_cX3_usableLeast_0 0 rfl) rfl rfl ?_
  refine r_iloadn (dc D_cX3_usableLeast_0 1 rfl) rfl rfl ?_
  refine r_callV (As := [.int (iz a1)]) (st := []) (dc D_cX3_usableLeast_0 2 rfl) cw_RX3_46 nm_yX3_has (CX3_has hE _ ra1 _ hs h) lC_1 rfl rfl (by decide) rfl rfl rfl (fun z1 σ2 rz1 hσ2 h => ?_)
  show RW layC E mi_X3_usableLeast Φ 5 [some (.ref (eA E 1)), some (.int (iz a1))] [.int (iz z1)] σ2 x
  refine r_if_eq (tgt := 27) (dc D_cX3_usableLeast_0 3 rfl) (by decide) rz1 (fun c3 => ?_) (fun c3 => ?_)
  · have h := h.1 c3
    refine r_iconst (n := 0) (dc D_cX3_usableLeast_0 15 rfl) ?_
    exact r_iret (dc D_cX3_usableLeast_0 16 rfl) rfl (Rl rfl) h
  · have h := h.2 c3
    refine r_aloadn (dc D_cX3_usableLeast_0 4 rfl) rfl rfl ?_
    refine r_getR (dc D_cX3_usableLeast_0 5 rfl) fw_RX3_27 lC_1 rfl ?_
    refine r_iloadn (dc D_cX3_usableLeast_0 6 rfl) rfl rfl ?_
    obtain ⟨o4, h⟩ := h
    refine r_iald (N := 30) (dc D_cX3_usableLeast_0 7 rfl) lC_18 rfl rfl o4 ?_
    refine r_iconst (n := 1) (dc D_cX3_usableLeast_0 8 rfl) ?_
    refine r_icmp_ne (tgt := 27) (dc D_cX3_usableLeast_0 9 rfl) (by decide) (hσ2 _ _) (Rl rfl) (fun c5 => ?_) (fun c5 => ?_)
    · have h := h.1 c5
      refine r_iconst (n := 0) (dc D_cX3_usableLeast_0 15 rfl) ?_
      exact r_iret (dc D_cX3_usableLeast_0 16 rfl) rfl (Rl rfl) h
    · have h := h.2 c5
      refine r_aloadn (dc D_cX3_usableLeast_0 10 rfl) rfl rfl ?_
      refine r_getR (dc D_cX3_usableLeast_0 11 rfl) fw_RX3_18 lC_1 rfl ?_
      refine r_iloadn (dc D_cX3_usableLeast_0 12 rfl) rfl rfl ?_
      obtain ⟨o6, h⟩ := h
      refine r_iald (N := 30) (dc D_cX3_usableLeast_0 13 rfl) lC_15 rfl rfl o6 ?_
      refine r_goto (tgt := 28) (dc D_cX3_usableLeast_0 14 rfl) (by decide) ?_
      exact r_iret (dc D_cX3_usableLeast_0 16 rfl) rfl (hσ2 _ _) h
-- end of GateFlow$Gates.usableLeast
def mi_X5_joinAboveLeast : MI := (cX5_joinAboveLeast, RX5, 4, 4, none, 0)
def BX5_joinAboveLeast_10 (K10 : Int → PS → Prop) (x2 : Int) (σ : PS) (Φ : Int → PS → Prop) : Prop :=
  ((σ 1 6 ≤ x2 →
    Φ 0 σ) ∧
  (¬ σ 1 6 ≤ x2 →
    FX3_usableLeast x2 σ (fun z2 σ3 =>
    (0 ≤ x2 ∧ x2 < 30) ∧
    (0 ≤ x2 ∧ x2 < 30) ∧
    FX3_usable x2 σ3 (fun z6 σ7 =>
    Rg (z6 - z2) ∧
    FX6_join (σ3 13 x2.toNat) (σ3 14 x2.toNat) (z6 - z2) σ7 (fun z9 σ10 =>
    (0 ≤ x2 ∧ x2 < 30) ∧
    (0 ≤ σ10 14 x2.toNat ∧ σ10 14 x2.toNat < 12) ∧
    Rg ((σ10 47 (σ10 14 x2.toNat).toNat) + z2) ∧
    (0 ≤ σ10 14 x2.toNat ∧ σ10 14 x2.toNat < 12) ∧
    ∀ σ15 : PS, σ15 = up2 σ10 47 (σ10 14 x2.toNat).toNat ((σ10 47 (σ10 14 x2.toNat).toNat) + z2) →
    (0 ≤ x2 ∧ x2 < 30) ∧
    (0 ≤ σ15 13 x2.toNat ∧ σ15 13 x2.toNat < 12) ∧
    Rg ((σ15 47 (σ15 13 x2.toNat).toNat) - z2) ∧
    (0 ≤ σ15 13 x2.toNat ∧ σ15 13 x2.toNat < 12) ∧
    ∀ σ20 : PS, σ20 = up2 σ15 47 (σ15 13 x2.toNat).toNat ((σ15 47 (σ15 13 x2.toNat).toNat) - z2) →
    Rg (x2 + 1) ∧
    K10 (x2 + 1) σ20)))))
def LX5_joinAboveLeast_10 : Nat → Int → PS → (Int → PS → Prop) → Prop
  | 0, _, _, _ => False
  | n + 1, x2, σ, Φ => BX5_joinAboveLeast_10 (fun x2 σ => LX5_joinAboveLeast_10 n x2 σ Φ) x2 σ Φ
def FX5_joinAboveLeast (σ : PS) (Φ : Int → PS → Prop) : Prop :=
  ∀ σ1 : PS, σ1 = fl2 σ 47 0 12 0 →
  ∃ n, LX5_joinAboveLeast_10 n 0 σ1 Φ
theorem cw_RX5_82 : CWV RX5 82 yX3_usableLeast mi_X3_usableLeast := tb_r [859, 860, 861, 98, 862] (by decide +kernel)
theorem nm_yX3_usableLeast : ynm yX3_usableLeast 1 := ⟨⟨by decide +kernel, by decide +kernel⟩, by decide +kernel⟩
theorem cw_RX5_76 : CWS RX5 76 yJ7_fill_53178 mi_fill := tb_r [858, 488, 109, 489] (by decide +kernel)
set_option maxRecDepth 100000 in
theorem TBX5_joinAboveLeast_10 {E : EV} (hE : eOK layC E) {Φ : Int → PS → Prop} {K10 : Int → PS → Prop} (x : CX) (hK10 : ∀ (x2 : Int) (σ : PS), Rg x2 → RS σ → K10 x2 σ → RW layC E mi_X5_joinAboveLeast Φ 10 [some (.ref (eA E 7)), some (.ref (eA E 1)), some (.int (iz x2)), none] [] σ x) (x2 : Int) (rx2 : Rg x2) (σ : PS) (hs : RS σ) (h : BX5_joinAboveLeast_10 K10 x2 σ Φ) : RW layC E mi_X5_joinAboveLeast Φ 10 [some (.ref (eA E 7)), some (.ref (eA E 1)), some (.int (iz x2)), none] [] σ x := by
  refine r_iloadn (dc D_cX5_joinAboveLeast_0 6 rfl) rfl rfl ?_
  refine r_aloadn (dc D_cX5_joinAboveLeast_0 7 rfl) rfl rfl ?_
  refine r_getI (dc D_cX5_joinAboveLeast_0 8 rfl) fw_RX5_29 lC_1 rfl ?_
  refine r_icmp_ge (tgt := 87) (dc D_cX5_joinAboveLeast_0 9 rfl) (by decide) rx2 (hs _ _) (fun c1 => ?_) (fun c1 => ?_)
  · have h := h.1 c1
    exact r_vret (dc D_cX5_joinAboveLeast_1 15 rfl) rfl h
  · have h := h.2 c1
    refine r_aloadn (dc D_cX5_joinAboveLeast_0 10 rfl) rfl rfl ?_
    refine r_iloadn (dc D_cX5_joinAboveLeast_0 11 rfl) rfl rfl ?_
    refine r_callV (As := [.int (iz x2)]) (st := []) (dc D_cX5_joinAboveLeast_0 12 rfl) cw_RX5_82 nm_yX3_usableLeast (CX3_usableLeast hE _ rx2 _ hs h) lC_1 rfl rfl (by decide) rfl rfl rfl (fun z2 σ3 rz2 hσ3 h => ?_)
    show RW layC E mi_X5_joinAboveLeast Φ 23 [some (.ref (eA E 7)), some (.ref (eA E 1)), some (.int (iz x2)), none] [.int (iz z2)] σ3 x
    refine r_istoren (lv' := [some (.ref (eA E 7)), some (.ref (eA E 1)), some (.int (iz x2)), some (.int (iz z2))]) (dc D_cX5_joinAboveLeast_0 13 rfl) rfl rfl rfl ?_
    refine r_aloadn (dc D_cX5_joinAboveLeast_0 14 rfl) rfl rfl ?_
    refine r_getR (dc D_cX5_joinAboveLeast_0 15 rfl) fw_RX5_12 lC_7 rfl ?_
    refine r_aloadn (dc D_cX5_joinAboveLeast_0 16 rfl) rfl rfl ?_
    refine r_getR (dc D_cX5_joinAboveLeast_0 17 rfl) fw_RX5_43 lC_1 rfl ?_
    refine r_iloadn (dc D_cX5_joinAboveLeast_0 18 rfl) rfl rfl ?_
    obtain ⟨o4, h⟩ := h
    refine r_iald (N := 30) (dc D_cX5_joinAboveLeast_0 19 rfl) lC_13 rfl rfl o4 ?_
    refine r_aloadn (dc D_cX5_joinAboveLeast_0 20 rfl) rfl rfl ?_
    refine r_getR (dc D_cX5_joinAboveLeast_0 21 rfl) fw_RX5_46 lC_1 rfl ?_
    refine r_iloadn (dc D_cX5_joinAboveLeast_0 22 rfl) rfl rfl ?_
    obtain ⟨o5, h⟩ := h
    refine r_iald (N := 30) (dc D_cX5_joinAboveLeast_0 23 rfl) lC_14 rfl rfl o5 ?_
    refine r_aloadn (dc D_cX5_joinAboveLeast_0 24 rfl) rfl rfl ?_
    refine r_iloadn (dc D_cX5_joinAboveLeast_0 25 rfl) rfl rfl ?_
    refine r_callV (As := [.int (iz x2)]) (st := [.int (iz (σ3 14 x2.toNat)), .int (iz (σ3 13 x2.toNat)), .ref (eA E 8)]) (dc D_cX5_joinAboveLeast_0 26 rfl) cw_RX5_35 nm_yX3_usable (CX3_usable hE _ rx2 _ hσ3 h) lC_1 rfl rfl (by decide) rfl rfl rfl (fun z6 σ7 rz6 hσ7 h => ?_)
    show RW layC E mi_X5_joinAboveLeast Φ 45 [some (.ref (eA E 7)), some (.ref (eA E 1)), some (.int (iz x2)), some (.int (iz z2))] [.int (iz z6), .int (iz (σ3 14 x2.toNat)), .int (iz (σ3 13 x2.toNat)), .ref (eA E 8)] σ7 x
    refine r_iloadn (dc D_cX5_joinAboveLeast_0 27 rfl) rfl rfl ?_
    refine r_isub (dc D_cX5_joinAboveLeast_0 28 rfl) ?_
    obtain ⟨o8, h⟩ := h
    refine r_callV (As := [.int (iz (σ3 13 x2.toNat)), .int (iz (σ3 14 x2.toNat)), .int (iz (z6 - z2))]) (st := []) (dc D_cX5_joinAboveLeast_0 29 rfl) cw_RX5_49 nm_yX6_join (CX6_join hE _ _ _ (hσ3 _ _) (hσ3 _ _) o8 _ hσ7 h) lC_8 rfl rfl (by decide) rfl rfl rfl (fun z9 σ10 rz9 hσ10 h => ?_)
    show RW layC E mi_X5_joinAboveLeast Φ 50 [some (.ref (eA E 7)), some (.ref (eA E 1)), some (.int (iz x2)), some (.int (iz z2))] [.int (iz z9)] σ10 x
    refine r_pop (dc D_cX5_joinAboveLeast_0 30 rfl) rfl ?_
    refine r_aloadn (dc D_cX5_joinAboveLeast_0 31 rfl) rfl rfl ?_
    refine r_getR (dc D_cX5_joinAboveLeast_0 32 rfl) fw_RX5_18 lC_7 rfl ?_
    refine r_aloadn (dc D_cX5_joinAboveLeast_0 33 rfl) rfl rfl ?_
    refine r_getR (dc D_cX5_joinAboveLeast_0 34 rfl) fw_RX5_46 lC_1 rfl ?_
    refine r_iloadn (dc D_cX5_joinAboveLeast_0 35 rfl) rfl rfl ?_
    obtain ⟨o11, h⟩ := h
    refine r_iald (N := 30) (dc D_cX5_joinAboveLeast_0 36 rfl) lC_14 rfl rfl o11 ?_
    refine r_dup2 (dc D_cX5_joinAboveLeast_0 37 rfl) rfl rfl ?_
    obtain ⟨o12, h⟩ := h
    refine r_iald (N := 12) (dc D_cX5_joinAboveLeast_0 38 rfl) lC_47 rfl rfl o12 ?_
    refine r_iloadn (dc D_cX5_joinAboveLeast_0 39 rfl) rfl rfl ?_
    refine r_iadd (dc D_cX5_joinAboveLeast_1 0 rfl) ?_
    obtain ⟨o13, h⟩ := h
    obtain ⟨o14, h⟩ := h
    refine r_iast (N := 12) (dc D_cX5_joinAboveLeast_1 1 rfl) lC_47 rfl rfl o14 o13 ?_
    refine r_sig (fun σ15 eσ15 => ?_)
    have h := h σ15 eσ15
    have hσ15 : RS σ15 := RS_eq eσ15 (RS.up hσ10 o13 _ _)
    refine r_aloadn (dc D_cX5_joinAboveLeast_1 2 rfl) rfl rfl ?_
    refine r_getR (dc D_cX5_joinAboveLeast_1 3 rfl) fw_RX5_18 lC_7 rfl ?_
    refine r_aloadn (dc D_cX5_joinAboveLeast_1 4 rfl) rfl rfl ?_
    refine r_getR (dc D_cX5_joinAboveLeast_1 5 rfl) fw_RX5_43 lC_1 rfl ?_
    refine r_iloadn (dc D_cX5_joinAboveLeast_1 6 rfl) rfl rfl ?_
    obtain ⟨o16, h⟩ := h
    refine r_iald (N := 30) (dc D_cX5_joinAboveLeast_1 7 rfl) lC_13 rfl rfl o16 ?_
    refine r_dup2 (dc D_cX5_joinAboveLeast_1 8 rfl) rfl rfl ?_
    obtain ⟨o17, h⟩ := h
    refine r_iald (N := 12) (dc D_cX5_joinAboveLeast_1 9 rfl) lC_47 rfl rfl o17 ?_
    refine r_iloadn (dc D_cX5_joinAboveLeast_1 10 rfl) rfl rfl ?_
    refine r_isub (dc D_cX5_joinAboveLeast_1 11 rfl) ?_
    obtain ⟨o18, h⟩ := h
    obtain ⟨o19, h⟩ := h
    refine r_iast (N := 12) (dc D_cX5_joinAboveLeast_1 12 rfl) lC_47 rfl rfl o19 o18 ?_
    refine r_sig (fun σ20 eσ20 => ?_)
    have h := h σ20 eσ20
    have hσ20 : RS σ20 := RS_eq eσ20 (RS.up hσ15 o18 _ _)
    obtain ⟨o21, h⟩ := h
    refine r_iinc (lv' := [some (.ref (eA E 7)), some (.ref (eA E 1)), some (.int (iz (x2 + 1))), some (.int (iz z2))]) (dc D_cX5_joinAboveLeast_1 13 rfl) rfl rfl rfl ?_
    refine r_goto (tgt := 10) (dc D_cX5_joinAboveLeast_1 14 rfl) (by decide) ?_
    refine r_sub (lv' := [some (.ref (eA E 7)), some (.ref (eA E 1)), some (.int (iz (x2 + 1))), none]) (subL_s (subL_s (subL_s (subL_n subL_e)))) ?_
    exact hK10 _ _ o21 hσ20 h
theorem TX5_joinAboveLeast_10 {E : EV} (hE : eOK layC E) {Φ : Int → PS → Prop} (x : CX) (n : Nat) : ∀ (x2 : Int) (σ : PS), Rg x2 → RS σ → LX5_joinAboveLeast_10 n x2 σ Φ → RW layC E mi_X5_joinAboveLeast Φ 10 [some (.ref (eA E 7)), some (.ref (eA E 1)), some (.int (iz x2)), none] [] σ x := by
  induction n with
  | zero => intro x2 σ _ _ h; exact h.elim
  | succ n ih => intro x2 σ rx2 hs h; exact TBX5_joinAboveLeast_10 hE x ih x2 rx2 σ hs h
set_option maxRecDepth 100000 in
theorem CX5_joinAboveLeast {E : EV} (hE : eOK layC E) {Φ : Int → PS → Prop} (σ : PS) (hs : RS σ) (h : FX5_joinAboveLeast σ Φ) : CT layC E yX5_joinAboveLeast mi_X5_joinAboveLeast [.ref (eA E 7), .ref (eA E 1)] σ Φ := by
  refine ct_of (by decide +kernel) rfl hE rfl rfl hs (fun x => ?_)
  show RW layC E mi_X5_joinAboveLeast Φ 0 [some (.ref (eA E 7)), some (.ref (eA E 1)), none, none] [] σ x
  refine r_aloadn (dc D_cX5_joinAboveLeast_0 0 rfl) rfl rfl ?_
  refine r_getR (dc D_cX5_joinAboveLeast_0 1 rfl) fw_RX5_18 lC_7 rfl ?_
  refine r_iconst (n := 0) (dc D_cX5_joinAboveLeast_0 2 rfl) ?_
  refine r_fill (n := 12) (dc D_cX5_joinAboveLeast_0 3 rfl) cw_RX5_76 lC_47 rfl (Rl rfl) (by decide) rfl ?_
  refine r_sig (fun σ1 eσ1 => ?_)
  have h := h σ1 eσ1
  have hσ1 : RS σ1 := RS_eq eσ1 (RS.fl hs (Rl rfl))
  refine r_iconst (n := 0) (dc D_cX5_joinAboveLeast_0 4 rfl) ?_
  refine r_istoren (lv' := [some (.ref (eA E 7)), some (.ref (eA E 1)), some (.int (iz 0)), none]) (dc D_cX5_joinAboveLeast_0 5 rfl) rfl rfl rfl ?_
  obtain ⟨n, h⟩ := h
  exact TX5_joinAboveLeast_10 hE x n _ _ (Rl rfl) hσ1 h
-- end of GateFlow$Models.joinAboveLeast
def mi_X6_close : MI := (cX6_close, RX6, 3, 1, (some .int), 1)
def FX6_close (a1 : Int) (σ : PS) (Φ : Int → PS → Prop) : Prop :=
  ((a1 < 0 →
    Φ 0 σ) ∧
  (¬ a1 < 0 →
    Rg (a1 + 1) ∧
    ((a1 + 1 < σ 8 9 →
      Rg (a1 + 1) ∧
      (0 ≤ a1 + 1 ∧ a1 + 1 < 672) ∧
      ∀ v6 : Int, v6 = σ 56 (a1 + 1).toNat →
      (0 ≤ a1 ∧ a1 < 672) ∧
      ∀ σ8 : PS, σ8 = up2 σ 56 a1.toNat 0 →
      Rg (a1 + 1) ∧
      (0 ≤ a1 + 1 ∧ a1 + 1 < 672) ∧
      ∀ σ11 : PS, σ11 = up2 σ8 56 (a1 + 1).toNat 0 →
      Φ v6 σ11) ∧
    (¬ a1 + 1 < σ 8 9 →
      Φ 0 σ))))
set_option maxRecDepth 100000 in
theorem CX6_close {E : EV} (hE : eOK layC E) {Φ : Int → PS → Prop} (a1 : Int) (ra1 : Rg a1) (σ : PS) (hs : RS σ) (h : FX6_close a1 σ Φ) : CT layC E yX6_close mi_X6_close [.ref (eA E 8), .int (iz a1)] σ Φ := by
  refine ct_of (by decide +kernel) rfl hE rfl rfl hs (fun x => ?_)
  show RW layC E mi_X6_close Φ 0 [some (.ref (eA E 8)), some (.int (iz a1)), none] [] σ x
  refine r_iloadn (dc D_cX6_close_0 0 rfl) rfl rfl ?_
  refine r_if_lt (tgt := 14) (dc D_cX6_close_0 1 rfl) (by decide) ra1 (fun c1 => ?_) (fun c1 => ?_)
  · have h := h.1 c1
    refine r_iconst (n := 0) (dc D_cX6_close_0 8 rfl) ?_
    exact r_iret (dc D_cX6_close_0 9 rfl) rfl (Rl rfl) h
  · have h := h.2 c1
    refine r_iloadn (dc D_cX6_close_0 2 rfl) rfl rfl ?_
    refine r_iconst (n := 1) (dc D_cX6_close_0 3 rfl) ?_
    refine r_iadd (dc D_cX6_close_0 4 rfl) ?_
    obtain ⟨o2, h⟩ := h
    refine r_aloadn (dc D_cX6_close_0 5 rfl) rfl rfl ?_
    refine r_getI (dc D_cX6_close_0 6 rfl) fw_RX6_49 lC_8 rfl ?_
    refine r_icmp_lt (tgt := 16) (dc D_cX6_close_0 7 rfl) (by decide) o2 (hs _ _) (fun c3 => ?_) (fun c3 => ?_)
    · have h := h.1 c3
      refine r_aloadn (dc D_cX6_close_0 10 rfl) rfl rfl ?_
      refine r_getR (dc D_cX6_close_0 11 rfl) fw_RX6_33 lC_8 rfl ?_
      refine r_iloadn (dc D_cX6_close_0 12 rfl) rfl rfl ?_
      refine r_iconst (n := 1) (dc D_cX6_close_0 13 rfl) ?_
      refine r_iadd (dc D_cX6_close_0 14 rfl) ?_
      obtain ⟨o4, h⟩ := h
      obtain ⟨o5, h⟩ := h
      refine r_iald (N := 672) (dc D_cX6_close_0 15 rfl) lC_56 rfl rfl o5 ?_
      refine r_name (fun v6 ev6 => ?_)
      have h := h v6 ev6
      have rv6 : Rg v6 := Rg_eq ev6 (hs _ _)
      refine r_istoren (lv' := [some (.ref (eA E 8)), some (.int (iz a1)), some (.int (iz v6))]) (dc D_cX6_close_0 16 rfl) rfl rfl rfl ?_
      refine r_aloadn (dc D_cX6_close_0 17 rfl) rfl rfl ?_
      refine r_getR (dc D_cX6_close_0 18 rfl) fw_RX6_33 lC_8 rfl ?_
      refine r_iloadn (dc D_cX6_close_0 19 rfl) rfl rfl ?_
      refine r_iconst (n := 0) (dc D_cX6_close_0 20 rfl) ?_
      obtain ⟨o7, h⟩ := h
      refine r_iast (N := 672) (dc D_cX6_close_0 21 rfl) lC_56 rfl rfl o7 (Rl rfl) ?_
      refine r_sig (fun σ8 eσ8 => ?_)
      have h := h σ8 eσ8
      have hσ8 : RS σ8 := RS_eq eσ8 (RS.up hs (Rl rfl) _ _)
      refine r_aloadn (dc D_cX6_close_0 22 rfl) rfl rfl ?_
      refine r_getR (dc D_cX6_close_0 23 rfl) fw_RX6_33 lC_8 rfl ?_
      refine r_iloadn (dc D_cX6_close_0 24 rfl) rfl rfl ?_
      refine r_iconst (n := 1) (dc D_cX6_close_0 25 rfl) ?_
      refine r_iadd (dc D_cX6_close_0 26 rfl) ?_
      obtain ⟨o9, h⟩ := h
      refine r_iconst (n := 0) (dc D_cX6_close_0 27 rfl) ?_
      obtain ⟨o10, h⟩ := h
      refine r_iast (N := 672) (dc D_cX6_close_0 28 rfl) lC_56 rfl rfl o10 (Rl rfl) ?_
      refine r_sig (fun σ11 eσ11 => ?_)
      have h := h σ11 eσ11
      have hσ11 : RS σ11 := RS_eq eσ11 (RS.up hσ8 (Rl rfl) _ _)
      refine r_iloadn (dc D_cX6_close_0 29 rfl) rfl rfl ?_
      exact r_iret (dc D_cX6_close_0 30 rfl) rfl rv6 h
    · have h := h.2 c3
      refine r_iconst (n := 0) (dc D_cX6_close_0 8 rfl) ?_
      exact r_iret (dc D_cX6_close_0 9 rfl) rfl (Rl rfl) h
-- end of GateFlow$Net.close
def mi_X5_boundValue : MI := (cX5_boundValue, RX5, 8, 7, (some .int), 1)
def LX5_boundValue_126 (K46 : Int → Int → Int → Int → Int → Int → PS → Prop) (x2 x3 x4 x5 x6 x7 : Int) (σ : PS) (Φ : Int → PS → Prop) : Prop :=
  Rg (x7 + 1) ∧
  K46 x2 x3 x4 x5 x6 (x7 + 1) σ
def BX5_boundValue_46 (K46 : Int → Int → Int → Int → Int → Int → PS → Prop) (x2 x3 x4 x5 x6 x7 : Int) (σ : PS) (Φ : Int → PS → Prop) : Prop :=
  ((12 ≤ x7 →
    FX6_pass x3 x4 σ (fun z2 σ3 =>
    ((x6 ≤ z2 →
      FX6_close x5 σ3 (fun z5 σ6 =>
      ((x2 = 0 →
        FX6_pass (σ6 1 8) (σ6 1 7) σ6 (fun z8 σ9 =>
        Rg (z5 - z8) ∧
        Φ (max 0 (z5 - z8)) σ9)) ∧
      (¬ x2 = 0 →
        FX6_pass (σ6 1 7) (σ6 1 8) σ6 (fun z11 σ12 =>
        Rg (z5 + z11) ∧
        Φ (z5 + z11) σ12))))) ∧
    (¬ x6 ≤ z2 →
      Φ (-5) σ3)))) ∧
  (¬ 12 ≤ x7 →
    (0 ≤ x7 ∧ x7 < 12) ∧
    ((σ 47 x7.toNat ≤ 0 →
      (0 ≤ x7 ∧ x7 < 12) ∧
      ((0 ≤ σ 47 x7.toNat →
        LX5_boundValue_126 K46 x2 x3 x4 x5 x6 x7 σ Φ) ∧
      (¬ 0 ≤ σ 47 x7.toNat →
        (0 ≤ x7 ∧ x7 < 12) ∧
        Rg (-(σ 47 x7.toNat)) ∧
        FX6_join x7 x4 (-(σ 47 x7.toNat)) σ (fun z20 σ21 =>
        LX5_boundValue_126 K46 x2 x3 x4 x5 x6 x7 σ21 Φ)))) ∧
    (¬ σ 47 x7.toNat ≤ 0 →
      (0 ≤ x7 ∧ x7 < 12) ∧
      FX6_join x3 x7 (σ 47 x7.toNat) σ (fun z23 σ24 =>
      (0 ≤ x7 ∧ x7 < 12) ∧
      Rg (x6 + (σ24 47 x7.toNat)) ∧
      ∀ v27 : Int, v27 = x6 + (σ24 47 x7.toNat) →
      LX5_boundValue_126 K46 x2 x3 x4 x5 v27 x7 σ24 Φ)))))
def LX5_boundValue_46 : Nat → Int → Int → Int → Int → Int → Int → PS → (Int → PS → Prop) → Prop
  | 0, _, _, _, _, _, _, _, _ => False
  | n + 1, x2, x3, x4, x5, x6, x7, σ, Φ => BX5_boundValue_46 (fun x2 x3 x4 x5 x6 x7 σ => LX5_boundValue_46 n x2 x3 x4 x5 x6 x7 σ Φ) x2 x3 x4 x5 x6 x7 σ Φ
def FX5_boundValue (a2 : Int) (σ : PS) (Φ : Int → PS → Prop) : Prop :=
  FX6_begin 14 σ (fun z1 σ2 =>
  FX5_joinAboveLeast σ2 (fun z3 σ4 =>
  FX6_join (σ4 1 8) (σ4 1 7) 1000000000 σ4 (fun z5 σ6 =>
  ∃ n, LX5_boundValue_46 n a2 12 13 z5 0 0 σ6 Φ)))
theorem cw_RX5_68 : CWV RX5 68 yX6_close mi_X6_close := tb_r [864, 865, 866, 103, 867] (by decide +kernel)
theorem nm_yX6_close : ynm yX6_close 1 := ⟨⟨by decide +kernel, by decide +kernel⟩, by decide +kernel⟩
theorem mw_RX5_71 : MW RX5 71 Lib.Math.max.name Lib.Math.max.code := tb_r [868, 749, 111, 750] (by decide +kernel)
theorem cw_RX5_63 : CWV RX5 63 yX5_joinAboveLeast mi_X5_joinAboveLeast := tb_r [854, 856, 27, 102, 857] (by decide +kernel)
theorem nm_yX5_joinAboveLeast : ynm yX5_joinAboveLeast 1 := ⟨⟨by decide +kernel, by decide +kernel⟩, by decide +kernel⟩
theorem kw_RX5_67 : Cond.constant RX5 67 (iz 1000000000) ∈ TB := tb_1 863 (by decide +kernel)
set_option maxRecDepth 100000 in
theorem TX5_boundValue_126 {E : EV} (hE : eOK layC E) {Φ : Int → PS → Prop} {K46 : Int → Int → Int → Int → Int → Int → PS → Prop} (x : CX) (hK46 : ∀ (x2 x3 x4 x5 x6 x7 : Int) (σ : PS), Rg x2 → Rg x3 → Rg x4 → Rg x5 → Rg x6 → Rg x7 → RS σ → K46 x2 x3 x4 x5 x6 x7 σ → RW layC E mi_X5_boundValue Φ 46 [some (.ref (eA E 7)), some (.ref (eA E 1)), some (.int (iz x2)), some (.int (iz x3)), some (.int (iz x4)), some (.int (iz x5)), some (.int (iz x6)), some (.int (iz x7))] [] σ x) (x2 x3 x4 x5 x6 x7 : Int) (rx2 : Rg x2) (rx3 : Rg x3) (rx4 : Rg x4) (rx5 : Rg x5) (rx6 : Rg x6) (rx7 : Rg x7) (σ : PS) (hs : RS σ) (h : LX5_boundValue_126 K46 x2 x3 x4 x5 x6 x7 σ Φ) : RW layC E mi_X5_boundValue Φ 126 [some (.ref (eA E 7)), some (.ref (eA E 1)), some (.int (iz x2)), some (.int (iz x3)), some (.int (iz x4)), some (.int (iz x5)), some (.int (iz x6)), some (.int (iz x7))] [] σ x := by
  obtain ⟨o1, h⟩ := h
  refine r_iinc (lv' := [some (.ref (eA E 7)), some (.ref (eA E 1)), some (.int (iz x2)), some (.int (iz x3)), some (.int (iz x4)), some (.int (iz x5)), some (.int (iz x6)), some (.int (iz (x7 + 1)))]) (dc D_cX5_boundValue_1 26 rfl) rfl rfl rfl ?_
  refine r_goto (tgt := 46) (dc D_cX5_boundValue_1 27 rfl) (by decide) ?_
  exact hK46 _ _ _ _ _ _ _ rx2 rx3 rx4 rx5 rx6 o1 hs h
set_option maxRecDepth 100000 in
theorem TBX5_boundValue_46 {E : EV} (hE : eOK layC E) {Φ : Int → PS → Prop} {K46 : Int → Int → Int → Int → Int → Int → PS → Prop} (x : CX) (hK46 : ∀ (x2 x3 x4 x5 x6 x7 : Int) (σ : PS), Rg x2 → Rg x3 → Rg x4 → Rg x5 → Rg x6 → Rg x7 → RS σ → K46 x2 x3 x4 x5 x6 x7 σ → RW layC E mi_X5_boundValue Φ 46 [some (.ref (eA E 7)), some (.ref (eA E 1)), some (.int (iz x2)), some (.int (iz x3)), some (.int (iz x4)), some (.int (iz x5)), some (.int (iz x6)), some (.int (iz x7))] [] σ x) (x2 x3 x4 x5 x6 x7 : Int) (rx2 : Rg x2) (rx3 : Rg x3) (rx4 : Rg x4) (rx5 : Rg x5) (rx6 : Rg x6) (rx7 : Rg x7) (σ : PS) (hs : RS σ) (h : BX5_boundValue_46 K46 x2 x3 x4 x5 x6 x7 σ Φ) : RW layC E mi_X5_boundValue Φ 46 [some (.ref (eA E 7)), some (.ref (eA E 1)), some (.int (iz x2)), some (.int (iz x3)), some (.int (iz x4)), some (.int (iz x5)), some (.int (iz x6)), some (.int (iz x7))] [] σ x := by
  refine r_iload (dc D_cX5_boundValue_0 24 rfl) rfl ?_
  refine r_bipush (n := 12) (dc D_cX5_boundValue_0 25 rfl) (by decide +kernel) ?_
  refine r_icmp_ge (tgt := 132) (dc D_cX5_boundValue_0 26 rfl) (by decide) rx7 (Rl rfl) (fun c1 => ?_) (fun c1 => ?_)
  · have h := h.1 c1
    refine r_aloadn (dc D_cX5_boundValue_1 28 rfl) rfl rfl ?_
    refine r_getR (dc D_cX5_boundValue_1 29 rfl) fw_RX5_12 lC_7 rfl ?_
    refine r_iloadn (dc D_cX5_boundValue_1 30 rfl) rfl rfl ?_
    refine r_iload (dc D_cX5_boundValue_1 31 rfl) rfl ?_
    refine r_callV (As := [.int (iz x3), .int (iz x4)]) (st := []) (dc D_cX5_boundValue_1 32 rfl) cw_RX5_59 nm_yX6_pass (CX6_pass hE _ _ rx3 rx4 _ hs h) lC_8 rfl rfl (by decide) rfl rfl rfl (fun z2 σ3 rz2 hσ3 h => ?_)
    show RW layC E mi_X5_boundValue Φ 142 [some (.ref (eA E 7)), some (.ref (eA E 1)), some (.int (iz x2)), some (.int (iz x3)), some (.int (iz x4)), some (.int (iz x5)), some (.int (iz x6)), some (.int (iz x7))] [.int (iz z2)] σ3 x
    refine r_iload (dc D_cX5_boundValue_1 33 rfl) rfl ?_
    refine r_icmp_ge (tgt := 150) (dc D_cX5_boundValue_1 34 rfl) (by decide) rz2 rx6 (fun c4 => ?_) (fun c4 => ?_)
    · have h := h.1 c4
      refine r_aloadn (dc D_cX5_boundValue_1 37 rfl) rfl rfl ?_
      refine r_getR (dc D_cX5_boundValue_1 38 rfl) fw_RX5_12 lC_7 rfl ?_
      refine r_iload (dc D_cX5_boundValue_1 39 rfl) rfl ?_
      refine r_callV (As := [.int (iz x5)]) (st := []) (dc D_cX5_boundValue_2 0 rfl) cw_RX5_68 nm_yX6_close (CX6_close hE _ rx5 _ hσ3 h) lC_8 rfl rfl (by decide) rfl rfl rfl (fun z5 σ6 rz5 hσ6 h => ?_)
      show RW layC E mi_X5_boundValue Φ 159 [some (.ref (eA E 7)), some (.ref (eA E 1)), some (.int (iz x2)), some (.int (iz x3)), some (.int (iz x4)), some (.int (iz x5)), some (.int (iz x6)), some (.int (iz x7))] [.int (iz z5)] σ6 x
      refine r_istore (lv' := [some (.ref (eA E 7)), some (.ref (eA E 1)), some (.int (iz x2)), some (.int (iz x3)), some (.int (iz x4)), some (.int (iz x5)), some (.int (iz x6)), some (.int (iz z5))]) (dc D_cX5_boundValue_2 1 rfl) rfl rfl ?_
      refine r_iloadn (dc D_cX5_boundValue_2 2 rfl) rfl rfl ?_
      refine r_if_eq (tgt := 186) (dc D_cX5_boundValue_2 3 rfl) (by decide) rx2 (fun c7 => ?_) (fun c7 => ?_)
      · have h := h.1 c7
        refine r_iconst (n := 0) (dc D_cX5_boundValue_2 14 rfl) ?_
        refine r_iload (dc D_cX5_boundValue_2 15 rfl) rfl ?_
        refine r_aloadn (dc D_cX5_boundValue_2 16 rfl) rfl rfl ?_
        refine r_getR (dc D_cX5_boundValue_2 17 rfl) fw_RX5_12 lC_7 rfl ?_
        refine r_aloadn (dc D_cX5_boundValue_2 18 rfl) rfl rfl ?_
        refine r_getI (dc D_cX5_boundValue_2 19 rfl) fw_RX5_56 lC_1 rfl ?_
        refine r_aloadn (dc D_cX5_boundValue_2 20 rfl) rfl rfl ?_
        refine r_getI (dc D_cX5_boundValue_2 21 rfl) fw_RX5_53 lC_1 rfl ?_
        refine r_callV (As := [.int (iz (σ6 1 8)), .int (iz (σ6 1 7))]) (st := [.int (iz z5), .int (iz 0)]) (dc D_cX5_boundValue_2 22 rfl) cw_RX5_59 nm_yX6_pass (CX6_pass hE _ _ (hσ6 _ _) (hσ6 _ _) _ hσ6 h) lC_8 rfl rfl (by decide) rfl rfl rfl (fun z8 σ9 rz8 hσ9 h => ?_)
        show RW layC E mi_X5_boundValue Φ 204 [some (.ref (eA E 7)), some (.ref (eA E 1)), some (.int (iz x2)), some (.int (iz x3)), some (.int (iz x4)), some (.int (iz x5)), some (.int (iz x6)), some (.int (iz z5))] [.int (iz z8), .int (iz z5), .int (iz 0)] σ9 x
        refine r_isub (dc D_cX5_boundValue_2 23 rfl) ?_
        obtain ⟨o10, h⟩ := h
        refine r_max (dc D_cX5_boundValue_2 24 rfl) mw_RX5_71 (Rl rfl) o10 (by decide) rfl ?_
        exact r_iret (dc D_cX5_boundValue_2 25 rfl) rfl (Rg_max (Rl rfl) o10) h
      · have h := h.2 c7
        refine r_iload (dc D_cX5_boundValue_2 4 rfl) rfl ?_
        refine r_aloadn (dc D_cX5_boundValue_2 5 rfl) rfl rfl ?_
        refine r_getR (dc D_cX5_boundValue_2 6 rfl) fw_RX5_12 lC_7 rfl ?_
        refine r_aloadn (dc D_cX5_boundValue_2 7 rfl) rfl rfl ?_
        refine r_getI (dc D_cX5_boundValue_2 8 rfl) fw_RX5_53 lC_1 rfl ?_
        refine r_aloadn (dc D_cX5_boundValue_2 9 rfl) rfl rfl ?_
        refine r_getI (dc D_cX5_boundValue_2 10 rfl) fw_RX5_56 lC_1 rfl ?_
        refine r_callV (As := [.int (iz (σ6 1 7)), .int (iz (σ6 1 8))]) (st := [.int (iz z5)]) (dc D_cX5_boundValue_2 11 rfl) cw_RX5_59 nm_yX6_pass (CX6_pass hE _ _ (hσ6 _ _) (hσ6 _ _) _ hσ6 h) lC_8 rfl rfl (by decide) rfl rfl rfl (fun z11 σ12 rz11 hσ12 h => ?_)
        show RW layC E mi_X5_boundValue Φ 182 [some (.ref (eA E 7)), some (.ref (eA E 1)), some (.int (iz x2)), some (.int (iz x3)), some (.int (iz x4)), some (.int (iz x5)), some (.int (iz x6)), some (.int (iz z5))] [.int (iz z11), .int (iz z5)] σ12 x
        refine r_iadd (dc D_cX5_boundValue_2 12 rfl) ?_
        obtain ⟨o13, h⟩ := h
        refine r_goto (tgt := 208) (dc D_cX5_boundValue_2 13 rfl) (by decide) ?_
        exact r_iret (dc D_cX5_boundValue_2 25 rfl) rfl o13 h
    · have h := h.2 c4
      refine r_bipush (n := (-5)) (dc D_cX5_boundValue_1 35 rfl) (by decide +kernel) ?_
      exact r_iret (dc D_cX5_boundValue_1 36 rfl) rfl (Rl rfl) h
  · have h := h.2 c1
    refine r_aloadn (dc D_cX5_boundValue_0 27 rfl) rfl rfl ?_
    refine r_getR (dc D_cX5_boundValue_0 28 rfl) fw_RX5_18 lC_7 rfl ?_
    refine r_iload (dc D_cX5_boundValue_0 29 rfl) rfl ?_
    obtain ⟨o14, h⟩ := h
    refine r_iald (N := 12) (dc D_cX5_boundValue_0 30 rfl) lC_47 rfl rfl o14 ?_
    refine r_if_le (tgt := 96) (dc D_cX5_boundValue_0 31 rfl) (by decide) (hs _ _) (fun c15 => ?_) (fun c15 => ?_)
    · have h := h.1 c15
      refine r_aloadn (dc D_cX5_boundValue_1 10 rfl) rfl rfl ?_
      refine r_getR (dc D_cX5_boundValue_1 11 rfl) fw_RX5_18 lC_7 rfl ?_
      refine r_iload (dc D_cX5_boundValue_1 12 rfl) rfl ?_
      obtain ⟨o16, h⟩ := h
      refine r_iald (N := 12) (dc D_cX5_boundValue_1 13 rfl) lC_47 rfl rfl o16 ?_
      refine r_if_ge (tgt := 126) (dc D_cX5_boundValue_1 14 rfl) (by decide) (hs _ _) (fun c17 => ?_) (fun c17 => ?_)
      · have h := h.1 c17
        exact TX5_boundValue_126 hE x hK46 _ _ _ _ _ _ rx2 rx3 rx4 rx5 rx6 rx7 _ hs h
      · have h := h.2 c17
        refine r_aloadn (dc D_cX5_boundValue_1 15 rfl) rfl rfl ?_
        refine r_getR (dc D_cX5_boundValue_1 16 rfl) fw_RX5_12 lC_7 rfl ?_
        refine r_iload (dc D_cX5_boundValue_1 17 rfl) rfl ?_
        refine r_iload (dc D_cX5_boundValue_1 18 rfl) rfl ?_
        refine r_aloadn (dc D_cX5_boundValue_1 19 rfl) rfl rfl ?_
        refine r_getR (dc D_cX5_boundValue_1 20 rfl) fw_RX5_18 lC_7 rfl ?_
        refine r_iload (dc D_cX5_boundValue_1 21 rfl) rfl ?_
        obtain ⟨o18, h⟩ := h
        refine r_iald (N := 12) (dc D_cX5_boundValue_1 22 rfl) lC_47 rfl rfl o18 ?_
        refine r_ineg (dc D_cX5_boundValue_1 23 rfl) ?_
        obtain ⟨o19, h⟩ := h
        refine r_callV (As := [.int (iz x7), .int (iz x4), .int (iz (-(σ 47 x7.toNat)))]) (st := []) (dc D_cX5_boundValue_1 24 rfl) cw_RX5_49 nm_yX6_join (CX6_join hE _ _ _ rx7 rx4 o19 _ hs h) lC_8 rfl rfl (by decide) rfl rfl rfl (fun z20 σ21 rz20 hσ21 h => ?_)
        show RW layC E mi_X5_boundValue Φ 125 [some (.ref (eA E 7)), some (.ref (eA E 1)), some (.int (iz x2)), some (.int (iz x3)), some (.int (iz x4)), some (.int (iz x5)), some (.int (iz x6)), some (.int (iz x7))] [.int (iz z20)] σ21 x
        refine r_pop (dc D_cX5_boundValue_1 25 rfl) rfl ?_
        exact TX5_boundValue_126 hE x hK46 _ _ _ _ _ _ rx2 rx3 rx4 rx5 rx6 rx7 _ hσ21 h
    · have h := h.2 c15
      refine r_aloadn (dc D_cX5_boundValue_0 32 rfl) rfl rfl ?_
      refine r_getR (dc D_cX5_boundValue_0 33 rfl) fw_RX5_12 lC_7 rfl ?_
      refine r_iloadn (dc D_cX5_boundValue_0 34 rfl) rfl rfl ?_
      refine r_iload (dc D_cX5_boundValue_0 35 rfl) rfl ?_
      refine r_aloadn (dc D_cX5_boundValue_0 36 rfl) rfl rfl ?_
      refine r_getR (dc D_cX5_boundValue_0 37 rfl) fw_RX5_18 lC_7 rfl ?_
      refine r_iload (dc D_cX5_boundValue_0 38 rfl) rfl ?_
      obtain ⟨o22, h⟩ := h
      refine r_iald (N := 12) (dc D_cX5_boundValue_0 39 rfl) lC_47 rfl rfl o22 ?_
      refine r_callV (As := [.int (iz x3), .int (iz x7), .int (iz (σ 47 x7.toNat))]) (st := []) (dc D_cX5_boundValue_1 0 rfl) cw_RX5_49 nm_yX6_join (CX6_join hE _ _ _ rx3 rx7 (hs _ _) _ hs h) lC_8 rfl rfl (by decide) rfl rfl rfl (fun z23 σ24 rz23 hσ24 h => ?_)
      show RW layC E mi_X5_boundValue Φ 80 [some (.ref (eA E 7)), some (.ref (eA E 1)), some (.int (iz x2)), some (.int (iz x3)), some (.int (iz x4)), some (.int (iz x5)), some (.int (iz x6)), some (.int (iz x7))] [.int (iz z23)] σ24 x
      refine r_pop (dc D_cX5_boundValue_1 1 rfl) rfl ?_
      refine r_iload (dc D_cX5_boundValue_1 2 rfl) rfl ?_
      refine r_aloadn (dc D_cX5_boundValue_1 3 rfl) rfl rfl ?_
      refine r_getR (dc D_cX5_boundValue_1 4 rfl) fw_RX5_18 lC_7 rfl ?_
      refine r_iload (dc D_cX5_boundValue_1 5 rfl) rfl ?_
      obtain ⟨o25, h⟩ := h
      refine r_iald (N := 12) (dc D_cX5_boundValue_1 6 rfl) lC_47 rfl rfl o25 ?_
      refine r_iadd (dc D_cX5_boundValue_1 7 rfl) ?_
      obtain ⟨o26, h⟩ := h
      refine r_name (fun v27 ev27 => ?_)
      have h := h v27 ev27
      have rv27 : Rg v27 := Rg_eq ev27 o26
      refine r_istore (lv' := [some (.ref (eA E 7)), some (.ref (eA E 1)), some (.int (iz x2)), some (.int (iz x3)), some (.int (iz x4)), some (.int (iz x5)), some (.int (iz v27)), some (.int (iz x7))]) (dc D_cX5_boundValue_1 8 rfl) rfl rfl ?_
      refine r_goto (tgt := 126) (dc D_cX5_boundValue_1 9 rfl) (by decide) ?_
      exact TX5_boundValue_126 hE x hK46 _ _ _ _ _ _ rx2 rx3 rx4 rx5 rv27 rx7 _ hσ24 h
theorem TX5_boundValue_46 {E : EV} (hE : eOK layC E) {Φ : Int → PS → Prop} (x : CX) (n : Nat) : ∀ (x2 x3 x4 x5 x6 x7 : Int) (σ : PS), Rg x2 → Rg x3 → Rg x4 → Rg x5 → Rg x6 → Rg x7 → RS σ → LX5_boundValue_46 n x2 x3 x4 x5 x6 x7 σ Φ → RW layC E mi_X5_boundValue Φ 46 [some (.ref (eA E 7)), some (.ref (eA E 1)), some (.int (iz x2)), some (.int (iz x3)), some (.int (iz x4)), some (.int (iz x5)), some (.int (iz x6)), some (.int (iz x7))] [] σ x := by
  induction n with
  | zero => intro x2 x3 x4 x5 x6 x7 σ _ _ _ _ _ _ _ h; exact h.elim
  | succ n ih => intro x2 x3 x4 x5 x6 x7 σ rx2 rx3 rx4 rx5 rx6 rx7 hs h; exact TBX5_boundValue_46 hE x ih x2 x3 x4 x5 x6 x7 rx2 rx3 rx4 rx5 rx6 rx7 σ hs h
set_option maxRecDepth 100000 in
theorem CX5_boundValue {E : EV} (hE : eOK layC E) {Φ : Int → PS → Prop} (a2 : Int) (ra2 : Rg a2) (σ : PS) (hs : RS σ) (h : FX5_boundValue a2 σ Φ) : CT layC E yX5_boundValue mi_X5_boundValue [.ref (eA E 7), .ref (eA E 1), .int (iz a2)] σ Φ := by
  refine ct_of (by decide +kernel) rfl hE rfl rfl hs (fun x => ?_)
  show RW layC E mi_X5_boundValue Φ 0 [some (.ref (eA E 7)), some (.ref (eA E 1)), some (.int (iz a2)), none, none, none, none, none] [] σ x
  refine r_bipush (n := 12) (dc D_cX5_boundValue_0 0 rfl) (by decide +kernel) ?_
  refine r_istoren (lv' := [some (.ref (eA E 7)), some (.ref (eA E 1)), some (.int (iz a2)), some (.int (iz 12)), none, none, none, none]) (dc D_cX5_boundValue_0 1 rfl) rfl rfl rfl ?_
  refine r_bipush (n := 13) (dc D_cX5_boundValue_0 2 rfl) (by decide +kernel) ?_
  refine r_istore (lv' := [some (.ref (eA E 7)), some (.ref (eA E 1)), some (.int (iz a2)), some (.int (iz 12)), some (.int (iz 13)), none, none, none]) (dc D_cX5_boundValue_0 3 rfl) rfl rfl ?_
  refine r_aloadn (dc D_cX5_boundValue_0 4 rfl) rfl rfl ?_
  refine r_getR (dc D_cX5_boundValue_0 5 rfl) fw_RX5_12 lC_7 rfl ?_
  refine r_bipush (n := 14) (dc D_cX5_boundValue_0 6 rfl) (by decide +kernel) ?_
  refine r_callV (As := [.int (iz 14)]) (st := []) (dc D_cX5_boundValue_0 7 rfl) cw_RX5_25 nm_yX6_begin (CX6_begin hE _ (Rl rfl) _ hs h) lC_8 rfl rfl (by decide) rfl rfl rfl (fun z1 σ2 rz1 hσ2 h => ?_)
  show RW layC E mi_X5_boundValue Φ 16 [some (.ref (eA E 7)), some (.ref (eA E 1)), some (.int (iz a2)), some (.int (iz 12)), some (.int (iz 13)), none, none, none] [] σ2 x
  refine r_aloadn (dc D_cX5_boundValue_0 8 rfl) rfl rfl ?_
  refine r_aloadn (dc D_cX5_boundValue_0 9 rfl) rfl rfl ?_
  refine r_callV (As := [.ref (eA E 1)]) (st := []) (dc D_cX5_boundValue_0 10 rfl) cw_RX5_63 nm_yX5_joinAboveLeast (CX5_joinAboveLeast hE  _ hσ2 h) lC_7 rfl rfl (by decide) rfl rfl rfl (fun z3 σ4 rz3 hσ4 h => ?_)
  show RW layC E mi_X5_boundValue Φ 21 [some (.ref (eA E 7)), some (.ref (eA E 1)), some (.int (iz a2)), some (.int (iz 12)), some (.int (iz 13)), none, none, none] [] σ4 x
  refine r_aloadn (dc D_cX5_boundValue_0 11 rfl) rfl rfl ?_
  refine r_getR (dc D_cX5_boundValue_0 12 rfl) fw_RX5_12 lC_7 rfl ?_
  refine r_aloadn (dc D_cX5_boundValue_0 13 rfl) rfl rfl ?_
  refine r_getI (dc D_cX5_boundValue_0 14 rfl) fw_RX5_56 lC_1 rfl ?_
  refine r_aloadn (dc D_cX5_boundValue_0 15 rfl) rfl rfl ?_
  refine r_getI (dc D_cX5_boundValue_0 16 rfl) fw_RX5_53 lC_1 rfl ?_
  refine r_ldc (n := (1000000000)) (dc D_cX5_boundValue_0 17 rfl) kw_RX5_67 ?_
  refine r_callV (As := [.int (iz (σ4 1 8)), .int (iz (σ4 1 7)), .int (iz 1000000000)]) (st := []) (dc D_cX5_boundValue_0 18 rfl) cw_RX5_49 nm_yX6_join (CX6_join hE _ _ _ (hσ4 _ _) (hσ4 _ _) (Rl rfl) _ hσ4 h) lC_8 rfl rfl (by decide) rfl rfl rfl (fun z5 σ6 rz5 hσ6 h => ?_)
  show RW layC E mi_X5_boundValue Φ 38 [some (.ref (eA E 7)), some (.ref (eA E 1)), some (.int (iz a2)), some (.int (iz 12)), some (.int (iz 13)), none, none, none] [.int (iz z5)] σ6 x
  refine r_istore (lv' := [some (.ref (eA E 7)), some (.ref (eA E 1)), some (.int (iz a2)), some (.int (iz 12)), some (.int (iz 13)), some (.int (iz z5)), none, none]) (dc D_cX5_boundValue_0 19 rfl) rfl rfl ?_
  refine r_iconst (n := 0) (dc D_cX5_boundValue_0 20 rfl) ?_
  refine r_istore (lv' := [some (.ref (eA E 7)), some (.ref (eA E 1)), some (.int (iz a2)), some (.int (iz 12)), some (.int (iz 13)), some (.int (iz z5)), some (.int (iz 0)), none]) (dc D_cX5_boundValue_0 21 rfl) rfl rfl ?_
  refine r_iconst (n := 0) (dc D_cX5_boundValue_0 22 rfl) ?_
  refine r_istore (lv' := [some (.ref (eA E 7)), some (.ref (eA E 1)), some (.int (iz a2)), some (.int (iz 12)), some (.int (iz 13)), some (.int (iz z5)), some (.int (iz 0)), some (.int (iz 0))]) (dc D_cX5_boundValue_0 23 rfl) rfl rfl ?_
  obtain ⟨n, h⟩ := h
  exact TX5_boundValue_46 hE x n _ _ _ _ _ _ _ ra2 (Rl rfl) (Rl rfl) rz5 (Rl rfl) (Rl rfl) hσ6 h
-- end of GateFlow$Models.boundValue
def mi_X11_bound : MI := (cX11_bound, RX11, 2, 8, (some .int), 1)
def LX11_bound_24 (s2 : Int) (σ : PS) (Φ : Int → PS → Prop) : Prop :=
  FX5_boundValue s2 σ (fun z1 σ2 =>
  Φ z1 σ2)
def FX11_bound (a1 : Int) (σ : PS) (Φ : Int → PS → Prop) : Prop :=
  FX11_isOneOrZero a1 σ (fun z1 σ2 =>
  ((z1 = 0 →
    Φ (-1) σ2) ∧
  (¬ z1 = 0 →
    ((¬ a1 = 0 →
      LX11_bound_24 0 σ2 Φ) ∧
    (a1 = 0 →
      LX11_bound_24 1 σ2 Φ)))))
theorem cw_RX11_226 : CWV RX11 226 yX5_boundValue mi_X5_boundValue := tb_r [850, 851, 852, 102, 853] (by decide +kernel)
theorem nm_yX5_boundValue : ynm yX5_boundValue 2 := ⟨⟨by decide +kernel, by decide +kernel⟩, by decide +kernel⟩
set_option maxRecDepth 100000 in
theorem TX11_bound_24 {E : EV} (hE : eOK layC E) {Φ : Int → PS → Prop} (x : CX) (s2 : Int) (rs2 : Rg s2) (σ : PS) (hs : RS σ) (h : LX11_bound_24 s2 σ Φ) : RW layC E mi_X11_bound Φ 24 [none, none] [.int (iz s2), .ref (eA E 1), .ref (eA E 7)] σ x := by
  refine r_callV (As := [.ref (eA E 1), .int (iz s2)]) (st := []) (dc D_cX11_bound_0 12 rfl) cw_RX11_226 nm_yX5_boundValue (CX5_boundValue hE _ rs2 _ hs h) lC_7 rfl rfl (by decide) rfl rfl rfl (fun z1 σ2 rz1 hσ2 h => ?_)
  show RW layC E mi_X11_bound Φ 27 [none, none] [.int (iz z1)] σ2 x
  refine r_goto (tgt := 31) (dc D_cX11_bound_0 13 rfl) (by decide) ?_
  exact r_iret (dc D_cX11_bound_0 15 rfl) rfl rz1 h
set_option maxRecDepth 100000 in
theorem CX11_bound {E : EV} (hE : eOK layC E) {Φ : Int → PS → Prop} (a1 : Int) (ra1 : Rg a1) (σ : PS) (hs : RS σ) (h : FX11_bound a1 σ Φ) : CT layC E yX11_bound mi_X11_bound [.ref (eA E 0), .int (iz a1)] σ Φ := by
  refine ct_of (by decide +kernel) rfl hE rfl rfl hs (fun x => ?_)
  show RW layC E mi_X11_bound Φ 0 [some (.ref (eA E 0)), some (.int (iz a1))] [] σ x
  refine r_iloadn (dc D_cX11_bound_0 0 rfl) rfl rfl ?_
  refine r_callS (As := [.int (iz a1)]) (st := []) (dc D_cX11_bound_0 1 rfl) cw_RX11_125 nm_yX11_isOneOrZero (CX11_isOneOrZero hE _ ra1 _ hs h) rfl (by decide) rfl rfl rfl (fun z1 σ2 rz1 hσ2 h => ?_)
  show RW layC E mi_X11_bound Φ 4 [some (.ref (eA E 0)), some (.int (iz a1))] [.int (iz z1)] σ2 x
  refine r_if_eq (tgt := 30) (dc D_cX11_bound_0 2 rfl) (by decide) rz1 (fun c3 => ?_) (fun c3 => ?_)
  · have h := h.1 c3
    refine r_iconst (n := (-1)) (dc D_cX11_bound_0 14 rfl) ?_
    exact r_iret (dc D_cX11_bound_0 15 rfl) rfl (Rl rfl) h
  · have h := h.2 c3
    refine r_aloadn (dc D_cX11_bound_0 3 rfl) rfl rfl ?_
    refine r_getR (dc D_cX11_bound_0 4 rfl) fw_RX11_43 lC_0 rfl ?_
    refine r_aloadn (dc D_cX11_bound_0 5 rfl) rfl rfl ?_
    refine r_getR (dc D_cX11_bound_0 6 rfl) fw_RX11_12 lC_0 rfl ?_
    refine r_iloadn (dc D_cX11_bound_0 7 rfl) rfl rfl ?_
    refine r_if_ne (tgt := 23) (dc D_cX11_bound_0 8 rfl) (by decide) ra1 (fun c4 => ?_) (fun c4 => ?_)
    · have h := h.1 c4
      refine r_iconst (n := 0) (dc D_cX11_bound_0 11 rfl) ?_
      refine r_sub (lv' := [none, none]) (subL_n (subL_n subL_e)) ?_
      exact TX11_bound_24 hE x _ (Rl rfl) _ hσ2 h
    · have h := h.2 c4
      refine r_iconst (n := 1) (dc D_cX11_bound_0 9 rfl) ?_
      refine r_goto (tgt := 24) (dc D_cX11_bound_0 10 rfl) (by decide) ?_
      refine r_sub (lv' := [none, none]) (subL_n (subL_n subL_e)) ?_
      exact TX11_bound_24 hE x _ (Rl rfl) _ hσ2 h
-- end of GateFlow.bound
def mi_X5_waysApart : MI := (cX5_waysApart, RX5, 5, 7, (some .int), 1)
def LX5_waysApart_116 (K76 : Int → PS → Prop) (x3 : Int) (σ : PS) (Φ : Int → PS → Prop) : Prop :=
  Rg (x3 + 1) ∧
  K76 (x3 + 1) σ
def BX5_waysApart_76 (K76 : Int → PS → Prop) (x3 : Int) (σ : PS) (Φ : Int → PS → Prop) : Prop :=
  ((σ 1 6 ≤ x3 →
    Rg (12 + (σ 1 8)) ∧
    FX6_pass (σ 1 7) (12 + (σ 1 8)) σ (fun z3 σ4 =>
    Φ z3 σ4)) ∧
  (¬ σ 1 6 ≤ x3 →
    FX3_usable x3 σ (fun z5 σ6 =>
    ((z5 ≤ 0 →
      LX5_waysApart_116 K76 x3 σ6 Φ) ∧
    (¬ z5 ≤ 0 →
      (0 ≤ x3 ∧ x3 < 30) ∧
      Rg (12 + (σ6 13 x3.toNat)) ∧
      (0 ≤ x3 ∧ x3 < 30) ∧
      FX6_join (12 + (σ6 13 x3.toNat)) (σ6 14 x3.toNat) 1 σ6 (fun z11 σ12 =>
      LX5_waysApart_116 K76 x3 σ12 Φ))))))
def LX5_waysApart_76 : Nat → Int → PS → (Int → PS → Prop) → Prop
  | 0, _, _, _ => False
  | n + 1, x3, σ, Φ => BX5_waysApart_76 (fun x3 σ => LX5_waysApart_76 n x3 σ Φ) x3 σ Φ
def LX5_waysApart_64 (K11 : Int → Int → PS → Prop) (x2 x3 s1 s2 s3 : Int) (σ : PS) (Φ : Int → PS → Prop) : Prop :=
  FX6_join s1 s2 s3 σ (fun z1 σ2 =>
  Rg (x3 + 1) ∧
  K11 x2 (x3 + 1) σ2)
def LX5_waysApart_42 (K11 : Int → Int → PS → Prop) (x2 x3 s0 : Int) (σ : PS) (Φ : Int → PS → Prop) : Prop :=
  Rg (12 + x3) ∧
  ((s0 = 0 →
    LX5_waysApart_64 K11 x2 x3 x3 (12 + x3) 1000000000 σ Φ) ∧
  (¬ s0 = 0 →
    LX5_waysApart_64 K11 x2 x3 x3 (12 + x3) 1 σ Φ))
def LX5_waysApart_41 (K11 : Int → Int → PS → Prop) (x2 x3 : Int) (σ : PS) (Φ : Int → PS → Prop) : Prop :=
  LX5_waysApart_42 K11 x2 x3 0 σ Φ
def BX5_waysApart_11 (K11 : Int → Int → PS → Prop) (x2 x3 : Int) (σ : PS) (Φ : Int → PS → Prop) : Prop :=
  ((12 ≤ x3 →
    ∃ n, LX5_waysApart_76 n 0 σ Φ) ∧
  (¬ 12 ≤ x3 →
    ((x2 = 0 →
      LX5_waysApart_41 K11 x2 x3 σ Φ) ∧
    (¬ x2 = 0 →
      ((x3 = σ 1 7 →
        LX5_waysApart_41 K11 x2 x3 σ Φ) ∧
      (¬ x3 = σ 1 7 →
        ((x3 = σ 1 8 →
          LX5_waysApart_41 K11 x2 x3 σ Φ) ∧
        (¬ x3 = σ 1 8 →
          LX5_waysApart_42 K11 x2 x3 1 σ Φ))))))))
def LX5_waysApart_11 : Nat → Int → Int → PS → (Int → PS → Prop) → Prop
  | 0, _, _, _, _ => False
  | n + 1, x2, x3, σ, Φ => BX5_waysApart_11 (fun x2 x3 σ => LX5_waysApart_11 n x2 x3 σ Φ) x2 x3 σ Φ
def FX5_waysApart (a2 : Int) (σ : PS) (Φ : Int → PS → Prop) : Prop :=
  FX6_begin 24 σ (fun z1 σ2 =>
  ∃ n, LX5_waysApart_11 n a2 0 σ2 Φ)
set_option maxRecDepth 100000 in
theorem TX5_waysApart_116 {E : EV} (hE : eOK layC E) {Φ : Int → PS → Prop} {K76 : Int → PS → Prop} (x : CX) (hK76 : ∀ (x3 : Int) (σ : PS), Rg x3 → RS σ → K76 x3 σ → RW layC E mi_X5_waysApart Φ 76 [some (.ref (eA E 7)), some (.ref (eA E 1)), none, some (.int (iz x3)), none] [] σ x) (x3 : Int) (rx3 : Rg x3) (σ : PS) (hs : RS σ) (h : LX5_waysApart_116 K76 x3 σ Φ) : RW layC E mi_X5_waysApart Φ 116 [some (.ref (eA E 7)), some (.ref (eA E 1)), none, some (.int (iz x3)), none] [] σ x := by
  obtain ⟨o1, h⟩ := h
  refine r_iinc (lv' := [some (.ref (eA E 7)), some (.ref (eA E 1)), none, some (.int (iz (x3 + 1))), none]) (dc D_cX5_waysApart_1 23 rfl) rfl rfl rfl ?_
  refine r_goto (tgt := 76) (dc D_cX5_waysApart_1 24 rfl) (by decide) ?_
  exact hK76 _ _ o1 hs h
set_option maxRecDepth 100000 in
theorem TBX5_waysApart_76 {E : EV} (hE : eOK layC E) {Φ : Int → PS → Prop} {K76 : Int → PS → Prop} (x : CX) (hK76 : ∀ (x3 : Int) (σ : PS), Rg x3 → RS σ → K76 x3 σ → RW layC E mi_X5_waysApart Φ 76 [some (.ref (eA E 7)), some (.ref (eA E 1)), none, some (.int (iz x3)), none] [] σ x) (x3 : Int) (rx3 : Rg x3) (σ : PS) (hs : RS σ) (h : BX5_waysApart_76 K76 x3 σ Φ) : RW layC E mi_X5_waysApart Φ 76 [some (.ref (eA E 7)), some (.ref (eA E 1)), none, some (.int (iz x3)), none] [] σ x := by
  refine r_iloadn (dc D_cX5_waysApart_1 0 rfl) rfl rfl ?_
  refine r_aloadn (dc D_cX5_waysApart_1 1 rfl) rfl rfl ?_
  refine r_getI (dc D_cX5_waysApart_1 2 rfl) fw_RX5_29 lC_1 rfl ?_
  refine r_icmp_ge (tgt := 122) (dc D_cX5_waysApart_1 3 rfl) (by decide) rx3 (hs _ _) (fun c1 => ?_) (fun c1 => ?_)
  · have h := h.1 c1
    refine r_aloadn (dc D_cX5_waysApart_1 25 rfl) rfl rfl ?_
    refine r_getR (dc D_cX5_waysApart_1 26 rfl) fw_RX5_12 lC_7 rfl ?_
    refine r_aloadn (dc D_cX5_waysApart_1 27 rfl) rfl rfl ?_
    refine r_getI (dc D_cX5_waysApart_1 28 rfl) fw_RX5_53 lC_1 rfl ?_
    refine r_bipush (n := 12) (dc D_cX5_waysApart_1 29 rfl) (by decide +kernel) ?_
    refine r_aloadn (dc D_cX5_waysApart_1 30 rfl) rfl rfl ?_
    refine r_getI (dc D_cX5_waysApart_1 31 rfl) fw_RX5_56 lC_1 rfl ?_
    refine r_iadd (dc D_cX5_waysApart_1 32 rfl) ?_
    obtain ⟨o2, h⟩ := h
    refine r_callV (As := [.int (iz (σ 1 7)), .int (iz (12 + (σ 1 8)))]) (st := []) (dc D_cX5_waysApart_1 33 rfl) cw_RX5_59 nm_yX6_pass (CX6_pass hE _ _ (hs _ _) o2 _ hs h) lC_8 rfl rfl (by decide) rfl rfl rfl (fun z3 σ4 rz3 hσ4 h => ?_)
    show RW layC E mi_X5_waysApart Φ 140 [some (.ref (eA E 7)), some (.ref (eA E 1)), none, some (.int (iz x3)), none] [.int (iz z3)] σ4 x
    exact r_iret (dc D_cX5_waysApart_1 34 rfl) rfl rz3 h
  · have h := h.2 c1
    refine r_aloadn (dc D_cX5_waysApart_1 4 rfl) rfl rfl ?_
    refine r_iloadn (dc D_cX5_waysApart_1 5 rfl) rfl rfl ?_
    refine r_callV (As := [.int (iz x3)]) (st := []) (dc D_cX5_waysApart_1 6 rfl) cw_RX5_35 nm_yX3_usable (CX3_usable hE _ rx3 _ hs h) lC_1 rfl rfl (by decide) rfl rfl rfl (fun z5 σ6 rz5 hσ6 h => ?_)
    show RW layC E mi_X5_waysApart Φ 89 [some (.ref (eA E 7)), some (.ref (eA E 1)), none, some (.int (iz x3)), none] [.int (iz z5)] σ6 x
    refine r_if_le (tgt := 116) (dc D_cX5_waysApart_1 7 rfl) (by decide) rz5 (fun c7 => ?_) (fun c7 => ?_)
    · have h := h.1 c7
      exact TX5_waysApart_116 hE x hK76 _ rx3 _ hσ6 h
    · have h := h.2 c7
      refine r_aloadn (dc D_cX5_waysApart_1 8 rfl) rfl rfl ?_
      refine r_getR (dc D_cX5_waysApart_1 9 rfl) fw_RX5_12 lC_7 rfl ?_
      refine r_bipush (n := 12) (dc D_cX5_waysApart_1 10 rfl) (by decide +kernel) ?_
      refine r_aloadn (dc D_cX5_waysApart_1 11 rfl) rfl rfl ?_
      refine r_getR (dc D_cX5_waysApart_1 12 rfl) fw_RX5_43 lC_1 rfl ?_
      refine r_iloadn (dc D_cX5_waysApart_1 13 rfl) rfl rfl ?_
      obtain ⟨o8, h⟩ := h
      refine r_iald (N := 30) (dc D_cX5_waysApart_1 14 rfl) lC_13 rfl rfl o8 ?_
      refine r_iadd (dc D_cX5_waysApart_1 15 rfl) ?_
      obtain ⟨o9, h⟩ := h
      refine r_aloadn (dc D_cX5_waysApart_1 16 rfl) rfl rfl ?_
      refine r_getR (dc D_cX5_waysApart_1 17 rfl) fw_RX5_46 lC_1 rfl ?_
      refine r_iloadn (dc D_cX5_waysApart_1 18 rfl) rfl rfl ?_
      obtain ⟨o10, h⟩ := h
      refine r_iald (N := 30) (dc D_cX5_waysApart_1 19 rfl) lC_14 rfl rfl o10 ?_
      refine r_iconst (n := 1) (dc D_cX5_waysApart_1 20 rfl) ?_
      refine r_callV (As := [.int (iz (12 + (σ6 13 x3.toNat))), .int (iz (σ6 14 x3.toNat)), .int (iz 1)]) (st := []) (dc D_cX5_waysApart_1 21 rfl) cw_RX5_49 nm_yX6_join (CX6_join hE _ _ _ o9 (hσ6 _ _) (Rl rfl) _ hσ6 h) lC_8 rfl rfl (by decide) rfl rfl rfl (fun z11 σ12 rz11 hσ12 h => ?_)
      show RW layC E mi_X5_waysApart Φ 115 [some (.ref (eA E 7)), some (.ref (eA E 1)), none, some (.int (iz x3)), none] [.int (iz z11)] σ12 x
      refine r_pop (dc D_cX5_waysApart_1 22 rfl) rfl ?_
      exact TX5_waysApart_116 hE x hK76 _ rx3 _ hσ12 h
theorem TX5_waysApart_76 {E : EV} (hE : eOK layC E) {Φ : Int → PS → Prop} (x : CX) (n : Nat) : ∀ (x3 : Int) (σ : PS), Rg x3 → RS σ → LX5_waysApart_76 n x3 σ Φ → RW layC E mi_X5_waysApart Φ 76 [some (.ref (eA E 7)), some (.ref (eA E 1)), none, some (.int (iz x3)), none] [] σ x := by
  induction n with
  | zero => intro x3 σ _ _ h; exact h.elim
  | succ n ih => intro x3 σ rx3 hs h; exact TBX5_waysApart_76 hE x ih x3 rx3 σ hs h
set_option maxRecDepth 100000 in
theorem TX5_waysApart_64 {E : EV} (hE : eOK layC E) {Φ : Int → PS → Prop} {K11 : Int → Int → PS → Prop} (x : CX) (hK11 : ∀ (x2 x3 : Int) (σ : PS), Rg x2 → Rg x3 → RS σ → K11 x2 x3 σ → RW layC E mi_X5_waysApart Φ 11 [some (.ref (eA E 7)), some (.ref (eA E 1)), some (.int (iz x2)), some (.int (iz x3)), none] [] σ x) (x2 x3 s1 s2 s3 : Int) (rx2 : Rg x2) (rx3 : Rg x3) (rs1 : Rg s1) (rs2 : Rg s2) (rs3 : Rg s3) (σ : PS) (hs : RS σ) (h : LX5_waysApart_64 K11 x2 x3 s1 s2 s3 σ Φ) : RW layC E mi_X5_waysApart Φ 64 [some (.ref (eA E 7)), some (.ref (eA E 1)), some (.int (iz x2)), some (.int (iz x3)), none] [.int (iz s3), .int (iz s2), .int (iz s1), .ref (eA E 8)] σ x := by
  refine r_callV (As := [.int (iz s1), .int (iz s2), .int (iz s3)]) (st := []) (dc D_cX5_waysApart_0 34 rfl) cw_RX5_49 nm_yX6_join (CX6_join hE _ _ _ rs1 rs2 rs3 _ hs h) lC_8 rfl rfl (by decide) rfl rfl rfl (fun z1 σ2 rz1 hσ2 h => ?_)
  show RW layC E mi_X5_waysApart Φ 67 [some (.ref (eA E 7)), some (.ref (eA E 1)), some (.int (iz x2)), some (.int (iz x3)), none] [.int (iz z1)] σ2 x
  refine r_pop (dc D_cX5_waysApart_0 35 rfl) rfl ?_
  obtain ⟨o3, h⟩ := h
  refine r_iinc (lv' := [some (.ref (eA E 7)), some (.ref (eA E 1)), some (.int (iz x2)), some (.int (iz (x3 + 1))), none]) (dc D_cX5_waysApart_0 36 rfl) rfl rfl rfl ?_
  refine r_goto (tgt := 11) (dc D_cX5_waysApart_0 37 rfl) (by decide) ?_
  exact hK11 _ _ _ rx2 o3 hσ2 h
set_option maxRecDepth 100000 in
theorem TX5_waysApart_42 {E : EV} (hE : eOK layC E) {Φ : Int → PS → Prop} {K11 : Int → Int → PS → Prop} (x : CX) (hK11 : ∀ (x2 x3 : Int) (σ : PS), Rg x2 → Rg x3 → RS σ → K11 x2 x3 σ → RW layC E mi_X5_waysApart Φ 11 [some (.ref (eA E 7)), some (.ref (eA E 1)), some (.int (iz x2)), some (.int (iz x3)), none] [] σ x) (x2 x3 s0 : Int) (rx2 : Rg x2) (rx3 : Rg x3) (rs0 : Rg s0) (σ : PS) (hs : RS σ) (h : LX5_waysApart_42 K11 x2 x3 s0 σ Φ) : RW layC E mi_X5_waysApart Φ 42 [some (.ref (eA E 7)), some (.ref (eA E 1)), some (.int (iz x2)), some (.int (iz x3)), none] [.int (iz s0)] σ x := by
  refine r_istore (lv' := [some (.ref (eA E 7)), some (.ref (eA E 1)), some (.int (iz x2)), some (.int (iz x3)), some (.int (iz s0))]) (dc D_cX5_waysApart_0 22 rfl) rfl rfl ?_
  refine r_aloadn (dc D_cX5_waysApart_0 23 rfl) rfl rfl ?_
  refine r_getR (dc D_cX5_waysApart_0 24 rfl) fw_RX5_12 lC_7 rfl ?_
  refine r_iloadn (dc D_cX5_waysApart_0 25 rfl) rfl rfl ?_
  refine r_bipush (n := 12) (dc D_cX5_waysApart_0 26 rfl) (by decide +kernel) ?_
  refine r_iloadn (dc D_cX5_waysApart_0 27 rfl) rfl rfl ?_
  refine r_iadd (dc D_cX5_waysApart_0 28 rfl) ?_
  obtain ⟨o1, h⟩ := h
  refine r_iload (dc D_cX5_waysApart_0 29 rfl) rfl ?_
  refine r_if_eq (tgt := 62) (dc D_cX5_waysApart_0 30 rfl) (by decide) rs0 (fun c2 => ?_) (fun c2 => ?_)
  · have h := h.1 c2
    refine r_ldc (n := (1000000000)) (dc D_cX5_waysApart_0 33 rfl) kw_RX5_67 ?_
    refine r_sub (lv' := [some (.ref (eA E 7)), some (.ref (eA E 1)), some (.int (iz x2)), some (.int (iz x3)), none]) (subL_s (subL_s (subL_s (subL_s (subL_n subL_e))))) ?_
    exact TX5_waysApart_64 hE x hK11 _ _ _ _ _ rx2 rx3 rx3 o1 (Rl rfl) _ hs h
  · have h := h.2 c2
    refine r_iconst (n := 1) (dc D_cX5_waysApart_0 31 rfl) ?_
    refine r_goto (tgt := 64) (dc D_cX5_waysApart_0 32 rfl) (by decide) ?_
    refine r_sub (lv' := [some (.ref (eA E 7)), some (.ref (eA E 1)), some (.int (iz x2)), some (.int (iz x3)), none]) (subL_s (subL_s (subL_s (subL_s (subL_n subL_e))))) ?_
    exact TX5_waysApart_64 hE x hK11 _ _ _ _ _ rx2 rx3 rx3 o1 (Rl rfl) _ hs h
set_option maxRecDepth 100000 in
theorem TX5_waysApart_41 {E : EV} (hE : eOK layC E) {Φ : Int → PS → Prop} {K11 : Int → Int → PS → Prop} (x : CX) (hK11 : ∀ (x2 x3 : Int) (σ : PS), Rg x2 → Rg x3 → RS σ → K11 x2 x3 σ → RW layC E mi_X5_waysApart Φ 11 [some (.ref (eA E 7)), some (.ref (eA E 1)), some (.int (iz x2)), some (.int (iz x3)), none] [] σ x) (x2 x3 : Int) (rx2 : Rg x2) (rx3 : Rg x3) (σ : PS) (hs : RS σ) (h : LX5_waysApart_41 K11 x2 x3 σ Φ) : RW layC E mi_X5_waysApart Φ 41 [some (.ref (eA E 7)), some (.ref (eA E 1)), some (.int (iz x2)), some (.int (iz x3)), none] [] σ x := by
  refine r_iconst (n := 0) (dc D_cX5_waysApart_0 21 rfl) ?_
  exact TX5_waysApart_42 hE x hK11 _ _ _ rx2 rx3 (Rl rfl) _ hs h
set_option maxRecDepth 100000 in
theorem TBX5_waysApart_11 {E : EV} (hE : eOK layC E) {Φ : Int → PS → Prop} {K11 : Int → Int → PS → Prop} (x : CX) (hK11 : ∀ (x2 x3 : Int) (σ : PS), Rg x2 → Rg x3 → RS σ → K11 x2 x3 σ → RW layC E mi_X5_waysApart Φ 11 [some (.ref (eA E 7)), some (.ref (eA E 1)), some (.int (iz x2)), some (.int (iz x3)), none] [] σ x) (x2 x3 : Int) (rx2 : Rg x2) (rx3 : Rg x3) (σ : PS) (hs : RS σ) (h : BX5_waysApart_11 K11 x2 x3 σ Φ) : RW layC E mi_X5_waysApart Φ 11 [some (.ref (eA E 7)), some (.ref (eA E 1)), some (.int (iz x2)), some (.int (iz x3)), none] [] σ x := by
  refine r_iloadn (dc D_cX5_waysApart_0 6 rfl) rfl rfl ?_
  refine r_bipush (n := 12) (dc D_cX5_waysApart_0 7 rfl) (by decide +kernel) ?_
  refine r_icmp_ge (tgt := 74) (dc D_cX5_waysApart_0 8 rfl) (by decide) rx3 (Rl rfl) (fun c1 => ?_) (fun c1 => ?_)
  · have h := h.1 c1
    refine r_iconst (n := 0) (dc D_cX5_waysApart_0 38 rfl) ?_
    refine r_istoren (lv' := [some (.ref (eA E 7)), some (.ref (eA E 1)), some (.int (iz x2)), some (.int (iz 0)), none]) (dc D_cX5_waysApart_0 39 rfl) rfl rfl rfl ?_
    refine r_sub (lv' := [some (.ref (eA E 7)), some (.ref (eA E 1)), none, some (.int (iz 0)), none]) (subL_s (subL_s (subL_n (subL_s (subL_n subL_e))))) ?_
    obtain ⟨n, h⟩ := h
    exact TX5_waysApart_76 hE x n _ _ (Rl rfl) hs h
  · have h := h.2 c1
    refine r_iloadn (dc D_cX5_waysApart_0 9 rfl) rfl rfl ?_
    refine r_if_eq (tgt := 41) (dc D_cX5_waysApart_0 10 rfl) (by decide) rx2 (fun c2 => ?_) (fun c2 => ?_)
    · have h := h.1 c2
      exact TX5_waysApart_41 hE x hK11 _ _ rx2 rx3 _ hs h
    · have h := h.2 c2
      refine r_iloadn (dc D_cX5_waysApart_0 11 rfl) rfl rfl ?_
      refine r_aloadn (dc D_cX5_waysApart_0 12 rfl) rfl rfl ?_
      refine r_getI (dc D_cX5_waysApart_0 13 rfl) fw_RX5_53 lC_1 rfl ?_
      refine r_icmp_eq (tgt := 41) (dc D_cX5_waysApart_0 14 rfl) (by decide) rx3 (hs _ _) (fun c3 => ?_) (fun c3 => ?_)
      · have h := h.1 c3
        exact TX5_waysApart_41 hE x hK11 _ _ rx2 rx3 _ hs h
      · have h := h.2 c3
        refine r_iloadn (dc D_cX5_waysApart_0 15 rfl) rfl rfl ?_
        refine r_aloadn (dc D_cX5_waysApart_0 16 rfl) rfl rfl ?_
        refine r_getI (dc D_cX5_waysApart_0 17 rfl) fw_RX5_56 lC_1 rfl ?_
        refine r_icmp_eq (tgt := 41) (dc D_cX5_waysApart_0 18 rfl) (by decide) rx3 (hs _ _) (fun c4 => ?_) (fun c4 => ?_)
        · have h := h.1 c4
          exact TX5_waysApart_41 hE x hK11 _ _ rx2 rx3 _ hs h
        · have h := h.2 c4
          refine r_iconst (n := 1) (dc D_cX5_waysApart_0 19 rfl) ?_
          refine r_goto (tgt := 42) (dc D_cX5_waysApart_0 20 rfl) (by decide) ?_
          exact TX5_waysApart_42 hE x hK11 _ _ _ rx2 rx3 (Rl rfl) _ hs h
theorem TX5_waysApart_11 {E : EV} (hE : eOK layC E) {Φ : Int → PS → Prop} (x : CX) (n : Nat) : ∀ (x2 x3 : Int) (σ : PS), Rg x2 → Rg x3 → RS σ → LX5_waysApart_11 n x2 x3 σ Φ → RW layC E mi_X5_waysApart Φ 11 [some (.ref (eA E 7)), some (.ref (eA E 1)), some (.int (iz x2)), some (.int (iz x3)), none] [] σ x := by
  induction n with
  | zero => intro x2 x3 σ _ _ _ h; exact h.elim
  | succ n ih => intro x2 x3 σ rx2 rx3 hs h; exact TBX5_waysApart_11 hE x ih x2 x3 rx2 rx3 σ hs h
set_option maxRecDepth 100000 in
theorem CX5_waysApart {E : EV} (hE : eOK layC E) {Φ : Int → PS → Prop} (a2 : Int) (ra2 : Rg a2) (σ : PS) (hs : RS σ) (h : FX5_waysApart a2 σ Φ) : CT layC E yX5_waysApart mi_X5_waysApart [.ref (eA E 7), .ref (eA E 1), .int (iz a2)] σ Φ := by
  refine ct_of (by decide +kernel) rfl hE rfl rfl hs (fun x => ?_)
  show RW layC E mi_X5_waysApart Φ 0 [some (.ref (eA E 7)), some (.ref (eA E 1)), some (.int (iz a2)), none, none] [] σ x
  refine r_aloadn (dc D_cX5_waysApart_0 0 rfl) rfl rfl ?_
  refine r_getR (dc D_cX5_waysApart_0 1 rfl) fw_RX5_12 lC_7 rfl ?_
  refine r_bipush (n := 24) (dc D_cX5_waysApart_0 2 rfl) (by decide +kernel) ?_
  refine r_callV (As := [.int (iz 24)]) (st := []) (dc D_cX5_waysApart_0 3 rfl) cw_RX5_25 nm_yX6_begin (CX6_begin hE _ (Rl rfl) _ hs h) lC_8 rfl rfl (by decide) rfl rfl rfl (fun z1 σ2 rz1 hσ2 h => ?_)
  show RW layC E mi_X5_waysApart Φ 9 [some (.ref (eA E 7)), some (.ref (eA E 1)), some (.int (iz a2)), none, none] [] σ2 x
  refine r_iconst (n := 0) (dc D_cX5_waysApart_0 4 rfl) ?_
  refine r_istoren (lv' := [some (.ref (eA E 7)), some (.ref (eA E 1)), some (.int (iz a2)), some (.int (iz 0)), none]) (dc D_cX5_waysApart_0 5 rfl) rfl rfl rfl ?_
  obtain ⟨n, h⟩ := h
  exact TX5_waysApart_11 hE x n _ _ _ ra2 (Rl rfl) hσ2 h
-- end of GateFlow$Models.waysApart
def mi_X11_apart : MI := (cX11_apart, RX11, 2, 8, (some .int), 1)
def LX11_apart_25 (s2 : Int) (σ : PS) (Φ : Int → PS → Prop) : Prop :=
  FX5_waysApart s2 σ (fun z1 σ2 =>
  Φ z1 σ2)
def FX11_apart (a1 : Int) (σ : PS) (Φ : Int → PS → Prop) : Prop :=
  FX11_isOneOrZero a1 σ (fun z1 σ2 =>
  ((z1 = 0 →
    Φ (-1) σ2) ∧
  (¬ z1 = 0 →
    ((¬ a1 = 1 →
      LX11_apart_25 0 σ2 Φ) ∧
    (a1 = 1 →
      LX11_apart_25 1 σ2 Φ)))))
theorem cw_RX11_230 : CWV RX11 230 yX5_waysApart mi_X5_waysApart := tb_r [873, 874, 875, 102, 876] (by decide +kernel)
theorem nm_yX5_waysApart : ynm yX5_waysApart 2 := ⟨⟨by decide +kernel, by decide +kernel⟩, by decide +kernel⟩
set_option maxRecDepth 100000 in
theorem TX11_apart_25 {E : EV} (hE : eOK layC E) {Φ : Int → PS → Prop} (x : CX) (s2 : Int) (rs2 : Rg s2) (σ : PS) (hs : RS σ) (h : LX11_apart_25 s2 σ Φ) : RW layC E mi_X11_apart Φ 25 [none, none] [.int (iz s2), .ref (eA E 1), .ref (eA E 7)] σ x := by
  refine r_callV (As := [.ref (eA E 1), .int (iz s2)]) (st := []) (dc D_cX11_apart_0 13 rfl) cw_RX11_230 nm_yX5_waysApart (CX5_waysApart hE _ rs2 _ hs h) lC_7 rfl rfl (by decide) rfl rfl rfl (fun z1 σ2 rz1 hσ2 h => ?_)
  show RW layC E mi_X11_apart Φ 28 [none, none] [.int (iz z1)] σ2 x
  refine r_goto (tgt := 32) (dc D_cX11_apart_0 14 rfl) (by decide) ?_
  exact r_iret (dc D_cX11_apart_0 16 rfl) rfl rz1 h
set_option maxRecDepth 100000 in
theorem CX11_apart {E : EV} (hE : eOK layC E) {Φ : Int → PS → Prop} (a1 : Int) (ra1 : Rg a1) (σ : PS) (hs : RS σ) (h : FX11_apart a1 σ Φ) : CT layC E yX11_apart mi_X11_apart [.ref (eA E 0), .int (iz a1)] σ Φ := by
  refine ct_of (by decide +kernel) rfl hE rfl rfl hs (fun x => ?_)
  show RW layC E mi_X11_apart Φ 0 [some (.ref (eA E 0)), some (.int (iz a1))] [] σ x
  refine r_iloadn (dc D_cX11_apart_0 0 rfl) rfl rfl ?_
  refine r_callS (As := [.int (iz a1)]) (st := []) (dc D_cX11_apart_0 1 rfl) cw_RX11_125 nm_yX11_isOneOrZero (CX11_isOneOrZero hE _ ra1 _ hs h) rfl (by decide) rfl rfl rfl (fun z1 σ2 rz1 hσ2 h => ?_)
  show RW layC E mi_X11_apart Φ 4 [some (.ref (eA E 0)), some (.int (iz a1))] [.int (iz z1)] σ2 x
  refine r_if_eq (tgt := 31) (dc D_cX11_apart_0 2 rfl) (by decide) rz1 (fun c3 => ?_) (fun c3 => ?_)
  · have h := h.1 c3
    refine r_iconst (n := (-1)) (dc D_cX11_apart_0 15 rfl) ?_
    exact r_iret (dc D_cX11_apart_0 16 rfl) rfl (Rl rfl) h
  · have h := h.2 c3
    refine r_aloadn (dc D_cX11_apart_0 3 rfl) rfl rfl ?_
    refine r_getR (dc D_cX11_apart_0 4 rfl) fw_RX11_43 lC_0 rfl ?_
    refine r_aloadn (dc D_cX11_apart_0 5 rfl) rfl rfl ?_
    refine r_getR (dc D_cX11_apart_0 6 rfl) fw_RX11_12 lC_0 rfl ?_
    refine r_iloadn (dc D_cX11_apart_0 7 rfl) rfl rfl ?_
    refine r_iconst (n := 1) (dc D_cX11_apart_0 8 rfl) ?_
    refine r_icmp_ne (tgt := 24) (dc D_cX11_apart_0 9 rfl) (by decide) ra1 (Rl rfl) (fun c4 => ?_) (fun c4 => ?_)
    · have h := h.1 c4
      refine r_iconst (n := 0) (dc D_cX11_apart_0 12 rfl) ?_
      refine r_sub (lv' := [none, none]) (subL_n (subL_n subL_e)) ?_
      exact TX11_apart_25 hE x _ (Rl rfl) _ hσ2 h
    · have h := h.2 c4
      refine r_iconst (n := 1) (dc D_cX11_apart_0 10 rfl) ?_
      refine r_goto (tgt := 25) (dc D_cX11_apart_0 11 rfl) (by decide) ?_
      refine r_sub (lv' := [none, none]) (subL_n (subL_n subL_e)) ?_
      exact TX11_apart_25 hE x _ (Rl rfl) _ hσ2 h
-- end of GateFlow.apart
def mi_X5_nodeAt : MI := (cX5_nodeAt, RX5, 4, 1, (some .int), 1)
def LX5_nodeAt_21 (x1 x2 s0 : Int) (σ : PS) (Φ : Int → PS → Prop) : Prop :=
  Rg (x1 * 9) ∧
  ((s0 = 0 →
    Rg ((x1 * 9) + x2) ∧
    Φ ((x1 * 9) + x2) σ) ∧
  (¬ s0 = 0 →
    Rg ((x1 * 9) + 0) ∧
    Φ ((x1 * 9) + 0) σ))
def LX5_nodeAt_16 (x1 x2 : Int) (σ : PS) (Φ : Int → PS → Prop) : Prop :=
  LX5_nodeAt_21 x1 x2 1 σ Φ
def FX5_nodeAt (a2 a3 : Int) (σ : PS) (Φ : Int → PS → Prop) : Prop :=
  ((a2 = σ 1 7 →
    LX5_nodeAt_16 a2 a3 σ Φ) ∧
  (¬ a2 = σ 1 7 →
    ((¬ a2 = σ 1 8 →
      LX5_nodeAt_21 a2 a3 0 σ Φ) ∧
    (a2 = σ 1 8 →
      LX5_nodeAt_16 a2 a3 σ Φ))))
set_option maxRecDepth 100000 in
theorem TX5_nodeAt_21 {E : EV} (hE : eOK layC E) {Φ : Int → PS → Prop} (x : CX) (x1 x2 s0 : Int) (rx1 : Rg x1) (rx2 : Rg x2) (rs0 : Rg s0) (σ : PS) (hs : RS σ) (h : LX5_nodeAt_21 x1 x2 s0 σ Φ) : RW layC E mi_X5_nodeAt Φ 21 [none, some (.int (iz x1)), some (.int (iz x2)), none] [.int (iz s0)] σ x := by
  refine r_istoren (lv' := [none, some (.int (iz x1)), some (.int (iz x2)), some (.int (iz s0))]) (dc D_cX5_nodeAt_0 11 rfl) rfl rfl rfl ?_
  refine r_iloadn (dc D_cX5_nodeAt_0 12 rfl) rfl rfl ?_
  refine r_bipush (n := 9) (dc D_cX5_nodeAt_0 13 rfl) (by decide +kernel) ?_
  refine r_imul (dc D_cX5_nodeAt_0 14 rfl) ?_
  obtain ⟨o1, h⟩ := h
  refine r_iloadn (dc D_cX5_nodeAt_0 15 rfl) rfl rfl ?_
  refine r_if_eq (tgt := 34) (dc D_cX5_nodeAt_0 16 rfl) (by decide) rs0 (fun c2 => ?_) (fun c2 => ?_)
  · have h := h.1 c2
    refine r_iloadn (dc D_cX5_nodeAt_0 19 rfl) rfl rfl ?_
    refine r_iadd (dc D_cX5_nodeAt_0 20 rfl) ?_
    obtain ⟨o3, h⟩ := h
    exact r_iret (dc D_cX5_nodeAt_0 21 rfl) rfl o3 h
  · have h := h.2 c2
    refine r_iconst (n := 0) (dc D_cX5_nodeAt_0 17 rfl) ?_
    refine r_goto (tgt := 35) (dc D_cX5_nodeAt_0 18 rfl) (by decide) ?_
    refine r_iadd (dc D_cX5_nodeAt_0 20 rfl) ?_
    obtain ⟨o4, h⟩ := h
    exact r_iret (dc D_cX5_nodeAt_0 21 rfl) rfl o4 h
set_option maxRecDepth 100000 in
theorem TX5_nodeAt_16 {E : EV} (hE : eOK layC E) {Φ : Int → PS → Prop} (x : CX) (x1 x2 : Int) (rx1 : Rg x1) (rx2 : Rg x2) (σ : PS) (hs : RS σ) (h : LX5_nodeAt_16 x1 x2 σ Φ) : RW layC E mi_X5_nodeAt Φ 16 [none, some (.int (iz x1)), some (.int (iz x2)), none] [] σ x := by
  refine r_iconst (n := 1) (dc D_cX5_nodeAt_0 8 rfl) ?_
  refine r_goto (tgt := 21) (dc D_cX5_nodeAt_0 9 rfl) (by decide) ?_
  exact TX5_nodeAt_21 hE x _ _ _ rx1 rx2 (Rl rfl) _ hs h
set_option maxRecDepth 100000 in
theorem CX5_nodeAt {E : EV} (hE : eOK layC E) {Φ : Int → PS → Prop} (a2 a3 : Int) (ra2 : Rg a2) (ra3 : Rg a3) (σ : PS) (hs : RS σ) (h : FX5_nodeAt a2 a3 σ Φ) : CT layC E yX5_nodeAt mi_X5_nodeAt [.ref (eA E 1), .int (iz a2), .int (iz a3)] σ Φ := by
  refine ct_of (by decide +kernel) rfl hE rfl rfl hs (fun x => ?_)
  show RW layC E mi_X5_nodeAt Φ 0 [some (.ref (eA E 1)), some (.int (iz a2)), some (.int (iz a3)), none] [] σ x
  refine r_iloadn (dc D_cX5_nodeAt_0 0 rfl) rfl rfl ?_
  refine r_aloadn (dc D_cX5_nodeAt_0 1 rfl) rfl rfl ?_
  refine r_getI (dc D_cX5_nodeAt_0 2 rfl) fw_RX5_53 lC_1 rfl ?_
  refine r_icmp_eq (tgt := 16) (dc D_cX5_nodeAt_0 3 rfl) (by decide) ra2 (hs _ _) (fun c1 => ?_) (fun c1 => ?_)
  · have h := h.1 c1
    refine r_sub (lv' := [none, some (.int (iz a2)), some (.int (iz a3)), none]) (subL_n (subL_s (subL_s (subL_n subL_e)))) ?_
    exact TX5_nodeAt_16 hE x _ _ ra2 ra3 _ hs h
  · have h := h.2 c1
    refine r_iloadn (dc D_cX5_nodeAt_0 4 rfl) rfl rfl ?_
    refine r_aloadn (dc D_cX5_nodeAt_0 5 rfl) rfl rfl ?_
    refine r_getI (dc D_cX5_nodeAt_0 6 rfl) fw_RX5_56 lC_1 rfl ?_
    refine r_icmp_ne (tgt := 20) (dc D_cX5_nodeAt_0 7 rfl) (by decide) ra2 (hs _ _) (fun c2 => ?_) (fun c2 => ?_)
    · have h := h.1 c2
      refine r_iconst (n := 0) (dc D_cX5_nodeAt_0 10 rfl) ?_
      refine r_sub (lv' := [none, some (.int (iz a2)), some (.int (iz a3)), none]) (subL_n (subL_s (subL_s (subL_n subL_e)))) ?_
      exact TX5_nodeAt_21 hE x _ _ _ ra2 ra3 (Rl rfl) _ hs h
    · have h := h.2 c2
      refine r_sub (lv' := [none, some (.int (iz a2)), some (.int (iz a3)), none]) (subL_n (subL_s (subL_s (subL_n subL_e)))) ?_
      exact TX5_nodeAt_16 hE x _ _ ra2 ra3 _ hs h
-- end of GateFlow$Models.nodeAt
def mi_X5_inHours : MI := (cX5_inHours, RX5, 6, 7, (some .int), 1)
def LX5_inHours_196 (K11 : Int → Int → PS → Prop) (K145 : Int → Int → Int → PS → Prop) (x2 x3 x4 : Int) (σ : PS) (Φ : Int → PS → Prop) : Prop :=
  Rg (x4 + 1) ∧
  K145 x2 x3 (x4 + 1) σ
def BX5_inHours_145 (K11 : Int → Int → PS → Prop) (K145 : Int → Int → Int → PS → Prop) (x2 x3 x4 : Int) (σ : PS) (Φ : Int → PS → Prop) : Prop :=
  ((12 ≤ x4 →
    Rg (x3 + 1) ∧
    K11 x2 (x3 + 1) σ) ∧
  (¬ 12 ≤ x4 →
    ((x4 = σ 1 7 →
      LX5_inHours_196 K11 K145 x2 x3 x4 σ Φ) ∧
    (¬ x4 = σ 1 7 →
      ((x4 = σ 1 8 →
        LX5_inHours_196 K11 K145 x2 x3 x4 σ Φ) ∧
      (¬ x4 = σ 1 8 →
        FX5_nodeAt x4 x3 σ (fun z5 σ6 =>
        Rg (x3 + 1) ∧
        FX5_nodeAt x4 (x3 + 1) σ6 (fun z8 σ9 =>
        FX6_join z5 z8 1000000000 σ9 (fun z10 σ11 =>
        LX5_inHours_196 K11 K145 x2 x3 x4 σ11 Φ)))))))))
def LX5_inHours_145 (K11 : Int → Int → PS → Prop) : Nat → Int → Int → Int → PS → (Int → PS → Prop) → Prop
  | 0, _, _, _, _, _ => False
  | n + 1, x2, x3, x4, σ, Φ => BX5_inHours_145 K11 (fun x2 x3 x4 σ => LX5_inHours_145 K11 n x2 x3 x4 σ Φ) x2 x3 x4 σ Φ
def LX5_inHours_136 (K11 : Int → Int → PS → Prop) (K19 : Int → Int → Int → PS → Prop) (x2 x3 x4 : Int) (σ : PS) (Φ : Int → PS → Prop) : Prop :=
  Rg (x4 + 1) ∧
  K19 x2 x3 (x4 + 1) σ
def LX5_inHours_70 (K11 : Int → Int → PS → Prop) (K19 : Int → Int → Int → PS → Prop) (x2 x3 x4 s0 : Int) (σ : PS) (Φ : Int → PS → Prop) : Prop :=
  ((s0 = 0 →
    LX5_inHours_136 K11 K19 x2 x3 x4 σ Φ) ∧
  (¬ s0 = 0 →
    (0 ≤ x4 ∧ x4 < 30) ∧
    Rg (x3 + (σ 17 x4.toNat)) ∧
    ((x2 < x3 + (σ 17 x4.toNat) →
      LX5_inHours_136 K11 K19 x2 x3 x4 σ Φ) ∧
    (¬ x2 < x3 + (σ 17 x4.toNat) →
      (0 ≤ x4 ∧ x4 < 30) ∧
      FX5_nodeAt (σ 13 x4.toNat) x3 σ (fun z6 σ7 =>
      (0 ≤ x4 ∧ x4 < 30) ∧
      (0 ≤ x4 ∧ x4 < 30) ∧
      Rg (x3 + (σ7 17 x4.toNat)) ∧
      FX5_nodeAt (σ7 14 x4.toNat) (x3 + (σ7 17 x4.toNat)) σ7 (fun z11 σ12 =>
      FX3_usable x4 σ12 (fun z13 σ14 =>
      FX6_join z6 z11 z13 σ14 (fun z15 σ16 =>
      LX5_inHours_136 K11 K19 x2 x3 x4 σ16 Φ))))))))
def LX5_inHours_69 (K11 : Int → Int → PS → Prop) (K19 : Int → Int → Int → PS → Prop) (x2 x3 x4 : Int) (σ : PS) (Φ : Int → PS → Prop) : Prop :=
  LX5_inHours_70 K11 K19 x2 x3 x4 0 σ Φ
def BX5_inHours_19 (K11 : Int → Int → PS → Prop) (K19 : Int → Int → Int → PS → Prop) (x2 x3 x4 : Int) (σ : PS) (Φ : Int → PS → Prop) : Prop :=
  ((σ 1 6 ≤ x4 →
    ∃ n, LX5_inHours_145 K11 n x2 x3 0 σ Φ) ∧
  (¬ σ 1 6 ≤ x4 →
    FX3_usable x4 σ (fun z2 σ3 =>
    ((z2 ≤ 0 →
      LX5_inHours_69 K11 K19 x2 x3 x4 σ3 Φ) ∧
    (¬ z2 ≤ 0 →
      (0 ≤ x4 ∧ x4 < 30) ∧
      ((σ3 13 x4.toNat = σ3 1 8 →
        LX5_inHours_69 K11 K19 x2 x3 x4 σ3 Φ) ∧
      (¬ σ3 13 x4.toNat = σ3 1 8 →
        (0 ≤ x4 ∧ x4 < 30) ∧
        ((σ3 14 x4.toNat = σ3 1 7 →
          LX5_inHours_69 K11 K19 x2 x3 x4 σ3 Φ) ∧
        (¬ σ3 14 x4.toNat = σ3 1 7 →
          LX5_inHours_70 K11 K19 x2 x3 x4 1 σ3 Φ)))))))))
def LX5_inHours_19 (K11 : Int → Int → PS → Prop) : Nat → Int → Int → Int → PS → (Int → PS → Prop) → Prop
  | 0, _, _, _, _, _ => False
  | n + 1, x2, x3, x4, σ, Φ => BX5_inHours_19 K11 (fun x2 x3 x4 σ => LX5_inHours_19 K11 n x2 x3 x4 σ Φ) x2 x3 x4 σ Φ
def BX5_inHours_11 (K11 : Int → Int → PS → Prop) (x2 x3 : Int) (σ : PS) (Φ : Int → PS → Prop) : Prop :=
  ((x2 ≤ x3 →
    FX5_nodeAt (σ 1 7) 0 σ (fun z2 σ3 =>
    FX5_nodeAt (σ3 1 8) 0 σ3 (fun z4 σ5 =>
    FX6_pass z2 z4 σ5 (fun z6 σ7 =>
    Φ z6 σ7)))) ∧
  (¬ x2 ≤ x3 →
    ∃ n, LX5_inHours_19 K11 n x2 x3 0 σ Φ))
def LX5_inHours_11 : Nat → Int → Int → PS → (Int → PS → Prop) → Prop
  | 0, _, _, _, _ => False
  | n + 1, x2, x3, σ, Φ => BX5_inHours_11 (fun x2 x3 σ => LX5_inHours_11 n x2 x3 σ Φ) x2 x3 σ Φ
def FX5_inHours (a2 : Int) (σ : PS) (Φ : Int → PS → Prop) : Prop :=
  FX6_begin 108 σ (fun z1 σ2 =>
  ∃ n, LX5_inHours_11 n a2 0 σ2 Φ)
theorem fw_RX5_85 : FW RX5 85 3 4 := ⟨RX3, TX3, 9, rfl, by decide, rfl, tb_1 161 (by decide +kernel), uw_3⟩
theorem cw_RX5_88 : CWS RX5 88 yX5_nodeAt mi_X5_nodeAt := tb_r [885, 886, 102, 887] (by decide +kernel)
theorem nm_yX5_nodeAt : ynm yX5_nodeAt 3 := ⟨⟨by decide +kernel, by decide +kernel⟩, by decide +kernel⟩
set_option maxRecDepth 100000 in
theorem TX5_inHours_196 {E : EV} (hE : eOK layC E) {Φ : Int → PS → Prop} {K11 : Int → Int → PS → Prop} {K145 : Int → Int → Int → PS → Prop} (x : CX) (hK11 : ∀ (x2 x3 : Int) (σ : PS), Rg x2 → Rg x3 → RS σ → K11 x2 x3 σ → RW layC E mi_X5_inHours Φ 11 [some (.ref (eA E 7)), some (.ref (eA E 1)), some (.int (iz x2)), some (.int (iz x3)), none, none] [] σ x) (hK145 : ∀ (x2 x3 x4 : Int) (σ : PS), Rg x2 → Rg x3 → Rg x4 → RS σ → K145 x2 x3 x4 σ → RW layC E mi_X5_inHours Φ 145 [some (.ref (eA E 7)), some (.ref (eA E 1)), some (.int (iz x2)), some (.int (iz x3)), some (.int (iz x4)), none] [] σ x) (x2 x3 x4 : Int) (rx2 : Rg x2) (rx3 : Rg x3) (rx4 : Rg x4) (σ : PS) (hs : RS σ) (h : LX5_inHours_196 K11 K145 x2 x3 x4 σ Φ) : RW layC E mi_X5_inHours Φ 196 [some (.ref (eA E 7)), some (.ref (eA E 1)), some (.int (iz x2)), some (.int (iz x3)), some (.int (iz x4)), none] [] σ x := by
  obtain ⟨o1, h⟩ := h
  refine r_iinc (lv' := [some (.ref (eA E 7)), some (.ref (eA E 1)), some (.int (iz x2)), some (.int (iz x3)), some (.int (iz (x4 + 1))), none]) (dc D_cX5_inHours_2 23 rfl) rfl rfl rfl ?_
  refine r_goto (tgt := 145) (dc D_cX5_inHours_2 24 rfl) (by decide) ?_
  exact hK145 _ _ _ _ rx2 rx3 o1 hs h
set_option maxRecDepth 100000 in
theorem TBX5_inHours_145 {E : EV} (hE : eOK layC E) {Φ : Int → PS → Prop} {K11 : Int → Int → PS → Prop} {K145 : Int → Int → Int → PS → Prop} (x : CX) (hK11 : ∀ (x2 x3 : Int) (σ : PS), Rg x2 → Rg x3 → RS σ → K11 x2 x3 σ → RW layC E mi_X5_inHours Φ 11 [some (.ref (eA E 7)), some (.ref (eA E 1)), some (.int (iz x2)), some (.int (iz x3)), none, none] [] σ x) (hK145 : ∀ (x2 x3 x4 : Int) (σ : PS), Rg x2 → Rg x3 → Rg x4 → RS σ → K145 x2 x3 x4 σ → RW layC E mi_X5_inHours Φ 145 [some (.ref (eA E 7)), some (.ref (eA E 1)), some (.int (iz x2)), some (.int (iz x3)), some (.int (iz x4)), none] [] σ x) (x2 x3 x4 : Int) (rx2 : Rg x2) (rx3 : Rg x3) (rx4 : Rg x4) (σ : PS) (hs : RS σ) (h : BX5_inHours_145 K11 K145 x2 x3 x4 σ Φ) : RW layC E mi_X5_inHours Φ 145 [some (.ref (eA E 7)), some (.ref (eA E 1)), some (.int (iz x2)), some (.int (iz x3)), some (.int (iz x4)), none] [] σ x := by
  refine r_iload (dc D_cX5_inHours_1 37 rfl) rfl ?_
  refine r_bipush (n := 12) (dc D_cX5_inHours_1 38 rfl) (by decide +kernel) ?_
  refine r_icmp_ge (tgt := 202) (dc D_cX5_inHours_1 39 rfl) (by decide) rx4 (Rl rfl) (fun c1 => ?_) (fun c1 => ?_)
  · have h := h.1 c1
    obtain ⟨o2, h⟩ := h
    refine r_iinc (lv' := [some (.ref (eA E 7)), some (.ref (eA E 1)), some (.int (iz x2)), some (.int (iz (x3 + 1))), some (.int (iz x4)), none]) (dc D_cX5_inHours_2 25 rfl) rfl rfl rfl ?_
    refine r_goto (tgt := 11) (dc D_cX5_inHours_2 26 rfl) (by decide) ?_
    refine r_sub (lv' := [some (.ref (eA E 7)), some (.ref (eA E 1)), some (.int (iz x2)), some (.int (iz (x3 + 1))), none, none]) (subL_s (subL_s (subL_s (subL_s (subL_n (subL_n subL_e)))))) ?_
    exact hK11 _ _ _ rx2 o2 hs h
  · have h := h.2 c1
    refine r_iload (dc D_cX5_inHours_2 0 rfl) rfl ?_
    refine r_aloadn (dc D_cX5_inHours_2 1 rfl) rfl rfl ?_
    refine r_getI (dc D_cX5_inHours_2 2 rfl) fw_RX5_53 lC_1 rfl ?_
    refine r_icmp_eq (tgt := 196) (dc D_cX5_inHours_2 3 rfl) (by decide) rx4 (hs _ _) (fun c3 => ?_) (fun c3 => ?_)
    · have h := h.1 c3
      exact TX5_inHours_196 hE x hK11 hK145 _ _ _ rx2 rx3 rx4 _ hs h
    · have h := h.2 c3
      refine r_iload (dc D_cX5_inHours_2 4 rfl) rfl ?_
      refine r_aloadn (dc D_cX5_inHours_2 5 rfl) rfl rfl ?_
      refine r_getI (dc D_cX5_inHours_2 6 rfl) fw_RX5_56 lC_1 rfl ?_
      refine r_icmp_eq (tgt := 196) (dc D_cX5_inHours_2 7 rfl) (by decide) rx4 (hs _ _) (fun c4 => ?_) (fun c4 => ?_)
      · have h := h.1 c4
        exact TX5_inHours_196 hE x hK11 hK145 _ _ _ rx2 rx3 rx4 _ hs h
      · have h := h.2 c4
        refine r_aloadn (dc D_cX5_inHours_2 8 rfl) rfl rfl ?_
        refine r_getR (dc D_cX5_inHours_2 9 rfl) fw_RX5_12 lC_7 rfl ?_
        refine r_aloadn (dc D_cX5_inHours_2 10 rfl) rfl rfl ?_
        refine r_iload (dc D_cX5_inHours_2 11 rfl) rfl ?_
        refine r_iloadn (dc D_cX5_inHours_2 12 rfl) rfl rfl ?_
        refine r_callS (As := [.ref (eA E 1), .int (iz x4), .int (iz x3)]) (st := [.ref (eA E 8)]) (dc D_cX5_inHours_2 13 rfl) cw_RX5_88 nm_yX5_nodeAt (CX5_nodeAt hE _ _ rx4 rx3 _ hs h) rfl (by decide) rfl rfl rfl (fun z5 σ6 rz5 hσ6 h => ?_)
        show RW layC E mi_X5_inHours Φ 181 [some (.ref (eA E 7)), some (.ref (eA E 1)), some (.int (iz x2)), some (.int (iz x3)), some (.int (iz x4)), none] [.int (iz z5), .ref (eA E 8)] σ6 x
        refine r_aloadn (dc D_cX5_inHours_2 14 rfl) rfl rfl ?_
        refine r_iload (dc D_cX5_inHours_2 15 rfl) rfl ?_
        refine r_iloadn (dc D_cX5_inHours_2 16 rfl) rfl rfl ?_
        refine r_iconst (n := 1) (dc D_cX5_inHours_2 17 rfl) ?_
        refine r_iadd (dc D_cX5_inHours_2 18 rfl) ?_
        obtain ⟨o7, h⟩ := h
        refine r_callS (As := [.ref (eA E 1), .int (iz x4), .int (iz (x3 + 1))]) (st := [.int (iz z5), .ref (eA E 8)]) (dc D_cX5_inHours_2 19 rfl) cw_RX5_88 nm_yX5_nodeAt (CX5_nodeAt hE _ _ rx4 o7 _ hσ6 h) rfl (by decide) rfl rfl rfl (fun z8 σ9 rz8 hσ9 h => ?_)
        show RW layC E mi_X5_inHours Φ 190 [some (.ref (eA E 7)), some (.ref (eA E 1)), some (.int (iz x2)), some (.int (iz x3)), some (.int (iz x4)), none] [.int (iz z8), .int (iz z5), .ref (eA E 8)] σ9 x
        refine r_ldc (n := (1000000000)) (dc D_cX5_inHours_2 20 rfl) kw_RX5_67 ?_
        refine r_callV (As := [.int (iz z5), .int (iz z8), .int (iz 1000000000)]) (st := []) (dc D_cX5_inHours_2 21 rfl) cw_RX5_49 nm_yX6_join (CX6_join hE _ _ _ rz5 rz8 (Rl rfl) _ hσ9 h) lC_8 rfl rfl (by decide) rfl rfl rfl (fun z10 σ11 rz10 hσ11 h => ?_)
        show RW layC E mi_X5_inHours Φ 195 [some (.ref (eA E 7)), some (.ref (eA E 1)), some (.int (iz x2)), some (.int (iz x3)), some (.int (iz x4)), none] [.int (iz z10)] σ11 x
        refine r_pop (dc D_cX5_inHours_2 22 rfl) rfl ?_
        exact TX5_inHours_196 hE x hK11 hK145 _ _ _ rx2 rx3 rx4 _ hσ11 h
theorem TX5_inHours_145 {E : EV} (hE : eOK layC E) {Φ : Int → PS → Prop} {K11 : Int → Int → PS → Prop} (x : CX) (hK11 : ∀ (x2 x3 : Int) (σ : PS), Rg x2 → Rg x3 → RS σ → K11 x2 x3 σ → RW layC E mi_X5_inHours Φ 11 [some (.ref (eA E 7)), some (.ref (eA E 1)), some (.int (iz x2)), some (.int (iz x3)), none, none] [] σ x) (n : Nat) : ∀ (x2 x3 x4 : Int) (σ : PS), Rg x2 → Rg x3 → Rg x4 → RS σ → LX5_inHours_145 K11 n x2 x3 x4 σ Φ → RW layC E mi_X5_inHours Φ 145 [some (.ref (eA E 7)), some (.ref (eA E 1)), some (.int (iz x2)), some (.int (iz x3)), some (.int (iz x4)), none] [] σ x := by
  induction n with
  | zero => intro x2 x3 x4 σ _ _ _ _ h; exact h.elim
  | succ n ih => intro x2 x3 x4 σ rx2 rx3 rx4 hs h; exact TBX5_inHours_145 hE x hK11 ih x2 x3 x4 rx2 rx3 rx4 σ hs h
set_option maxRecDepth 100000 in
theorem TX5_inHours_136 {E : EV} (hE : eOK layC E) {Φ : Int → PS → Prop} {K11 : Int → Int → PS → Prop} {K19 : Int → Int → Int → PS → Prop} (x : CX) (hK11 : ∀ (x2 x3 : Int) (σ : PS), Rg x2 → Rg x3 → RS σ → K11 x2 x3 σ → RW layC E mi_X5_inHours Φ 11 [some (.ref (eA E 7)), some (.ref (eA E 1)), some (.int (iz x2)), some (.int (iz x3)), none, none] [] σ x) (hK19 : ∀ (x2 x3 x4 : Int) (σ : PS), Rg x2 → Rg x3 → Rg x4 → RS σ → K19 x2 x3 x4 σ → RW layC E mi_X5_inHours Φ 19 [some (.ref (eA E 7)), some (.ref (eA E 1)), some (.int (iz x2)), some (.int (iz x3)), some (.int (iz x4)), none] [] σ x) (x2 x3 x4 : Int) (rx2 : Rg x2) (rx3 : Rg x3) (rx4 : Rg x4) (σ : PS) (hs : RS σ) (h : LX5_inHours_136 K11 K19 x2 x3 x4 σ Φ) : RW layC E mi_X5_inHours Φ 136 [some (.ref (eA E 7)), some (.ref (eA E 1)), some (.int (iz x2)), some (.int (iz x3)), some (.int (iz x4)), none] [] σ x := by
  obtain ⟨o1, h⟩ := h
  refine r_iinc (lv' := [some (.ref (eA E 7)), some (.ref (eA E 1)), some (.int (iz x2)), some (.int (iz x3)), some (.int (iz (x4 + 1))), none]) (dc D_cX5_inHours_1 33 rfl) rfl rfl rfl ?_
  refine r_goto (tgt := 19) (dc D_cX5_inHours_1 34 rfl) (by decide) ?_
  exact hK19 _ _ _ _ rx2 rx3 o1 hs h
set_option maxRecDepth 100000 in
theorem TX5_inHours_70 {E : EV} (hE : eOK layC E) {Φ : Int → PS → Prop} {K11 : Int → Int → PS → Prop} {K19 : Int → Int → Int → PS → Prop} (x : CX) (hK11 : ∀ (x2 x3 : Int) (σ : PS), Rg x2 → Rg x3 → RS σ → K11 x2 x3 σ → RW layC E mi_X5_inHours Φ 11 [some (.ref (eA E 7)), some (.ref (eA E 1)), some (.int (iz x2)), some (.int (iz x3)), none, none] [] σ x) (hK19 : ∀ (x2 x3 x4 : Int) (σ : PS), Rg x2 → Rg x3 → Rg x4 → RS σ → K19 x2 x3 x4 σ → RW layC E mi_X5_inHours Φ 19 [some (.ref (eA E 7)), some (.ref (eA E 1)), some (.int (iz x2)), some (.int (iz x3)), some (.int (iz x4)), none] [] σ x) (x2 x3 x4 s0 : Int) (rx2 : Rg x2) (rx3 : Rg x3) (rx4 : Rg x4) (rs0 : Rg s0) (σ : PS) (hs : RS σ) (h : LX5_inHours_70 K11 K19 x2 x3 x4 s0 σ Φ) : RW layC E mi_X5_inHours Φ 70 [some (.ref (eA E 7)), some (.ref (eA E 1)), some (.int (iz x2)), some (.int (iz x3)), some (.int (iz x4)), none] [.int (iz s0)] σ x := by
  refine r_istore (lv' := [some (.ref (eA E 7)), some (.ref (eA E 1)), some (.int (iz x2)), some (.int (iz x3)), some (.int (iz x4)), some (.int (iz s0))]) (dc D_cX5_inHours_0 36 rfl) rfl rfl ?_
  refine r_iload (dc D_cX5_inHours_0 37 rfl) rfl ?_
  refine r_if_eq (tgt := 136) (dc D_cX5_inHours_0 38 rfl) (by decide) rs0 (fun c1 => ?_) (fun c1 => ?_)
  · have h := h.1 c1
    refine r_sub (lv' := [some (.ref (eA E 7)), some (.ref (eA E 1)), some (.int (iz x2)), some (.int (iz x3)), some (.int (iz x4)), none]) (subL_s (subL_s (subL_s (subL_s (subL_s (subL_n subL_e)))))) ?_
    exact TX5_inHours_136 hE x hK11 hK19 _ _ _ rx2 rx3 rx4 _ hs h
  · have h := h.2 c1
    refine r_iloadn (dc D_cX5_inHours_0 39 rfl) rfl rfl ?_
    refine r_aloadn (dc D_cX5_inHours_1 0 rfl) rfl rfl ?_
    refine r_getR (dc D_cX5_inHours_1 1 rfl) fw_RX5_85 lC_1 rfl ?_
    refine r_iload (dc D_cX5_inHours_1 2 rfl) rfl ?_
    obtain ⟨o2, h⟩ := h
    refine r_iald (N := 30) (dc D_cX5_inHours_1 3 rfl) lC_17 rfl rfl o2 ?_
    refine r_iadd (dc D_cX5_inHours_1 4 rfl) ?_
    obtain ⟨o3, h⟩ := h
    refine r_iloadn (dc D_cX5_inHours_1 5 rfl) rfl rfl ?_
    refine r_icmp_gt (tgt := 136) (dc D_cX5_inHours_1 6 rfl) (by decide) o3 rx2 (fun c4 => ?_) (fun c4 => ?_)
    · have h := h.1 c4
      refine r_sub (lv' := [some (.ref (eA E 7)), some (.ref (eA E 1)), some (.int (iz x2)), some (.int (iz x3)), some (.int (iz x4)), none]) (subL_s (subL_s (subL_s (subL_s (subL_s (subL_n subL_e)))))) ?_
      exact TX5_inHours_136 hE x hK11 hK19 _ _ _ rx2 rx3 rx4 _ hs h
    · have h := h.2 c4
      refine r_aloadn (dc D_cX5_inHours_1 7 rfl) rfl rfl ?_
      refine r_getR (dc D_cX5_inHours_1 8 rfl) fw_RX5_12 lC_7 rfl ?_
      refine r_aloadn (dc D_cX5_inHours_1 9 rfl) rfl rfl ?_
      refine r_aloadn (dc D_cX5_inHours_1 10 rfl) rfl rfl ?_
      refine r_getR (dc D_cX5_inHours_1 11 rfl) fw_RX5_43 lC_1 rfl ?_
      refine r_iload (dc D_cX5_inHours_1 12 rfl) rfl ?_
      obtain ⟨o5, h⟩ := h
      refine r_iald (N := 30) (dc D_cX5_inHours_1 13 rfl) lC_13 rfl rfl o5 ?_
      refine r_iloadn (dc D_cX5_inHours_1 14 rfl) rfl rfl ?_
      refine r_callS (As := [.ref (eA E 1), .int (iz (σ 13 x4.toNat)), .int (iz x3)]) (st := [.ref (eA E 8)]) (dc D_cX5_inHours_1 15 rfl) cw_RX5_88 nm_yX5_nodeAt (CX5_nodeAt hE _ _ (hs _ _) rx3 _ hs h) rfl (by decide) rfl rfl rfl (fun z6 σ7 rz6 hσ7 h => ?_)
      show RW layC E mi_X5_inHours Φ 106 [some (.ref (eA E 7)), some (.ref (eA E 1)), some (.int (iz x2)), some (.int (iz x3)), some (.int (iz x4)), some (.int (iz s0))] [.int (iz z6), .ref (eA E 8)] σ7 x
      refine r_aloadn (dc D_cX5_inHours_1 16 rfl) rfl rfl ?_
      refine r_aloadn (dc D_cX5_inHours_1 17 rfl) rfl rfl ?_
      refine r_getR (dc D_cX5_inHours_1 18 rfl) fw_RX5_46 lC_1 rfl ?_
      refine r_iload (dc D_cX5_inHours_1 19 rfl) rfl ?_
      obtain ⟨o8, h⟩ := h
      refine r_iald (N := 30) (dc D_cX5_inHours_1 20 rfl) lC_14 rfl rfl o8 ?_
      refine r_iloadn (dc D_cX5_inHours_1 21 rfl) rfl rfl ?_
      refine r_aloadn (dc D_cX5_inHours_1 22 rfl) rfl rfl ?_
      refine r_getR (dc D_cX5_inHours_1 23 rfl) fw_RX5_85 lC_1 rfl ?_
      refine r_iload (dc D_cX5_inHours_1 24 rfl) rfl ?_
      obtain ⟨o9, h⟩ := h
      refine r_iald (N := 30) (dc D_cX5_inHours_1 25 rfl) lC_17 rfl rfl o9 ?_
      refine r_iadd (dc D_cX5_inHours_1 26 rfl) ?_
      obtain ⟨o10, h⟩ := h
      refine r_callS (As := [.ref (eA E 1), .int (iz (σ7 14 x4.toNat)), .int (iz (x3 + (σ7 17 x4.toNat)))]) (st := [.int (iz z6), .ref (eA E 8)]) (dc D_cX5_inHours_1 27 rfl) cw_RX5_88 nm_yX5_nodeAt (CX5_nodeAt hE _ _ (hσ7 _ _) o10 _ hσ7 h) rfl (by decide) rfl rfl rfl (fun z11 σ12 rz11 hσ12 h => ?_)
      show RW layC E mi_X5_inHours Φ 126 [some (.ref (eA E 7)), some (.ref (eA E 1)), some (.int (iz x2)), some (.int (iz x3)), some (.int (iz x4)), some (.int (iz s0))] [.int (iz z11), .int (iz z6), .ref (eA E 8)] σ12 x
      refine r_aloadn (dc D_cX5_inHours_1 28 rfl) rfl rfl ?_
      refine r_iload (dc D_cX5_inHours_1 29 rfl) rfl ?_
      refine r_callV (As := [.int (iz x4)]) (st := [.int (iz z11), .int (iz z6), .ref (eA E 8)]) (dc D_cX5_inHours_1 30 rfl) cw_RX5_35 nm_yX3_usable (CX3_usable hE _ rx4 _ hσ12 h) lC_1 rfl rfl (by decide) rfl rfl rfl (fun z13 σ14 rz13 hσ14 h => ?_)
      show RW layC E mi_X5_inHours Φ 132 [some (.ref (eA E 7)), some (.ref (eA E 1)), some (.int (iz x2)), some (.int (iz x3)), some (.int (iz x4)), some (.int (iz s0))] [.int (iz z13), .int (iz z11), .int (iz z6), .ref (eA E 8)] σ14 x
      refine r_callV (As := [.int (iz z6), .int (iz z11), .int (iz z13)]) (st := []) (dc D_cX5_inHours_1 31 rfl) cw_RX5_49 nm_yX6_join (CX6_join hE _ _ _ rz6 rz11 rz13 _ hσ14 h) lC_8 rfl rfl (by decide) rfl rfl rfl (fun z15 σ16 rz15 hσ16 h => ?_)
      show RW layC E mi_X5_inHours Φ 135 [some (.ref (eA E 7)), some (.ref (eA E 1)), some (.int (iz x2)), some (.int (iz x3)), some (.int (iz x4)), some (.int (iz s0))] [.int (iz z15)] σ16 x
      refine r_pop (dc D_cX5_inHours_1 32 rfl) rfl ?_
      refine r_sub (lv' := [some (.ref (eA E 7)), some (.ref (eA E 1)), some (.int (iz x2)), some (.int (iz x3)), some (.int (iz x4)), none]) (subL_s (subL_s (subL_s (subL_s (subL_s (subL_n subL_e)))))) ?_
      exact TX5_inHours_136 hE x hK11 hK19 _ _ _ rx2 rx3 rx4 _ hσ16 h
set_option maxRecDepth 100000 in
theorem TX5_inHours_69 {E : EV} (hE : eOK layC E) {Φ : Int → PS → Prop} {K11 : Int → Int → PS → Prop} {K19 : Int → Int → Int → PS → Prop} (x : CX) (hK11 : ∀ (x2 x3 : Int) (σ : PS), Rg x2 → Rg x3 → RS σ → K11 x2 x3 σ → RW layC E mi_X5_inHours Φ 11 [some (.ref (eA E 7)), some (.ref (eA E 1)), some (.int (iz x2)), some (.int (iz x3)), none, none] [] σ x) (hK19 : ∀ (x2 x3 x4 : Int) (σ : PS), Rg x2 → Rg x3 → Rg x4 → RS σ → K19 x2 x3 x4 σ → RW layC E mi_X5_inHours Φ 19 [some (.ref (eA E 7)), some (.ref (eA E 1)), some (.int (iz x2)), some (.int (iz x3)), some (.int (iz x4)), none] [] σ x) (x2 x3 x4 : Int) (rx2 : Rg x2) (rx3 : Rg x3) (rx4 : Rg x4) (σ : PS) (hs : RS σ) (h : LX5_inHours_69 K11 K19 x2 x3 x4 σ Φ) : RW layC E mi_X5_inHours Φ 69 [some (.ref (eA E 7)), some (.ref (eA E 1)), some (.int (iz x2)), some (.int (iz x3)), some (.int (iz x4)), none] [] σ x := by
  refine r_iconst (n := 0) (dc D_cX5_inHours_0 35 rfl) ?_
  exact TX5_inHours_70 hE x hK11 hK19 _ _ _ _ rx2 rx3 rx4 (Rl rfl) _ hs h
set_option maxRecDepth 100000 in
theorem TBX5_inHours_19 {E : EV} (hE : eOK layC E) {Φ : Int → PS → Prop} {K11 : Int → Int → PS → Prop} {K19 : Int → Int → Int → PS → Prop} (x : CX) (hK11 : ∀ (x2 x3 : Int) (σ : PS), Rg x2 → Rg x3 → RS σ → K11 x2 x3 σ → RW layC E mi_X5_inHours Φ 11 [some (.ref (eA E 7)), some (.ref (eA E 1)), some (.int (iz x2)), some (.int (iz x3)), none, none] [] σ x) (hK19 : ∀ (x2 x3 x4 : Int) (σ : PS), Rg x2 → Rg x3 → Rg x4 → RS σ → K19 x2 x3 x4 σ → RW layC E mi_X5_inHours Φ 19 [some (.ref (eA E 7)), some (.ref (eA E 1)), some (.int (iz x2)), some (.int (iz x3)), some (.int (iz x4)), none] [] σ x) (x2 x3 x4 : Int) (rx2 : Rg x2) (rx3 : Rg x3) (rx4 : Rg x4) (σ : PS) (hs : RS σ) (h : BX5_inHours_19 K11 K19 x2 x3 x4 σ Φ) : RW layC E mi_X5_inHours Φ 19 [some (.ref (eA E 7)), some (.ref (eA E 1)), some (.int (iz x2)), some (.int (iz x3)), some (.int (iz x4)), none] [] σ x := by
  refine r_iload (dc D_cX5_inHours_0 11 rfl) rfl ?_
  refine r_aloadn (dc D_cX5_inHours_0 12 rfl) rfl rfl ?_
  refine r_getI (dc D_cX5_inHours_0 13 rfl) fw_RX5_29 lC_1 rfl ?_
  refine r_icmp_ge (tgt := 142) (dc D_cX5_inHours_0 14 rfl) (by decide) rx4 (hs _ _) (fun c1 => ?_) (fun c1 => ?_)
  · have h := h.1 c1
    refine r_iconst (n := 0) (dc D_cX5_inHours_1 35 rfl) ?_
    refine r_istore (lv' := [some (.ref (eA E 7)), some (.ref (eA E 1)), some (.int (iz x2)), some (.int (iz x3)), some (.int (iz 0)), none]) (dc D_cX5_inHours_1 36 rfl) rfl rfl ?_
    obtain ⟨n, h⟩ := h
    exact TX5_inHours_145 hE x hK11 n _ _ _ _ rx2 rx3 (Rl rfl) hs h
  · have h := h.2 c1
    refine r_aloadn (dc D_cX5_inHours_0 15 rfl) rfl rfl ?_
    refine r_iload (dc D_cX5_inHours_0 16 rfl) rfl ?_
    refine r_callV (As := [.int (iz x4)]) (st := []) (dc D_cX5_inHours_0 17 rfl) cw_RX5_35 nm_yX3_usable (CX3_usable hE _ rx4 _ hs h) lC_1 rfl rfl (by decide) rfl rfl rfl (fun z2 σ3 rz2 hσ3 h => ?_)
    show RW layC E mi_X5_inHours Φ 34 [some (.ref (eA E 7)), some (.ref (eA E 1)), some (.int (iz x2)), some (.int (iz x3)), some (.int (iz x4)), none] [.int (iz z2)] σ3 x
    refine r_if_le (tgt := 69) (dc D_cX5_inHours_0 18 rfl) (by decide) rz2 (fun c4 => ?_) (fun c4 => ?_)
    · have h := h.1 c4
      exact TX5_inHours_69 hE x hK11 hK19 _ _ _ rx2 rx3 rx4 _ hσ3 h
    · have h := h.2 c4
      refine r_aloadn (dc D_cX5_inHours_0 19 rfl) rfl rfl ?_
      refine r_getR (dc D_cX5_inHours_0 20 rfl) fw_RX5_43 lC_1 rfl ?_
      refine r_iload (dc D_cX5_inHours_0 21 rfl) rfl ?_
      obtain ⟨o5, h⟩ := h
      refine r_iald (N := 30) (dc D_cX5_inHours_0 22 rfl) lC_13 rfl rfl o5 ?_
      refine r_aloadn (dc D_cX5_inHours_0 23 rfl) rfl rfl ?_
      refine r_getI (dc D_cX5_inHours_0 24 rfl) fw_RX5_56 lC_1 rfl ?_
      refine r_icmp_eq (tgt := 69) (dc D_cX5_inHours_0 25 rfl) (by decide) (hσ3 _ _) (hσ3 _ _) (fun c6 => ?_) (fun c6 => ?_)
      · have h := h.1 c6
        exact TX5_inHours_69 hE x hK11 hK19 _ _ _ rx2 rx3 rx4 _ hσ3 h
      · have h := h.2 c6
        refine r_aloadn (dc D_cX5_inHours_0 26 rfl) rfl rfl ?_
        refine r_getR (dc D_cX5_inHours_0 27 rfl) fw_RX5_46 lC_1 rfl ?_
        refine r_iload (dc D_cX5_inHours_0 28 rfl) rfl ?_
        obtain ⟨o7, h⟩ := h
        refine r_iald (N := 30) (dc D_cX5_inHours_0 29 rfl) lC_14 rfl rfl o7 ?_
        refine r_aloadn (dc D_cX5_inHours_0 30 rfl) rfl rfl ?_
        refine r_getI (dc D_cX5_inHours_0 31 rfl) fw_RX5_53 lC_1 rfl ?_
        refine r_icmp_eq (tgt := 69) (dc D_cX5_inHours_0 32 rfl) (by decide) (hσ3 _ _) (hσ3 _ _) (fun c8 => ?_) (fun c8 => ?_)
        · have h := h.1 c8
          exact TX5_inHours_69 hE x hK11 hK19 _ _ _ rx2 rx3 rx4 _ hσ3 h
        · have h := h.2 c8
          refine r_iconst (n := 1) (dc D_cX5_inHours_0 33 rfl) ?_
          refine r_goto (tgt := 70) (dc D_cX5_inHours_0 34 rfl) (by decide) ?_
          exact TX5_inHours_70 hE x hK11 hK19 _ _ _ _ rx2 rx3 rx4 (Rl rfl) _ hσ3 h
theorem TX5_inHours_19 {E : EV} (hE : eOK layC E) {Φ : Int → PS → Prop} {K11 : Int → Int → PS → Prop} (x : CX) (hK11 : ∀ (x2 x3 : Int) (σ : PS), Rg x2 → Rg x3 → RS σ → K11 x2 x3 σ → RW layC E mi_X5_inHours Φ 11 [some (.ref (eA E 7)), some (.ref (eA E 1)), some (.int (iz x2)), some (.int (iz x3)), none, none] [] σ x) (n : Nat) : ∀ (x2 x3 x4 : Int) (σ : PS), Rg x2 → Rg x3 → Rg x4 → RS σ → LX5_inHours_19 K11 n x2 x3 x4 σ Φ → RW layC E mi_X5_inHours Φ 19 [some (.ref (eA E 7)), some (.ref (eA E 1)), some (.int (iz x2)), some (.int (iz x3)), some (.int (iz x4)), none] [] σ x := by
  induction n with
  | zero => intro x2 x3 x4 σ _ _ _ _ h; exact h.elim
  | succ n ih => intro x2 x3 x4 σ rx2 rx3 rx4 hs h; exact TBX5_inHours_19 hE x hK11 ih x2 x3 x4 rx2 rx3 rx4 σ hs h
set_option maxRecDepth 100000 in
theorem TBX5_inHours_11 {E : EV} (hE : eOK layC E) {Φ : Int → PS → Prop} {K11 : Int → Int → PS → Prop} (x : CX) (hK11 : ∀ (x2 x3 : Int) (σ : PS), Rg x2 → Rg x3 → RS σ → K11 x2 x3 σ → RW layC E mi_X5_inHours Φ 11 [some (.ref (eA E 7)), some (.ref (eA E 1)), some (.int (iz x2)), some (.int (iz x3)), none, none] [] σ x) (x2 x3 : Int) (rx2 : Rg x2) (rx3 : Rg x3) (σ : PS) (hs : RS σ) (h : BX5_inHours_11 K11 x2 x3 σ Φ) : RW layC E mi_X5_inHours Φ 11 [some (.ref (eA E 7)), some (.ref (eA E 1)), some (.int (iz x2)), some (.int (iz x3)), none, none] [] σ x := by
  refine r_iloadn (dc D_cX5_inHours_0 6 rfl) rfl rfl ?_
  refine r_iloadn (dc D_cX5_inHours_0 7 rfl) rfl rfl ?_
  refine r_icmp_ge (tgt := 208) (dc D_cX5_inHours_0 8 rfl) (by decide) rx3 rx2 (fun c1 => ?_) (fun c1 => ?_)
  · have h := h.1 c1
    refine r_aloadn (dc D_cX5_inHours_2 27 rfl) rfl rfl ?_
    refine r_getR (dc D_cX5_inHours_2 28 rfl) fw_RX5_12 lC_7 rfl ?_
    refine r_aloadn (dc D_cX5_inHours_2 29 rfl) rfl rfl ?_
    refine r_aloadn (dc D_cX5_inHours_2 30 rfl) rfl rfl ?_
    refine r_getI (dc D_cX5_inHours_2 31 rfl) fw_RX5_53 lC_1 rfl ?_
    refine r_iconst (n := 0) (dc D_cX5_inHours_2 32 rfl) ?_
    refine r_callS (As := [.ref (eA E 1), .int (iz (σ 1 7)), .int (iz 0)]) (st := [.ref (eA E 8)]) (dc D_cX5_inHours_2 33 rfl) cw_RX5_88 nm_yX5_nodeAt (CX5_nodeAt hE _ _ (hs _ _) (Rl rfl) _ hs h) rfl (by decide) rfl rfl rfl (fun z2 σ3 rz2 hσ3 h => ?_)
    show RW layC E mi_X5_inHours Φ 221 [some (.ref (eA E 7)), some (.ref (eA E 1)), some (.int (iz x2)), some (.int (iz x3)), none, none] [.int (iz z2), .ref (eA E 8)] σ3 x
    refine r_aloadn (dc D_cX5_inHours_2 34 rfl) rfl rfl ?_
    refine r_aloadn (dc D_cX5_inHours_2 35 rfl) rfl rfl ?_
    refine r_getI (dc D_cX5_inHours_2 36 rfl) fw_RX5_56 lC_1 rfl ?_
    refine r_iconst (n := 0) (dc D_cX5_inHours_2 37 rfl) ?_
    refine r_callS (As := [.ref (eA E 1), .int (iz (σ3 1 8)), .int (iz 0)]) (st := [.int (iz z2), .ref (eA E 8)]) (dc D_cX5_inHours_2 38 rfl) cw_RX5_88 nm_yX5_nodeAt (CX5_nodeAt hE _ _ (hσ3 _ _) (Rl rfl) _ hσ3 h) rfl (by decide) rfl rfl rfl (fun z4 σ5 rz4 hσ5 h => ?_)
    show RW layC E mi_X5_inHours Φ 230 [some (.ref (eA E 7)), some (.ref (eA E 1)), some (.int (iz x2)), some (.int (iz x3)), none, none] [.int (iz z4), .int (iz z2), .ref (eA E 8)] σ5 x
    refine r_callV (As := [.int (iz z2), .int (iz z4)]) (st := []) (dc D_cX5_inHours_2 39 rfl) cw_RX5_59 nm_yX6_pass (CX6_pass hE _ _ rz2 rz4 _ hσ5 h) lC_8 rfl rfl (by decide) rfl rfl rfl (fun z6 σ7 rz6 hσ7 h => ?_)
    show RW layC E mi_X5_inHours Φ 233 [some (.ref (eA E 7)), some (.ref (eA E 1)), some (.int (iz x2)), some (.int (iz x3)), none, none] [.int (iz z6)] σ7 x
    exact r_iret (dc D_cX5_inHours_3 0 rfl) rfl rz6 h
  · have h := h.2 c1
    refine r_iconst (n := 0) (dc D_cX5_inHours_0 9 rfl) ?_
    refine r_istore (lv' := [some (.ref (eA E 7)), some (.ref (eA E 1)), some (.int (iz x2)), some (.int (iz x3)), some (.int (iz 0)), none]) (dc D_cX5_inHours_0 10 rfl) rfl rfl ?_
    obtain ⟨n, h⟩ := h
    exact TX5_inHours_19 hE x hK11 n _ _ _ _ rx2 rx3 (Rl rfl) hs h
theorem TX5_inHours_11 {E : EV} (hE : eOK layC E) {Φ : Int → PS → Prop} (x : CX) (n : Nat) : ∀ (x2 x3 : Int) (σ : PS), Rg x2 → Rg x3 → RS σ → LX5_inHours_11 n x2 x3 σ Φ → RW layC E mi_X5_inHours Φ 11 [some (.ref (eA E 7)), some (.ref (eA E 1)), some (.int (iz x2)), some (.int (iz x3)), none, none] [] σ x := by
  induction n with
  | zero => intro x2 x3 σ _ _ _ h; exact h.elim
  | succ n ih => intro x2 x3 σ rx2 rx3 hs h; exact TBX5_inHours_11 hE x ih x2 x3 rx2 rx3 σ hs h
set_option maxRecDepth 100000 in
theorem CX5_inHours {E : EV} (hE : eOK layC E) {Φ : Int → PS → Prop} (a2 : Int) (ra2 : Rg a2) (σ : PS) (hs : RS σ) (h : FX5_inHours a2 σ Φ) : CT layC E yX5_inHours mi_X5_inHours [.ref (eA E 7), .ref (eA E 1), .int (iz a2)] σ Φ := by
  refine ct_of (by decide +kernel) rfl hE rfl rfl hs (fun x => ?_)
  show RW layC E mi_X5_inHours Φ 0 [some (.ref (eA E 7)), some (.ref (eA E 1)), some (.int (iz a2)), none, none, none] [] σ x
  refine r_aloadn (dc D_cX5_inHours_0 0 rfl) rfl rfl ?_
  refine r_getR (dc D_cX5_inHours_0 1 rfl) fw_RX5_12 lC_7 rfl ?_
  refine r_bipush (n := 108) (dc D_cX5_inHours_0 2 rfl) (by decide +kernel) ?_
  refine r_callV (As := [.int (iz 108)]) (st := []) (dc D_cX5_inHours_0 3 rfl) cw_RX5_25 nm_yX6_begin (CX6_begin hE _ (Rl rfl) _ hs h) lC_8 rfl rfl (by decide) rfl rfl rfl (fun z1 σ2 rz1 hσ2 h => ?_)
  show RW layC E mi_X5_inHours Φ 9 [some (.ref (eA E 7)), some (.ref (eA E 1)), some (.int (iz a2)), none, none, none] [] σ2 x
  refine r_iconst (n := 0) (dc D_cX5_inHours_0 4 rfl) ?_
  refine r_istoren (lv' := [some (.ref (eA E 7)), some (.ref (eA E 1)), some (.int (iz a2)), some (.int (iz 0)), none, none]) (dc D_cX5_inHours_0 5 rfl) rfl rfl rfl ?_
  obtain ⟨n, h⟩ := h
  exact TX5_inHours_11 hE x n _ _ _ ra2 (Rl rfl) hσ2 h
-- end of GateFlow$Models.inHours
def mi_X11_hours : MI := (cX11_hours, RX11, 2, 8, (some .int), 1)
def FX11_hours (a1 : Int) (σ : PS) (Φ : Int → PS → Prop) : Prop :=
  ((a1 < 1 →
    Φ (-2) σ) ∧
  (¬ a1 < 1 →
    ((8 < a1 →
      Φ (-2) σ) ∧
    (¬ 8 < a1 →
      FX5_inHours a1 σ (fun z3 σ4 =>
      Φ z3 σ4)))))
theorem cw_RX11_233 : CWV RX11 233 yX5_inHours mi_X5_inHours := tb_r [881, 882, 883, 102, 884] (by decide +kernel)
theorem nm_yX5_inHours : ynm yX5_inHours 2 := ⟨⟨by decide +kernel, by decide +kernel⟩, by decide +kernel⟩
set_option maxRecDepth 100000 in
theorem CX11_hours {E : EV} (hE : eOK layC E) {Φ : Int → PS → Prop} (a1 : Int) (ra1 : Rg a1) (σ : PS) (hs : RS σ) (h : FX11_hours a1 σ Φ) : CT layC E yX11_hours mi_X11_hours [.ref (eA E 0), .int (iz a1)] σ Φ := by
  refine ct_of (by decide +kernel) rfl hE rfl rfl hs (fun x => ?_)
  show RW layC E mi_X11_hours Φ 0 [some (.ref (eA E 0)), some (.int (iz a1))] [] σ x
  refine r_iloadn (dc D_cX11_hours_0 0 rfl) rfl rfl ?_
  refine r_iconst (n := 1) (dc D_cX11_hours_0 1 rfl) ?_
  refine r_icmp_lt (tgt := 26) (dc D_cX11_hours_0 2 rfl) (by decide) ra1 (Rl rfl) (fun c1 => ?_) (fun c1 => ?_)
  · have h := h.1 c1
    refine r_bipush (n := (-2)) (dc D_cX11_hours_0 13 rfl) (by decide +kernel) ?_
    exact r_iret (dc D_cX11_hours_0 14 rfl) rfl (Rl rfl) h
  · have h := h.2 c1
    refine r_iloadn (dc D_cX11_hours_0 3 rfl) rfl rfl ?_
    refine r_bipush (n := 8) (dc D_cX11_hours_0 4 rfl) (by decide +kernel) ?_
    refine r_icmp_gt (tgt := 26) (dc D_cX11_hours_0 5 rfl) (by decide) ra1 (Rl rfl) (fun c2 => ?_) (fun c2 => ?_)
    · have h := h.1 c2
      refine r_bipush (n := (-2)) (dc D_cX11_hours_0 13 rfl) (by decide +kernel) ?_
      exact r_iret (dc D_cX11_hours_0 14 rfl) rfl (Rl rfl) h
    · have h := h.2 c2
      refine r_aloadn (dc D_cX11_hours_0 6 rfl) rfl rfl ?_
      refine r_getR (dc D_cX11_hours_0 7 rfl) fw_RX11_43 lC_0 rfl ?_
      refine r_aloadn (dc D_cX11_hours_0 8 rfl) rfl rfl ?_
      refine r_getR (dc D_cX11_hours_0 9 rfl) fw_RX11_12 lC_0 rfl ?_
      refine r_iloadn (dc D_cX11_hours_0 10 rfl) rfl rfl ?_
      refine r_callV (As := [.ref (eA E 1), .int (iz a1)]) (st := []) (dc D_cX11_hours_0 11 rfl) cw_RX11_233 nm_yX5_inHours (CX5_inHours hE _ ra1 _ hs h) lC_7 rfl rfl (by decide) rfl rfl rfl (fun z3 σ4 rz3 hσ4 h => ?_)
      show RW layC E mi_X11_hours Φ 23 [some (.ref (eA E 0)), some (.int (iz a1))] [.int (iz z3)] σ4 x
      refine r_goto (tgt := 28) (dc D_cX11_hours_0 12 rfl) (by decide) ?_
      exact r_iret (dc D_cX11_hours_0 14 rfl) rfl rz3 h
-- end of GateFlow.hours
def mi_X3_isSameTwo : MI := (cX3_isSameTwo, RX3, 3, 1, (some .boolean), 1)
def FX3_isSameTwo (a1 a2 : Int) (σ : PS) (Φ : Int → PS → Prop) : Prop :=
  (0 ≤ a1 ∧ a1 < 30) ∧
  (0 ≤ a2 ∧ a2 < 30) ∧
  ((¬ σ 13 a1.toNat = σ 13 a2.toNat →
    Φ 0 σ) ∧
  (σ 13 a1.toNat = σ 13 a2.toNat →
    (0 ≤ a1 ∧ a1 < 30) ∧
    (0 ≤ a2 ∧ a2 < 30) ∧
    ((¬ σ 14 a1.toNat = σ 14 a2.toNat →
      Φ 0 σ) ∧
    (σ 14 a1.toNat = σ 14 a2.toNat →
      Φ 1 σ))))
set_option maxRecDepth 100000 in
theorem CX3_isSameTwo {E : EV} (hE : eOK layC E) {Φ : Int → PS → Prop} (a1 a2 : Int) (ra1 : Rg a1) (ra2 : Rg a2) (σ : PS) (hs : RS σ) (h : FX3_isSameTwo a1 a2 σ Φ) : CT layC E yX3_isSameTwo mi_X3_isSameTwo [.ref (eA E 1), .int (iz a1), .int (iz a2)] σ Φ := by
  refine ct_of (by decide +kernel) rfl hE rfl rfl hs (fun x => ?_)
  show RW layC E mi_X3_isSameTwo Φ 0 [some (.ref (eA E 1)), some (.int (iz a1)), some (.int (iz a2))] [] σ x
  refine r_aloadn (dc D_cX3_isSameTwo_0 0 rfl) rfl rfl ?_
  refine r_getR (dc D_cX3_isSameTwo_0 1 rfl) fw_RX3_9 lC_1 rfl ?_
  refine r_iloadn (dc D_cX3_isSameTwo_0 2 rfl) rfl rfl ?_
  obtain ⟨o1, h⟩ := h
  refine r_iald (N := 30) (dc D_cX3_isSameTwo_0 3 rfl) lC_13 rfl rfl o1 ?_
  refine r_aloadn (dc D_cX3_isSameTwo_0 4 rfl) rfl rfl ?_
  refine r_getR (dc D_cX3_isSameTwo_0 5 rfl) fw_RX3_9 lC_1 rfl ?_
  refine r_iloadn (dc D_cX3_isSameTwo_0 6 rfl) rfl rfl ?_
  obtain ⟨o2, h⟩ := h
  refine r_iald (N := 30) (dc D_cX3_isSameTwo_0 7 rfl) lC_13 rfl rfl o2 ?_
  refine r_icmp_ne (tgt := 34) (dc D_cX3_isSameTwo_0 8 rfl) (by decide) (hs _ _) (hs _ _) (fun c3 => ?_) (fun c3 => ?_)
  · have h := h.1 c3
    refine r_iconst (n := 0) (dc D_cX3_isSameTwo_0 20 rfl) ?_
    exact r_zret (dc D_cX3_isSameTwo_0 21 rfl) rfl (by decide) h
  · have h := h.2 c3
    refine r_aloadn (dc D_cX3_isSameTwo_0 9 rfl) rfl rfl ?_
    refine r_getR (dc D_cX3_isSameTwo_0 10 rfl) fw_RX3_15 lC_1 rfl ?_
    refine r_iloadn (dc D_cX3_isSameTwo_0 11 rfl) rfl rfl ?_
    obtain ⟨o4, h⟩ := h
    refine r_iald (N := 30) (dc D_cX3_isSameTwo_0 12 rfl) lC_14 rfl rfl o4 ?_
    refine r_aloadn (dc D_cX3_isSameTwo_0 13 rfl) rfl rfl ?_
    refine r_getR (dc D_cX3_isSameTwo_0 14 rfl) fw_RX3_15 lC_1 rfl ?_
    refine r_iloadn (dc D_cX3_isSameTwo_0 15 rfl) rfl rfl ?_
    obtain ⟨o5, h⟩ := h
    refine r_iald (N := 30) (dc D_cX3_isSameTwo_0 16 rfl) lC_14 rfl rfl o5 ?_
    refine r_icmp_ne (tgt := 34) (dc D_cX3_isSameTwo_0 17 rfl) (by decide) (hs _ _) (hs _ _) (fun c6 => ?_) (fun c6 => ?_)
    · have h := h.1 c6
      refine r_iconst (n := 0) (dc D_cX3_isSameTwo_0 20 rfl) ?_
      exact r_zret (dc D_cX3_isSameTwo_0 21 rfl) rfl (by decide) h
    · have h := h.2 c6
      refine r_iconst (n := 1) (dc D_cX3_isSameTwo_0 18 rfl) ?_
      refine r_goto (tgt := 35) (dc D_cX3_isSameTwo_0 19 rfl) (by decide) ?_
      exact r_zret (dc D_cX3_isSameTwo_0 21 rfl) rfl (by decide) h
-- end of GateFlow$Gates.isSameTwo
def mi_X3_isFirstOfTwo : MI := (cX3_isFirstOfTwo, RX3, 3, 2, (some .boolean), 1)
def BX3_isFirstOfTwo_2 (K2 : Int → Int → PS → Prop) (x1 x2 : Int) (σ : PS) (Φ : Int → PS → Prop) : Prop :=
  ((x1 ≤ x2 →
    Φ 1 σ) ∧
  (¬ x1 ≤ x2 →
    FX3_isSameTwo x1 x2 σ (fun z2 σ3 =>
    ((z2 = 0 →
      Rg (x2 + 1) ∧
      K2 x1 (x2 + 1) σ3) ∧
    (¬ z2 = 0 →
      Φ 0 σ3)))))
def LX3_isFirstOfTwo_2 : Nat → Int → Int → PS → (Int → PS → Prop) → Prop
  | 0, _, _, _, _ => False
  | n + 1, x1, x2, σ, Φ => BX3_isFirstOfTwo_2 (fun x1 x2 σ => LX3_isFirstOfTwo_2 n x1 x2 σ Φ) x1 x2 σ Φ
def FX3_isFirstOfTwo (a1 : Int) (σ : PS) (Φ : Int → PS → Prop) : Prop :=
  ∃ n, LX3_isFirstOfTwo_2 n a1 0 σ Φ
theorem cw_RX3_54 : CWV RX3 54 yX3_isSameTwo mi_X3_isSameTwo := tb_r [896, 898, 28, 98, 899] (by decide +kernel)
theorem nm_yX3_isSameTwo : ynm yX3_isSameTwo 2 := ⟨⟨by decide +kernel, by decide +kernel⟩, by decide +kernel⟩
set_option maxRecDepth 100000 in
theorem TBX3_isFirstOfTwo_2 {E : EV} (hE : eOK layC E) {Φ : Int → PS → Prop} {K2 : Int → Int → PS → Prop} (x : CX) (hK2 : ∀ (x1 x2 : Int) (σ : PS), Rg x1 → Rg x2 → RS σ → K2 x1 x2 σ → RW layC E mi_X3_isFirstOfTwo Φ 2 [some (.ref (eA E 1)), some (.int (iz x1)), some (.int (iz x2))] [] σ x) (x1 x2 : Int) (rx1 : Rg x1) (rx2 : Rg x2) (σ : PS) (hs : RS σ) (h : BX3_isFirstOfTwo_2 K2 x1 x2 σ Φ) : RW layC E mi_X3_isFirstOfTwo Φ 2 [some (.ref (eA E 1)), some (.int (iz x1)), some (.int (iz x2))] [] σ x := by
  refine r_iloadn (dc D_cX3_isFirstOfTwo_0 2 rfl) rfl rfl ?_
  refine r_iloadn (dc D_cX3_isFirstOfTwo_0 3 rfl) rfl rfl ?_
  refine r_icmp_ge (tgt := 24) (dc D_cX3_isFirstOfTwo_0 4 rfl) (by decide) rx2 rx1 (fun c1 => ?_) (fun c1 => ?_)
  · have h := h.1 c1
    refine r_iconst (n := 1) (dc D_cX3_isFirstOfTwo_0 14 rfl) ?_
    exact r_zret (dc D_cX3_isFirstOfTwo_0 15 rfl) rfl (by decide) h
  · have h := h.2 c1
    refine r_aloadn (dc D_cX3_isFirstOfTwo_0 5 rfl) rfl rfl ?_
    refine r_iloadn (dc D_cX3_isFirstOfTwo_0 6 rfl) rfl rfl ?_
    refine r_iloadn (dc D_cX3_isFirstOfTwo_0 7 rfl) rfl rfl ?_
    refine r_callV (As := [.int (iz x1), .int (iz x2)]) (st := []) (dc D_cX3_isFirstOfTwo_0 8 rfl) cw_RX3_54 nm_yX3_isSameTwo (CX3_isSameTwo hE _ _ rx1 rx2 _ hs h) lC_1 rfl rfl (by decide) rfl rfl rfl (fun z2 σ3 rz2 hσ3 h => ?_)
    show RW layC E mi_X3_isFirstOfTwo Φ 13 [some (.ref (eA E 1)), some (.int (iz x1)), some (.int (iz x2))] [.int (iz z2)] σ3 x
    refine r_if_eq (tgt := 18) (dc D_cX3_isFirstOfTwo_0 9 rfl) (by decide) rz2 (fun c4 => ?_) (fun c4 => ?_)
    · have h := h.1 c4
      obtain ⟨o5, h⟩ := h
      refine r_iinc (lv' := [some (.ref (eA E 1)), some (.int (iz x1)), some (.int (iz (x2 + 1)))]) (dc D_cX3_isFirstOfTwo_0 12 rfl) rfl rfl rfl ?_
      refine r_goto (tgt := 2) (dc D_cX3_isFirstOfTwo_0 13 rfl) (by decide) ?_
      exact hK2 _ _ _ rx1 o5 hσ3 h
    · have h := h.2 c4
      refine r_iconst (n := 0) (dc D_cX3_isFirstOfTwo_0 10 rfl) ?_
      exact r_zret (dc D_cX3_isFirstOfTwo_0 11 rfl) rfl (by decide) h
theorem TX3_isFirstOfTwo_2 {E : EV} (hE : eOK layC E) {Φ : Int → PS → Prop} (x : CX) (n : Nat) : ∀ (x1 x2 : Int) (σ : PS), Rg x1 → Rg x2 → RS σ → LX3_isFirstOfTwo_2 n x1 x2 σ Φ → RW layC E mi_X3_isFirstOfTwo Φ 2 [some (.ref (eA E 1)), some (.int (iz x1)), some (.int (iz x2))] [] σ x := by
  induction n with
  | zero => intro x1 x2 σ _ _ _ h; exact h.elim
  | succ n ih => intro x1 x2 σ rx1 rx2 hs h; exact TBX3_isFirstOfTwo_2 hE x ih x1 x2 rx1 rx2 σ hs h
set_option maxRecDepth 100000 in
theorem CX3_isFirstOfTwo {E : EV} (hE : eOK layC E) {Φ : Int → PS → Prop} (a1 : Int) (ra1 : Rg a1) (σ : PS) (hs : RS σ) (h : FX3_isFirstOfTwo a1 σ Φ) : CT layC E yX3_isFirstOfTwo mi_X3_isFirstOfTwo [.ref (eA E 1), .int (iz a1)] σ Φ := by
  refine ct_of (by decide +kernel) rfl hE rfl rfl hs (fun x => ?_)
  show RW layC E mi_X3_isFirstOfTwo Φ 0 [some (.ref (eA E 1)), some (.int (iz a1)), none] [] σ x
  refine r_iconst (n := 0) (dc D_cX3_isFirstOfTwo_0 0 rfl) ?_
  refine r_istoren (lv' := [some (.ref (eA E 1)), some (.int (iz a1)), some (.int (iz 0))]) (dc D_cX3_isFirstOfTwo_0 1 rfl) rfl rfl rfl ?_
  obtain ⟨n, h⟩ := h
  exact TX3_isFirstOfTwo_2 hE x n _ _ _ ra1 (Rl rfl) hs h
-- end of GateFlow$Gates.isFirstOfTwo
def mi_X3_capacityOfTwo : MI := (cX3_capacityOfTwo, RX3, 4, 3, (some .int), 1)
def LX3_capacityOfTwo_31 (K4 : Int → Int → Int → PS → Prop) (x1 x3 s0 s1 : Int) (σ : PS) (Φ : Int → PS → Prop) : Prop :=
  Rg (s0 + s1) ∧
  ∀ v2 : Int, v2 = s0 + s1 →
  Rg (x3 + 1) ∧
  K4 x1 v2 (x3 + 1) σ
def BX3_capacityOfTwo_4 (K4 : Int → Int → Int → PS → Prop) (x1 x2 x3 : Int) (σ : PS) (Φ : Int → PS → Prop) : Prop :=
  ((σ 1 6 ≤ x3 →
    Φ x2 σ) ∧
  (¬ σ 1 6 ≤ x3 →
    FX3_isSameTwo x3 x1 σ (fun z2 σ3 =>
    ((z2 = 0 →
      LX3_capacityOfTwo_31 K4 x1 x3 x2 0 σ3 Φ) ∧
    (¬ z2 = 0 →
      FX3_usable x3 σ3 (fun z5 σ6 =>
      LX3_capacityOfTwo_31 K4 x1 x3 x2 z5 σ6 Φ))))))
def LX3_capacityOfTwo_4 : Nat → Int → Int → Int → PS → (Int → PS → Prop) → Prop
  | 0, _, _, _, _, _ => False
  | n + 1, x1, x2, x3, σ, Φ => BX3_capacityOfTwo_4 (fun x1 x2 x3 σ => LX3_capacityOfTwo_4 n x1 x2 x3 σ Φ) x1 x2 x3 σ Φ
def FX3_capacityOfTwo (a1 : Int) (σ : PS) (Φ : Int → PS → Prop) : Prop :=
  ∃ n, LX3_capacityOfTwo_4 n a1 0 0 σ Φ
set_option maxRecDepth 100000 in
theorem TX3_capacityOfTwo_31 {E : EV} (hE : eOK layC E) {Φ : Int → PS → Prop} {K4 : Int → Int → Int → PS → Prop} (x : CX) (hK4 : ∀ (x1 x2 x3 : Int) (σ : PS), Rg x1 → Rg x2 → Rg x3 → RS σ → K4 x1 x2 x3 σ → RW layC E mi_X3_capacityOfTwo Φ 4 [some (.ref (eA E 1)), some (.int (iz x1)), some (.int (iz x2)), some (.int (iz x3))] [] σ x) (x1 x3 s0 s1 : Int) (rx1 : Rg x1) (rx3 : Rg x3) (rs0 : Rg s0) (rs1 : Rg s1) (σ : PS) (hs : RS σ) (h : LX3_capacityOfTwo_31 K4 x1 x3 s0 s1 σ Φ) : RW layC E mi_X3_capacityOfTwo Φ 31 [some (.ref (eA E 1)), some (.int (iz x1)), none, some (.int (iz x3))] [.int (iz s1), .int (iz s0)] σ x := by
  refine r_iadd (dc D_cX3_capacityOfTwo_0 19 rfl) ?_
  obtain ⟨o1, h⟩ := h
  refine r_name (fun v2 ev2 => ?_)
  have h := h v2 ev2
  have rv2 : Rg v2 := Rg_eq ev2 o1
  refine r_istoren (lv' := [some (.ref (eA E 1)), some (.int (iz x1)), some (.int (iz v2)), some (.int (iz x3))]) (dc D_cX3_capacityOfTwo_0 20 rfl) rfl rfl rfl ?_
  obtain ⟨o3, h⟩ := h
  refine r_iinc (lv' := [some (.ref (eA E 1)), some (.int (iz x1)), some (.int (iz v2)), some (.int (iz (x3 + 1)))]) (dc D_cX3_capacityOfTwo_0 21 rfl) rfl rfl rfl ?_
  refine r_goto (tgt := 4) (dc D_cX3_capacityOfTwo_0 22 rfl) (by decide) ?_
  exact hK4 _ _ _ _ rx1 rv2 o3 hs h
set_option maxRecDepth 100000 in
theorem TBX3_capacityOfTwo_4 {E : EV} (hE : eOK layC E) {Φ : Int → PS → Prop} {K4 : Int → Int → Int → PS → Prop} (x : CX) (hK4 : ∀ (x1 x2 x3 : Int) (σ : PS), Rg x1 → Rg x2 → Rg x3 → RS σ → K4 x1 x2 x3 σ → RW layC E mi_X3_capacityOfTwo Φ 4 [some (.ref (eA E 1)), some (.int (iz x1)), some (.int (iz x2)), some (.int (iz x3))] [] σ x) (x1 x2 x3 : Int) (rx1 : Rg x1) (rx2 : Rg x2) (rx3 : Rg x3) (σ : PS) (hs : RS σ) (h : BX3_capacityOfTwo_4 K4 x1 x2 x3 σ Φ) : RW layC E mi_X3_capacityOfTwo Φ 4 [some (.ref (eA E 1)), some (.int (iz x1)), some (.int (iz x2)), some (.int (iz x3))] [] σ x := by
  refine r_iloadn (dc D_cX3_capacityOfTwo_0 4 rfl) rfl rfl ?_
  refine r_aloadn (dc D_cX3_capacityOfTwo_0 5 rfl) rfl rfl ?_
  refine r_getI (dc D_cX3_capacityOfTwo_0 6 rfl) fw_RX3_34 lC_1 rfl ?_
  refine r_icmp_ge (tgt := 39) (dc D_cX3_capacityOfTwo_0 7 rfl) (by decide) rx3 (hs _ _) (fun c1 => ?_) (fun c1 => ?_)
  · have h := h.1 c1
    refine r_iloadn (dc D_cX3_capacityOfTwo_0 23 rfl) rfl rfl ?_
    exact r_iret (dc D_cX3_capacityOfTwo_0 24 rfl) rfl rx2 h
  · have h := h.2 c1
    refine r_iloadn (dc D_cX3_capacityOfTwo_0 8 rfl) rfl rfl ?_
    refine r_aloadn (dc D_cX3_capacityOfTwo_0 9 rfl) rfl rfl ?_
    refine r_iloadn (dc D_cX3_capacityOfTwo_0 10 rfl) rfl rfl ?_
    refine r_iloadn (dc D_cX3_capacityOfTwo_0 11 rfl) rfl rfl ?_
    refine r_callV (As := [.int (iz x3), .int (iz x1)]) (st := [.int (iz x2)]) (dc D_cX3_capacityOfTwo_0 12 rfl) cw_RX3_54 nm_yX3_isSameTwo (CX3_isSameTwo hE _ _ rx3 rx1 _ hs h) lC_1 rfl rfl (by decide) rfl rfl rfl (fun z2 σ3 rz2 hσ3 h => ?_)
    show RW layC E mi_X3_capacityOfTwo Φ 19 [some (.ref (eA E 1)), some (.int (iz x1)), some (.int (iz x2)), some (.int (iz x3))] [.int (iz z2), .int (iz x2)] σ3 x
    refine r_if_eq (tgt := 30) (dc D_cX3_capacityOfTwo_0 13 rfl) (by decide) rz2 (fun c4 => ?_) (fun c4 => ?_)
    · have h := h.1 c4
      refine r_iconst (n := 0) (dc D_cX3_capacityOfTwo_0 18 rfl) ?_
      refine r_sub (lv' := [some (.ref (eA E 1)), some (.int (iz x1)), none, some (.int (iz x3))]) (subL_s (subL_s (subL_n (subL_s subL_e)))) ?_
      exact TX3_capacityOfTwo_31 hE x hK4 _ _ _ _ rx1 rx3 rx2 (Rl rfl) _ hσ3 h
    · have h := h.2 c4
      refine r_aloadn (dc D_cX3_capacityOfTwo_0 14 rfl) rfl rfl ?_
      refine r_iloadn (dc D_cX3_capacityOfTwo_0 15 rfl) rfl rfl ?_
      refine r_callV (As := [.int (iz x3)]) (st := [.int (iz x2)]) (dc D_cX3_capacityOfTwo_0 16 rfl) cw_RX3_50 nm_yX3_usable (CX3_usable hE _ rx3 _ hσ3 h) lC_1 rfl rfl (by decide) rfl rfl rfl (fun z5 σ6 rz5 hσ6 h => ?_)
      show RW layC E mi_X3_capacityOfTwo Φ 27 [some (.ref (eA E 1)), some (.int (iz x1)), some (.int (iz x2)), some (.int (iz x3))] [.int (iz z5), .int (iz x2)] σ6 x
      refine r_goto (tgt := 31) (dc D_cX3_capacityOfTwo_0 17 rfl) (by decide) ?_
      refine r_sub (lv' := [some (.ref (eA E 1)), some (.int (iz x1)), none, some (.int (iz x3))]) (subL_s (subL_s (subL_n (subL_s subL_e)))) ?_
      exact TX3_capacityOfTwo_31 hE x hK4 _ _ _ _ rx1 rx3 rx2 rz5 _ hσ6 h
theorem TX3_capacityOfTwo_4 {E : EV} (hE : eOK layC E) {Φ : Int → PS → Prop} (x : CX) (n : Nat) : ∀ (x1 x2 x3 : Int) (σ : PS), Rg x1 → Rg x2 → Rg x3 → RS σ → LX3_capacityOfTwo_4 n x1 x2 x3 σ Φ → RW layC E mi_X3_capacityOfTwo Φ 4 [some (.ref (eA E 1)), some (.int (iz x1)), some (.int (iz x2)), some (.int (iz x3))] [] σ x := by
  induction n with
  | zero => intro x1 x2 x3 σ _ _ _ _ h; exact h.elim
  | succ n ih => intro x1 x2 x3 σ rx1 rx2 rx3 hs h; exact TBX3_capacityOfTwo_4 hE x ih x1 x2 x3 rx1 rx2 rx3 σ hs h
set_option maxRecDepth 100000 in
theorem CX3_capacityOfTwo {E : EV} (hE : eOK layC E) {Φ : Int → PS → Prop} (a1 : Int) (ra1 : Rg a1) (σ : PS) (hs : RS σ) (h : FX3_capacityOfTwo a1 σ Φ) : CT layC E yX3_capacityOfTwo mi_X3_capacityOfTwo [.ref (eA E 1), .int (iz a1)] σ Φ := by
  refine ct_of (by decide +kernel) rfl hE rfl rfl hs (fun x => ?_)
  show RW layC E mi_X3_capacityOfTwo Φ 0 [some (.ref (eA E 1)), some (.int (iz a1)), none, none] [] σ x
  refine r_iconst (n := 0) (dc D_cX3_capacityOfTwo_0 0 rfl) ?_
  refine r_istoren (lv' := [some (.ref (eA E 1)), some (.int (iz a1)), some (.int (iz 0)), none]) (dc D_cX3_capacityOfTwo_0 1 rfl) rfl rfl rfl ?_
  refine r_iconst (n := 0) (dc D_cX3_capacityOfTwo_0 2 rfl) ?_
  refine r_istoren (lv' := [some (.ref (eA E 1)), some (.int (iz a1)), some (.int (iz 0)), some (.int (iz 0))]) (dc D_cX3_capacityOfTwo_0 3 rfl) rfl rfl rfl ?_
  obtain ⟨n, h⟩ := h
  exact TX3_capacityOfTwo_4 hE x n _ _ _ _ ra1 (Rl rfl) (Rl rfl) hs h
-- end of GateFlow$Gates.capacityOfTwo
def mi_X3_countOfTwo : MI := (cX3_countOfTwo, RX3, 4, 2, (some .int), 1)
def LX3_countOfTwo_27 (K4 : Int → Int → Int → PS → Prop) (x1 x3 s0 s1 : Int) (σ : PS) (Φ : Int → PS → Prop) : Prop :=
  Rg (s0 + s1) ∧
  ∀ v2 : Int, v2 = s0 + s1 →
  Rg (x3 + 1) ∧
  K4 x1 v2 (x3 + 1) σ
def BX3_countOfTwo_4 (K4 : Int → Int → Int → PS → Prop) (x1 x2 x3 : Int) (σ : PS) (Φ : Int → PS → Prop) : Prop :=
  ((σ 1 6 ≤ x3 →
    Φ x2 σ) ∧
  (¬ σ 1 6 ≤ x3 →
    FX3_isSameTwo x3 x1 σ (fun z2 σ3 =>
    ((z2 = 0 →
      LX3_countOfTwo_27 K4 x1 x3 x2 0 σ3 Φ) ∧
    (¬ z2 = 0 →
      LX3_countOfTwo_27 K4 x1 x3 x2 1 σ3 Φ)))))
def LX3_countOfTwo_4 : Nat → Int → Int → Int → PS → (Int → PS → Prop) → Prop
  | 0, _, _, _, _, _ => False
  | n + 1, x1, x2, x3, σ, Φ => BX3_countOfTwo_4 (fun x1 x2 x3 σ => LX3_countOfTwo_4 n x1 x2 x3 σ Φ) x1 x2 x3 σ Φ
def FX3_countOfTwo (a1 : Int) (σ : PS) (Φ : Int → PS → Prop) : Prop :=
  ∃ n, LX3_countOfTwo_4 n a1 0 0 σ Φ
set_option maxRecDepth 100000 in
theorem TX3_countOfTwo_27 {E : EV} (hE : eOK layC E) {Φ : Int → PS → Prop} {K4 : Int → Int → Int → PS → Prop} (x : CX) (hK4 : ∀ (x1 x2 x3 : Int) (σ : PS), Rg x1 → Rg x2 → Rg x3 → RS σ → K4 x1 x2 x3 σ → RW layC E mi_X3_countOfTwo Φ 4 [some (.ref (eA E 1)), some (.int (iz x1)), some (.int (iz x2)), some (.int (iz x3))] [] σ x) (x1 x3 s0 s1 : Int) (rx1 : Rg x1) (rx3 : Rg x3) (rs0 : Rg s0) (rs1 : Rg s1) (σ : PS) (hs : RS σ) (h : LX3_countOfTwo_27 K4 x1 x3 s0 s1 σ Φ) : RW layC E mi_X3_countOfTwo Φ 27 [some (.ref (eA E 1)), some (.int (iz x1)), none, some (.int (iz x3))] [.int (iz s1), .int (iz s0)] σ x := by
  refine r_iadd (dc D_cX3_countOfTwo_0 17 rfl) ?_
  obtain ⟨o1, h⟩ := h
  refine r_name (fun v2 ev2 => ?_)
  have h := h v2 ev2
  have rv2 : Rg v2 := Rg_eq ev2 o1
  refine r_istoren (lv' := [some (.ref (eA E 1)), some (.int (iz x1)), some (.int (iz v2)), some (.int (iz x3))]) (dc D_cX3_countOfTwo_0 18 rfl) rfl rfl rfl ?_
  obtain ⟨o3, h⟩ := h
  refine r_iinc (lv' := [some (.ref (eA E 1)), some (.int (iz x1)), some (.int (iz v2)), some (.int (iz (x3 + 1)))]) (dc D_cX3_countOfTwo_0 19 rfl) rfl rfl rfl ?_
  refine r_goto (tgt := 4) (dc D_cX3_countOfTwo_0 20 rfl) (by decide) ?_
  exact hK4 _ _ _ _ rx1 rv2 o3 hs h
set_option maxRecDepth 100000 in
theorem TBX3_countOfTwo_4 {E : EV} (hE : eOK layC E) {Φ : Int → PS → Prop} {K4 : Int → Int → Int → PS → Prop} (x : CX) (hK4 : ∀ (x1 x2 x3 : Int) (σ : PS), Rg x1 → Rg x2 → Rg x3 → RS σ → K4 x1 x2 x3 σ → RW layC E mi_X3_countOfTwo Φ 4 [some (.ref (eA E 1)), some (.int (iz x1)), some (.int (iz x2)), some (.int (iz x3))] [] σ x) (x1 x2 x3 : Int) (rx1 : Rg x1) (rx2 : Rg x2) (rx3 : Rg x3) (σ : PS) (hs : RS σ) (h : BX3_countOfTwo_4 K4 x1 x2 x3 σ Φ) : RW layC E mi_X3_countOfTwo Φ 4 [some (.ref (eA E 1)), some (.int (iz x1)), some (.int (iz x2)), some (.int (iz x3))] [] σ x := by
  refine r_iloadn (dc D_cX3_countOfTwo_0 4 rfl) rfl rfl ?_
  refine r_aloadn (dc D_cX3_countOfTwo_0 5 rfl) rfl rfl ?_
  refine r_getI (dc D_cX3_countOfTwo_0 6 rfl) fw_RX3_34 lC_1 rfl ?_
  refine r_icmp_ge (tgt := 35) (dc D_cX3_countOfTwo_0 7 rfl) (by decide) rx3 (hs _ _) (fun c1 => ?_) (fun c1 => ?_)
  · have h := h.1 c1
    refine r_iloadn (dc D_cX3_countOfTwo_0 21 rfl) rfl rfl ?_
    exact r_iret (dc D_cX3_countOfTwo_0 22 rfl) rfl rx2 h
  · have h := h.2 c1
    refine r_iloadn (dc D_cX3_countOfTwo_0 8 rfl) rfl rfl ?_
    refine r_aloadn (dc D_cX3_countOfTwo_0 9 rfl) rfl rfl ?_
    refine r_iloadn (dc D_cX3_countOfTwo_0 10 rfl) rfl rfl ?_
    refine r_iloadn (dc D_cX3_countOfTwo_0 11 rfl) rfl rfl ?_
    refine r_callV (As := [.int (iz x3), .int (iz x1)]) (st := [.int (iz x2)]) (dc D_cX3_countOfTwo_0 12 rfl) cw_RX3_54 nm_yX3_isSameTwo (CX3_isSameTwo hE _ _ rx3 rx1 _ hs h) lC_1 rfl rfl (by decide) rfl rfl rfl (fun z2 σ3 rz2 hσ3 h => ?_)
    show RW layC E mi_X3_countOfTwo Φ 19 [some (.ref (eA E 1)), some (.int (iz x1)), some (.int (iz x2)), some (.int (iz x3))] [.int (iz z2), .int (iz x2)] σ3 x
    refine r_if_eq (tgt := 26) (dc D_cX3_countOfTwo_0 13 rfl) (by decide) rz2 (fun c4 => ?_) (fun c4 => ?_)
    · have h := h.1 c4
      refine r_iconst (n := 0) (dc D_cX3_countOfTwo_0 16 rfl) ?_
      refine r_sub (lv' := [some (.ref (eA E 1)), some (.int (iz x1)), none, some (.int (iz x3))]) (subL_s (subL_s (subL_n (subL_s subL_e)))) ?_
      exact TX3_countOfTwo_27 hE x hK4 _ _ _ _ rx1 rx3 rx2 (Rl rfl) _ hσ3 h
    · have h := h.2 c4
      refine r_iconst (n := 1) (dc D_cX3_countOfTwo_0 14 rfl) ?_
      refine r_goto (tgt := 27) (dc D_cX3_countOfTwo_0 15 rfl) (by decide) ?_
      refine r_sub (lv' := [some (.ref (eA E 1)), some (.int (iz x1)), none, some (.int (iz x3))]) (subL_s (subL_s (subL_n (subL_s subL_e)))) ?_
      exact TX3_countOfTwo_27 hE x hK4 _ _ _ _ rx1 rx3 rx2 (Rl rfl) _ hσ3 h
theorem TX3_countOfTwo_4 {E : EV} (hE : eOK layC E) {Φ : Int → PS → Prop} (x : CX) (n : Nat) : ∀ (x1 x2 x3 : Int) (σ : PS), Rg x1 → Rg x2 → Rg x3 → RS σ → LX3_countOfTwo_4 n x1 x2 x3 σ Φ → RW layC E mi_X3_countOfTwo Φ 4 [some (.ref (eA E 1)), some (.int (iz x1)), some (.int (iz x2)), some (.int (iz x3))] [] σ x := by
  induction n with
  | zero => intro x1 x2 x3 σ _ _ _ _ h; exact h.elim
  | succ n ih => intro x1 x2 x3 σ rx1 rx2 rx3 hs h; exact TBX3_countOfTwo_4 hE x ih x1 x2 x3 rx1 rx2 rx3 σ hs h
set_option maxRecDepth 100000 in
theorem CX3_countOfTwo {E : EV} (hE : eOK layC E) {Φ : Int → PS → Prop} (a1 : Int) (ra1 : Rg a1) (σ : PS) (hs : RS σ) (h : FX3_countOfTwo a1 σ Φ) : CT layC E yX3_countOfTwo mi_X3_countOfTwo [.ref (eA E 1), .int (iz a1)] σ Φ := by
  refine ct_of (by decide +kernel) rfl hE rfl rfl hs (fun x => ?_)
  show RW layC E mi_X3_countOfTwo Φ 0 [some (.ref (eA E 1)), some (.int (iz a1)), none, none] [] σ x
  refine r_iconst (n := 0) (dc D_cX3_countOfTwo_0 0 rfl) ?_
  refine r_istoren (lv' := [some (.ref (eA E 1)), some (.int (iz a1)), some (.int (iz 0)), none]) (dc D_cX3_countOfTwo_0 1 rfl) rfl rfl rfl ?_
  refine r_iconst (n := 0) (dc D_cX3_countOfTwo_0 2 rfl) ?_
  refine r_istoren (lv' := [some (.ref (eA E 1)), some (.int (iz a1)), some (.int (iz 0)), some (.int (iz 0))]) (dc D_cX3_countOfTwo_0 3 rfl) rfl rfl rfl ?_
  obtain ⟨n, h⟩ := h
  exact TX3_countOfTwo_4 hE x n _ _ _ _ ra1 (Rl rfl) (Rl rfl) hs h
-- end of GateFlow$Gates.countOfTwo
def mi_X11_ofTwo : MI := (cX11_ofTwo, RX11, 3, 4, (some .int), 1)
def FX11_ofTwo (a1 a2 : Int) (σ : PS) (Φ : Int → PS → Prop) : Prop :=
  (a2 = 0 →
    (0 ≤ a1 ∧ a1 < 30) ∧
    Φ (σ 13 a1.toNat) σ) ∧
  (a2 = 1 →
    (0 ≤ a1 ∧ a1 < 30) ∧
    Φ (σ 14 a1.toNat) σ) ∧
  (a2 = 2 →
    FX3_countOfTwo a1 σ (fun z5 σ6 =>
    Φ z5 σ6)) ∧
  (a2 = 3 →
    FX3_capacityOfTwo a1 σ (fun z8 σ9 =>
    Φ z8 σ9)) ∧
  ((a2 < 0 ∨ 3 < a2) →
    Φ (-1) σ)
theorem cw_RX11_243 : CWV RX11 243 yX3_countOfTwo mi_X3_countOfTwo := tb_r [904, 905, 906, 98, 907] (by decide +kernel)
theorem nm_yX3_countOfTwo : ynm yX3_countOfTwo 1 := ⟨⟨by decide +kernel, by decide +kernel⟩, by decide +kernel⟩
theorem cw_RX11_246 : CWV RX11 246 yX3_capacityOfTwo mi_X3_capacityOfTwo := tb_r [908, 909, 910, 98, 911] (by decide +kernel)
theorem nm_yX3_capacityOfTwo : ynm yX3_capacityOfTwo 1 := ⟨⟨by decide +kernel, by decide +kernel⟩, by decide +kernel⟩
set_option maxRecDepth 100000 in
theorem CX11_ofTwo {E : EV} (hE : eOK layC E) {Φ : Int → PS → Prop} (a1 a2 : Int) (ra1 : Rg a1) (ra2 : Rg a2) (σ : PS) (hs : RS σ) (h : FX11_ofTwo a1 a2 σ Φ) : CT layC E yX11_ofTwo mi_X11_ofTwo [.ref (eA E 0), .int (iz a1), .int (iz a2)] σ Φ := by
  refine ct_of (by decide +kernel) rfl hE rfl rfl hs (fun x => ?_)
  show RW layC E mi_X11_ofTwo Φ 0 [some (.ref (eA E 0)), some (.int (iz a1)), some (.int (iz a2))] [] σ x
  refine r_iloadn (dc D_cX11_ofTwo_0 0 rfl) rfl rfl ?_
  refine r_by (c := a2 = 0) (fun c2 => ?_) (fun nc2 => ?_)
  · refine r_swIn (tgt := 32) (off := 31) (v := 0) (dc D_cX11_ofTwo_0 1 rfl) c2 (by decide) (by decide) ?_
    have h := h.1 c2
    refine r_aloadn (dc D_cX11_ofTwo_0 2 rfl) rfl rfl ?_
    refine r_getR (dc D_cX11_ofTwo_0 3 rfl) fw_RX11_12 lC_0 rfl ?_
    refine r_getR (dc D_cX11_ofTwo_0 4 rfl) fw_RX11_106 lC_1 rfl ?_
    refine r_iloadn (dc D_cX11_ofTwo_0 5 rfl) rfl rfl ?_
    obtain ⟨o1, h⟩ := h
    refine r_iald (N := 30) (dc D_cX11_ofTwo_0 6 rfl) lC_13 rfl rfl o1 ?_
    exact r_iret (dc D_cX11_ofTwo_0 7 rfl) rfl (hs _ _) h
  replace h := h.2
  refine r_by (c := a2 = 1) (fun c4 => ?_) (fun nc4 => ?_)
  · refine r_swIn (tgt := 42) (off := 41) (v := 1) (dc D_cX11_ofTwo_0 1 rfl) c4 (by decide) (by decide) ?_
    have h := h.1 c4
    refine r_aloadn (dc D_cX11_ofTwo_0 8 rfl) rfl rfl ?_
    refine r_getR (dc D_cX11_ofTwo_0 9 rfl) fw_RX11_12 lC_0 rfl ?_
    refine r_getR (dc D_cX11_ofTwo_0 10 rfl) fw_RX11_110 lC_1 rfl ?_
    refine r_iloadn (dc D_cX11_ofTwo_0 11 rfl) rfl rfl ?_
    obtain ⟨o3, h⟩ := h
    refine r_iald (N := 30) (dc D_cX11_ofTwo_0 12 rfl) lC_14 rfl rfl o3 ?_
    exact r_iret (dc D_cX11_ofTwo_0 13 rfl) rfl (hs _ _) h
  replace h := h.2
  refine r_by (c := a2 = 2) (fun c7 => ?_) (fun nc7 => ?_)
  · refine r_swIn (tgt := 52) (off := 51) (v := 2) (dc D_cX11_ofTwo_0 1 rfl) c7 (by decide) (by decide) ?_
    have h := h.1 c7
    refine r_aloadn (dc D_cX11_ofTwo_0 14 rfl) rfl rfl ?_
    refine r_getR (dc D_cX11_ofTwo_0 15 rfl) fw_RX11_12 lC_0 rfl ?_
    refine r_iloadn (dc D_cX11_ofTwo_0 16 rfl) rfl rfl ?_
    refine r_callV (As := [.int (iz a1)]) (st := []) (dc D_cX11_ofTwo_0 17 rfl) cw_RX11_243 nm_yX3_countOfTwo (CX3_countOfTwo hE _ ra1 _ hs h) lC_1 rfl rfl (by decide) rfl rfl rfl (fun z5 σ6 rz5 hσ6 h => ?_)
    show RW layC E mi_X11_ofTwo Φ 60 [some (.ref (eA E 0)), some (.int (iz a1)), some (.int (iz a2))] [.int (iz z5)] σ6 x
    exact r_iret (dc D_cX11_ofTwo_0 18 rfl) rfl rz5 h
  replace h := h.2
  refine r_by (c := a2 = 3) (fun c10 => ?_) (fun nc10 => ?_)
  · refine r_swIn (tgt := 61) (off := 60) (v := 3) (dc D_cX11_ofTwo_0 1 rfl) c10 (by decide) (by decide) ?_
    have h := h.1 c10
    refine r_aloadn (dc D_cX11_ofTwo_0 19 rfl) rfl rfl ?_
    refine r_getR (dc D_cX11_ofTwo_0 20 rfl) fw_RX11_12 lC_0 rfl ?_
    refine r_iloadn (dc D_cX11_ofTwo_0 21 rfl) rfl rfl ?_
    refine r_callV (As := [.int (iz a1)]) (st := []) (dc D_cX11_ofTwo_0 22 rfl) cw_RX11_246 nm_yX3_capacityOfTwo (CX3_capacityOfTwo hE _ ra1 _ hs h) lC_1 rfl rfl (by decide) rfl rfl rfl (fun z8 σ9 rz8 hσ9 h => ?_)
    show RW layC E mi_X11_ofTwo Φ 69 [some (.ref (eA E 0)), some (.int (iz a1)), some (.int (iz a2))] [.int (iz z8)] σ9 x
    exact r_iret (dc D_cX11_ofTwo_0 23 rfl) rfl rz8 h
  replace h := h.2
  have c11 : a2 < 0 ∨ 3 < a2 := by omega
  have h := h c11
  refine r_swOut (tgt := 70) (dc D_cX11_ofTwo_0 1 rfl) (by decide) ra2 c11 ?_
  refine r_iconst (n := (-1)) (dc D_cX11_ofTwo_0 24 rfl) ?_
  exact r_iret (dc D_cX11_ofTwo_0 25 rfl) rfl (Rl rfl) h
-- end of GateFlow.ofTwo
def mi_X11_two : MI := (cX11_two, RX11, 5, 5, (some .int), 1)
def LX11_two_45 (K5 : Int → Int → Int → Int → PS → Prop) (x1 x2 x3 x4 : Int) (σ : PS) (Φ : Int → PS → Prop) : Prop :=
  Rg (x4 + 1) ∧
  K5 x1 x2 x3 (x4 + 1) σ
def BX11_two_5 (K5 : Int → Int → Int → Int → PS → Prop) (x1 x2 x3 x4 : Int) (σ : PS) (Φ : Int → PS → Prop) : Prop :=
  ((σ 1 6 ≤ x4 →
    ((¬ x1 = (-1) →
      Φ (-1) σ) ∧
    (x1 = (-1) →
      Φ x3 σ))) ∧
  (¬ σ 1 6 ≤ x4 →
    FX3_isFirstOfTwo x4 σ (fun z3 σ4 =>
    ((z3 = 0 →
      LX11_two_45 K5 x1 x2 x3 x4 σ4 Φ) ∧
    (¬ z3 = 0 →
      ((¬ x3 = x1 →
        Rg (x3 + 1) ∧
        LX11_two_45 K5 x1 x2 (x3 + 1) x4 σ4 Φ) ∧
      (x3 = x1 →
        FX11_ofTwo x4 x2 σ4 (fun z8 σ9 =>
        Φ z8 σ9))))))))
def LX11_two_5 : Nat → Int → Int → Int → Int → PS → (Int → PS → Prop) → Prop
  | 0, _, _, _, _, _, _ => False
  | n + 1, x1, x2, x3, x4, σ, Φ => BX11_two_5 (fun x1 x2 x3 x4 σ => LX11_two_5 n x1 x2 x3 x4 σ Φ) x1 x2 x3 x4 σ Φ
def FX11_two (a1 a2 : Int) (σ : PS) (Φ : Int → PS → Prop) : Prop :=
  ∃ n, LX11_two_5 n a1 a2 0 0 σ Φ
theorem cw_RX11_236 : CWV RX11 236 yX3_isFirstOfTwo mi_X3_isFirstOfTwo := tb_r [892, 893, 894, 98, 895] (by decide +kernel)
theorem nm_yX3_isFirstOfTwo : ynm yX3_isFirstOfTwo 1 := ⟨⟨by decide +kernel, by decide +kernel⟩, by decide +kernel⟩
theorem cw_RX11_239 : CWV RX11 239 yX11_ofTwo mi_X11_ofTwo := tb_r [900, 902, 29, 97, 903] (by decide +kernel)
theorem nm_yX11_ofTwo : ynm yX11_ofTwo 2 := ⟨⟨by decide +kernel, by decide +kernel⟩, by decide +kernel⟩
set_option maxRecDepth 100000 in
theorem TX11_two_45 {E : EV} (hE : eOK layC E) {Φ : Int → PS → Prop} {K5 : Int → Int → Int → Int → PS → Prop} (x : CX) (hK5 : ∀ (x1 x2 x3 x4 : Int) (σ : PS), Rg x1 → Rg x2 → Rg x3 → Rg x4 → RS σ → K5 x1 x2 x3 x4 σ → RW layC E mi_X11_two Φ 5 [some (.ref (eA E 0)), some (.int (iz x1)), some (.int (iz x2)), some (.int (iz x3)), some (.int (iz x4))] [] σ x) (x1 x2 x3 x4 : Int) (rx1 : Rg x1) (rx2 : Rg x2) (rx3 : Rg x3) (rx4 : Rg x4) (σ : PS) (hs : RS σ) (h : LX11_two_45 K5 x1 x2 x3 x4 σ Φ) : RW layC E mi_X11_two Φ 45 [some (.ref (eA E 0)), some (.int (iz x1)), some (.int (iz x2)), some (.int (iz x3)), some (.int (iz x4))] [] σ x := by
  obtain ⟨o1, h⟩ := h
  refine r_iinc (lv' := [some (.ref (eA E 0)), some (.int (iz x1)), some (.int (iz x2)), some (.int (iz x3)), some (.int (iz (x4 + 1)))]) (dc D_cX11_two_0 23 rfl) rfl rfl rfl ?_
  refine r_goto (tgt := 5) (dc D_cX11_two_0 24 rfl) (by decide) ?_
  exact hK5 _ _ _ _ _ rx1 rx2 rx3 o1 hs h
set_option maxRecDepth 100000 in
theorem TBX11_two_5 {E : EV} (hE : eOK layC E) {Φ : Int → PS → Prop} {K5 : Int → Int → Int → Int → PS → Prop} (x : CX) (hK5 : ∀ (x1 x2 x3 x4 : Int) (σ : PS), Rg x1 → Rg x2 → Rg x3 → Rg x4 → RS σ → K5 x1 x2 x3 x4 σ → RW layC E mi_X11_two Φ 5 [some (.ref (eA E 0)), some (.int (iz x1)), some (.int (iz x2)), some (.int (iz x3)), some (.int (iz x4))] [] σ x) (x1 x2 x3 x4 : Int) (rx1 : Rg x1) (rx2 : Rg x2) (rx3 : Rg x3) (rx4 : Rg x4) (σ : PS) (hs : RS σ) (h : BX11_two_5 K5 x1 x2 x3 x4 σ Φ) : RW layC E mi_X11_two Φ 5 [some (.ref (eA E 0)), some (.int (iz x1)), some (.int (iz x2)), some (.int (iz x3)), some (.int (iz x4))] [] σ x := by
  refine r_iload (dc D_cX11_two_0 4 rfl) rfl ?_
  refine r_aloadn (dc D_cX11_two_0 5 rfl) rfl rfl ?_
  refine r_getR (dc D_cX11_two_0 6 rfl) fw_RX11_12 lC_0 rfl ?_
  refine r_getI (dc D_cX11_two_0 7 rfl) fw_RX11_92 lC_1 rfl ?_
  refine r_icmp_ge (tgt := 51) (dc D_cX11_two_0 8 rfl) (by decide) rx4 (hs _ _) (fun c1 => ?_) (fun c1 => ?_)
  · have h := h.1 c1
    refine r_iloadn (dc D_cX11_two_0 25 rfl) rfl rfl ?_
    refine r_iconst (n := (-1)) (dc D_cX11_two_0 26 rfl) ?_
    refine r_icmp_ne (tgt := 60) (dc D_cX11_two_0 27 rfl) (by decide) rx1 (Rl rfl) (fun c2 => ?_) (fun c2 => ?_)
    · have h := h.1 c2
      refine r_iconst (n := (-1)) (dc D_cX11_two_0 30 rfl) ?_
      exact r_iret (dc D_cX11_two_0 31 rfl) rfl (Rl rfl) h
    · have h := h.2 c2
      refine r_iloadn (dc D_cX11_two_0 28 rfl) rfl rfl ?_
      refine r_goto (tgt := 61) (dc D_cX11_two_0 29 rfl) (by decide) ?_
      exact r_iret (dc D_cX11_two_0 31 rfl) rfl rx3 h
  · have h := h.2 c1
    refine r_aloadn (dc D_cX11_two_0 9 rfl) rfl rfl ?_
    refine r_getR (dc D_cX11_two_0 10 rfl) fw_RX11_12 lC_0 rfl ?_
    refine r_iload (dc D_cX11_two_0 11 rfl) rfl ?_
    refine r_callV (As := [.int (iz x4)]) (st := []) (dc D_cX11_two_0 12 rfl) cw_RX11_236 nm_yX3_isFirstOfTwo (CX3_isFirstOfTwo hE _ rx4 _ hs h) lC_1 rfl rfl (by decide) rfl rfl rfl (fun z3 σ4 rz3 hσ4 h => ?_)
    show RW layC E mi_X11_two Φ 26 [some (.ref (eA E 0)), some (.int (iz x1)), some (.int (iz x2)), some (.int (iz x3)), some (.int (iz x4))] [.int (iz z3)] σ4 x
    refine r_if_eq (tgt := 45) (dc D_cX11_two_0 13 rfl) (by decide) rz3 (fun c5 => ?_) (fun c5 => ?_)
    · have h := h.1 c5
      exact TX11_two_45 hE x hK5 _ _ _ _ rx1 rx2 rx3 rx4 _ hσ4 h
    · have h := h.2 c5
      refine r_iloadn (dc D_cX11_two_0 14 rfl) rfl rfl ?_
      refine r_iloadn (dc D_cX11_two_0 15 rfl) rfl rfl ?_
      refine r_icmp_ne (tgt := 42) (dc D_cX11_two_0 16 rfl) (by decide) rx3 rx1 (fun c6 => ?_) (fun c6 => ?_)
      · have h := h.1 c6
        obtain ⟨o7, h⟩ := h
        refine r_iinc (lv' := [some (.ref (eA E 0)), some (.int (iz x1)), some (.int (iz x2)), some (.int (iz (x3 + 1))), some (.int (iz x4))]) (dc D_cX11_two_0 22 rfl) rfl rfl rfl ?_
        exact TX11_two_45 hE x hK5 _ _ _ _ rx1 rx2 o7 rx4 _ hσ4 h
      · have h := h.2 c6
        refine r_aloadn (dc D_cX11_two_0 17 rfl) rfl rfl ?_
        refine r_iload (dc D_cX11_two_0 18 rfl) rfl ?_
        refine r_iloadn (dc D_cX11_two_0 19 rfl) rfl rfl ?_
        refine r_callV (As := [.int (iz x4), .int (iz x2)]) (st := []) (dc D_cX11_two_0 20 rfl) cw_RX11_239 nm_yX11_ofTwo (CX11_ofTwo hE _ _ rx4 rx2 _ hσ4 h) lC_0 rfl rfl (by decide) rfl rfl rfl (fun z8 σ9 rz8 hσ9 h => ?_)
        show RW layC E mi_X11_two Φ 41 [some (.ref (eA E 0)), some (.int (iz x1)), some (.int (iz x2)), some (.int (iz x3)), some (.int (iz x4))] [.int (iz z8)] σ9 x
        exact r_iret (dc D_cX11_two_0 21 rfl) rfl rz8 h
theorem TX11_two_5 {E : EV} (hE : eOK layC E) {Φ : Int → PS → Prop} (x : CX) (n : Nat) : ∀ (x1 x2 x3 x4 : Int) (σ : PS), Rg x1 → Rg x2 → Rg x3 → Rg x4 → RS σ → LX11_two_5 n x1 x2 x3 x4 σ Φ → RW layC E mi_X11_two Φ 5 [some (.ref (eA E 0)), some (.int (iz x1)), some (.int (iz x2)), some (.int (iz x3)), some (.int (iz x4))] [] σ x := by
  induction n with
  | zero => intro x1 x2 x3 x4 σ _ _ _ _ _ h; exact h.elim
  | succ n ih => intro x1 x2 x3 x4 σ rx1 rx2 rx3 rx4 hs h; exact TBX11_two_5 hE x ih x1 x2 x3 x4 rx1 rx2 rx3 rx4 σ hs h
set_option maxRecDepth 100000 in
theorem CX11_two {E : EV} (hE : eOK layC E) {Φ : Int → PS → Prop} (a1 a2 : Int) (ra1 : Rg a1) (ra2 : Rg a2) (σ : PS) (hs : RS σ) (h : FX11_two a1 a2 σ Φ) : CT layC E yX11_two mi_X11_two [.ref (eA E 0), .int (iz a1), .int (iz a2)] σ Φ := by
  refine ct_of (by decide +kernel) rfl hE rfl rfl hs (fun x => ?_)
  show RW layC E mi_X11_two Φ 0 [some (.ref (eA E 0)), some (.int (iz a1)), some (.int (iz a2)), none, none] [] σ x
  refine r_iconst (n := 0) (dc D_cX11_two_0 0 rfl) ?_
  refine r_istoren (lv' := [some (.ref (eA E 0)), some (.int (iz a1)), some (.int (iz a2)), some (.int (iz 0)), none]) (dc D_cX11_two_0 1 rfl) rfl rfl rfl ?_
  refine r_iconst (n := 0) (dc D_cX11_two_0 2 rfl) ?_
  refine r_istore (lv' := [some (.ref (eA E 0)), some (.int (iz a1)), some (.int (iz a2)), some (.int (iz 0)), some (.int (iz 0))]) (dc D_cX11_two_0 3 rfl) rfl rfl ?_
  obtain ⟨n, h⟩ := h
  exact TX11_two_5 hE x n _ _ _ _ _ ra1 ra2 (Rl rfl) (Rl rfl) hs h
-- end of GateFlow.two
def mi_X5_reachedIn : MI := (cX5_reachedIn, RX5, 7, 3, (some .int), 1)
def LX5_reachedIn_145 (x3 : Int) (σ : PS) (Φ : Int → PS → Prop) : Prop :=
  ((x3 < 0 →
    Φ 0 σ) ∧
  (¬ x3 < 0 →
    ((20 < x3 →
      Φ 0 σ) ∧
    (¬ 20 < x3 →
      (0 ≤ x3 ∧ x3 < 21) ∧
      Φ (σ 48 x3.toNat) σ))))
def LX5_reachedIn_133 (K12 : Int → Int → PS → Prop) (K44 : Int → Int → Int → PS → Prop) (x3 x4 x5 : Int) (σ : PS) (Φ : Int → PS → Prop) : Prop :=
  Rg (x5 + 1) ∧
  K44 x3 x4 (x5 + 1) σ
def LX5_reachedIn_79 (K12 : Int → Int → PS → Prop) (K44 : Int → Int → Int → PS → Prop) (x3 x4 x5 s0 : Int) (σ : PS) (Φ : Int → PS → Prop) : Prop :=
  ((s0 = 0 →
    LX5_reachedIn_133 K12 K44 x3 x4 x5 σ Φ) ∧
  (¬ s0 = 0 →
    (0 ≤ x5 ∧ x5 < 30) ∧
    Rg (x4 - (σ 17 x5.toNat)) ∧
    (0 ≤ x4 - (σ 17 x5.toNat) ∧ x4 - (σ 17 x5.toNat) < 21) ∧
    (0 ≤ x5 ∧ x5 < 30) ∧
    FX11_hasBit (σ 48 (x4 - (σ 17 x5.toNat)).toNat) (σ 13 x5.toNat) σ (fun z6 σ7 =>
    ((z6 = 0 →
      LX5_reachedIn_133 K12 K44 x3 x4 x5 σ7 Φ) ∧
    (¬ z6 = 0 →
      (0 ≤ x4 ∧ x4 < 21) ∧
      (0 ≤ x5 ∧ x5 < 30) ∧
      (0 ≤ x4 ∧ x4 < 21) ∧
      ∀ σ12 : PS, σ12 = up2 σ7 48 x4.toNat (ior (σ7 48 x4.toNat) (ishl 1 (σ7 14 x5.toNat))) →
      LX5_reachedIn_133 K12 K44 x3 x4 x5 σ12 Φ)))))
def LX5_reachedIn_78 (K12 : Int → Int → PS → Prop) (K44 : Int → Int → Int → PS → Prop) (x3 x4 x5 : Int) (σ : PS) (Φ : Int → PS → Prop) : Prop :=
  LX5_reachedIn_79 K12 K44 x3 x4 x5 0 σ Φ
def BX5_reachedIn_44 (K12 : Int → Int → PS → Prop) (K44 : Int → Int → Int → PS → Prop) (x3 x4 x5 : Int) (σ : PS) (Φ : Int → PS → Prop) : Prop :=
  ((σ 1 6 ≤ x5 →
    Rg (x4 + 1) ∧
    K12 x3 (x4 + 1) σ) ∧
  (¬ σ 1 6 ≤ x5 →
    FX3_usable x5 σ (fun z3 σ4 =>
    ((z3 ≤ 0 →
      LX5_reachedIn_78 K12 K44 x3 x4 x5 σ4 Φ) ∧
    (¬ z3 ≤ 0 →
      (0 ≤ x5 ∧ x5 < 30) ∧
      ((x4 < σ4 17 x5.toNat →
        LX5_reachedIn_78 K12 K44 x3 x4 x5 σ4 Φ) ∧
      (¬ x4 < σ4 17 x5.toNat →
        LX5_reachedIn_79 K12 K44 x3 x4 x5 1 σ4 Φ)))))))
def LX5_reachedIn_44 (K12 : Int → Int → PS → Prop) : Nat → Int → Int → Int → PS → (Int → PS → Prop) → Prop
  | 0, _, _, _, _, _ => False
  | n + 1, x3, x4, x5, σ, Φ => BX5_reachedIn_44 K12 (fun x3 x4 x5 σ => LX5_reachedIn_44 K12 n x3 x4 x5 σ Φ) x3 x4 x5 σ Φ
def BX5_reachedIn_12 (K12 : Int → Int → PS → Prop) (x3 x4 : Int) (σ : PS) (Φ : Int → PS → Prop) : Prop :=
  ((x3 < x4 →
    LX5_reachedIn_145 x3 σ Φ) ∧
  (¬ x3 < x4 →
    ((20 < x4 →
      LX5_reachedIn_145 x3 σ Φ) ∧
    (¬ 20 < x4 →
      Rg (x4 - 1) ∧
      (0 ≤ x4 - 1 ∧ x4 - 1 < 21) ∧
      (0 ≤ x4 ∧ x4 < 21) ∧
      ∀ σ6 : PS, σ6 = up2 σ 48 x4.toNat (σ 48 (x4 - 1).toNat) →
      ∃ n, LX5_reachedIn_44 K12 n x3 x4 0 σ6 Φ))))
def LX5_reachedIn_12 : Nat → Int → Int → PS → (Int → PS → Prop) → Prop
  | 0, _, _, _, _ => False
  | n + 1, x3, x4, σ, Φ => BX5_reachedIn_12 (fun x3 x4 σ => LX5_reachedIn_12 n x3 x4 σ Φ) x3 x4 σ Φ
def FX5_reachedIn (a2 a3 : Int) (σ : PS) (Φ : Int → PS → Prop) : Prop :=
  ∀ σ1 : PS, σ1 = up2 σ 48 0 (ishl 1 a2) →
  ∃ n, LX5_reachedIn_12 n a3 1 σ1 Φ
theorem fw_RX5_22 : FW RX5 22 5 2 := ⟨RX5, TX5, 3, rfl, by decide, rfl, tb_1 391 (by decide +kernel), uw_5⟩
set_option maxRecDepth 100000 in
theorem TX5_reachedIn_145 {E : EV} (hE : eOK layC E) {Φ : Int → PS → Prop} (x : CX) (x3 : Int) (rx3 : Rg x3) (σ : PS) (hs : RS σ) (h : LX5_reachedIn_145 x3 σ Φ) : RW layC E mi_X5_reachedIn Φ 145 [some (.ref (eA E 7)), none, none, some (.int (iz x3)), none, none, none] [] σ x := by
  refine r_iloadn (dc D_cX5_reachedIn_1 39 rfl) rfl rfl ?_
  refine r_if_lt (tgt := 164) (dc D_cX5_reachedIn_2 0 rfl) (by decide) rx3 (fun c1 => ?_) (fun c1 => ?_)
  · have h := h.1 c1
    refine r_iconst (n := 0) (dc D_cX5_reachedIn_2 9 rfl) ?_
    exact r_iret (dc D_cX5_reachedIn_2 10 rfl) rfl (Rl rfl) h
  · have h := h.2 c1
    refine r_iloadn (dc D_cX5_reachedIn_2 1 rfl) rfl rfl ?_
    refine r_bipush (n := 20) (dc D_cX5_reachedIn_2 2 rfl) (by decide +kernel) ?_
    refine r_icmp_gt (tgt := 164) (dc D_cX5_reachedIn_2 3 rfl) (by decide) rx3 (Rl rfl) (fun c2 => ?_) (fun c2 => ?_)
    · have h := h.1 c2
      refine r_iconst (n := 0) (dc D_cX5_reachedIn_2 9 rfl) ?_
      exact r_iret (dc D_cX5_reachedIn_2 10 rfl) rfl (Rl rfl) h
    · have h := h.2 c2
      refine r_aloadn (dc D_cX5_reachedIn_2 4 rfl) rfl rfl ?_
      refine r_getR (dc D_cX5_reachedIn_2 5 rfl) fw_RX5_22 lC_7 rfl ?_
      refine r_iloadn (dc D_cX5_reachedIn_2 6 rfl) rfl rfl ?_
      obtain ⟨o3, h⟩ := h
      refine r_iald (N := 21) (dc D_cX5_reachedIn_2 7 rfl) lC_48 rfl rfl o3 ?_
      refine r_goto (tgt := 165) (dc D_cX5_reachedIn_2 8 rfl) (by decide) ?_
      exact r_iret (dc D_cX5_reachedIn_2 10 rfl) rfl (hs _ _) h
set_option maxRecDepth 100000 in
theorem TX5_reachedIn_133 {E : EV} (hE : eOK layC E) {Φ : Int → PS → Prop} {K12 : Int → Int → PS → Prop} {K44 : Int → Int → Int → PS → Prop} (x : CX) (hK12 : ∀ (x3 x4 : Int) (σ : PS), Rg x3 → Rg x4 → RS σ → K12 x3 x4 σ → RW layC E mi_X5_reachedIn Φ 12 [some (.ref (eA E 7)), some (.ref (eA E 1)), none, some (.int (iz x3)), some (.int (iz x4)), none, none] [] σ x) (hK44 : ∀ (x3 x4 x5 : Int) (σ : PS), Rg x3 → Rg x4 → Rg x5 → RS σ → K44 x3 x4 x5 σ → RW layC E mi_X5_reachedIn Φ 44 [some (.ref (eA E 7)), some (.ref (eA E 1)), none, some (.int (iz x3)), some (.int (iz x4)), some (.int (iz x5)), none] [] σ x) (x3 x4 x5 : Int) (rx3 : Rg x3) (rx4 : Rg x4) (rx5 : Rg x5) (σ : PS) (hs : RS σ) (h : LX5_reachedIn_133 K12 K44 x3 x4 x5 σ Φ) : RW layC E mi_X5_reachedIn Φ 133 [some (.ref (eA E 7)), some (.ref (eA E 1)), none, some (.int (iz x3)), some (.int (iz x4)), some (.int (iz x5)), none] [] σ x := by
  obtain ⟨o1, h⟩ := h
  refine r_iinc (lv' := [some (.ref (eA E 7)), some (.ref (eA E 1)), none, some (.int (iz x3)), some (.int (iz x4)), some (.int (iz (x5 + 1))), none]) (dc D_cX5_reachedIn_1 35 rfl) rfl rfl rfl ?_
  refine r_goto (tgt := 44) (dc D_cX5_reachedIn_1 36 rfl) (by decide) ?_
  exact hK44 _ _ _ _ rx3 rx4 o1 hs h
set_option maxRecDepth 100000 in
theorem TX5_reachedIn_79 {E : EV} (hE : eOK layC E) {Φ : Int → PS → Prop} {K12 : Int → Int → PS → Prop} {K44 : Int → Int → Int → PS → Prop} (x : CX) (hK12 : ∀ (x3 x4 : Int) (σ : PS), Rg x3 → Rg x4 → RS σ → K12 x3 x4 σ → RW layC E mi_X5_reachedIn Φ 12 [some (.ref (eA E 7)), some (.ref (eA E 1)), none, some (.int (iz x3)), some (.int (iz x4)), none, none] [] σ x) (hK44 : ∀ (x3 x4 x5 : Int) (σ : PS), Rg x3 → Rg x4 → Rg x5 → RS σ → K44 x3 x4 x5 σ → RW layC E mi_X5_reachedIn Φ 44 [some (.ref (eA E 7)), some (.ref (eA E 1)), none, some (.int (iz x3)), some (.int (iz x4)), some (.int (iz x5)), none] [] σ x) (x3 x4 x5 s0 : Int) (rx3 : Rg x3) (rx4 : Rg x4) (rx5 : Rg x5) (rs0 : Rg s0) (σ : PS) (hs : RS σ) (h : LX5_reachedIn_79 K12 K44 x3 x4 x5 s0 σ Φ) : RW layC E mi_X5_reachedIn Φ 79 [some (.ref (eA E 7)), some (.ref (eA E 1)), none, some (.int (iz x3)), some (.int (iz x4)), some (.int (iz x5)), none] [.int (iz s0)] σ x := by
  refine r_istore (lv' := [some (.ref (eA E 7)), some (.ref (eA E 1)), none, some (.int (iz x3)), some (.int (iz x4)), some (.int (iz x5)), some (.int (iz s0))]) (dc D_cX5_reachedIn_1 4 rfl) rfl rfl ?_
  refine r_iload (dc D_cX5_reachedIn_1 5 rfl) rfl ?_
  refine r_if_eq (tgt := 133) (dc D_cX5_reachedIn_1 6 rfl) (by decide) rs0 (fun c1 => ?_) (fun c1 => ?_)
  · have h := h.1 c1
    refine r_sub (lv' := [some (.ref (eA E 7)), some (.ref (eA E 1)), none, some (.int (iz x3)), some (.int (iz x4)), some (.int (iz x5)), none]) (subL_s (subL_s (subL_n (subL_s (subL_s (subL_s (subL_n subL_e))))))) ?_
    exact TX5_reachedIn_133 hE x hK12 hK44 _ _ _ rx3 rx4 rx5 _ hs h
  · have h := h.2 c1
    refine r_aloadn (dc D_cX5_reachedIn_1 7 rfl) rfl rfl ?_
    refine r_getR (dc D_cX5_reachedIn_1 8 rfl) fw_RX5_22 lC_7 rfl ?_
    refine r_iload (dc D_cX5_reachedIn_1 9 rfl) rfl ?_
    refine r_aloadn (dc D_cX5_reachedIn_1 10 rfl) rfl rfl ?_
    refine r_getR (dc D_cX5_reachedIn_1 11 rfl) fw_RX5_85 lC_1 rfl ?_
    refine r_iload (dc D_cX5_reachedIn_1 12 rfl) rfl ?_
    obtain ⟨o2, h⟩ := h
    refine r_iald (N := 30) (dc D_cX5_reachedIn_1 13 rfl) lC_17 rfl rfl o2 ?_
    refine r_isub (dc D_cX5_reachedIn_1 14 rfl) ?_
    obtain ⟨o3, h⟩ := h
    obtain ⟨o4, h⟩ := h
    refine r_iald (N := 21) (dc D_cX5_reachedIn_1 15 rfl) lC_48 rfl rfl o4 ?_
    refine r_aloadn (dc D_cX5_reachedIn_1 16 rfl) rfl rfl ?_
    refine r_getR (dc D_cX5_reachedIn_1 17 rfl) fw_RX5_43 lC_1 rfl ?_
    refine r_iload (dc D_cX5_reachedIn_1 18 rfl) rfl ?_
    obtain ⟨o5, h⟩ := h
    refine r_iald (N := 30) (dc D_cX5_reachedIn_1 19 rfl) lC_13 rfl rfl o5 ?_
    refine r_callN (As := [.int (iz (σ 48 (x4 - (σ 17 x5.toNat)).toNat)), .int (iz (σ 13 x5.toNat))]) (st := []) (dc D_cX5_reachedIn_1 20 rfl) cw_RX5_39 nm_yX11_hasBit (CX11_hasBit hE _ _ (hs _ _) (hs _ _) _ hs h) rfl (by decide) rfl rfl rfl (fun z6 σ7 rz6 hσ7 h => ?_)
    show RW layC E mi_X5_reachedIn Φ 111 [some (.ref (eA E 7)), some (.ref (eA E 1)), none, some (.int (iz x3)), some (.int (iz x4)), some (.int (iz x5)), some (.int (iz s0))] [.int (iz z6)] σ7 x
    refine r_if_eq (tgt := 133) (dc D_cX5_reachedIn_1 21 rfl) (by decide) rz6 (fun c8 => ?_) (fun c8 => ?_)
    · have h := h.1 c8
      refine r_sub (lv' := [some (.ref (eA E 7)), some (.ref (eA E 1)), none, some (.int (iz x3)), some (.int (iz x4)), some (.int (iz x5)), none]) (subL_s (subL_s (subL_n (subL_s (subL_s (subL_s (subL_n subL_e))))))) ?_
      exact TX5_reachedIn_133 hE x hK12 hK44 _ _ _ rx3 rx4 rx5 _ hσ7 h
    · have h := h.2 c8
      refine r_aloadn (dc D_cX5_reachedIn_1 22 rfl) rfl rfl ?_
      refine r_getR (dc D_cX5_reachedIn_1 23 rfl) fw_RX5_22 lC_7 rfl ?_
      refine r_iload (dc D_cX5_reachedIn_1 24 rfl) rfl ?_
      refine r_dup2 (dc D_cX5_reachedIn_1 25 rfl) rfl rfl ?_
      obtain ⟨o9, h⟩ := h
      refine r_iald (N := 21) (dc D_cX5_reachedIn_1 26 rfl) lC_48 rfl rfl o9 ?_
      refine r_iconst (n := 1) (dc D_cX5_reachedIn_1 27 rfl) ?_
      refine r_aloadn (dc D_cX5_reachedIn_1 28 rfl) rfl rfl ?_
      refine r_getR (dc D_cX5_reachedIn_1 29 rfl) fw_RX5_46 lC_1 rfl ?_
      refine r_iload (dc D_cX5_reachedIn_1 30 rfl) rfl ?_
      obtain ⟨o10, h⟩ := h
      refine r_iald (N := 30) (dc D_cX5_reachedIn_1 31 rfl) lC_14 rfl rfl o10 ?_
      refine r_ishl (dc D_cX5_reachedIn_1 32 rfl) ?_
      refine r_ior (dc D_cX5_reachedIn_1 33 rfl) ?_
      obtain ⟨o11, h⟩ := h
      refine r_iast (N := 21) (dc D_cX5_reachedIn_1 34 rfl) lC_48 rfl rfl o11 (Rg_of _) ?_
      refine r_sig (fun σ12 eσ12 => ?_)
      have h := h σ12 eσ12
      have hσ12 : RS σ12 := RS_eq eσ12 (RS.up hσ7 (Rg_of _) _ _)
      refine r_sub (lv' := [some (.ref (eA E 7)), some (.ref (eA E 1)), none, some (.int (iz x3)), some (.int (iz x4)), some (.int (iz x5)), none]) (subL_s (subL_s (subL_n (subL_s (subL_s (subL_s (subL_n subL_e))))))) ?_
      exact TX5_reachedIn_133 hE x hK12 hK44 _ _ _ rx3 rx4 rx5 _ hσ12 h
set_option maxRecDepth 100000 in
theorem TX5_reachedIn_78 {E : EV} (hE : eOK layC E) {Φ : Int → PS → Prop} {K12 : Int → Int → PS → Prop} {K44 : Int → Int → Int → PS → Prop} (x : CX) (hK12 : ∀ (x3 x4 : Int) (σ : PS), Rg x3 → Rg x4 → RS σ → K12 x3 x4 σ → RW layC E mi_X5_reachedIn Φ 12 [some (.ref (eA E 7)), some (.ref (eA E 1)), none, some (.int (iz x3)), some (.int (iz x4)), none, none] [] σ x) (hK44 : ∀ (x3 x4 x5 : Int) (σ : PS), Rg x3 → Rg x4 → Rg x5 → RS σ → K44 x3 x4 x5 σ → RW layC E mi_X5_reachedIn Φ 44 [some (.ref (eA E 7)), some (.ref (eA E 1)), none, some (.int (iz x3)), some (.int (iz x4)), some (.int (iz x5)), none] [] σ x) (x3 x4 x5 : Int) (rx3 : Rg x3) (rx4 : Rg x4) (rx5 : Rg x5) (σ : PS) (hs : RS σ) (h : LX5_reachedIn_78 K12 K44 x3 x4 x5 σ Φ) : RW layC E mi_X5_reachedIn Φ 78 [some (.ref (eA E 7)), some (.ref (eA E 1)), none, some (.int (iz x3)), some (.int (iz x4)), some (.int (iz x5)), none] [] σ x := by
  refine r_iconst (n := 0) (dc D_cX5_reachedIn_1 3 rfl) ?_
  exact TX5_reachedIn_79 hE x hK12 hK44 _ _ _ _ rx3 rx4 rx5 (Rl rfl) _ hs h
set_option maxRecDepth 100000 in
theorem TBX5_reachedIn_44 {E : EV} (hE : eOK layC E) {Φ : Int → PS → Prop} {K12 : Int → Int → PS → Prop} {K44 : Int → Int → Int → PS → Prop} (x : CX) (hK12 : ∀ (x3 x4 : Int) (σ : PS), Rg x3 → Rg x4 → RS σ → K12 x3 x4 σ → RW layC E mi_X5_reachedIn Φ 12 [some (.ref (eA E 7)), some (.ref (eA E 1)), none, some (.int (iz x3)), some (.int (iz x4)), none, none] [] σ x) (hK44 : ∀ (x3 x4 x5 : Int) (σ : PS), Rg x3 → Rg x4 → Rg x5 → RS σ → K44 x3 x4 x5 σ → RW layC E mi_X5_reachedIn Φ 44 [some (.ref (eA E 7)), some (.ref (eA E 1)), none, some (.int (iz x3)), some (.int (iz x4)), some (.int (iz x5)), none] [] σ x) (x3 x4 x5 : Int) (rx3 : Rg x3) (rx4 : Rg x4) (rx5 : Rg x5) (σ : PS) (hs : RS σ) (h : BX5_reachedIn_44 K12 K44 x3 x4 x5 σ Φ) : RW layC E mi_X5_reachedIn Φ 44 [some (.ref (eA E 7)), some (.ref (eA E 1)), none, some (.int (iz x3)), some (.int (iz x4)), some (.int (iz x5)), none] [] σ x := by
  refine r_iload (dc D_cX5_reachedIn_0 27 rfl) rfl ?_
  refine r_aloadn (dc D_cX5_reachedIn_0 28 rfl) rfl rfl ?_
  refine r_getI (dc D_cX5_reachedIn_0 29 rfl) fw_RX5_29 lC_1 rfl ?_
  refine r_icmp_ge (tgt := 139) (dc D_cX5_reachedIn_0 30 rfl) (by decide) rx5 (hs _ _) (fun c1 => ?_) (fun c1 => ?_)
  · have h := h.1 c1
    obtain ⟨o2, h⟩ := h
    refine r_iinc (lv' := [some (.ref (eA E 7)), some (.ref (eA E 1)), none, some (.int (iz x3)), some (.int (iz (x4 + 1))), some (.int (iz x5)), none]) (dc D_cX5_reachedIn_1 37 rfl) rfl rfl rfl ?_
    refine r_goto (tgt := 12) (dc D_cX5_reachedIn_1 38 rfl) (by decide) ?_
    refine r_sub (lv' := [some (.ref (eA E 7)), some (.ref (eA E 1)), none, some (.int (iz x3)), some (.int (iz (x4 + 1))), none, none]) (subL_s (subL_s (subL_n (subL_s (subL_s (subL_n (subL_n subL_e))))))) ?_
    exact hK12 _ _ _ rx3 o2 hs h
  · have h := h.2 c1
    refine r_aloadn (dc D_cX5_reachedIn_0 31 rfl) rfl rfl ?_
    refine r_iload (dc D_cX5_reachedIn_0 32 rfl) rfl ?_
    refine r_callV (As := [.int (iz x5)]) (st := []) (dc D_cX5_reachedIn_0 33 rfl) cw_RX5_35 nm_yX3_usable (CX3_usable hE _ rx5 _ hs h) lC_1 rfl rfl (by decide) rfl rfl rfl (fun z3 σ4 rz3 hσ4 h => ?_)
    show RW layC E mi_X5_reachedIn Φ 59 [some (.ref (eA E 7)), some (.ref (eA E 1)), none, some (.int (iz x3)), some (.int (iz x4)), some (.int (iz x5)), none] [.int (iz z3)] σ4 x
    refine r_if_le (tgt := 78) (dc D_cX5_reachedIn_0 34 rfl) (by decide) rz3 (fun c5 => ?_) (fun c5 => ?_)
    · have h := h.1 c5
      exact TX5_reachedIn_78 hE x hK12 hK44 _ _ _ rx3 rx4 rx5 _ hσ4 h
    · have h := h.2 c5
      refine r_aloadn (dc D_cX5_reachedIn_0 35 rfl) rfl rfl ?_
      refine r_getR (dc D_cX5_reachedIn_0 36 rfl) fw_RX5_85 lC_1 rfl ?_
      refine r_iload (dc D_cX5_reachedIn_0 37 rfl) rfl ?_
      obtain ⟨o6, h⟩ := h
      refine r_iald (N := 30) (dc D_cX5_reachedIn_0 38 rfl) lC_17 rfl rfl o6 ?_
      refine r_iload (dc D_cX5_reachedIn_0 39 rfl) rfl ?_
      refine r_icmp_gt (tgt := 78) (dc D_cX5_reachedIn_1 0 rfl) (by decide) (hσ4 _ _) rx4 (fun c7 => ?_) (fun c7 => ?_)
      · have h := h.1 c7
        exact TX5_reachedIn_78 hE x hK12 hK44 _ _ _ rx3 rx4 rx5 _ hσ4 h
      · have h := h.2 c7
        refine r_iconst (n := 1) (dc D_cX5_reachedIn_1 1 rfl) ?_
        refine r_goto (tgt := 79) (dc D_cX5_reachedIn_1 2 rfl) (by decide) ?_
        exact TX5_reachedIn_79 hE x hK12 hK44 _ _ _ _ rx3 rx4 rx5 (Rl rfl) _ hσ4 h
theorem TX5_reachedIn_44 {E : EV} (hE : eOK layC E) {Φ : Int → PS → Prop} {K12 : Int → Int → PS → Prop} (x : CX) (hK12 : ∀ (x3 x4 : Int) (σ : PS), Rg x3 → Rg x4 → RS σ → K12 x3 x4 σ → RW layC E mi_X5_reachedIn Φ 12 [some (.ref (eA E 7)), some (.ref (eA E 1)), none, some (.int (iz x3)), some (.int (iz x4)), none, none] [] σ x) (n : Nat) : ∀ (x3 x4 x5 : Int) (σ : PS), Rg x3 → Rg x4 → Rg x5 → RS σ → LX5_reachedIn_44 K12 n x3 x4 x5 σ Φ → RW layC E mi_X5_reachedIn Φ 44 [some (.ref (eA E 7)), some (.ref (eA E 1)), none, some (.int (iz x3)), some (.int (iz x4)), some (.int (iz x5)), none] [] σ x := by
  induction n with
  | zero => intro x3 x4 x5 σ _ _ _ _ h; exact h.elim
  | succ n ih => intro x3 x4 x5 σ rx3 rx4 rx5 hs h; exact TBX5_reachedIn_44 hE x hK12 ih x3 x4 x5 rx3 rx4 rx5 σ hs h
set_option maxRecDepth 100000 in
theorem TBX5_reachedIn_12 {E : EV} (hE : eOK layC E) {Φ : Int → PS → Prop} {K12 : Int → Int → PS → Prop} (x : CX) (hK12 : ∀ (x3 x4 : Int) (σ : PS), Rg x3 → Rg x4 → RS σ → K12 x3 x4 σ → RW layC E mi_X5_reachedIn Φ 12 [some (.ref (eA E 7)), some (.ref (eA E 1)), none, some (.int (iz x3)), some (.int (iz x4)), none, none] [] σ x) (x3 x4 : Int) (rx3 : Rg x3) (rx4 : Rg x4) (σ : PS) (hs : RS σ) (h : BX5_reachedIn_12 K12 x3 x4 σ Φ) : RW layC E mi_X5_reachedIn Φ 12 [some (.ref (eA E 7)), some (.ref (eA E 1)), none, some (.int (iz x3)), some (.int (iz x4)), none, none] [] σ x := by
  refine r_iload (dc D_cX5_reachedIn_0 9 rfl) rfl ?_
  refine r_iloadn (dc D_cX5_reachedIn_0 10 rfl) rfl rfl ?_
  refine r_icmp_gt (tgt := 145) (dc D_cX5_reachedIn_0 11 rfl) (by decide) rx4 rx3 (fun c1 => ?_) (fun c1 => ?_)
  · have h := h.1 c1
    refine r_sub (lv' := [some (.ref (eA E 7)), none, none, some (.int (iz x3)), none, none, none]) (subL_s (subL_n (subL_n (subL_s (subL_n (subL_n (subL_n subL_e))))))) ?_
    exact TX5_reachedIn_145 hE x _ rx3 _ hs h
  · have h := h.2 c1
    refine r_iload (dc D_cX5_reachedIn_0 12 rfl) rfl ?_
    refine r_bipush (n := 20) (dc D_cX5_reachedIn_0 13 rfl) (by decide +kernel) ?_
    refine r_icmp_gt (tgt := 145) (dc D_cX5_reachedIn_0 14 rfl) (by decide) rx4 (Rl rfl) (fun c2 => ?_) (fun c2 => ?_)
    · have h := h.1 c2
      refine r_sub (lv' := [some (.ref (eA E 7)), none, none, some (.int (iz x3)), none, none, none]) (subL_s (subL_n (subL_n (subL_s (subL_n (subL_n (subL_n subL_e))))))) ?_
      exact TX5_reachedIn_145 hE x _ rx3 _ hs h
    · have h := h.2 c2
      refine r_aloadn (dc D_cX5_reachedIn_0 15 rfl) rfl rfl ?_
      refine r_getR (dc D_cX5_reachedIn_0 16 rfl) fw_RX5_22 lC_7 rfl ?_
      refine r_iload (dc D_cX5_reachedIn_0 17 rfl) rfl ?_
      refine r_aloadn (dc D_cX5_reachedIn_0 18 rfl) rfl rfl ?_
      refine r_getR (dc D_cX5_reachedIn_0 19 rfl) fw_RX5_22 lC_7 rfl ?_
      refine r_iload (dc D_cX5_reachedIn_0 20 rfl) rfl ?_
      refine r_iconst (n := 1) (dc D_cX5_reachedIn_0 21 rfl) ?_
      refine r_isub (dc D_cX5_reachedIn_0 22 rfl) ?_
      obtain ⟨o3, h⟩ := h
      obtain ⟨o4, h⟩ := h
      refine r_iald (N := 21) (dc D_cX5_reachedIn_0 23 rfl) lC_48 rfl rfl o4 ?_
      obtain ⟨o5, h⟩ := h
      refine r_iast (N := 21) (dc D_cX5_reachedIn_0 24 rfl) lC_48 rfl rfl o5 (hs _ _) ?_
      refine r_sig (fun σ6 eσ6 => ?_)
      have h := h σ6 eσ6
      have hσ6 : RS σ6 := RS_eq eσ6 (RS.up hs (hs _ _) _ _)
      refine r_iconst (n := 0) (dc D_cX5_reachedIn_0 25 rfl) ?_
      refine r_istore (lv' := [some (.ref (eA E 7)), some (.ref (eA E 1)), none, some (.int (iz x3)), some (.int (iz x4)), some (.int (iz 0)), none]) (dc D_cX5_reachedIn_0 26 rfl) rfl rfl ?_
      obtain ⟨n, h⟩ := h
      exact TX5_reachedIn_44 hE x hK12 n _ _ _ _ rx3 rx4 (Rl rfl) hσ6 h
theorem TX5_reachedIn_12 {E : EV} (hE : eOK layC E) {Φ : Int → PS → Prop} (x : CX) (n : Nat) : ∀ (x3 x4 : Int) (σ : PS), Rg x3 → Rg x4 → RS σ → LX5_reachedIn_12 n x3 x4 σ Φ → RW layC E mi_X5_reachedIn Φ 12 [some (.ref (eA E 7)), some (.ref (eA E 1)), none, some (.int (iz x3)), some (.int (iz x4)), none, none] [] σ x := by
  induction n with
  | zero => intro x3 x4 σ _ _ _ h; exact h.elim
  | succ n ih => intro x3 x4 σ rx3 rx4 hs h; exact TBX5_reachedIn_12 hE x ih x3 x4 rx3 rx4 σ hs h
set_option maxRecDepth 100000 in
theorem CX5_reachedIn {E : EV} (hE : eOK layC E) {Φ : Int → PS → Prop} (a2 a3 : Int) (ra2 : Rg a2) (ra3 : Rg a3) (σ : PS) (hs : RS σ) (h : FX5_reachedIn a2 a3 σ Φ) : CT layC E yX5_reachedIn mi_X5_reachedIn [.ref (eA E 7), .ref (eA E 1), .int (iz a2), .int (iz a3)] σ Φ := by
  refine ct_of (by decide +kernel) rfl hE rfl rfl hs (fun x => ?_)
  show RW layC E mi_X5_reachedIn Φ 0 [some (.ref (eA E 7)), some (.ref (eA E 1)), some (.int (iz a2)), some (.int (iz a3)), none, none, none] [] σ x
  refine r_aloadn (dc D_cX5_reachedIn_0 0 rfl) rfl rfl ?_
  refine r_getR (dc D_cX5_reachedIn_0 1 rfl) fw_RX5_22 lC_7 rfl ?_
  refine r_iconst (n := 0) (dc D_cX5_reachedIn_0 2 rfl) ?_
  refine r_iconst (n := 1) (dc D_cX5_reachedIn_0 3 rfl) ?_
  refine r_iloadn (dc D_cX5_reachedIn_0 4 rfl) rfl rfl ?_
  refine r_ishl (dc D_cX5_reachedIn_0 5 rfl) ?_
  refine r_iast (N := 21) (dc D_cX5_reachedIn_0 6 rfl) lC_48 rfl rfl ⟨by decide, by decide⟩ (Rg_of _) ?_
  refine r_sig (fun σ1 eσ1 => ?_)
  have h := h σ1 eσ1
  have hσ1 : RS σ1 := RS_eq eσ1 (RS.up hs (Rg_of _) _ _)
  refine r_iconst (n := 1) (dc D_cX5_reachedIn_0 7 rfl) ?_
  refine r_istore (lv' := [some (.ref (eA E 7)), some (.ref (eA E 1)), some (.int (iz a2)), some (.int (iz a3)), some (.int (iz 1)), none, none]) (dc D_cX5_reachedIn_0 8 rfl) rfl rfl ?_
  refine r_sub (lv' := [some (.ref (eA E 7)), some (.ref (eA E 1)), none, some (.int (iz a3)), some (.int (iz 1)), none, none]) (subL_s (subL_s (subL_n (subL_s (subL_s (subL_n (subL_n subL_e))))))) ?_
  obtain ⟨n, h⟩ := h
  exact TX5_reachedIn_12 hE x n _ _ _ ra3 (Rl rfl) hσ1 h
-- end of GateFlow$Models.reachedIn
def mi_X11_reach : MI := (cX11_reach, RX11, 3, 4, (some .int), 1)
def FX11_reach (a1 a2 : Int) (σ : PS) (Φ : Int → PS → Prop) : Prop :=
  FX11_isNode a1 σ (fun z1 σ2 =>
  ((¬ z1 = 0 →
    ((a2 < 0 →
      Φ (-2) σ2) ∧
    (¬ a2 < 0 →
      ((20 < a2 →
        Φ (-2) σ2) ∧
      (¬ 20 < a2 →
        FX5_reachedIn a1 a2 σ2 (fun z6 σ7 =>
        Φ z6 σ7)))))) ∧
  (z1 = 0 →
    Φ (-1) σ2)))
theorem cw_RX11_249 : CWV RX11 249 yX5_reachedIn mi_X5_reachedIn := tb_r [916, 917, 918, 102, 919] (by decide +kernel)
theorem nm_yX5_reachedIn : ynm yX5_reachedIn 3 := ⟨⟨by decide +kernel, by decide +kernel⟩, by decide +kernel⟩
set_option maxRecDepth 100000 in
theorem CX11_reach {E : EV} (hE : eOK layC E) {Φ : Int → PS → Prop} (a1 a2 : Int) (ra1 : Rg a1) (ra2 : Rg a2) (σ : PS) (hs : RS σ) (h : FX11_reach a1 a2 σ Φ) : CT layC E yX11_reach mi_X11_reach [.ref (eA E 0), .int (iz a1), .int (iz a2)] σ Φ := by
  refine ct_of (by decide +kernel) rfl hE rfl rfl hs (fun x => ?_)
  show RW layC E mi_X11_reach Φ 0 [some (.ref (eA E 0)), some (.int (iz a1)), some (.int (iz a2))] [] σ x
  refine r_iloadn (dc D_cX11_reach_0 0 rfl) rfl rfl ?_
  refine r_callS (As := [.int (iz a1)]) (st := []) (dc D_cX11_reach_0 1 rfl) cw_RX11_82 nm_yX11_isNode (CX11_isNode hE _ ra1 _ hs h) rfl (by decide) rfl rfl rfl (fun z1 σ2 rz1 hσ2 h => ?_)
  show RW layC E mi_X11_reach Φ 4 [some (.ref (eA E 0)), some (.int (iz a1)), some (.int (iz a2))] [.int (iz z1)] σ2 x
  refine r_if_ne (tgt := 9) (dc D_cX11_reach_0 2 rfl) (by decide) rz1 (fun c3 => ?_) (fun c3 => ?_)
  · have h := h.1 c3
    refine r_iloadn (dc D_cX11_reach_0 5 rfl) rfl rfl ?_
    refine r_if_lt (tgt := 35) (dc D_cX11_reach_0 6 rfl) (by decide) ra2 (fun c4 => ?_) (fun c4 => ?_)
    · have h := h.1 c4
      refine r_bipush (n := (-2)) (dc D_cX11_reach_0 18 rfl) (by decide +kernel) ?_
      exact r_iret (dc D_cX11_reach_0 19 rfl) rfl (Rl rfl) h
    · have h := h.2 c4
      refine r_iloadn (dc D_cX11_reach_0 7 rfl) rfl rfl ?_
      refine r_bipush (n := 20) (dc D_cX11_reach_0 8 rfl) (by decide +kernel) ?_
      refine r_icmp_gt (tgt := 35) (dc D_cX11_reach_0 9 rfl) (by decide) ra2 (Rl rfl) (fun c5 => ?_) (fun c5 => ?_)
      · have h := h.1 c5
        refine r_bipush (n := (-2)) (dc D_cX11_reach_0 18 rfl) (by decide +kernel) ?_
        exact r_iret (dc D_cX11_reach_0 19 rfl) rfl (Rl rfl) h
      · have h := h.2 c5
        refine r_aloadn (dc D_cX11_reach_0 10 rfl) rfl rfl ?_
        refine r_getR (dc D_cX11_reach_0 11 rfl) fw_RX11_43 lC_0 rfl ?_
        refine r_aloadn (dc D_cX11_reach_0 12 rfl) rfl rfl ?_
        refine r_getR (dc D_cX11_reach_0 13 rfl) fw_RX11_12 lC_0 rfl ?_
        refine r_iloadn (dc D_cX11_reach_0 14 rfl) rfl rfl ?_
        refine r_iloadn (dc D_cX11_reach_0 15 rfl) rfl rfl ?_
        refine r_callV (As := [.ref (eA E 1), .int (iz a1), .int (iz a2)]) (st := []) (dc D_cX11_reach_0 16 rfl) cw_RX11_249 nm_yX5_reachedIn (CX5_reachedIn hE _ _ ra1 ra2 _ hσ2 h) lC_7 rfl rfl (by decide) rfl rfl rfl (fun z6 σ7 rz6 hσ7 h => ?_)
        show RW layC E mi_X11_reach Φ 32 [some (.ref (eA E 0)), some (.int (iz a1)), some (.int (iz a2))] [.int (iz z6)] σ7 x
        refine r_goto (tgt := 37) (dc D_cX11_reach_0 17 rfl) (by decide) ?_
        exact r_iret (dc D_cX11_reach_0 19 rfl) rfl rz6 h
  · have h := h.2 c3
    refine r_iconst (n := (-1)) (dc D_cX11_reach_0 3 rfl) ?_
    exact r_iret (dc D_cX11_reach_0 4 rfl) rfl (Rl rfl) h
-- end of GateFlow.reach
def mi_X9_add : MI := (cX9_add, RX9, 2, 1, (some .boolean), 1)
def FX9_add (a1 : Int) (σ : PS) (Φ : Int → PS → Prop) : Prop :=
  ((σ 9 1 < 0 →
    Φ 0 σ) ∧
  (¬ σ 9 1 < 0 →
    ((σ 9 1 < 90 →
      (-128 ≤ a1 ∧ a1 ≤ 127) ∧
      (0 ≤ σ 9 1 ∧ σ 9 1 < 90) ∧
      (-128 ≤ a1 ∧ a1 ≤ 127) ∧
      ∀ σ6 : PS, σ6 = up2 σ 57 (σ 9 1).toNat a1 →
      Rg ((σ6 9 1) + 1) ∧
      ∀ σ8 : PS, σ8 = up2 σ6 9 1 ((σ6 9 1) + 1) →
      Φ 1 σ8) ∧
    (¬ σ 9 1 < 90 →
      Φ 0 σ))))
theorem fw_RX11_57 : FW RX11 57 11 12 := ⟨RX11, TX11, 16, rfl, by decide, rfl, tb_1 509 (by decide +kernel), uw_11⟩
theorem fw_RX9_19 : FW RX9 19 9 1 := ⟨RX9, TX9, 4, rfl, by decide, rfl, tb_1 429 (by decide +kernel), uw_9⟩
theorem fw_RX9_9 : FW RX9 9 9 0 := ⟨RX9, TX9, 4, rfl, by decide, rfl, tb_1 428 (by decide +kernel), uw_9⟩
theorem fp_9_1 : FP 9 1 .int := ⟨RX9, TX9, 4, tyX9, rfl, tyX9_ok, nmX9, rfl, by decide +kernel⟩
set_option maxRecDepth 100000 in
theorem CX9_add {E : EV} (hE : eOK layC E) {Φ : Int → PS → Prop} (a1 : Int) (ra1 : Rg a1) (σ : PS) (hs : RS σ) (h : FX9_add a1 σ Φ) : CT layC E yX9_add mi_X9_add [.ref (eA E 9), .int (iz a1)] σ Φ := by
  refine ct_of (by decide +kernel) rfl hE rfl rfl hs (fun x => ?_)
  show RW layC E mi_X9_add Φ 0 [some (.ref (eA E 9)), some (.int (iz a1))] [] σ x
  refine r_aloadn (dc D_cX9_add_0 0 rfl) rfl rfl ?_
  refine r_getI (dc D_cX9_add_0 1 rfl) fw_RX9_19 lC_9 rfl ?_
  refine r_if_lt (tgt := 16) (dc D_cX9_add_0 2 rfl) (by decide) (hs _ _) (fun c1 => ?_) (fun c1 => ?_)
  · have h := h.1 c1
    refine r_iconst (n := 0) (dc D_cX9_add_0 7 rfl) ?_
    exact r_zret (dc D_cX9_add_0 8 rfl) rfl (by decide) h
  · have h := h.2 c1
    refine r_aloadn (dc D_cX9_add_0 3 rfl) rfl rfl ?_
    refine r_getI (dc D_cX9_add_0 4 rfl) fw_RX9_19 lC_9 rfl ?_
    refine r_bipush (n := 90) (dc D_cX9_add_0 5 rfl) (by decide +kernel) ?_
    refine r_icmp_lt (tgt := 18) (dc D_cX9_add_0 6 rfl) (by decide) (hs _ _) (Rl rfl) (fun c2 => ?_) (fun c2 => ?_)
    · have h := h.1 c2
      refine r_aloadn (dc D_cX9_add_0 9 rfl) rfl rfl ?_
      refine r_getR (dc D_cX9_add_0 10 rfl) fw_RX9_9 lC_9 rfl ?_
      refine r_aloadn (dc D_cX9_add_0 11 rfl) rfl rfl ?_
      refine r_getI (dc D_cX9_add_0 12 rfl) fw_RX9_19 lC_9 rfl ?_
      refine r_iloadn (dc D_cX9_add_0 13 rfl) rfl rfl ?_
      obtain ⟨o3, h⟩ := h
      refine r_i2b (dc D_cX9_add_0 14 rfl) o3 ?_
      obtain ⟨o4, h⟩ := h
      obtain ⟨o5, h⟩ := h
      refine r_bast (N := 90) (dc D_cX9_add_0 15 rfl) lC_57 rfl rfl o4 o5 ?_
      refine r_sig (fun σ6 eσ6 => ?_)
      have h := h σ6 eσ6
      have hσ6 : RS σ6 := RS_eq eσ6 (RS.up hs ra1 _ _)
      refine r_aloadn (dc D_cX9_add_0 16 rfl) rfl rfl ?_
      refine r_dup (dc D_cX9_add_0 17 rfl) rfl ?_
      refine r_getI (dc D_cX9_add_0 18 rfl) fw_RX9_19 lC_9 rfl ?_
      refine r_iconst (n := 1) (dc D_cX9_add_0 19 rfl) ?_
      refine r_iadd (dc D_cX9_add_0 20 rfl) ?_
      obtain ⟨o7, h⟩ := h
      refine r_put (dc D_cX9_add_0 21 rfl) fw_RX9_19 fp_9_1 lC_9 rfl (nar_int _) o7 ?_
      refine r_sig (fun σ8 eσ8 => ?_)
      have h := h σ8 eσ8
      have hσ8 : RS σ8 := RS_eq eσ8 (RS.up hσ6 o7 _ _)
      refine r_iconst (n := 1) (dc D_cX9_add_0 22 rfl) ?_
      exact r_zret (dc D_cX9_add_0 23 rfl) rfl (by decide) h
    · have h := h.2 c2
      refine r_iconst (n := 0) (dc D_cX9_add_0 7 rfl) ?_
      exact r_zret (dc D_cX9_add_0 8 rfl) rfl (by decide) h
-- end of GateFlow$Tape.add
def mi_X11_feed : MI := (cX11_feed, RX11, 2, 2, (some .int), 1)
def FX11_feed (a1 : Int) (σ : PS) (Φ : Int → PS → Prop) : Prop :=
  ((a1 < 1 →
    Φ (-2) σ) ∧
  (¬ a1 < 1 →
    ((a1 ≤ 127 →
      FX9_add a1 σ (fun z3 σ4 =>
      ((z3 = 0 →
        Φ (-4) σ4) ∧
      (¬ z3 = 0 →
        Φ (σ4 9 1) σ4)))) ∧
    (¬ a1 ≤ 127 →
      Φ (-2) σ))))
theorem fw_RX11_255 : FW RX11 255 9 1 := ⟨RX9, TX9, 4, rfl, by decide, rfl, tb_1 430 (by decide +kernel), uw_9⟩
theorem cw_RX11_253 : CWV RX11 253 yX9_add mi_X9_add := tb_r [924, 925, 926, 105, 927] (by decide +kernel)
theorem nm_yX9_add : ynm yX9_add 1 := ⟨⟨by decide +kernel, by decide +kernel⟩, by decide +kernel⟩
set_option maxRecDepth 100000 in
theorem CX11_feed {E : EV} (hE : eOK layC E) {Φ : Int → PS → Prop} (a1 : Int) (ra1 : Rg a1) (σ : PS) (hs : RS σ) (h : FX11_feed a1 σ Φ) : CT layC E yX11_feed mi_X11_feed [.ref (eA E 0), .int (iz a1)] σ Φ := by
  refine ct_of (by decide +kernel) rfl hE rfl rfl hs (fun x => ?_)
  show RW layC E mi_X11_feed Φ 0 [some (.ref (eA E 0)), some (.int (iz a1))] [] σ x
  refine r_iloadn (dc D_cX11_feed_0 0 rfl) rfl rfl ?_
  refine r_iconst (n := 1) (dc D_cX11_feed_0 1 rfl) ?_
  refine r_icmp_lt (tgt := 11) (dc D_cX11_feed_0 2 rfl) (by decide) ra1 (Rl rfl) (fun c1 => ?_) (fun c1 => ?_)
  · have h := h.1 c1
    refine r_bipush (n := (-2)) (dc D_cX11_feed_0 6 rfl) (by decide +kernel) ?_
    exact r_iret (dc D_cX11_feed_0 7 rfl) rfl (Rl rfl) h
  · have h := h.2 c1
    refine r_iloadn (dc D_cX11_feed_0 3 rfl) rfl rfl ?_
    refine r_bipush (n := 127) (dc D_cX11_feed_0 4 rfl) (by decide +kernel) ?_
    refine r_icmp_le (tgt := 14) (dc D_cX11_feed_0 5 rfl) (by decide) ra1 (Rl rfl) (fun c2 => ?_) (fun c2 => ?_)
    · have h := h.1 c2
      refine r_aloadn (dc D_cX11_feed_0 8 rfl) rfl rfl ?_
      refine r_getR (dc D_cX11_feed_0 9 rfl) fw_RX11_57 lC_0 rfl ?_
      refine r_iloadn (dc D_cX11_feed_0 10 rfl) rfl rfl ?_
      refine r_callV (As := [.int (iz a1)]) (st := []) (dc D_cX11_feed_0 11 rfl) cw_RX11_253 nm_yX9_add (CX9_add hE _ ra1 _ hs h) lC_9 rfl rfl (by decide) rfl rfl rfl (fun z3 σ4 rz3 hσ4 h => ?_)
      show RW layC E mi_X11_feed Φ 22 [some (.ref (eA E 0)), some (.int (iz a1))] [.int (iz z3)] σ4 x
      refine r_if_eq (tgt := 35) (dc D_cX11_feed_0 12 rfl) (by decide) rz3 (fun c5 => ?_) (fun c5 => ?_)
      · have h := h.1 c5
        refine r_bipush (n := (-4)) (dc D_cX11_feed_0 17 rfl) (by decide +kernel) ?_
        exact r_iret (dc D_cX11_feed_0 18 rfl) rfl (Rl rfl) h
      · have h := h.2 c5
        refine r_aloadn (dc D_cX11_feed_0 13 rfl) rfl rfl ?_
        refine r_getR (dc D_cX11_feed_0 14 rfl) fw_RX11_57 lC_0 rfl ?_
        refine r_getI (dc D_cX11_feed_0 15 rfl) fw_RX11_255 lC_9 rfl ?_
        refine r_goto (tgt := 37) (dc D_cX11_feed_0 16 rfl) (by decide) ?_
        exact r_iret (dc D_cX11_feed_0 18 rfl) rfl (hσ4 _ _) h
    · have h := h.2 c2
      refine r_bipush (n := (-2)) (dc D_cX11_feed_0 6 rfl) (by decide +kernel) ?_
      exact r_iret (dc D_cX11_feed_0 7 rfl) rfl (Rl rfl) h
-- end of GateFlow.feed
def mi_X11_clear : MI := (cX11_clear, RX11, 2, 1, (some .int), 1)
def FX11_clear (σ : PS) (Φ : Int → PS → Prop) : Prop :=
  ∀ v1 : Int, v1 = σ 9 1 →
  ∀ σ2 : PS, σ2 = up2 σ 9 1 0 →
  Φ v1 σ2
set_option maxRecDepth 100000 in
theorem CX11_clear {E : EV} (hE : eOK layC E) {Φ : Int → PS → Prop} (σ : PS) (hs : RS σ) (h : FX11_clear σ Φ) : CT layC E yX11_clear mi_X11_clear [.ref (eA E 0)] σ Φ := by
  refine ct_of (by decide +kernel) rfl hE rfl rfl hs (fun x => ?_)
  show RW layC E mi_X11_clear Φ 0 [some (.ref (eA E 0)), none] [] σ x
  refine r_aloadn (dc D_cX11_clear_0 0 rfl) rfl rfl ?_
  refine r_getR (dc D_cX11_clear_0 1 rfl) fw_RX11_57 lC_0 rfl ?_
  refine r_getI (dc D_cX11_clear_0 2 rfl) fw_RX11_255 lC_9 rfl ?_
  refine r_name (fun v1 ev1 => ?_)
  have h := h v1 ev1
  have rv1 : Rg v1 := Rg_eq ev1 (hs _ _)
  refine r_istoren (lv' := [some (.ref (eA E 0)), some (.int (iz v1))]) (dc D_cX11_clear_0 3 rfl) rfl rfl rfl ?_
  refine r_aloadn (dc D_cX11_clear_0 4 rfl) rfl rfl ?_
  refine r_getR (dc D_cX11_clear_0 5 rfl) fw_RX11_57 lC_0 rfl ?_
  refine r_iconst (n := 0) (dc D_cX11_clear_0 6 rfl) ?_
  refine r_put (dc D_cX11_clear_0 7 rfl) fw_RX11_255 fp_9_1 lC_9 rfl (nar_int _) (Rl rfl) ?_
  refine r_sig (fun σ2 eσ2 => ?_)
  have h := h σ2 eσ2
  have hσ2 : RS σ2 := RS_eq eσ2 (RS.up hs (Rl rfl) _ _)
  refine r_iloadn (dc D_cX11_clear_0 8 rfl) rfl rfl ?_
  exact r_iret (dc D_cX11_clear_0 9 rfl) rfl rv1 h
-- end of GateFlow.clear
def mi_X9_begin : MI := (cX9_begin, RX9, 1, 1, none, 0)
def FX9_begin (σ : PS) (Φ : Int → PS → Prop) : Prop :=
  ∀ σ1 : PS, σ1 = up2 σ 9 2 0 →
  ∀ σ2 : PS, σ2 = up2 σ1 9 3 (-1) →
  Φ 0 σ2
theorem fw_RX9_22 : FW RX9 22 9 2 := ⟨RX9, TX9, 4, rfl, by decide, rfl, tb_1 432 (by decide +kernel), uw_9⟩
theorem fp_9_2 : FP 9 2 .int := ⟨RX9, TX9, 4, tyX9, rfl, tyX9_ok, nmX9, rfl, by decide +kernel⟩
theorem fw_RX9_15 : FW RX9 15 9 3 := ⟨RX9, TX9, 4, rfl, by decide, rfl, tb_1 434 (by decide +kernel), uw_9⟩
theorem fp_9_3 : FP 9 3 .int := ⟨RX9, TX9, 4, tyX9, rfl, tyX9_ok, nmX9, rfl, by decide +kernel⟩
set_option maxRecDepth 100000 in
theorem CX9_begin {E : EV} (hE : eOK layC E) {Φ : Int → PS → Prop} (σ : PS) (hs : RS σ) (h : FX9_begin σ Φ) : CT layC E yX9_begin mi_X9_begin [.ref (eA E 9)] σ Φ := by
  refine ct_of (by decide +kernel) rfl hE rfl rfl hs (fun x => ?_)
  show RW layC E mi_X9_begin Φ 0 [some (.ref (eA E 9))] [] σ x
  refine r_aloadn (dc D_cX9_begin_0 0 rfl) rfl rfl ?_
  refine r_iconst (n := 0) (dc D_cX9_begin_0 1 rfl) ?_
  refine r_put (dc D_cX9_begin_0 2 rfl) fw_RX9_22 fp_9_2 lC_9 rfl (nar_int _) (Rl rfl) ?_
  refine r_sig (fun σ1 eσ1 => ?_)
  have h := h σ1 eσ1
  have hσ1 : RS σ1 := RS_eq eσ1 (RS.up hs (Rl rfl) _ _)
  refine r_aloadn (dc D_cX9_begin_0 3 rfl) rfl rfl ?_
  refine r_iconst (n := (-1)) (dc D_cX9_begin_0 4 rfl) ?_
  refine r_put (dc D_cX9_begin_0 5 rfl) fw_RX9_15 fp_9_3 lC_9 rfl (nar_int _) (Rl rfl) ?_
  refine r_sig (fun σ2 eσ2 => ?_)
  have h := h σ2 eσ2
  have hσ2 : RS σ2 := RS_eq eσ2 (RS.up hσ1 (Rl rfl) _ _)
  exact r_vret (dc D_cX9_begin_0 6 rfl) rfl h
-- end of GateFlow$Tape.begin
def mi_X9_fail : MI := (cX9_fail, RX9, 2, 1, none, 0)
def FX9_fail (a1 : Int) (σ : PS) (Φ : Int → PS → Prop) : Prop :=
  ((0 ≤ σ 9 3 →
    Φ 0 σ) ∧
  (¬ 0 ≤ σ 9 3 →
    ∀ σ2 : PS, σ2 = up2 σ 9 3 a1 →
    Φ 0 σ2))
theorem fw_RX11_363 : FW RX11 363 9 2 := ⟨RX9, TX9, 4, rfl, by decide, rfl, tb_1 433 (by decide +kernel), uw_9⟩
set_option maxRecDepth 100000 in
theorem CX9_fail {E : EV} (hE : eOK layC E) {Φ : Int → PS → Prop} (a1 : Int) (ra1 : Rg a1) (σ : PS) (hs : RS σ) (h : FX9_fail a1 σ Φ) : CT layC E yX9_fail mi_X9_fail [.ref (eA E 9), .int (iz a1)] σ Φ := by
  refine ct_of (by decide +kernel) rfl hE rfl rfl hs (fun x => ?_)
  show RW layC E mi_X9_fail Φ 0 [some (.ref (eA E 9)), some (.int (iz a1))] [] σ x
  refine r_aloadn (dc D_cX9_fail_0 0 rfl) rfl rfl ?_
  refine r_getI (dc D_cX9_fail_0 1 rfl) fw_RX9_15 lC_9 rfl ?_
  refine r_if_ge (tgt := 12) (dc D_cX9_fail_0 2 rfl) (by decide) (hs _ _) (fun c1 => ?_) (fun c1 => ?_)
  · have h := h.1 c1
    exact r_vret (dc D_cX9_fail_0 6 rfl) rfl h
  · have h := h.2 c1
    refine r_aloadn (dc D_cX9_fail_0 3 rfl) rfl rfl ?_
    refine r_iloadn (dc D_cX9_fail_0 4 rfl) rfl rfl ?_
    refine r_put (dc D_cX9_fail_0 5 rfl) fw_RX9_15 fp_9_3 lC_9 rfl (nar_int _) ra1 ?_
    refine r_sig (fun σ2 eσ2 => ?_)
    have h := h σ2 eσ2
    have hσ2 : RS σ2 := RS_eq eσ2 (RS.up hs ra1 _ _)
    exact r_vret (dc D_cX9_fail_0 6 rfl) rfl h
-- end of GateFlow$Tape.fail
def mi_X9_byteAt : MI := (cX9_byteAt, RX9, 2, 1, (some .int), 1)
def FX9_byteAt (a1 : Int) (σ : PS) (Φ : Int → PS → Prop) : Prop :=
  ((a1 < 0 →
    Φ 0 σ) ∧
  (¬ a1 < 0 →
    ((σ 9 1 ≤ a1 →
      Φ 0 σ) ∧
    (¬ σ 9 1 ≤ a1 →
      ((90 ≤ a1 →
        Φ 0 σ) ∧
      (¬ 90 ≤ a1 →
        (0 ≤ a1 ∧ a1 < 90) ∧
        Φ (σ 57 a1.toNat) σ))))))
set_option maxRecDepth 100000 in
theorem CX9_byteAt {E : EV} (hE : eOK layC E) {Φ : Int → PS → Prop} (a1 : Int) (ra1 : Rg a1) (σ : PS) (hs : RS σ) (h : FX9_byteAt a1 σ Φ) : CT layC E yX9_byteAt mi_X9_byteAt [.ref (eA E 9), .int (iz a1)] σ Φ := by
  refine ct_of (by decide +kernel) rfl hE rfl rfl hs (fun x => ?_)
  show RW layC E mi_X9_byteAt Φ 0 [some (.ref (eA E 9)), some (.int (iz a1))] [] σ x
  refine r_iloadn (dc D_cX9_byteAt_0 0 rfl) rfl rfl ?_
  refine r_if_lt (tgt := 27) (dc D_cX9_byteAt_0 1 rfl) (by decide) ra1 (fun c1 => ?_) (fun c1 => ?_)
  · have h := h.1 c1
    refine r_iconst (n := 0) (dc D_cX9_byteAt_0 14 rfl) ?_
    exact r_iret (dc D_cX9_byteAt_0 15 rfl) rfl (Rl rfl) h
  · have h := h.2 c1
    refine r_iloadn (dc D_cX9_byteAt_0 2 rfl) rfl rfl ?_
    refine r_aloadn (dc D_cX9_byteAt_0 3 rfl) rfl rfl ?_
    refine r_getI (dc D_cX9_byteAt_0 4 rfl) fw_RX9_19 lC_9 rfl ?_
    refine r_icmp_ge (tgt := 27) (dc D_cX9_byteAt_0 5 rfl) (by decide) ra1 (hs _ _) (fun c2 => ?_) (fun c2 => ?_)
    · have h := h.1 c2
      refine r_iconst (n := 0) (dc D_cX9_byteAt_0 14 rfl) ?_
      exact r_iret (dc D_cX9_byteAt_0 15 rfl) rfl (Rl rfl) h
    · have h := h.2 c2
      refine r_iloadn (dc D_cX9_byteAt_0 6 rfl) rfl rfl ?_
      refine r_bipush (n := 90) (dc D_cX9_byteAt_0 7 rfl) (by decide +kernel) ?_
      refine r_icmp_ge (tgt := 27) (dc D_cX9_byteAt_0 8 rfl) (by decide) ra1 (Rl rfl) (fun c3 => ?_) (fun c3 => ?_)
      · have h := h.1 c3
        refine r_iconst (n := 0) (dc D_cX9_byteAt_0 14 rfl) ?_
        exact r_iret (dc D_cX9_byteAt_0 15 rfl) rfl (Rl rfl) h
      · have h := h.2 c3
        refine r_aloadn (dc D_cX9_byteAt_0 9 rfl) rfl rfl ?_
        refine r_getR (dc D_cX9_byteAt_0 10 rfl) fw_RX9_9 lC_9 rfl ?_
        refine r_iloadn (dc D_cX9_byteAt_0 11 rfl) rfl rfl ?_
        obtain ⟨o4, h⟩ := h
        refine r_bald (N := 90) (dc D_cX9_byteAt_0 12 rfl) lC_57 rfl rfl o4 ?_
        refine r_goto (tgt := 28) (dc D_cX9_byteAt_0 13 rfl) (by decide) ?_
        exact r_iret (dc D_cX9_byteAt_0 15 rfl) rfl (hs _ _) h
-- end of GateFlow$Tape.byteAt
def mi_X9_number : MI := (cX9_number, RX9, 4, 2, (some .int), 1)
def LX9_number_73 (x1 x2 : Int) (σ : PS) (Φ : Int → PS → Prop) : Prop :=
  ((¬ σ 9 2 = x1 →
    Φ x2 σ) ∧
  (σ 9 2 = x1 →
    FX9_fail x1 σ (fun z2 σ3 =>
    Φ x2 σ3)))
def BX9_number_9 (K9 : Int → Int → Int → PS → Prop) (x1 x2 x3 : Int) (σ : PS) (Φ : Int → PS → Prop) : Prop :=
  ((3 ≤ x3 →
    LX9_number_73 x1 x2 σ Φ) ∧
  (¬ 3 ≤ x3 →
    FX9_byteAt (σ 9 2) σ (fun z2 σ3 =>
    ((z2 < 48 →
      LX9_number_73 x1 x2 σ3 Φ) ∧
    (¬ z2 < 48 →
      FX9_byteAt (σ3 9 2) σ3 (fun z5 σ6 =>
      ((57 < z5 →
        LX9_number_73 x1 x2 σ6 Φ) ∧
      (¬ 57 < z5 →
        Rg (x2 * 10) ∧
        FX9_byteAt (σ6 9 2) σ6 (fun z9 σ10 =>
        Rg ((x2 * 10) + z9) ∧
        Rg (((x2 * 10) + z9) - 48) ∧
        ∀ v13 : Int, v13 = ((x2 * 10) + z9) - 48 →
        Rg ((σ10 9 2) + 1) ∧
        ∀ σ15 : PS, σ15 = up2 σ10 9 2 ((σ10 9 2) + 1) →
        Rg (x3 + 1) ∧
        K9 x1 v13 (x3 + 1) σ15)))))))))
def LX9_number_9 : Nat → Int → Int → Int → PS → (Int → PS → Prop) → Prop
  | 0, _, _, _, _, _ => False
  | n + 1, x1, x2, x3, σ, Φ => BX9_number_9 (fun x1 x2 x3 σ => LX9_number_9 n x1 x2 x3 σ Φ) x1 x2 x3 σ Φ
def FX9_number (σ : PS) (Φ : Int → PS → Prop) : Prop :=
  ∀ v1 : Int, v1 = σ 9 2 →
  ∃ n, LX9_number_9 n v1 0 0 σ Φ
theorem cw_RX9_33 : CWV RX9 33 yX9_fail mi_X9_fail := tb_r [961, 947, 948, 105, 949] (by decide +kernel)
theorem nm_yX9_fail : ynm yX9_fail 1 := ⟨⟨by decide +kernel, by decide +kernel⟩, by decide +kernel⟩
theorem cw_RX9_25 : CWV RX9 25 yX9_byteAt mi_X9_byteAt := tb_r [957, 958, 959, 105, 960] (by decide +kernel)
theorem nm_yX9_byteAt : ynm yX9_byteAt 1 := ⟨⟨by decide +kernel, by decide +kernel⟩, by decide +kernel⟩
set_option maxRecDepth 100000 in
theorem TX9_number_73 {E : EV} (hE : eOK layC E) {Φ : Int → PS → Prop} (x : CX) (x1 x2 : Int) (rx1 : Rg x1) (rx2 : Rg x2) (σ : PS) (hs : RS σ) (h : LX9_number_73 x1 x2 σ Φ) : RW layC E mi_X9_number Φ 73 [some (.ref (eA E 9)), some (.int (iz x1)), some (.int (iz x2)), none] [] σ x := by
  refine r_aloadn (dc D_cX9_number_1 1 rfl) rfl rfl ?_
  refine r_getI (dc D_cX9_number_1 2 rfl) fw_RX9_22 lC_9 rfl ?_
  refine r_iloadn (dc D_cX9_number_1 3 rfl) rfl rfl ?_
  refine r_icmp_ne (tgt := 86) (dc D_cX9_number_1 4 rfl) (by decide) (hs _ _) rx1 (fun c1 => ?_) (fun c1 => ?_)
  · have h := h.1 c1
    refine r_iloadn (dc D_cX9_number_1 8 rfl) rfl rfl ?_
    exact r_iret (dc D_cX9_number_1 9 rfl) rfl rx2 h
  · have h := h.2 c1
    refine r_aloadn (dc D_cX9_number_1 5 rfl) rfl rfl ?_
    refine r_iloadn (dc D_cX9_number_1 6 rfl) rfl rfl ?_
    refine r_callV (As := [.int (iz x1)]) (st := []) (dc D_cX9_number_1 7 rfl) cw_RX9_33 nm_yX9_fail (CX9_fail hE _ rx1 _ hs h) lC_9 rfl rfl (by decide) rfl rfl rfl (fun z2 σ3 rz2 hσ3 h => ?_)
    show RW layC E mi_X9_number Φ 86 [some (.ref (eA E 9)), some (.int (iz x1)), some (.int (iz x2)), none] [] σ3 x
    refine r_iloadn (dc D_cX9_number_1 8 rfl) rfl rfl ?_
    exact r_iret (dc D_cX9_number_1 9 rfl) rfl rx2 h
set_option maxRecDepth 100000 in
theorem TBX9_number_9 {E : EV} (hE : eOK layC E) {Φ : Int → PS → Prop} {K9 : Int → Int → Int → PS → Prop} (x : CX) (hK9 : ∀ (x1 x2 x3 : Int) (σ : PS), Rg x1 → Rg x2 → Rg x3 → RS σ → K9 x1 x2 x3 σ → RW layC E mi_X9_number Φ 9 [some (.ref (eA E 9)), some (.int (iz x1)), some (.int (iz x2)), some (.int (iz x3))] [] σ x) (x1 x2 x3 : Int) (rx1 : Rg x1) (rx2 : Rg x2) (rx3 : Rg x3) (σ : PS) (hs : RS σ) (h : BX9_number_9 K9 x1 x2 x3 σ Φ) : RW layC E mi_X9_number Φ 9 [some (.ref (eA E 9)), some (.int (iz x1)), some (.int (iz x2)), some (.int (iz x3))] [] σ x := by
  refine r_iloadn (dc D_cX9_number_0 7 rfl) rfl rfl ?_
  refine r_iconst (n := 3) (dc D_cX9_number_0 8 rfl) ?_
  refine r_icmp_ge (tgt := 73) (dc D_cX9_number_0 9 rfl) (by decide) rx3 (Rl rfl) (fun c1 => ?_) (fun c1 => ?_)
  · have h := h.1 c1
    refine r_sub (lv' := [some (.ref (eA E 9)), some (.int (iz x1)), some (.int (iz x2)), none]) (subL_s (subL_s (subL_s (subL_n subL_e)))) ?_
    exact TX9_number_73 hE x _ _ rx1 rx2 _ hs h
  · have h := h.2 c1
    refine r_aloadn (dc D_cX9_number_0 10 rfl) rfl rfl ?_
    refine r_aloadn (dc D_cX9_number_0 11 rfl) rfl rfl ?_
    refine r_getI (dc D_cX9_number_0 12 rfl) fw_RX9_22 lC_9 rfl ?_
    refine r_callV (As := [.int (iz (σ 9 2))]) (st := []) (dc D_cX9_number_0 13 rfl) cw_RX9_25 nm_yX9_byteAt (CX9_byteAt hE _ (hs _ _) _ hs h) lC_9 rfl rfl (by decide) rfl rfl rfl (fun z2 σ3 rz2 hσ3 h => ?_)
    show RW layC E mi_X9_number Φ 22 [some (.ref (eA E 9)), some (.int (iz x1)), some (.int (iz x2)), some (.int (iz x3))] [.int (iz z2)] σ3 x
    refine r_bipush (n := 48) (dc D_cX9_number_0 14 rfl) (by decide +kernel) ?_
    refine r_icmp_lt (tgt := 73) (dc D_cX9_number_0 15 rfl) (by decide) rz2 (Rl rfl) (fun c4 => ?_) (fun c4 => ?_)
    · have h := h.1 c4
      refine r_sub (lv' := [some (.ref (eA E 9)), some (.int (iz x1)), some (.int (iz x2)), none]) (subL_s (subL_s (subL_s (subL_n subL_e)))) ?_
      exact TX9_number_73 hE x _ _ rx1 rx2 _ hσ3 h
    · have h := h.2 c4
      refine r_aloadn (dc D_cX9_number_0 16 rfl) rfl rfl ?_
      refine r_aloadn (dc D_cX9_number_0 17 rfl) rfl rfl ?_
      refine r_getI (dc D_cX9_number_0 18 rfl) fw_RX9_22 lC_9 rfl ?_
      refine r_callV (As := [.int (iz (σ3 9 2))]) (st := []) (dc D_cX9_number_0 19 rfl) cw_RX9_25 nm_yX9_byteAt (CX9_byteAt hE _ (hσ3 _ _) _ hσ3 h) lC_9 rfl rfl (by decide) rfl rfl rfl (fun z5 σ6 rz5 hσ6 h => ?_)
      show RW layC E mi_X9_number Φ 35 [some (.ref (eA E 9)), some (.int (iz x1)), some (.int (iz x2)), some (.int (iz x3))] [.int (iz z5)] σ6 x
      refine r_bipush (n := 57) (dc D_cX9_number_0 20 rfl) (by decide +kernel) ?_
      refine r_icmp_gt (tgt := 73) (dc D_cX9_number_0 21 rfl) (by decide) rz5 (Rl rfl) (fun c7 => ?_) (fun c7 => ?_)
      · have h := h.1 c7
        refine r_sub (lv' := [some (.ref (eA E 9)), some (.int (iz x1)), some (.int (iz x2)), none]) (subL_s (subL_s (subL_s (subL_n subL_e)))) ?_
        exact TX9_number_73 hE x _ _ rx1 rx2 _ hσ6 h
      · have h := h.2 c7
        refine r_iloadn (dc D_cX9_number_0 22 rfl) rfl rfl ?_
        refine r_bipush (n := 10) (dc D_cX9_number_0 23 rfl) (by decide +kernel) ?_
        refine r_imul (dc D_cX9_number_0 24 rfl) ?_
        obtain ⟨o8, h⟩ := h
        refine r_aloadn (dc D_cX9_number_0 25 rfl) rfl rfl ?_
        refine r_aloadn (dc D_cX9_number_0 26 rfl) rfl rfl ?_
        refine r_getI (dc D_cX9_number_0 27 rfl) fw_RX9_22 lC_9 rfl ?_
        refine r_callV (As := [.int (iz (σ6 9 2))]) (st := [.int (iz (x2 * 10))]) (dc D_cX9_number_0 28 rfl) cw_RX9_25 nm_yX9_byteAt (CX9_byteAt hE _ (hσ6 _ _) _ hσ6 h) lC_9 rfl rfl (by decide) rfl rfl rfl (fun z9 σ10 rz9 hσ10 h => ?_)
        show RW layC E mi_X9_number Φ 52 [some (.ref (eA E 9)), some (.int (iz x1)), some (.int (iz x2)), some (.int (iz x3))] [.int (iz z9), .int (iz (x2 * 10))] σ10 x
        refine r_iadd (dc D_cX9_number_0 29 rfl) ?_
        obtain ⟨o11, h⟩ := h
        refine r_bipush (n := 48) (dc D_cX9_number_0 30 rfl) (by decide +kernel) ?_
        refine r_isub (dc D_cX9_number_0 31 rfl) ?_
        obtain ⟨o12, h⟩ := h
        refine r_name (fun v13 ev13 => ?_)
        have h := h v13 ev13
        have rv13 : Rg v13 := Rg_eq ev13 o12
        refine r_istoren (lv' := [some (.ref (eA E 9)), some (.int (iz x1)), some (.int (iz v13)), some (.int (iz x3))]) (dc D_cX9_number_0 32 rfl) rfl rfl rfl ?_
        refine r_aloadn (dc D_cX9_number_0 33 rfl) rfl rfl ?_
        refine r_dup (dc D_cX9_number_0 34 rfl) rfl ?_
        refine r_getI (dc D_cX9_number_0 35 rfl) fw_RX9_22 lC_9 rfl ?_
        refine r_iconst (n := 1) (dc D_cX9_number_0 36 rfl) ?_
        refine r_iadd (dc D_cX9_number_0 37 rfl) ?_
        obtain ⟨o14, h⟩ := h
        refine r_put (dc D_cX9_number_0 38 rfl) fw_RX9_22 fp_9_2 lC_9 rfl (nar_int _) o14 ?_
        refine r_sig (fun σ15 eσ15 => ?_)
        have h := h σ15 eσ15
        have hσ15 : RS σ15 := RS_eq eσ15 (RS.up hσ10 o14 _ _)
        obtain ⟨o16, h⟩ := h
        refine r_iinc (lv' := [some (.ref (eA E 9)), some (.int (iz x1)), some (.int (iz v13)), some (.int (iz (x3 + 1)))]) (dc D_cX9_number_0 39 rfl) rfl rfl rfl ?_
        refine r_goto (tgt := 9) (dc D_cX9_number_1 0 rfl) (by decide) ?_
        exact hK9 _ _ _ _ rx1 rv13 o16 hσ15 h
theorem TX9_number_9 {E : EV} (hE : eOK layC E) {Φ : Int → PS → Prop} (x : CX) (n : Nat) : ∀ (x1 x2 x3 : Int) (σ : PS), Rg x1 → Rg x2 → Rg x3 → RS σ → LX9_number_9 n x1 x2 x3 σ Φ → RW layC E mi_X9_number Φ 9 [some (.ref (eA E 9)), some (.int (iz x1)), some (.int (iz x2)), some (.int (iz x3))] [] σ x := by
  induction n with
  | zero => intro x1 x2 x3 σ _ _ _ _ h; exact h.elim
  | succ n ih => intro x1 x2 x3 σ rx1 rx2 rx3 hs h; exact TBX9_number_9 hE x ih x1 x2 x3 rx1 rx2 rx3 σ hs h
set_option maxRecDepth 100000 in
theorem CX9_number {E : EV} (hE : eOK layC E) {Φ : Int → PS → Prop} (σ : PS) (hs : RS σ) (h : FX9_number σ Φ) : CT layC E yX9_number mi_X9_number [.ref (eA E 9)] σ Φ := by
  refine ct_of (by decide +kernel) rfl hE rfl rfl hs (fun x => ?_)
  show RW layC E mi_X9_number Φ 0 [some (.ref (eA E 9)), none, none, none] [] σ x
  refine r_aloadn (dc D_cX9_number_0 0 rfl) rfl rfl ?_
  refine r_getI (dc D_cX9_number_0 1 rfl) fw_RX9_22 lC_9 rfl ?_
  refine r_name (fun v1 ev1 => ?_)
  have h := h v1 ev1
  have rv1 : Rg v1 := Rg_eq ev1 (hs _ _)
  refine r_istoren (lv' := [some (.ref (eA E 9)), some (.int (iz v1)), none, none]) (dc D_cX9_number_0 2 rfl) rfl rfl rfl ?_
  refine r_iconst (n := 0) (dc D_cX9_number_0 3 rfl) ?_
  refine r_istoren (lv' := [some (.ref (eA E 9)), some (.int (iz v1)), some (.int (iz 0)), none]) (dc D_cX9_number_0 4 rfl) rfl rfl rfl ?_
  refine r_iconst (n := 0) (dc D_cX9_number_0 5 rfl) ?_
  refine r_istoren (lv' := [some (.ref (eA E 9)), some (.int (iz v1)), some (.int (iz 0)), some (.int (iz 0))]) (dc D_cX9_number_0 6 rfl) rfl rfl rfl ?_
  obtain ⟨n, h⟩ := h
  exact TX9_number_9 hE x n _ _ _ _ rv1 (Rl rfl) (Rl rfl) hs h
-- end of GateFlow$Tape.number
def mi_X11_readNode : MI := (cX11_readNode, RX11, 4, 3, (some .int), 1)
def LX11_readNode_22 (x2 x3 : Int) (σ : PS) (Φ : Int → PS → Prop) : Prop :=
  FX9_fail x2 σ (fun z1 σ2 =>
  Φ x3 σ2)
def FX11_readNode (a2 : Int) (σ : PS) (Φ : Int → PS → Prop) : Prop :=
  ∀ v1 : Int, v1 = σ 9 2 →
  FX9_number σ (fun z2 σ3 =>
  FX11_isNode z2 σ3 (fun z4 σ5 =>
  ((z4 = 0 →
    LX11_readNode_22 v1 z2 σ5 Φ) ∧
  (¬ z4 = 0 →
    ((¬ z2 = a2 →
      Φ z2 σ5) ∧
    (z2 = a2 →
      LX11_readNode_22 v1 z2 σ5 Φ))))))
theorem cw_RX11_366 : CWV RX11 366 yX9_fail mi_X9_fail := tb_r [946, 947, 948, 105, 949] (by decide +kernel)
theorem cw_RX11_378 : CWV RX11 378 yX9_number mi_X9_number := tb_r [953, 954, 955, 105, 956] (by decide +kernel)
theorem nm_yX9_number : ynm yX9_number 0 := ⟨⟨by decide +kernel, by decide +kernel⟩, by decide +kernel⟩
set_option maxRecDepth 100000 in
theorem TX11_readNode_22 {E : EV} (hE : eOK layC E) {Φ : Int → PS → Prop} (x : CX) (x2 x3 : Int) (rx2 : Rg x2) (rx3 : Rg x3) (σ : PS) (hs : RS σ) (h : LX11_readNode_22 x2 x3 σ Φ) : RW layC E mi_X11_readNode Φ 22 [some (.ref (eA E 9)), none, some (.int (iz x2)), some (.int (iz x3))] [] σ x := by
  refine r_aloadn (dc D_cX11_readNode_0 12 rfl) rfl rfl ?_
  refine r_iloadn (dc D_cX11_readNode_0 13 rfl) rfl rfl ?_
  refine r_callV (As := [.int (iz x2)]) (st := []) (dc D_cX11_readNode_0 14 rfl) cw_RX11_366 nm_yX9_fail (CX9_fail hE _ rx2 _ hs h) lC_9 rfl rfl (by decide) rfl rfl rfl (fun z1 σ2 rz1 hσ2 h => ?_)
  show RW layC E mi_X11_readNode Φ 27 [some (.ref (eA E 9)), none, some (.int (iz x2)), some (.int (iz x3))] [] σ2 x
  refine r_iloadn (dc D_cX11_readNode_0 15 rfl) rfl rfl ?_
  exact r_iret (dc D_cX11_readNode_0 16 rfl) rfl rx3 h
set_option maxRecDepth 100000 in
theorem CX11_readNode {E : EV} (hE : eOK layC E) {Φ : Int → PS → Prop} (a2 : Int) (ra2 : Rg a2) (σ : PS) (hs : RS σ) (h : FX11_readNode a2 σ Φ) : CT layC E yX11_readNode mi_X11_readNode [.ref (eA E 9), .int (iz a2)] σ Φ := by
  refine ct_of (by decide +kernel) rfl hE rfl rfl hs (fun x => ?_)
  show RW layC E mi_X11_readNode Φ 0 [some (.ref (eA E 9)), some (.int (iz a2)), none, none] [] σ x
  refine r_aloadn (dc D_cX11_readNode_0 0 rfl) rfl rfl ?_
  refine r_getI (dc D_cX11_readNode_0 1 rfl) fw_RX11_363 lC_9 rfl ?_
  refine r_name (fun v1 ev1 => ?_)
  have h := h v1 ev1
  have rv1 : Rg v1 := Rg_eq ev1 (hs _ _)
  refine r_istoren (lv' := [some (.ref (eA E 9)), some (.int (iz a2)), some (.int (iz v1)), none]) (dc D_cX11_readNode_0 2 rfl) rfl rfl rfl ?_
  refine r_aloadn (dc D_cX11_readNode_0 3 rfl) rfl rfl ?_
  refine r_callV (As := []) (st := []) (dc D_cX11_readNode_0 4 rfl) cw_RX11_378 nm_yX9_number (CX9_number hE  _ hs h) lC_9 rfl rfl (by decide) rfl rfl rfl (fun z2 σ3 rz2 hσ3 h => ?_)
  show RW layC E mi_X11_readNode Φ 9 [some (.ref (eA E 9)), some (.int (iz a2)), some (.int (iz v1)), none] [.int (iz z2)] σ3 x
  refine r_istoren (lv' := [some (.ref (eA E 9)), some (.int (iz a2)), some (.int (iz v1)), some (.int (iz z2))]) (dc D_cX11_readNode_0 5 rfl) rfl rfl rfl ?_
  refine r_iloadn (dc D_cX11_readNode_0 6 rfl) rfl rfl ?_
  refine r_callS (As := [.int (iz z2)]) (st := []) (dc D_cX11_readNode_0 7 rfl) cw_RX11_82 nm_yX11_isNode (CX11_isNode hE _ rz2 _ hσ3 h) rfl (by decide) rfl rfl rfl (fun z4 σ5 rz4 hσ5 h => ?_)
  show RW layC E mi_X11_readNode Φ 14 [some (.ref (eA E 9)), some (.int (iz a2)), some (.int (iz v1)), some (.int (iz z2))] [.int (iz z4)] σ5 x
  refine r_if_eq (tgt := 22) (dc D_cX11_readNode_0 8 rfl) (by decide) rz4 (fun c6 => ?_) (fun c6 => ?_)
  · have h := h.1 c6
    refine r_sub (lv' := [some (.ref (eA E 9)), none, some (.int (iz v1)), some (.int (iz z2))]) (subL_s (subL_n (subL_s (subL_s subL_e)))) ?_
    exact TX11_readNode_22 hE x _ _ rv1 rz2 _ hσ5 h
  · have h := h.2 c6
    refine r_iloadn (dc D_cX11_readNode_0 9 rfl) rfl rfl ?_
    refine r_iloadn (dc D_cX11_readNode_0 10 rfl) rfl rfl ?_
    refine r_icmp_ne (tgt := 27) (dc D_cX11_readNode_0 11 rfl) (by decide) rz2 ra2 (fun c7 => ?_) (fun c7 => ?_)
    · have h := h.1 c7
      refine r_iloadn (dc D_cX11_readNode_0 15 rfl) rfl rfl ?_
      exact r_iret (dc D_cX11_readNode_0 16 rfl) rfl rz2 h
    · have h := h.2 c7
      refine r_sub (lv' := [some (.ref (eA E 9)), none, some (.int (iz v1)), some (.int (iz z2))]) (subL_s (subL_n (subL_s (subL_s subL_e)))) ?_
      exact TX11_readNode_22 hE x _ _ rv1 rz2 _ hσ5 h
-- end of GateFlow.readNode
def mi_X9_takes : MI := (cX9_takes, RX9, 2, 2, (some .boolean), 1)
def FX9_takes (a1 : Int) (σ : PS) (Φ : Int → PS → Prop) : Prop :=
  FX9_byteAt (σ 9 2) σ (fun z1 σ2 =>
  ((z1 = a1 →
    Rg ((σ2 9 2) + 1) ∧
    ∀ σ5 : PS, σ5 = up2 σ2 9 2 ((σ2 9 2) + 1) →
    Φ 1 σ5) ∧
  (¬ z1 = a1 →
    Φ 0 σ2)))
set_option maxRecDepth 100000 in
theorem CX9_takes {E : EV} (hE : eOK layC E) {Φ : Int → PS → Prop} (a1 : Int) (ra1 : Rg a1) (σ : PS) (hs : RS σ) (h : FX9_takes a1 σ Φ) : CT layC E yX9_takes mi_X9_takes [.ref (eA E 9), .int (iz a1)] σ Φ := by
  refine ct_of (by decide +kernel) rfl hE rfl rfl hs (fun x => ?_)
  show RW layC E mi_X9_takes Φ 0 [some (.ref (eA E 9)), some (.int (iz a1))] [] σ x
  refine r_aloadn (dc D_cX9_takes_0 0 rfl) rfl rfl ?_
  refine r_aloadn (dc D_cX9_takes_0 1 rfl) rfl rfl ?_
  refine r_getI (dc D_cX9_takes_0 2 rfl) fw_RX9_22 lC_9 rfl ?_
  refine r_callV (As := [.int (iz (σ 9 2))]) (st := []) (dc D_cX9_takes_0 3 rfl) cw_RX9_25 nm_yX9_byteAt (CX9_byteAt hE _ (hs _ _) _ hs h) lC_9 rfl rfl (by decide) rfl rfl rfl (fun z1 σ2 rz1 hσ2 h => ?_)
  show RW layC E mi_X9_takes Φ 8 [some (.ref (eA E 9)), some (.int (iz a1))] [.int (iz z1)] σ2 x
  refine r_iloadn (dc D_cX9_takes_0 4 rfl) rfl rfl ?_
  refine r_icmp_eq (tgt := 14) (dc D_cX9_takes_0 5 rfl) (by decide) rz1 ra1 (fun c3 => ?_) (fun c3 => ?_)
  · have h := h.1 c3
    refine r_aloadn (dc D_cX9_takes_0 8 rfl) rfl rfl ?_
    refine r_dup (dc D_cX9_takes_0 9 rfl) rfl ?_
    refine r_getI (dc D_cX9_takes_0 10 rfl) fw_RX9_22 lC_9 rfl ?_
    refine r_iconst (n := 1) (dc D_cX9_takes_0 11 rfl) ?_
    refine r_iadd (dc D_cX9_takes_0 12 rfl) ?_
    obtain ⟨o4, h⟩ := h
    refine r_put (dc D_cX9_takes_0 13 rfl) fw_RX9_22 fp_9_2 lC_9 rfl (nar_int _) o4 ?_
    refine r_sig (fun σ5 eσ5 => ?_)
    have h := h σ5 eσ5
    have hσ5 : RS σ5 := RS_eq eσ5 (RS.up hσ2 o4 _ _)
    refine r_iconst (n := 1) (dc D_cX9_takes_0 14 rfl) ?_
    exact r_zret (dc D_cX9_takes_0 15 rfl) rfl (by decide) h
  · have h := h.2 c3
    refine r_iconst (n := 0) (dc D_cX9_takes_0 6 rfl) ?_
    exact r_zret (dc D_cX9_takes_0 7 rfl) rfl (by decide) h
-- end of GateFlow$Tape.takes
def mi_X9_expect : MI := (cX9_expect, RX9, 2, 3, none, 0)
def FX9_expect (a1 : Int) (σ : PS) (Φ : Int → PS → Prop) : Prop :=
  FX9_takes a1 σ (fun z1 σ2 =>
  ((¬ z1 = 0 →
    Φ 0 σ2) ∧
  (z1 = 0 →
    FX9_fail (σ2 9 2) σ2 (fun z4 σ5 =>
    Φ 0 σ5))))
theorem cw_RX9_29 : CWV RX9 29 yX9_takes mi_X9_takes := tb_r [966, 967, 968, 105, 969] (by decide +kernel)
theorem nm_yX9_takes : ynm yX9_takes 1 := ⟨⟨by decide +kernel, by decide +kernel⟩, by decide +kernel⟩
set_option maxRecDepth 100000 in
theorem CX9_expect {E : EV} (hE : eOK layC E) {Φ : Int → PS → Prop} (a1 : Int) (ra1 : Rg a1) (σ : PS) (hs : RS σ) (h : FX9_expect a1 σ Φ) : CT layC E yX9_expect mi_X9_expect [.ref (eA E 9), .int (iz a1)] σ Φ := by
  refine ct_of (by decide +kernel) rfl hE rfl rfl hs (fun x => ?_)
  show RW layC E mi_X9_expect Φ 0 [some (.ref (eA E 9)), some (.int (iz a1))] [] σ x
  refine r_aloadn (dc D_cX9_expect_0 0 rfl) rfl rfl ?_
  refine r_iloadn (dc D_cX9_expect_0 1 rfl) rfl rfl ?_
  refine r_callV (As := [.int (iz a1)]) (st := []) (dc D_cX9_expect_0 2 rfl) cw_RX9_29 nm_yX9_takes (CX9_takes hE _ ra1 _ hs h) lC_9 rfl rfl (by decide) rfl rfl rfl (fun z1 σ2 rz1 hσ2 h => ?_)
  show RW layC E mi_X9_expect Φ 5 [some (.ref (eA E 9)), some (.int (iz a1))] [.int (iz z1)] σ2 x
  refine r_if_ne (tgt := 16) (dc D_cX9_expect_0 3 rfl) (by decide) rz1 (fun c3 => ?_) (fun c3 => ?_)
  · have h := h.1 c3
    exact r_vret (dc D_cX9_expect_0 8 rfl) rfl h
  · have h := h.2 c3
    refine r_aloadn (dc D_cX9_expect_0 4 rfl) rfl rfl ?_
    refine r_aloadn (dc D_cX9_expect_0 5 rfl) rfl rfl ?_
    refine r_getI (dc D_cX9_expect_0 6 rfl) fw_RX9_22 lC_9 rfl ?_
    refine r_callV (As := [.int (iz (σ2 9 2))]) (st := []) (dc D_cX9_expect_0 7 rfl) cw_RX9_33 nm_yX9_fail (CX9_fail hE _ (hσ2 _ _) _ hσ2 h) lC_9 rfl rfl (by decide) rfl rfl rfl (fun z4 σ5 rz4 hσ5 h => ?_)
    show RW layC E mi_X9_expect Φ 16 [some (.ref (eA E 9)), some (.int (iz a1))] [] σ5 x
    exact r_vret (dc D_cX9_expect_0 8 rfl) rfl h
-- end of GateFlow$Tape.expect
def mi_X11_readDelay : MI := (cX11_readDelay, RX11, 3, 3, (some .int), 1)
def FX11_readDelay (σ : PS) (Φ : Int → PS → Prop) : Prop :=
  ∀ v1 : Int, v1 = σ 9 2 →
  FX9_number σ (fun z2 σ3 =>
  FX11_isDelay z2 σ3 (fun z4 σ5 =>
  ((¬ z4 = 0 →
    Φ z2 σ5) ∧
  (z4 = 0 →
    FX9_fail v1 σ5 (fun z7 σ8 =>
    Φ z2 σ8)))))
theorem fw_RX11_265 : FW RX11 265 9 3 := ⟨RX9, TX9, 4, rfl, by decide, rfl, tb_1 436 (by decide +kernel), uw_9⟩
set_option maxRecDepth 100000 in
theorem CX11_readDelay {E : EV} (hE : eOK layC E) {Φ : Int → PS → Prop} (σ : PS) (hs : RS σ) (h : FX11_readDelay σ Φ) : CT layC E yX11_readDelay mi_X11_readDelay [.ref (eA E 9)] σ Φ := by
  refine ct_of (by decide +kernel) rfl hE rfl rfl hs (fun x => ?_)
  show RW layC E mi_X11_readDelay Φ 0 [some (.ref (eA E 9)), none, none] [] σ x
  refine r_aloadn (dc D_cX11_readDelay_0 0 rfl) rfl rfl ?_
  refine r_getI (dc D_cX11_readDelay_0 1 rfl) fw_RX11_363 lC_9 rfl ?_
  refine r_name (fun v1 ev1 => ?_)
  have h := h v1 ev1
  have rv1 : Rg v1 := Rg_eq ev1 (hs _ _)
  refine r_istoren (lv' := [some (.ref (eA E 9)), some (.int (iz v1)), none]) (dc D_cX11_readDelay_0 2 rfl) rfl rfl rfl ?_
  refine r_aloadn (dc D_cX11_readDelay_0 3 rfl) rfl rfl ?_
  refine r_callV (As := []) (st := []) (dc D_cX11_readDelay_0 4 rfl) cw_RX11_378 nm_yX9_number (CX9_number hE  _ hs h) lC_9 rfl rfl (by decide) rfl rfl rfl (fun z2 σ3 rz2 hσ3 h => ?_)
  show RW layC E mi_X11_readDelay Φ 9 [some (.ref (eA E 9)), some (.int (iz v1)), none] [.int (iz z2)] σ3 x
  refine r_istoren (lv' := [some (.ref (eA E 9)), some (.int (iz v1)), some (.int (iz z2))]) (dc D_cX11_readDelay_0 5 rfl) rfl rfl rfl ?_
  refine r_iloadn (dc D_cX11_readDelay_0 6 rfl) rfl rfl ?_
  refine r_callS (As := [.int (iz z2)]) (st := []) (dc D_cX11_readDelay_0 7 rfl) cw_RX11_89 nm_yX11_isDelay (CX11_isDelay hE _ rz2 _ hσ3 h) rfl (by decide) rfl rfl rfl (fun z4 σ5 rz4 hσ5 h => ?_)
  show RW layC E mi_X11_readDelay Φ 14 [some (.ref (eA E 9)), some (.int (iz v1)), some (.int (iz z2))] [.int (iz z4)] σ5 x
  refine r_if_ne (tgt := 22) (dc D_cX11_readDelay_0 8 rfl) (by decide) rz4 (fun c6 => ?_) (fun c6 => ?_)
  · have h := h.1 c6
    refine r_iloadn (dc D_cX11_readDelay_0 12 rfl) rfl rfl ?_
    exact r_iret (dc D_cX11_readDelay_0 13 rfl) rfl rz2 h
  · have h := h.2 c6
    refine r_aloadn (dc D_cX11_readDelay_0 9 rfl) rfl rfl ?_
    refine r_iloadn (dc D_cX11_readDelay_0 10 rfl) rfl rfl ?_
    refine r_callV (As := [.int (iz v1)]) (st := []) (dc D_cX11_readDelay_0 11 rfl) cw_RX11_366 nm_yX9_fail (CX9_fail hE _ rv1 _ hσ5 h) lC_9 rfl rfl (by decide) rfl rfl rfl (fun z7 σ8 rz7 hσ8 h => ?_)
    show RW layC E mi_X11_readDelay Φ 22 [some (.ref (eA E 9)), some (.int (iz v1)), some (.int (iz z2))] [] σ8 x
    refine r_iloadn (dc D_cX11_readDelay_0 12 rfl) rfl rfl ?_
    exact r_iret (dc D_cX11_readDelay_0 13 rfl) rfl rz2 h
-- end of GateFlow.readDelay
def mi_X11_readGate : MI := (cX11_readGate, RX11, 8, 4, none, 0)
def LX11_readGate_122 (x2 x3 x4 x5 x6 s0 : Int) (σ : PS) (Φ : Int → PS → Prop) : Prop :=
  ((0 ≤ σ 9 3 →
    Φ 0 σ) ∧
  (¬ 0 ≤ σ 9 3 →
    FX3_add x2 x3 x4 x5 x6 s0 σ (fun z2 σ3 =>
    Φ 0 σ3)))
def LX11_readGate_106 (x2 x3 x4 x5 s0 : Int) (σ : PS) (Φ : Int → PS → Prop) : Prop :=
  FX9_takes 120 σ (fun z1 σ2 =>
  ((z1 = 0 →
    LX11_readGate_122 x2 x3 x4 x5 s0 1 σ2 Φ) ∧
  (¬ z1 = 0 →
    LX11_readGate_122 x2 x3 x4 x5 s0 0 σ2 Φ)))
def LX11_readGate_89 (x2 x3 x4 x5 : Int) (σ : PS) (Φ : Int → PS → Prop) : Prop :=
  FX9_takes 64 σ (fun z1 σ2 =>
  ((z1 = 0 →
    LX11_readGate_106 x2 x3 x4 x5 1 σ2 Φ) ∧
  (¬ z1 = 0 →
    FX11_readDelay σ2 (fun z4 σ5 =>
    LX11_readGate_106 x2 x3 x4 x5 z4 σ5 Φ))))
def FX11_readGate (σ : PS) (Φ : Int → PS → Prop) : Prop :=
  ((σ 1 6 < 30 →
    FX11_readNode (-1) σ (fun z2 σ3 =>
    FX9_expect 62 σ3 (fun z4 σ5 =>
    FX11_readNode z2 σ5 (fun z6 σ7 =>
    FX9_expect 58 σ7 (fun z8 σ9 =>
    FX9_number σ9 (fun z10 σ11 =>
    FX9_takes 45 σ11 (fun z12 σ13 =>
    ((z12 = 0 →
      LX11_readGate_89 z2 z6 0 z10 σ13 Φ) ∧
    (¬ z12 = 0 →
      ∀ v15 : Int, v15 = σ13 9 2 →
      FX9_number σ13 (fun z16 σ17 =>
      ((z10 ≤ z16 →
        LX11_readGate_89 z2 z6 z10 z16 σ17 Φ) ∧
      (¬ z10 ≤ z16 →
        FX9_fail v15 σ17 (fun z19 σ20 =>
        LX11_readGate_89 z2 z6 z10 z16 σ20 Φ))))))))))))) ∧
  (¬ σ 1 6 < 30 →
    FX9_fail (σ 9 2) σ (fun z21 σ22 =>
    Φ 0 σ22)))
theorem cw_RX11_359 : CWV RX11 359 yX9_takes mi_X9_takes := tb_r [970, 967, 968, 105, 969] (by decide +kernel)
theorem cw_RX11_380 : CWS RX11 380 yX11_readDelay mi_X11_readDelay := tb_r [971, 972, 97, 973] (by decide +kernel)
theorem nm_yX11_readDelay : ynm yX11_readDelay 1 := ⟨⟨by decide +kernel, by decide +kernel⟩, by decide +kernel⟩
theorem cw_RX11_370 : CWS RX11 370 yX11_readNode mi_X11_readNode := tb_r [950, 951, 97, 952] (by decide +kernel)
theorem nm_yX11_readNode : ynm yX11_readNode 2 := ⟨⟨by decide +kernel, by decide +kernel⟩, by decide +kernel⟩
theorem cw_RX11_374 : CWV RX11 374 yX9_expect mi_X9_expect := tb_r [962, 963, 964, 105, 965] (by decide +kernel)
theorem nm_yX9_expect : ynm yX9_expect 1 := ⟨⟨by decide +kernel, by decide +kernel⟩, by decide +kernel⟩
set_option maxRecDepth 100000 in
theorem TX11_readGate_122 {E : EV} (hE : eOK layC E) {Φ : Int → PS → Prop} (x : CX) (x2 x3 x4 x5 x6 s0 : Int) (rx2 : Rg x2) (rx3 : Rg x3) (rx4 : Rg x4) (rx5 : Rg x5) (rx6 : Rg x6) (rs0 : Rg s0) (σ : PS) (hs : RS σ) (h : LX11_readGate_122 x2 x3 x4 x5 x6 s0 σ Φ) : RW layC E mi_X11_readGate Φ 122 [some (.ref (eA E 9)), some (.ref (eA E 1)), some (.int (iz x2)), some (.int (iz x3)), some (.int (iz x4)), some (.int (iz x5)), some (.int (iz x6)), none] [.int (iz s0)] σ x := by
  refine r_istore (lv' := [some (.ref (eA E 9)), some (.ref (eA E 1)), some (.int (iz x2)), some (.int (iz x3)), some (.int (iz x4)), some (.int (iz x5)), some (.int (iz x6)), some (.int (iz s0))]) (dc D_cX11_readGate_1 22 rfl) rfl rfl ?_
  refine r_aloadn (dc D_cX11_readGate_1 23 rfl) rfl rfl ?_
  refine r_getI (dc D_cX11_readGate_1 24 rfl) fw_RX11_265 lC_9 rfl ?_
  refine r_if_ge (tgt := 146) (dc D_cX11_readGate_1 25 rfl) (by decide) (hs _ _) (fun c1 => ?_) (fun c1 => ?_)
  · have h := h.1 c1
    exact r_vret (dc D_cX11_readGate_1 35 rfl) rfl h
  · have h := h.2 c1
    refine r_aloadn (dc D_cX11_readGate_1 26 rfl) rfl rfl ?_
    refine r_iloadn (dc D_cX11_readGate_1 27 rfl) rfl rfl ?_
    refine r_iloadn (dc D_cX11_readGate_1 28 rfl) rfl rfl ?_
    refine r_iload (dc D_cX11_readGate_1 29 rfl) rfl ?_
    refine r_iload (dc D_cX11_readGate_1 30 rfl) rfl ?_
    refine r_iload (dc D_cX11_readGate_1 31 rfl) rfl ?_
    refine r_iload (dc D_cX11_readGate_1 32 rfl) rfl ?_
    refine r_callV (As := [.int (iz x2), .int (iz x3), .int (iz x4), .int (iz x5), .int (iz x6), .int (iz s0)]) (st := []) (dc D_cX11_readGate_1 33 rfl) cw_RX11_99 nm_yX3_add (CX3_add hE _ _ _ _ _ _ rx2 rx3 rx4 rx5 rx6 rs0 _ hs h) lC_1 rfl rfl (by decide) rfl rfl rfl (fun z2 σ3 rz2 hσ3 h => ?_)
    show RW layC E mi_X11_readGate Φ 145 [some (.ref (eA E 9)), some (.ref (eA E 1)), some (.int (iz x2)), some (.int (iz x3)), some (.int (iz x4)), some (.int (iz x5)), some (.int (iz x6)), some (.int (iz s0))] [.int (iz z2)] σ3 x
    refine r_pop (dc D_cX11_readGate_1 34 rfl) rfl ?_
    exact r_vret (dc D_cX11_readGate_1 35 rfl) rfl h
set_option maxRecDepth 100000 in
theorem TX11_readGate_106 {E : EV} (hE : eOK layC E) {Φ : Int → PS → Prop} (x : CX) (x2 x3 x4 x5 s0 : Int) (rx2 : Rg x2) (rx3 : Rg x3) (rx4 : Rg x4) (rx5 : Rg x5) (rs0 : Rg s0) (σ : PS) (hs : RS σ) (h : LX11_readGate_106 x2 x3 x4 x5 s0 σ Φ) : RW layC E mi_X11_readGate Φ 106 [some (.ref (eA E 9)), some (.ref (eA E 1)), some (.int (iz x2)), some (.int (iz x3)), some (.int (iz x4)), some (.int (iz x5)), none, none] [.int (iz s0)] σ x := by
  refine r_istore (lv' := [some (.ref (eA E 9)), some (.ref (eA E 1)), some (.int (iz x2)), some (.int (iz x3)), some (.int (iz x4)), some (.int (iz x5)), some (.int (iz s0)), none]) (dc D_cX11_readGate_1 14 rfl) rfl rfl ?_
  refine r_aloadn (dc D_cX11_readGate_1 15 rfl) rfl rfl ?_
  refine r_bipush (n := 120) (dc D_cX11_readGate_1 16 rfl) (by decide +kernel) ?_
  refine r_callV (As := [.int (iz 120)]) (st := []) (dc D_cX11_readGate_1 17 rfl) cw_RX11_359 nm_yX9_takes (CX9_takes hE _ (Rl rfl) _ hs h) lC_9 rfl rfl (by decide) rfl rfl rfl (fun z1 σ2 rz1 hσ2 h => ?_)
  show RW layC E mi_X11_readGate Φ 114 [some (.ref (eA E 9)), some (.ref (eA E 1)), some (.int (iz x2)), some (.int (iz x3)), some (.int (iz x4)), some (.int (iz x5)), some (.int (iz s0)), none] [.int (iz z1)] σ2 x
  refine r_if_eq (tgt := 121) (dc D_cX11_readGate_1 18 rfl) (by decide) rz1 (fun c3 => ?_) (fun c3 => ?_)
  · have h := h.1 c3
    refine r_iconst (n := 1) (dc D_cX11_readGate_1 21 rfl) ?_
    exact TX11_readGate_122 hE x _ _ _ _ _ _ rx2 rx3 rx4 rx5 rs0 (Rl rfl) _ hσ2 h
  · have h := h.2 c3
    refine r_iconst (n := 0) (dc D_cX11_readGate_1 19 rfl) ?_
    refine r_goto (tgt := 122) (dc D_cX11_readGate_1 20 rfl) (by decide) ?_
    exact TX11_readGate_122 hE x _ _ _ _ _ _ rx2 rx3 rx4 rx5 rs0 (Rl rfl) _ hσ2 h
set_option maxRecDepth 100000 in
theorem TX11_readGate_89 {E : EV} (hE : eOK layC E) {Φ : Int → PS → Prop} (x : CX) (x2 x3 x4 x5 : Int) (rx2 : Rg x2) (rx3 : Rg x3) (rx4 : Rg x4) (rx5 : Rg x5) (σ : PS) (hs : RS σ) (h : LX11_readGate_89 x2 x3 x4 x5 σ Φ) : RW layC E mi_X11_readGate Φ 89 [some (.ref (eA E 9)), some (.ref (eA E 1)), some (.int (iz x2)), some (.int (iz x3)), some (.int (iz x4)), some (.int (iz x5)), none, none] [] σ x := by
  refine r_aloadn (dc D_cX11_readGate_1 6 rfl) rfl rfl ?_
  refine r_bipush (n := 64) (dc D_cX11_readGate_1 7 rfl) (by decide +kernel) ?_
  refine r_callV (As := [.int (iz 64)]) (st := []) (dc D_cX11_readGate_1 8 rfl) cw_RX11_359 nm_yX9_takes (CX9_takes hE _ (Rl rfl) _ hs h) lC_9 rfl rfl (by decide) rfl rfl rfl (fun z1 σ2 rz1 hσ2 h => ?_)
  show RW layC E mi_X11_readGate Φ 95 [some (.ref (eA E 9)), some (.ref (eA E 1)), some (.int (iz x2)), some (.int (iz x3)), some (.int (iz x4)), some (.int (iz x5)), none, none] [.int (iz z1)] σ2 x
  refine r_if_eq (tgt := 105) (dc D_cX11_readGate_1 9 rfl) (by decide) rz1 (fun c3 => ?_) (fun c3 => ?_)
  · have h := h.1 c3
    refine r_iconst (n := 1) (dc D_cX11_readGate_1 13 rfl) ?_
    exact TX11_readGate_106 hE x _ _ _ _ _ rx2 rx3 rx4 rx5 (Rl rfl) _ hσ2 h
  · have h := h.2 c3
    refine r_aloadn (dc D_cX11_readGate_1 10 rfl) rfl rfl ?_
    refine r_callS (As := [.ref (eA E 9)]) (st := []) (dc D_cX11_readGate_1 11 rfl) cw_RX11_380 nm_yX11_readDelay (CX11_readDelay hE  _ hσ2 h) rfl (by decide) rfl rfl rfl (fun z4 σ5 rz4 hσ5 h => ?_)
    show RW layC E mi_X11_readGate Φ 102 [some (.ref (eA E 9)), some (.ref (eA E 1)), some (.int (iz x2)), some (.int (iz x3)), some (.int (iz x4)), some (.int (iz x5)), none, none] [.int (iz z4)] σ5 x
    refine r_goto (tgt := 106) (dc D_cX11_readGate_1 12 rfl) (by decide) ?_
    exact TX11_readGate_106 hE x _ _ _ _ _ rx2 rx3 rx4 rx5 rz4 _ hσ5 h
set_option maxRecDepth 100000 in
theorem CX11_readGate {E : EV} (hE : eOK layC E) {Φ : Int → PS → Prop} (σ : PS) (hs : RS σ) (h : FX11_readGate σ Φ) : CT layC E yX11_readGate mi_X11_readGate [.ref (eA E 9), .ref (eA E 1)] σ Φ := by
  refine ct_of (by decide +kernel) rfl hE rfl rfl hs (fun x => ?_)
  show RW layC E mi_X11_readGate Φ 0 [some (.ref (eA E 9)), some (.ref (eA E 1)), none, none, none, none, none, none] [] σ x
  refine r_aloadn (dc D_cX11_readGate_0 0 rfl) rfl rfl ?_
  refine r_getI (dc D_cX11_readGate_0 1 rfl) fw_RX11_92 lC_1 rfl ?_
  refine r_bipush (n := 30) (dc D_cX11_readGate_0 2 rfl) (by decide +kernel) ?_
  refine r_icmp_lt (tgt := 18) (dc D_cX11_readGate_0 3 rfl) (by decide) (hs _ _) (Rl rfl) (fun c1 => ?_) (fun c1 => ?_)
  · have h := h.1 c1
    refine r_aloadn (dc D_cX11_readGate_0 9 rfl) rfl rfl ?_
    refine r_iconst (n := (-1)) (dc D_cX11_readGate_0 10 rfl) ?_
    refine r_callS (As := [.ref (eA E 9), .int (iz (-1))]) (st := []) (dc D_cX11_readGate_0 11 rfl) cw_RX11_370 nm_yX11_readNode (CX11_readNode hE _ (Rl rfl) _ hs h) rfl (by decide) rfl rfl rfl (fun z2 σ3 rz2 hσ3 h => ?_)
    show RW layC E mi_X11_readGate Φ 23 [some (.ref (eA E 9)), some (.ref (eA E 1)), none, none, none, none, none, none] [.int (iz z2)] σ3 x
    refine r_istoren (lv' := [some (.ref (eA E 9)), some (.ref (eA E 1)), some (.int (iz z2)), none, none, none, none, none]) (dc D_cX11_readGate_0 12 rfl) rfl rfl rfl ?_
    refine r_aloadn (dc D_cX11_readGate_0 13 rfl) rfl rfl ?_
    refine r_bipush (n := 62) (dc D_cX11_readGate_0 14 rfl) (by decide +kernel) ?_
    refine r_callV (As := [.int (iz 62)]) (st := []) (dc D_cX11_readGate_0 15 rfl) cw_RX11_374 nm_yX9_expect (CX9_expect hE _ (Rl rfl) _ hσ3 h) lC_9 rfl rfl (by decide) rfl rfl rfl (fun z4 σ5 rz4 hσ5 h => ?_)
    show RW layC E mi_X11_readGate Φ 30 [some (.ref (eA E 9)), some (.ref (eA E 1)), some (.int (iz z2)), none, none, none, none, none] [] σ5 x
    refine r_aloadn (dc D_cX11_readGate_0 16 rfl) rfl rfl ?_
    refine r_iloadn (dc D_cX11_readGate_0 17 rfl) rfl rfl ?_
    refine r_callS (As := [.ref (eA E 9), .int (iz z2)]) (st := []) (dc D_cX11_readGate_0 18 rfl) cw_RX11_370 nm_yX11_readNode (CX11_readNode hE _ rz2 _ hσ5 h) rfl (by decide) rfl rfl rfl (fun z6 σ7 rz6 hσ7 h => ?_)
    show RW layC E mi_X11_readGate Φ 35 [some (.ref (eA E 9)), some (.ref (eA E 1)), some (.int (iz z2)), none, none, none, none, none] [.int (iz z6)] σ7 x
    refine r_istoren (lv' := [some (.ref (eA E 9)), some (.ref (eA E 1)), some (.int (iz z2)), some (.int (iz z6)), none, none, none, none]) (dc D_cX11_readGate_0 19 rfl) rfl rfl rfl ?_
    refine r_aloadn (dc D_cX11_readGate_0 20 rfl) rfl rfl ?_
    refine r_bipush (n := 58) (dc D_cX11_readGate_0 21 rfl) (by decide +kernel) ?_
    refine r_callV (As := [.int (iz 58)]) (st := []) (dc D_cX11_readGate_0 22 rfl) cw_RX11_374 nm_yX9_expect (CX9_expect hE _ (Rl rfl) _ hσ7 h) lC_9 rfl rfl (by decide) rfl rfl rfl (fun z8 σ9 rz8 hσ9 h => ?_)
    show RW layC E mi_X11_readGate Φ 42 [some (.ref (eA E 9)), some (.ref (eA E 1)), some (.int (iz z2)), some (.int (iz z6)), none, none, none, none] [] σ9 x
    refine r_iconst (n := 0) (dc D_cX11_readGate_0 23 rfl) ?_
    refine r_istore (lv' := [some (.ref (eA E 9)), some (.ref (eA E 1)), some (.int (iz z2)), some (.int (iz z6)), some (.int (iz 0)), none, none, none]) (dc D_cX11_readGate_0 24 rfl) rfl rfl ?_
    refine r_aloadn (dc D_cX11_readGate_0 25 rfl) rfl rfl ?_
    refine r_callV (As := []) (st := []) (dc D_cX11_readGate_0 26 rfl) cw_RX11_378 nm_yX9_number (CX9_number hE  _ hσ9 h) lC_9 rfl rfl (by decide) rfl rfl rfl (fun z10 σ11 rz10 hσ11 h => ?_)
    show RW layC E mi_X11_readGate Φ 49 [some (.ref (eA E 9)), some (.ref (eA E 1)), some (.int (iz z2)), some (.int (iz z6)), some (.int (iz 0)), none, none, none] [.int (iz z10)] σ11 x
    refine r_istore (lv' := [some (.ref (eA E 9)), some (.ref (eA E 1)), some (.int (iz z2)), some (.int (iz z6)), some (.int (iz 0)), some (.int (iz z10)), none, none]) (dc D_cX11_readGate_0 27 rfl) rfl rfl ?_
    refine r_aloadn (dc D_cX11_readGate_0 28 rfl) rfl rfl ?_
    refine r_bipush (n := 45) (dc D_cX11_readGate_0 29 rfl) (by decide +kernel) ?_
    refine r_callV (As := [.int (iz 45)]) (st := []) (dc D_cX11_readGate_0 30 rfl) cw_RX11_359 nm_yX9_takes (CX9_takes hE _ (Rl rfl) _ hσ11 h) lC_9 rfl rfl (by decide) rfl rfl rfl (fun z12 σ13 rz12 hσ13 h => ?_)
    show RW layC E mi_X11_readGate Φ 57 [some (.ref (eA E 9)), some (.ref (eA E 1)), some (.int (iz z2)), some (.int (iz z6)), some (.int (iz 0)), some (.int (iz z10)), none, none] [.int (iz z12)] σ13 x
    refine r_if_eq (tgt := 89) (dc D_cX11_readGate_0 31 rfl) (by decide) rz12 (fun c14 => ?_) (fun c14 => ?_)
    · have h := h.1 c14
      exact TX11_readGate_89 hE x _ _ _ _ rz2 rz6 (Rl rfl) rz10 _ hσ13 h
    · have h := h.2 c14
      refine r_iload (dc D_cX11_readGate_0 32 rfl) rfl ?_
      refine r_istore (lv' := [some (.ref (eA E 9)), some (.ref (eA E 1)), some (.int (iz z2)), some (.int (iz z6)), some (.int (iz z10)), some (.int (iz z10)), none, none]) (dc D_cX11_readGate_0 33 rfl) rfl rfl ?_
      refine r_aloadn (dc D_cX11_readGate_0 34 rfl) rfl rfl ?_
      refine r_getI (dc D_cX11_readGate_0 35 rfl) fw_RX11_363 lC_9 rfl ?_
      refine r_name (fun v15 ev15 => ?_)
      have h := h v15 ev15
      have rv15 : Rg v15 := Rg_eq ev15 (hσ13 _ _)
      refine r_istore (lv' := [some (.ref (eA E 9)), some (.ref (eA E 1)), some (.int (iz z2)), some (.int (iz z6)), some (.int (iz z10)), some (.int (iz z10)), some (.int (iz v15)), none]) (dc D_cX11_readGate_0 36 rfl) rfl rfl ?_
      refine r_aloadn (dc D_cX11_readGate_0 37 rfl) rfl rfl ?_
      refine r_callV (As := []) (st := []) (dc D_cX11_readGate_0 38 rfl) cw_RX11_378 nm_yX9_number (CX9_number hE  _ hσ13 h) lC_9 rfl rfl (by decide) rfl rfl rfl (fun z16 σ17 rz16 hσ17 h => ?_)
      show RW layC E mi_X11_readGate Φ 74 [some (.ref (eA E 9)), some (.ref (eA E 1)), some (.int (iz z2)), some (.int (iz z6)), some (.int (iz z10)), some (.int (iz z10)), some (.int (iz v15)), none] [.int (iz z16)] σ17 x
      refine r_istore (lv' := [some (.ref (eA E 9)), some (.ref (eA E 1)), some (.int (iz z2)), some (.int (iz z6)), some (.int (iz z10)), some (.int (iz z16)), some (.int (iz v15)), none]) (dc D_cX11_readGate_0 39 rfl) rfl rfl ?_
      refine r_iload (dc D_cX11_readGate_1 0 rfl) rfl ?_
      refine r_iload (dc D_cX11_readGate_1 1 rfl) rfl ?_
      refine r_icmp_ge (tgt := 89) (dc D_cX11_readGate_1 2 rfl) (by decide) rz16 rz10 (fun c18 => ?_) (fun c18 => ?_)
      · have h := h.1 c18
        refine r_sub (lv' := [some (.ref (eA E 9)), some (.ref (eA E 1)), some (.int (iz z2)), some (.int (iz z6)), some (.int (iz z10)), some (.int (iz z16)), none, none]) (subL_s (subL_s (subL_s (subL_s (subL_s (subL_s (subL_n (subL_n subL_e)))))))) ?_
        exact TX11_readGate_89 hE x _ _ _ _ rz2 rz6 rz10 rz16 _ hσ17 h
      · have h := h.2 c18
        refine r_aloadn (dc D_cX11_readGate_1 3 rfl) rfl rfl ?_
        refine r_iload (dc D_cX11_readGate_1 4 rfl) rfl ?_
        refine r_callV (As := [.int (iz v15)]) (st := []) (dc D_cX11_readGate_1 5 rfl) cw_RX11_366 nm_yX9_fail (CX9_fail hE _ rv15 _ hσ17 h) lC_9 rfl rfl (by decide) rfl rfl rfl (fun z19 σ20 rz19 hσ20 h => ?_)
        show RW layC E mi_X11_readGate Φ 89 [some (.ref (eA E 9)), some (.ref (eA E 1)), some (.int (iz z2)), some (.int (iz z6)), some (.int (iz z10)), some (.int (iz z16)), some (.int (iz v15)), none] [] σ20 x
        refine r_sub (lv' := [some (.ref (eA E 9)), some (.ref (eA E 1)), some (.int (iz z2)), some (.int (iz z6)), some (.int (iz z10)), some (.int (iz z16)), none, none]) (subL_s (subL_s (subL_s (subL_s (subL_s (subL_s (subL_n (subL_n subL_e)))))))) ?_
        exact TX11_readGate_89 hE x _ _ _ _ rz2 rz6 rz10 rz16 _ hσ20 h
  · have h := h.2 c1
    refine r_aloadn (dc D_cX11_readGate_0 4 rfl) rfl rfl ?_
    refine r_aloadn (dc D_cX11_readGate_0 5 rfl) rfl rfl ?_
    refine r_getI (dc D_cX11_readGate_0 6 rfl) fw_RX11_363 lC_9 rfl ?_
    refine r_callV (As := [.int (iz (σ 9 2))]) (st := []) (dc D_cX11_readGate_0 7 rfl) cw_RX11_366 nm_yX9_fail (CX9_fail hE _ (hs _ _) _ hs h) lC_9 rfl rfl (by decide) rfl rfl rfl (fun z21 σ22 rz21 hσ22 h => ?_)
    show RW layC E mi_X11_readGate Φ 17 [some (.ref (eA E 9)), some (.ref (eA E 1)), none, none, none, none, none, none] [] σ22 x
    exact r_vret (dc D_cX11_readGate_0 8 rfl) rfl h
-- end of GateFlow.readGate
def mi_X11_readBook : MI := (cX11_readBook, RX11, 3, 5, none, 0)
def LX11_readBook_38 (σ : PS) (Φ : Int → PS → Prop) : Prop :=
  ((σ 9 1 ≤ σ 9 2 →
    Φ 0 σ) ∧
  (¬ σ 9 1 ≤ σ 9 2 →
    FX9_fail (σ 9 2) σ (fun z2 σ3 =>
    Φ 0 σ3)))
def BX11_readBook_2 (K2 : Int → PS → Prop) (x2 : Int) (σ : PS) (Φ : Int → PS → Prop) : Prop :=
  ((90 < x2 →
    LX11_readBook_38 σ Φ) ∧
  (¬ 90 < x2 →
    FX11_readGate σ (fun z2 σ3 =>
    ((0 ≤ σ3 9 3 →
      LX11_readBook_38 σ3 Φ) ∧
    (¬ 0 ≤ σ3 9 3 →
      FX9_takes 59 σ3 (fun z5 σ6 =>
      ((¬ z5 = 0 →
        Rg (x2 + 1) ∧
        K2 (x2 + 1) σ6) ∧
      (z5 = 0 →
        LX11_readBook_38 σ6 Φ))))))))
def LX11_readBook_2 : Nat → Int → PS → (Int → PS → Prop) → Prop
  | 0, _, _, _ => False
  | n + 1, x2, σ, Φ => BX11_readBook_2 (fun x2 σ => LX11_readBook_2 n x2 σ Φ) x2 σ Φ
def FX11_readBook (σ : PS) (Φ : Int → PS → Prop) : Prop :=
  ∃ n, LX11_readBook_2 n 0 σ Φ
theorem cw_RX11_356 : CWS RX11 356 yX11_readGate mi_X11_readGate := tb_r [943, 944, 97, 945] (by decide +kernel)
theorem nm_yX11_readGate : ynm yX11_readGate 2 := ⟨⟨by decide +kernel, by decide +kernel⟩, by decide +kernel⟩
set_option maxRecDepth 100000 in
theorem TX11_readBook_38 {E : EV} (hE : eOK layC E) {Φ : Int → PS → Prop} (x : CX) (σ : PS) (hs : RS σ) (h : LX11_readBook_38 σ Φ) : RW layC E mi_X11_readBook Φ 38 [some (.ref (eA E 9)), none, none] [] σ x := by
  refine r_aloadn (dc D_cX11_readBook_0 18 rfl) rfl rfl ?_
  refine r_getI (dc D_cX11_readBook_0 19 rfl) fw_RX11_363 lC_9 rfl ?_
  refine r_aloadn (dc D_cX11_readBook_0 20 rfl) rfl rfl ?_
  refine r_getI (dc D_cX11_readBook_0 21 rfl) fw_RX11_255 lC_9 rfl ?_
  refine r_icmp_ge (tgt := 57) (dc D_cX11_readBook_0 22 rfl) (by decide) (hs _ _) (hs _ _) (fun c1 => ?_) (fun c1 => ?_)
  · have h := h.1 c1
    exact r_vret (dc D_cX11_readBook_0 27 rfl) rfl h
  · have h := h.2 c1
    refine r_aloadn (dc D_cX11_readBook_0 23 rfl) rfl rfl ?_
    refine r_aloadn (dc D_cX11_readBook_0 24 rfl) rfl rfl ?_
    refine r_getI (dc D_cX11_readBook_0 25 rfl) fw_RX11_363 lC_9 rfl ?_
    refine r_callV (As := [.int (iz (σ 9 2))]) (st := []) (dc D_cX11_readBook_0 26 rfl) cw_RX11_366 nm_yX9_fail (CX9_fail hE _ (hs _ _) _ hs h) lC_9 rfl rfl (by decide) rfl rfl rfl (fun z2 σ3 rz2 hσ3 h => ?_)
    show RW layC E mi_X11_readBook Φ 57 [some (.ref (eA E 9)), none, none] [] σ3 x
    exact r_vret (dc D_cX11_readBook_0 27 rfl) rfl h
set_option maxRecDepth 100000 in
theorem TBX11_readBook_2 {E : EV} (hE : eOK layC E) {Φ : Int → PS → Prop} {K2 : Int → PS → Prop} (x : CX) (hK2 : ∀ (x2 : Int) (σ : PS), Rg x2 → RS σ → K2 x2 σ → RW layC E mi_X11_readBook Φ 2 [some (.ref (eA E 9)), some (.ref (eA E 1)), some (.int (iz x2))] [] σ x) (x2 : Int) (rx2 : Rg x2) (σ : PS) (hs : RS σ) (h : BX11_readBook_2 K2 x2 σ Φ) : RW layC E mi_X11_readBook Φ 2 [some (.ref (eA E 9)), some (.ref (eA E 1)), some (.int (iz x2))] [] σ x := by
  refine r_iloadn (dc D_cX11_readBook_0 2 rfl) rfl rfl ?_
  refine r_bipush (n := 90) (dc D_cX11_readBook_0 3 rfl) (by decide +kernel) ?_
  refine r_icmp_gt (tgt := 38) (dc D_cX11_readBook_0 4 rfl) (by decide) rx2 (Rl rfl) (fun c1 => ?_) (fun c1 => ?_)
  · have h := h.1 c1
    refine r_sub (lv' := [some (.ref (eA E 9)), none, none]) (subL_s (subL_n (subL_n subL_e))) ?_
    exact TX11_readBook_38 hE x  _ hs h
  · have h := h.2 c1
    refine r_aloadn (dc D_cX11_readBook_0 5 rfl) rfl rfl ?_
    refine r_aloadn (dc D_cX11_readBook_0 6 rfl) rfl rfl ?_
    refine r_callS (As := [.ref (eA E 9), .ref (eA E 1)]) (st := []) (dc D_cX11_readBook_0 7 rfl) cw_RX11_356 nm_yX11_readGate (CX11_readGate hE  _ hs h) rfl (by decide) rfl rfl rfl (fun z2 σ3 rz2 hσ3 h => ?_)
    show RW layC E mi_X11_readBook Φ 13 [some (.ref (eA E 9)), some (.ref (eA E 1)), some (.int (iz x2))] [] σ3 x
    refine r_aloadn (dc D_cX11_readBook_0 8 rfl) rfl rfl ?_
    refine r_getI (dc D_cX11_readBook_0 9 rfl) fw_RX11_265 lC_9 rfl ?_
    refine r_if_ge (tgt := 38) (dc D_cX11_readBook_0 10 rfl) (by decide) (hσ3 _ _) (fun c4 => ?_) (fun c4 => ?_)
    · have h := h.1 c4
      refine r_sub (lv' := [some (.ref (eA E 9)), none, none]) (subL_s (subL_n (subL_n subL_e))) ?_
      exact TX11_readBook_38 hE x  _ hσ3 h
    · have h := h.2 c4
      refine r_aloadn (dc D_cX11_readBook_0 11 rfl) rfl rfl ?_
      refine r_bipush (n := 59) (dc D_cX11_readBook_0 12 rfl) (by decide +kernel) ?_
      refine r_callV (As := [.int (iz 59)]) (st := []) (dc D_cX11_readBook_0 13 rfl) cw_RX11_359 nm_yX9_takes (CX9_takes hE _ (Rl rfl) _ hσ3 h) lC_9 rfl rfl (by decide) rfl rfl rfl (fun z5 σ6 rz5 hσ6 h => ?_)
      show RW layC E mi_X11_readBook Φ 26 [some (.ref (eA E 9)), some (.ref (eA E 1)), some (.int (iz x2))] [.int (iz z5)] σ6 x
      refine r_if_ne (tgt := 32) (dc D_cX11_readBook_0 14 rfl) (by decide) rz5 (fun c7 => ?_) (fun c7 => ?_)
      · have h := h.1 c7
        obtain ⟨o8, h⟩ := h
        refine r_iinc (lv' := [some (.ref (eA E 9)), some (.ref (eA E 1)), some (.int (iz (x2 + 1)))]) (dc D_cX11_readBook_0 16 rfl) rfl rfl rfl ?_
        refine r_goto (tgt := 2) (dc D_cX11_readBook_0 17 rfl) (by decide) ?_
        exact hK2 _ _ o8 hσ6 h
      · have h := h.2 c7
        refine r_goto (tgt := 38) (dc D_cX11_readBook_0 15 rfl) (by decide) ?_
        refine r_sub (lv' := [some (.ref (eA E 9)), none, none]) (subL_s (subL_n (subL_n subL_e))) ?_
        exact TX11_readBook_38 hE x  _ hσ6 h
theorem TX11_readBook_2 {E : EV} (hE : eOK layC E) {Φ : Int → PS → Prop} (x : CX) (n : Nat) : ∀ (x2 : Int) (σ : PS), Rg x2 → RS σ → LX11_readBook_2 n x2 σ Φ → RW layC E mi_X11_readBook Φ 2 [some (.ref (eA E 9)), some (.ref (eA E 1)), some (.int (iz x2))] [] σ x := by
  induction n with
  | zero => intro x2 σ _ _ h; exact h.elim
  | succ n ih => intro x2 σ rx2 hs h; exact TBX11_readBook_2 hE x ih x2 rx2 σ hs h
set_option maxRecDepth 100000 in
theorem CX11_readBook {E : EV} (hE : eOK layC E) {Φ : Int → PS → Prop} (σ : PS) (hs : RS σ) (h : FX11_readBook σ Φ) : CT layC E yX11_readBook mi_X11_readBook [.ref (eA E 9), .ref (eA E 1)] σ Φ := by
  refine ct_of (by decide +kernel) rfl hE rfl rfl hs (fun x => ?_)
  show RW layC E mi_X11_readBook Φ 0 [some (.ref (eA E 9)), some (.ref (eA E 1)), none] [] σ x
  refine r_iconst (n := 0) (dc D_cX11_readBook_0 0 rfl) ?_
  refine r_istoren (lv' := [some (.ref (eA E 9)), some (.ref (eA E 1)), some (.int (iz 0))]) (dc D_cX11_readBook_0 1 rfl) rfl rfl rfl ?_
  obtain ⟨n, h⟩ := h
  exact TX11_readBook_2 hE x n _ _ (Rl rfl) hs h
-- end of GateFlow.readBook
def mi_X11_read : MI := (cX11_read, RX11, 2, 6, (some .int), 1)
def FX11_read (σ : PS) (Φ : Int → PS → Prop) : Prop :=
  ∀ v1 : Int, v1 = σ 1 6 →
  FX9_begin σ (fun z2 σ3 =>
  FX11_readBook σ3 (fun z4 σ5 =>
  ∀ σ6 : PS, σ6 = up2 σ5 9 1 0 →
  ((σ6 9 3 < 0 →
    FX11_forget σ6 (fun z8 σ9 =>
    Rg ((σ9 1 6) - v1) ∧
    Φ ((σ9 1 6) - v1) σ9)) ∧
  (¬ σ6 9 3 < 0 →
    ∀ σ11 : PS, σ11 = up2 σ6 1 6 v1 →
    Rg ((-100) - (σ11 9 3)) ∧
    Φ ((-100) - (σ11 9 3)) σ11))))
theorem cw_RX11_258 : CWV RX11 258 yX9_begin mi_X9_begin := tb_r [936, 937, 938, 105, 939] (by decide +kernel)
theorem nm_yX9_begin : ynm yX9_begin 0 := ⟨⟨by decide +kernel, by decide +kernel⟩, by decide +kernel⟩
theorem cw_RX11_261 : CWS RX11 261 yX11_readBook mi_X11_readBook := tb_r [940, 941, 97, 942] (by decide +kernel)
theorem nm_yX11_readBook : ynm yX11_readBook 2 := ⟨⟨by decide +kernel, by decide +kernel⟩, by decide +kernel⟩
set_option maxRecDepth 100000 in
theorem CX11_read {E : EV} (hE : eOK layC E) {Φ : Int → PS → Prop} (σ : PS) (hs : RS σ) (h : FX11_read σ Φ) : CT layC E yX11_read mi_X11_read [.ref (eA E 0)] σ Φ := by
  refine ct_of (by decide +kernel) rfl hE rfl rfl hs (fun x => ?_)
  show RW layC E mi_X11_read Φ 0 [some (.ref (eA E 0)), none] [] σ x
  refine r_aloadn (dc D_cX11_read_0 0 rfl) rfl rfl ?_
  refine r_getR (dc D_cX11_read_0 1 rfl) fw_RX11_12 lC_0 rfl ?_
  refine r_getI (dc D_cX11_read_0 2 rfl) fw_RX11_92 lC_1 rfl ?_
  refine r_name (fun v1 ev1 => ?_)
  have h := h v1 ev1
  have rv1 : Rg v1 := Rg_eq ev1 (hs _ _)
  refine r_istoren (lv' := [some (.ref (eA E 0)), some (.int (iz v1))]) (dc D_cX11_read_0 3 rfl) rfl rfl rfl ?_
  refine r_aloadn (dc D_cX11_read_0 4 rfl) rfl rfl ?_
  refine r_getR (dc D_cX11_read_0 5 rfl) fw_RX11_57 lC_0 rfl ?_
  refine r_callV (As := []) (st := []) (dc D_cX11_read_0 6 rfl) cw_RX11_258 nm_yX9_begin (CX9_begin hE  _ hs h) lC_9 rfl rfl (by decide) rfl rfl rfl (fun z2 σ3 rz2 hσ3 h => ?_)
  show RW layC E mi_X11_read Φ 15 [some (.ref (eA E 0)), some (.int (iz v1))] [] σ3 x
  refine r_aloadn (dc D_cX11_read_0 7 rfl) rfl rfl ?_
  refine r_getR (dc D_cX11_read_0 8 rfl) fw_RX11_57 lC_0 rfl ?_
  refine r_aloadn (dc D_cX11_read_0 9 rfl) rfl rfl ?_
  refine r_getR (dc D_cX11_read_0 10 rfl) fw_RX11_12 lC_0 rfl ?_
  refine r_callS (As := [.ref (eA E 9), .ref (eA E 1)]) (st := []) (dc D_cX11_read_0 11 rfl) cw_RX11_261 nm_yX11_readBook (CX11_readBook hE  _ hσ3 h) rfl (by decide) rfl rfl rfl (fun z4 σ5 rz4 hσ5 h => ?_)
  show RW layC E mi_X11_read Φ 26 [some (.ref (eA E 0)), some (.int (iz v1))] [] σ5 x
  refine r_aloadn (dc D_cX11_read_0 12 rfl) rfl rfl ?_
  refine r_getR (dc D_cX11_read_0 13 rfl) fw_RX11_57 lC_0 rfl ?_
  refine r_iconst (n := 0) (dc D_cX11_read_0 14 rfl) ?_
  refine r_put (dc D_cX11_read_0 15 rfl) fw_RX11_255 fp_9_1 lC_9 rfl (nar_int _) (Rl rfl) ?_
  refine r_sig (fun σ6 eσ6 => ?_)
  have h := h σ6 eσ6
  have hσ6 : RS σ6 := RS_eq eσ6 (RS.up hσ5 (Rl rfl) _ _)
  refine r_aloadn (dc D_cX11_read_0 16 rfl) rfl rfl ?_
  refine r_getR (dc D_cX11_read_0 17 rfl) fw_RX11_57 lC_0 rfl ?_
  refine r_getI (dc D_cX11_read_0 18 rfl) fw_RX11_265 lC_9 rfl ?_
  refine r_if_lt (tgt := 63) (dc D_cX11_read_0 19 rfl) (by decide) (hσ6 _ _) (fun c7 => ?_) (fun c7 => ?_)
  · have h := h.1 c7
    refine r_aloadn (dc D_cX11_read_0 30 rfl) rfl rfl ?_
    refine r_callV (As := []) (st := []) (dc D_cX11_read_0 31 rfl) cw_RX11_96 nm_yX11_forget (CX11_forget hE  _ hσ6 h) lC_0 rfl rfl (by decide) rfl rfl rfl (fun z8 σ9 rz8 hσ9 h => ?_)
    show RW layC E mi_X11_read Φ 67 [some (.ref (eA E 0)), some (.int (iz v1))] [] σ9 x
    refine r_aloadn (dc D_cX11_read_0 32 rfl) rfl rfl ?_
    refine r_getR (dc D_cX11_read_0 33 rfl) fw_RX11_12 lC_0 rfl ?_
    refine r_getI (dc D_cX11_read_0 34 rfl) fw_RX11_92 lC_1 rfl ?_
    refine r_iloadn (dc D_cX11_read_0 35 rfl) rfl rfl ?_
    refine r_isub (dc D_cX11_read_0 36 rfl) ?_
    obtain ⟨o10, h⟩ := h
    exact r_iret (dc D_cX11_read_0 37 rfl) rfl o10 h
  · have h := h.2 c7
    refine r_aloadn (dc D_cX11_read_0 20 rfl) rfl rfl ?_
    refine r_getR (dc D_cX11_read_0 21 rfl) fw_RX11_12 lC_0 rfl ?_
    refine r_iloadn (dc D_cX11_read_0 22 rfl) rfl rfl ?_
    refine r_put (dc D_cX11_read_0 23 rfl) fw_RX11_92 fp_3_6 lC_1 rfl (nar_int _) rv1 ?_
    refine r_sig (fun σ11 eσ11 => ?_)
    have h := h σ11 eσ11
    have hσ11 : RS σ11 := RS_eq eσ11 (RS.up hσ6 rv1 _ _)
    refine r_bipush (n := (-100)) (dc D_cX11_read_0 24 rfl) (by decide +kernel) ?_
    refine r_aloadn (dc D_cX11_read_0 25 rfl) rfl rfl ?_
    refine r_getR (dc D_cX11_read_0 26 rfl) fw_RX11_57 lC_0 rfl ?_
    refine r_getI (dc D_cX11_read_0 27 rfl) fw_RX11_265 lC_9 rfl ?_
    refine r_isub (dc D_cX11_read_0 28 rfl) ?_
    obtain ⟨o12, h⟩ := h
    exact r_iret (dc D_cX11_read_0 29 rfl) rfl o12 h
-- end of GateFlow.read
def mi_X2_openBracket : MI := (cX2_openBracket, RX2, 2, 4, none, 0)
def FX2_openBracket (a1 : Int) (σ : PS) (Φ : Int → PS → Prop) : Prop :=
  ∀ σ1 : PS, σ1 = up2 σ 10 3 (max 0 (min a1 5)) →
  (0 ≤ σ1 10 3 ∧ σ1 10 3 < 6) ∧
  ∀ σ3 : PS, σ3 = up2 σ1 58 (σ1 10 3).toNat 0 →
  (0 ≤ σ3 10 3 ∧ σ3 10 3 < 6) ∧
  ∀ σ5 : PS, σ5 = up2 σ3 59 (σ3 10 3).toNat (-1) →
  (0 ≤ σ5 10 3 ∧ σ5 10 3 < 6) ∧
  ∀ σ7 : PS, σ7 = up2 σ5 60 (σ5 10 3).toNat 0 →
  Φ 0 σ7
theorem fw_RX11_64 : FW RX11 64 11 13 := ⟨RX11, TX11, 16, rfl, by decide, rfl, tb_1 510 (by decide +kernel), uw_11⟩
theorem fw_RX2_9 : FW RX2 9 2 0 := ⟨RX2, TX2, 4, rfl, by decide, rfl, tb_1 453 (by decide +kernel), uw_2⟩
theorem fw_RX2_49 : FW RX2 49 2 3 := ⟨RX2, TX2, 4, rfl, by decide, rfl, tb_1 456 (by decide +kernel), uw_2⟩
theorem fw_RX2_15 : FW RX2 15 2 1 := ⟨RX2, TX2, 4, rfl, by decide, rfl, tb_1 454 (by decide +kernel), uw_2⟩
theorem fw_RX2_18 : FW RX2 18 2 2 := ⟨RX2, TX2, 4, rfl, by decide, rfl, tb_1 455 (by decide +kernel), uw_2⟩
theorem mw_RX2_68 : MW RX2 68 Lib.Math.min.name Lib.Math.min.code := tb_r [990, 637, 111, 638] (by decide +kernel)
theorem mw_RX2_74 : MW RX2 74 Lib.Math.max.name Lib.Math.max.code := tb_r [991, 749, 111, 750] (by decide +kernel)
theorem fp_2_3 : FP 2 3 .int := ⟨RX2, TX2, 4, tyX2, rfl, tyX2_ok, nmX2, rfl, by decide +kernel⟩
set_option maxRecDepth 100000 in
theorem CX2_openBracket {E : EV} (hE : eOK layC E) {Φ : Int → PS → Prop} (a1 : Int) (ra1 : Rg a1) (σ : PS) (hs : RS σ) (h : FX2_openBracket a1 σ Φ) : CT layC E yX2_openBracket mi_X2_openBracket [.ref (eA E 10), .int (iz a1)] σ Φ := by
  refine ct_of (by decide +kernel) rfl hE rfl rfl hs (fun x => ?_)
  show RW layC E mi_X2_openBracket Φ 0 [some (.ref (eA E 10)), some (.int (iz a1))] [] σ x
  refine r_aloadn (dc D_cX2_openBracket_0 0 rfl) rfl rfl ?_
  refine r_iconst (n := 0) (dc D_cX2_openBracket_0 1 rfl) ?_
  refine r_iloadn (dc D_cX2_openBracket_0 2 rfl) rfl rfl ?_
  refine r_iconst (n := 5) (dc D_cX2_openBracket_0 3 rfl) ?_
  refine r_min (dc D_cX2_openBracket_0 4 rfl) mw_RX2_68 ra1 (Rl rfl) (by decide) rfl ?_
  refine r_max (dc D_cX2_openBracket_0 5 rfl) mw_RX2_74 (Rl rfl) (Rg_min ra1 (Rl rfl)) (by decide) rfl ?_
  refine r_put (dc D_cX2_openBracket_0 6 rfl) fw_RX2_49 fp_2_3 lC_10 rfl (nar_int _) (Rg_max (Rl rfl) (Rg_min ra1 (Rl rfl))) ?_
  refine r_sig (fun σ1 eσ1 => ?_)
  have h := h σ1 eσ1
  have hσ1 : RS σ1 := RS_eq eσ1 (RS.up hs (Rg_max (Rl rfl) (Rg_min ra1 (Rl rfl))) _ _)
  refine r_aloadn (dc D_cX2_openBracket_0 7 rfl) rfl rfl ?_
  refine r_getR (dc D_cX2_openBracket_0 8 rfl) fw_RX2_9 lC_10 rfl ?_
  refine r_aloadn (dc D_cX2_openBracket_0 9 rfl) rfl rfl ?_
  refine r_getI (dc D_cX2_openBracket_0 10 rfl) fw_RX2_49 lC_10 rfl ?_
  refine r_iconst (n := 0) (dc D_cX2_openBracket_0 11 rfl) ?_
  obtain ⟨o2, h⟩ := h
  refine r_iast (N := 6) (dc D_cX2_openBracket_0 12 rfl) lC_58 rfl rfl o2 (Rl rfl) ?_
  refine r_sig (fun σ3 eσ3 => ?_)
  have h := h σ3 eσ3
  have hσ3 : RS σ3 := RS_eq eσ3 (RS.up hσ1 (Rl rfl) _ _)
  refine r_aloadn (dc D_cX2_openBracket_0 13 rfl) rfl rfl ?_
  refine r_getR (dc D_cX2_openBracket_0 14 rfl) fw_RX2_15 lC_10 rfl ?_
  refine r_aloadn (dc D_cX2_openBracket_0 15 rfl) rfl rfl ?_
  refine r_getI (dc D_cX2_openBracket_0 16 rfl) fw_RX2_49 lC_10 rfl ?_
  refine r_iconst (n := (-1)) (dc D_cX2_openBracket_0 17 rfl) ?_
  obtain ⟨o4, h⟩ := h
  refine r_iast (N := 6) (dc D_cX2_openBracket_0 18 rfl) lC_59 rfl rfl o4 (Rl rfl) ?_
  refine r_sig (fun σ5 eσ5 => ?_)
  have h := h σ5 eσ5
  have hσ5 : RS σ5 := RS_eq eσ5 (RS.up hσ3 (Rl rfl) _ _)
  refine r_aloadn (dc D_cX2_openBracket_0 19 rfl) rfl rfl ?_
  refine r_getR (dc D_cX2_openBracket_0 20 rfl) fw_RX2_18 lC_10 rfl ?_
  refine r_aloadn (dc D_cX2_openBracket_0 21 rfl) rfl rfl ?_
  refine r_getI (dc D_cX2_openBracket_0 22 rfl) fw_RX2_49 lC_10 rfl ?_
  refine r_iconst (n := 0) (dc D_cX2_openBracket_0 23 rfl) ?_
  obtain ⟨o6, h⟩ := h
  refine r_iast (N := 6) (dc D_cX2_openBracket_0 24 rfl) lC_60 rfl rfl o6 (Rl rfl) ?_
  refine r_sig (fun σ7 eσ7 => ?_)
  have h := h σ7 eσ7
  have hσ7 : RS σ7 := RS_eq eσ7 (RS.up hσ5 (Rl rfl) _ _)
  exact r_vret (dc D_cX2_openBracket_0 25 rfl) rfl h
-- end of GateFlow$Condition.openBracket
def mi_X9_isAtEnd : MI := (cX9_isAtEnd, RX9, 1, 1, (some .boolean), 1)
def FX9_isAtEnd (σ : PS) (Φ : Int → PS → Prop) : Prop :=
  ((σ 9 2 < σ 9 1 →
    Φ 0 σ) ∧
  (¬ σ 9 2 < σ 9 1 →
    Φ 1 σ))
theorem fw_RX2_52 : FW RX2 52 9 2 := ⟨RX9, TX9, 4, rfl, by decide, rfl, tb_1 431 (by decide +kernel), uw_9⟩
theorem fw_RX2_25 : FW RX2 25 9 3 := ⟨RX9, TX9, 4, rfl, by decide, rfl, tb_1 435 (by decide +kernel), uw_9⟩
set_option maxRecDepth 100000 in
theorem CX9_isAtEnd {E : EV} (hE : eOK layC E) {Φ : Int → PS → Prop} (σ : PS) (hs : RS σ) (h : FX9_isAtEnd σ Φ) : CT layC E yX9_isAtEnd mi_X9_isAtEnd [.ref (eA E 9)] σ Φ := by
  refine ct_of (by decide +kernel) rfl hE rfl rfl hs (fun x => ?_)
  show RW layC E mi_X9_isAtEnd Φ 0 [some (.ref (eA E 9))] [] σ x
  refine r_aloadn (dc D_cX9_isAtEnd_0 0 rfl) rfl rfl ?_
  refine r_getI (dc D_cX9_isAtEnd_0 1 rfl) fw_RX9_22 lC_9 rfl ?_
  refine r_aloadn (dc D_cX9_isAtEnd_0 2 rfl) rfl rfl ?_
  refine r_getI (dc D_cX9_isAtEnd_0 3 rfl) fw_RX9_19 lC_9 rfl ?_
  refine r_icmp_lt (tgt := 15) (dc D_cX9_isAtEnd_0 4 rfl) (by decide) (hs _ _) (hs _ _) (fun c1 => ?_) (fun c1 => ?_)
  · have h := h.1 c1
    refine r_iconst (n := 0) (dc D_cX9_isAtEnd_0 7 rfl) ?_
    exact r_zret (dc D_cX9_isAtEnd_0 8 rfl) rfl (by decide) h
  · have h := h.2 c1
    refine r_iconst (n := 1) (dc D_cX9_isAtEnd_0 5 rfl) ?_
    refine r_goto (tgt := 16) (dc D_cX9_isAtEnd_0 6 rfl) (by decide) ?_
    exact r_zret (dc D_cX9_isAtEnd_0 8 rfl) rfl (by decide) h
-- end of GateFlow$Tape.isAtEnd
def mi_X2_putPart : MI := (cX2_putPart, RX2, 2, 1, none, 0)
def LX2_putPart_30 (s1 s2 s3 : Int) (σ : PS) (Φ : Int → PS → Prop) : Prop :=
  (0 ≤ s1 ∧ s1 < 6) ∧
  ∀ σ2 : PS, σ2 = up2 σ 59 s1.toNat (iand s2 s3) →
  (0 ≤ σ2 10 3 ∧ σ2 10 3 < 6) ∧
  ∀ σ4 : PS, σ4 = up2 σ2 60 (σ2 10 3).toNat 0 →
  Φ 0 σ4
def FX2_putPart (a1 : Int) (σ : PS) (Φ : Int → PS → Prop) : Prop :=
  (0 ≤ σ 10 3 ∧ σ 10 3 < 6) ∧
  (0 ≤ σ 10 3 ∧ σ 10 3 < 6) ∧
  ((¬ σ 60 (σ 10 3).toNat = 1 →
    LX2_putPart_30 (σ 10 3) (σ 59 (σ 10 3).toNat) a1 σ Φ) ∧
  (σ 60 (σ 10 3).toNat = 1 →
    LX2_putPart_30 (σ 10 3) (σ 59 (σ 10 3).toNat) (ixor a1 (-1)) σ Φ))
set_option maxRecDepth 100000 in
theorem TX2_putPart_30 {E : EV} (hE : eOK layC E) {Φ : Int → PS → Prop} (x : CX) (s1 s2 s3 : Int) (rs1 : Rg s1) (rs2 : Rg s2) (rs3 : Rg s3) (σ : PS) (hs : RS σ) (h : LX2_putPart_30 s1 s2 s3 σ Φ) : RW layC E mi_X2_putPart Φ 30 [some (.ref (eA E 10)), none] [.int (iz s3), .int (iz s2), .int (iz s1), .ref (eA E 59)] σ x := by
  refine r_iand (dc D_cX2_putPart_0 18 rfl) ?_
  obtain ⟨o1, h⟩ := h
  refine r_iast (N := 6) (dc D_cX2_putPart_0 19 rfl) lC_59 rfl rfl o1 (Rg_of _) ?_
  refine r_sig (fun σ2 eσ2 => ?_)
  have h := h σ2 eσ2
  have hσ2 : RS σ2 := RS_eq eσ2 (RS.up hs (Rg_of _) _ _)
  refine r_aloadn (dc D_cX2_putPart_0 20 rfl) rfl rfl ?_
  refine r_getR (dc D_cX2_putPart_0 21 rfl) fw_RX2_18 lC_10 rfl ?_
  refine r_aloadn (dc D_cX2_putPart_0 22 rfl) rfl rfl ?_
  refine r_getI (dc D_cX2_putPart_0 23 rfl) fw_RX2_49 lC_10 rfl ?_
  refine r_iconst (n := 0) (dc D_cX2_putPart_0 24 rfl) ?_
  obtain ⟨o3, h⟩ := h
  refine r_iast (N := 6) (dc D_cX2_putPart_0 25 rfl) lC_60 rfl rfl o3 (Rl rfl) ?_
  refine r_sig (fun σ4 eσ4 => ?_)
  have h := h σ4 eσ4
  have hσ4 : RS σ4 := RS_eq eσ4 (RS.up hσ2 (Rl rfl) _ _)
  exact r_vret (dc D_cX2_putPart_0 26 rfl) rfl h
set_option maxRecDepth 100000 in
theorem CX2_putPart {E : EV} (hE : eOK layC E) {Φ : Int → PS → Prop} (a1 : Int) (ra1 : Rg a1) (σ : PS) (hs : RS σ) (h : FX2_putPart a1 σ Φ) : CT layC E yX2_putPart mi_X2_putPart [.ref (eA E 10), .int (iz a1)] σ Φ := by
  refine ct_of (by decide +kernel) rfl hE rfl rfl hs (fun x => ?_)
  show RW layC E mi_X2_putPart Φ 0 [some (.ref (eA E 10)), some (.int (iz a1))] [] σ x
  refine r_aloadn (dc D_cX2_putPart_0 0 rfl) rfl rfl ?_
  refine r_getR (dc D_cX2_putPart_0 1 rfl) fw_RX2_15 lC_10 rfl ?_
  refine r_aloadn (dc D_cX2_putPart_0 2 rfl) rfl rfl ?_
  refine r_getI (dc D_cX2_putPart_0 3 rfl) fw_RX2_49 lC_10 rfl ?_
  refine r_dup2 (dc D_cX2_putPart_0 4 rfl) rfl rfl ?_
  obtain ⟨o1, h⟩ := h
  refine r_iald (N := 6) (dc D_cX2_putPart_0 5 rfl) lC_59 rfl rfl o1 ?_
  refine r_aloadn (dc D_cX2_putPart_0 6 rfl) rfl rfl ?_
  refine r_getR (dc D_cX2_putPart_0 7 rfl) fw_RX2_18 lC_10 rfl ?_
  refine r_aloadn (dc D_cX2_putPart_0 8 rfl) rfl rfl ?_
  refine r_getI (dc D_cX2_putPart_0 9 rfl) fw_RX2_49 lC_10 rfl ?_
  obtain ⟨o2, h⟩ := h
  refine r_iald (N := 6) (dc D_cX2_putPart_0 10 rfl) lC_60 rfl rfl o2 ?_
  refine r_iconst (n := 1) (dc D_cX2_putPart_0 11 rfl) ?_
  refine r_icmp_ne (tgt := 29) (dc D_cX2_putPart_0 12 rfl) (by decide) (hs _ _) (Rl rfl) (fun c3 => ?_) (fun c3 => ?_)
  · have h := h.1 c3
    refine r_iloadn (dc D_cX2_putPart_0 17 rfl) rfl rfl ?_
    refine r_sub (lv' := [some (.ref (eA E 10)), none]) (subL_s (subL_n subL_e)) ?_
    exact TX2_putPart_30 hE x _ _ _ (hs _ _) (hs _ _) ra1 _ hs h
  · have h := h.2 c3
    refine r_iloadn (dc D_cX2_putPart_0 13 rfl) rfl rfl ?_
    refine r_iconst (n := (-1)) (dc D_cX2_putPart_0 14 rfl) ?_
    refine r_ixor (dc D_cX2_putPart_0 15 rfl) ?_
    refine r_goto (tgt := 30) (dc D_cX2_putPart_0 16 rfl) (by decide) ?_
    refine r_sub (lv' := [some (.ref (eA E 10)), none]) (subL_s (subL_n subL_e)) ?_
    exact TX2_putPart_30 hE x _ _ _ (hs _ _) (hs _ _) (Rg_of _) _ hs h
-- end of GateFlow$Condition.putPart
def mi_X2_takeJoint : MI := (cX2_takeJoint, RX2, 3, 3, (some .boolean), 1)
def LX2_takeJoint_107 (σ : PS) (Φ : Int → PS → Prop) : Prop :=
  FX9_fail (σ 9 2) σ (fun z1 σ2 =>
  Φ 0 σ2)
def FX2_takeJoint (σ : PS) (Φ : Int → PS → Prop) : Prop :=
  FX9_takes 38 σ (fun z1 σ2 =>
  ((z1 = 0 →
    FX9_takes 124 σ2 (fun z4 σ5 =>
    ((z4 = 0 →
      ((σ5 10 3 ≤ 0 →
        LX2_takeJoint_107 σ5 Φ) ∧
      (¬ σ5 10 3 ≤ 0 →
        FX9_takes 41 σ5 (fun z8 σ9 =>
        ((z8 = 0 →
          LX2_takeJoint_107 σ9 Φ) ∧
        (¬ z8 = 0 →
          (0 ≤ σ9 10 3 ∧ σ9 10 3 < 6) ∧
          (0 ≤ σ9 10 3 ∧ σ9 10 3 < 6) ∧
          ∀ v13 : Int, v13 = ior (σ9 58 (σ9 10 3).toNat) (σ9 59 (σ9 10 3).toNat) →
          Rg ((σ9 10 3) - 1) ∧
          ∀ σ15 : PS, σ15 = up2 σ9 10 3 ((σ9 10 3) - 1) →
          FX2_putPart v13 σ15 (fun z16 σ17 =>
          Φ 0 σ17))))))) ∧
    (¬ z4 = 0 →
      (0 ≤ σ5 10 3 ∧ σ5 10 3 < 6) ∧
      (0 ≤ σ5 10 3 ∧ σ5 10 3 < 6) ∧
      (0 ≤ σ5 10 3 ∧ σ5 10 3 < 6) ∧
      ∀ σ21 : PS, σ21 = up2 σ5 58 (σ5 10 3).toNat (ior (σ5 58 (σ5 10 3).toNat) (σ5 59 (σ5 10 3).toNat)) →
      (0 ≤ σ21 10 3 ∧ σ21 10 3 < 6) ∧
      ∀ σ23 : PS, σ23 = up2 σ21 59 (σ21 10 3).toNat (-1) →
      Φ 1 σ23)))) ∧
  (¬ z1 = 0 →
    Φ 1 σ2)))
theorem cw_RX2_55 : CWV RX2 55 yX9_fail mi_X9_fail := tb_r [1068, 947, 948, 105, 949] (by decide +kernel)
theorem cw_RX2_64 : CWV RX2 64 yX9_takes mi_X9_takes := tb_r [996, 967, 968, 105, 969] (by decide +kernel)
theorem cw_RX2_39 : CWV RX2 39 yX2_putPart mi_X2_putPart := tb_r [1074, 1076, 35, 106, 1077] (by decide +kernel)
theorem nm_yX2_putPart : ynm yX2_putPart 1 := ⟨⟨by decide +kernel, by decide +kernel⟩, by decide +kernel⟩
set_option maxRecDepth 100000 in
theorem TX2_takeJoint_107 {E : EV} (hE : eOK layC E) {Φ : Int → PS → Prop} (x : CX) (σ : PS) (hs : RS σ) (h : LX2_takeJoint_107 σ Φ) : RW layC E mi_X2_takeJoint Φ 107 [none, some (.ref (eA E 9)), none] [] σ x := by
  refine r_aloadn (dc D_cX2_takeJoint_1 20 rfl) rfl rfl ?_
  refine r_aloadn (dc D_cX2_takeJoint_1 21 rfl) rfl rfl ?_
  refine r_getI (dc D_cX2_takeJoint_1 22 rfl) fw_RX2_52 lC_9 rfl ?_
  refine r_callV (As := [.int (iz (σ 9 2))]) (st := []) (dc D_cX2_takeJoint_1 23 rfl) cw_RX2_55 nm_yX9_fail (CX9_fail hE _ (hs _ _) _ hs h) lC_9 rfl rfl (by decide) rfl rfl rfl (fun z1 σ2 rz1 hσ2 h => ?_)
  show RW layC E mi_X2_takeJoint Φ 115 [none, some (.ref (eA E 9)), none] [] σ2 x
  refine r_iconst (n := 0) (dc D_cX2_takeJoint_1 24 rfl) ?_
  exact r_zret (dc D_cX2_takeJoint_1 25 rfl) rfl (by decide) h
set_option maxRecDepth 100000 in
theorem CX2_takeJoint {E : EV} (hE : eOK layC E) {Φ : Int → PS → Prop} (σ : PS) (hs : RS σ) (h : FX2_takeJoint σ Φ) : CT layC E yX2_takeJoint mi_X2_takeJoint [.ref (eA E 10), .ref (eA E 9)] σ Φ := by
  refine ct_of (by decide +kernel) rfl hE rfl rfl hs (fun x => ?_)
  show RW layC E mi_X2_takeJoint Φ 0 [some (.ref (eA E 10)), some (.ref (eA E 9)), none] [] σ x
  refine r_aloadn (dc D_cX2_takeJoint_0 0 rfl) rfl rfl ?_
  refine r_bipush (n := 38) (dc D_cX2_takeJoint_0 1 rfl) (by decide +kernel) ?_
  refine r_callV (As := [.int (iz 38)]) (st := []) (dc D_cX2_takeJoint_0 2 rfl) cw_RX2_64 nm_yX9_takes (CX9_takes hE _ (Rl rfl) _ hs h) lC_9 rfl rfl (by decide) rfl rfl rfl (fun z1 σ2 rz1 hσ2 h => ?_)
  show RW layC E mi_X2_takeJoint Φ 6 [some (.ref (eA E 10)), some (.ref (eA E 9)), none] [.int (iz z1)] σ2 x
  refine r_if_eq (tgt := 11) (dc D_cX2_takeJoint_0 3 rfl) (by decide) rz1 (fun c3 => ?_) (fun c3 => ?_)
  · have h := h.1 c3
    refine r_aloadn (dc D_cX2_takeJoint_0 6 rfl) rfl rfl ?_
    refine r_bipush (n := 124) (dc D_cX2_takeJoint_0 7 rfl) (by decide +kernel) ?_
    refine r_callV (As := [.int (iz 124)]) (st := []) (dc D_cX2_takeJoint_0 8 rfl) cw_RX2_64 nm_yX9_takes (CX9_takes hE _ (Rl rfl) _ hσ2 h) lC_9 rfl rfl (by decide) rfl rfl rfl (fun z4 σ5 rz4 hσ5 h => ?_)
    show RW layC E mi_X2_takeJoint Φ 17 [some (.ref (eA E 10)), some (.ref (eA E 9)), none] [.int (iz z4)] σ5 x
    refine r_if_eq (tgt := 53) (dc D_cX2_takeJoint_0 9 rfl) (by decide) rz4 (fun c6 => ?_) (fun c6 => ?_)
    · have h := h.1 c6
      refine r_aloadn (dc D_cX2_takeJoint_0 31 rfl) rfl rfl ?_
      refine r_getI (dc D_cX2_takeJoint_0 32 rfl) fw_RX2_49 lC_10 rfl ?_
      refine r_if_le (tgt := 107) (dc D_cX2_takeJoint_0 33 rfl) (by decide) (hσ5 _ _) (fun c7 => ?_) (fun c7 => ?_)
      · have h := h.1 c7
        refine r_sub (lv' := [none, some (.ref (eA E 9)), none]) (subL_n (subL_s (subL_n subL_e))) ?_
        exact TX2_takeJoint_107 hE x  _ hσ5 h
      · have h := h.2 c7
        refine r_aloadn (dc D_cX2_takeJoint_0 34 rfl) rfl rfl ?_
        refine r_bipush (n := 41) (dc D_cX2_takeJoint_0 35 rfl) (by decide +kernel) ?_
        refine r_callV (As := [.int (iz 41)]) (st := []) (dc D_cX2_takeJoint_0 36 rfl) cw_RX2_64 nm_yX9_takes (CX9_takes hE _ (Rl rfl) _ hσ5 h) lC_9 rfl rfl (by decide) rfl rfl rfl (fun z8 σ9 rz8 hσ9 h => ?_)
        show RW layC E mi_X2_takeJoint Φ 66 [some (.ref (eA E 10)), some (.ref (eA E 9)), none] [.int (iz z8)] σ9 x
        refine r_if_eq (tgt := 107) (dc D_cX2_takeJoint_0 37 rfl) (by decide) rz8 (fun c10 => ?_) (fun c10 => ?_)
        · have h := h.1 c10
          refine r_sub (lv' := [none, some (.ref (eA E 9)), none]) (subL_n (subL_s (subL_n subL_e))) ?_
          exact TX2_takeJoint_107 hE x  _ hσ9 h
        · have h := h.2 c10
          refine r_aloadn (dc D_cX2_takeJoint_0 38 rfl) rfl rfl ?_
          refine r_getR (dc D_cX2_takeJoint_0 39 rfl) fw_RX2_9 lC_10 rfl ?_
          refine r_aloadn (dc D_cX2_takeJoint_1 0 rfl) rfl rfl ?_
          refine r_getI (dc D_cX2_takeJoint_1 1 rfl) fw_RX2_49 lC_10 rfl ?_
          obtain ⟨o11, h⟩ := h
          refine r_iald (N := 6) (dc D_cX2_takeJoint_1 2 rfl) lC_58 rfl rfl o11 ?_
          refine r_aloadn (dc D_cX2_takeJoint_1 3 rfl) rfl rfl ?_
          refine r_getR (dc D_cX2_takeJoint_1 4 rfl) fw_RX2_15 lC_10 rfl ?_
          refine r_aloadn (dc D_cX2_takeJoint_1 5 rfl) rfl rfl ?_
          refine r_getI (dc D_cX2_takeJoint_1 6 rfl) fw_RX2_49 lC_10 rfl ?_
          obtain ⟨o12, h⟩ := h
          refine r_iald (N := 6) (dc D_cX2_takeJoint_1 7 rfl) lC_59 rfl rfl o12 ?_
          refine r_ior (dc D_cX2_takeJoint_1 8 rfl) ?_
          refine r_name (fun v13 ev13 => ?_)
          have h := h v13 ev13
          have rv13 : Rg v13 := Rg_eq ev13 (Rg_of _)
          refine r_istoren (lv' := [some (.ref (eA E 10)), some (.ref (eA E 9)), some (.int (iz v13))]) (dc D_cX2_takeJoint_1 9 rfl) rfl rfl rfl ?_
          refine r_aloadn (dc D_cX2_takeJoint_1 10 rfl) rfl rfl ?_
          refine r_dup (dc D_cX2_takeJoint_1 11 rfl) rfl ?_
          refine r_getI (dc D_cX2_takeJoint_1 12 rfl) fw_RX2_49 lC_10 rfl ?_
          refine r_iconst (n := 1) (dc D_cX2_takeJoint_1 13 rfl) ?_
          refine r_isub (dc D_cX2_takeJoint_1 14 rfl) ?_
          obtain ⟨o14, h⟩ := h
          refine r_put (dc D_cX2_takeJoint_1 15 rfl) fw_RX2_49 fp_2_3 lC_10 rfl (nar_int _) o14 ?_
          refine r_sig (fun σ15 eσ15 => ?_)
          have h := h σ15 eσ15
          have hσ15 : RS σ15 := RS_eq eσ15 (RS.up hσ9 o14 _ _)
          refine r_aloadn (dc D_cX2_takeJoint_1 16 rfl) rfl rfl ?_
          refine r_iloadn (dc D_cX2_takeJoint_1 17 rfl) rfl rfl ?_
          refine r_callV (As := [.int (iz v13)]) (st := []) (dc D_cX2_takeJoint_1 18 rfl) cw_RX2_39 nm_yX2_putPart (CX2_putPart hE _ rv13 _ hσ15 h) lC_10 rfl rfl (by decide) rfl rfl rfl (fun z16 σ17 rz16 hσ17 h => ?_)
          show RW layC E mi_X2_takeJoint Φ 104 [some (.ref (eA E 10)), some (.ref (eA E 9)), some (.int (iz v13))] [] σ17 x
          refine r_goto (tgt := 115) (dc D_cX2_takeJoint_1 19 rfl) (by decide) ?_
          refine r_iconst (n := 0) (dc D_cX2_takeJoint_1 24 rfl) ?_
          exact r_zret (dc D_cX2_takeJoint_1 25 rfl) rfl (by decide) h
    · have h := h.2 c6
      refine r_aloadn (dc D_cX2_takeJoint_0 10 rfl) rfl rfl ?_
      refine r_getR (dc D_cX2_takeJoint_0 11 rfl) fw_RX2_9 lC_10 rfl ?_
      refine r_aloadn (dc D_cX2_takeJoint_0 12 rfl) rfl rfl ?_
      refine r_getI (dc D_cX2_takeJoint_0 13 rfl) fw_RX2_49 lC_10 rfl ?_
      refine r_dup2 (dc D_cX2_takeJoint_0 14 rfl) rfl rfl ?_
      obtain ⟨o18, h⟩ := h
      refine r_iald (N := 6) (dc D_cX2_takeJoint_0 15 rfl) lC_58 rfl rfl o18 ?_
      refine r_aloadn (dc D_cX2_takeJoint_0 16 rfl) rfl rfl ?_
      refine r_getR (dc D_cX2_takeJoint_0 17 rfl) fw_RX2_15 lC_10 rfl ?_
      refine r_aloadn (dc D_cX2_takeJoint_0 18 rfl) rfl rfl ?_
      refine r_getI (dc D_cX2_takeJoint_0 19 rfl) fw_RX2_49 lC_10 rfl ?_
      obtain ⟨o19, h⟩ := h
      refine r_iald (N := 6) (dc D_cX2_takeJoint_0 20 rfl) lC_59 rfl rfl o19 ?_
      refine r_ior (dc D_cX2_takeJoint_0 21 rfl) ?_
      obtain ⟨o20, h⟩ := h
      refine r_iast (N := 6) (dc D_cX2_takeJoint_0 22 rfl) lC_58 rfl rfl o20 (Rg_of _) ?_
      refine r_sig (fun σ21 eσ21 => ?_)
      have h := h σ21 eσ21
      have hσ21 : RS σ21 := RS_eq eσ21 (RS.up hσ5 (Rg_of _) _ _)
      refine r_aloadn (dc D_cX2_takeJoint_0 23 rfl) rfl rfl ?_
      refine r_getR (dc D_cX2_takeJoint_0 24 rfl) fw_RX2_15 lC_10 rfl ?_
      refine r_aloadn (dc D_cX2_takeJoint_0 25 rfl) rfl rfl ?_
      refine r_getI (dc D_cX2_takeJoint_0 26 rfl) fw_RX2_49 lC_10 rfl ?_
      refine r_iconst (n := (-1)) (dc D_cX2_takeJoint_0 27 rfl) ?_
      obtain ⟨o22, h⟩ := h
      refine r_iast (N := 6) (dc D_cX2_takeJoint_0 28 rfl) lC_59 rfl rfl o22 (Rl rfl) ?_
      refine r_sig (fun σ23 eσ23 => ?_)
      have h := h σ23 eσ23
      have hσ23 : RS σ23 := RS_eq eσ23 (RS.up hσ21 (Rl rfl) _ _)
      refine r_iconst (n := 1) (dc D_cX2_takeJoint_0 29 rfl) ?_
      exact r_zret (dc D_cX2_takeJoint_0 30 rfl) rfl (by decide) h
  · have h := h.2 c3
    refine r_iconst (n := 1) (dc D_cX2_takeJoint_0 4 rfl) ?_
    exact r_zret (dc D_cX2_takeJoint_0 5 rfl) rfl (by decide) h
-- end of GateFlow$Condition.takeJoint
def mi_X2_nameOf : MI := (cX2_nameOf, RX2, 1, 1, (some (.object "java/lang/String")), 3)
def FX2_nameOf (a1 : Int) (σ : PS) (Φ : Int → PS → Prop) : Prop :=
  (a1 = 0 →
    Φ 0 σ) ∧
  (a1 = 1 →
    Φ 1 σ) ∧
  (a1 = 2 →
    Φ 2 σ) ∧
  (a1 = 3 →
    Φ 3 σ) ∧
  (a1 = 4 →
    Φ 4 σ) ∧
  (a1 = 5 →
    Φ 5 σ) ∧
  (a1 = 6 →
    Φ 6 σ) ∧
  ((a1 < 0 ∨ 6 < a1) →
    Φ 7 σ)
set_option maxRecDepth 100000 in
theorem CX2_nameOf {E : EV} (hE : eOK layC E) {Φ : Int → PS → Prop} (a1 : Int) (ra1 : Rg a1) (σ : PS) (hs : RS σ) (h : FX2_nameOf a1 σ Φ) : CT layC E yX2_nameOf mi_X2_nameOf [.int (iz a1)] σ Φ := by
  refine ct_of (by decide +kernel) rfl hE rfl rfl hs (fun x => ?_)
  show RW layC E mi_X2_nameOf Φ 0 [some (.int (iz a1))] [] σ x
  refine r_iloadn (dc D_cX2_nameOf_0 0 rfl) rfl rfl ?_
  refine r_by (c := a1 = 0) (fun c1 => ?_) (fun nc1 => ?_)
  · refine r_swIn (tgt := 44) (off := 43) (v := 0) (dc D_cX2_nameOf_0 1 rfl) c1 (by decide) (by decide) ?_
    have h := h.1 c1
    refine r_ldcS (q := 0) (tx := "from") (dc D_cX2_nameOf_0 2 rfl) (by decide +kernel) ?_
    exact r_sret (z := 0) (dc D_cX2_nameOf_0 3 rfl) rfl rfl (Rl rfl) h
  replace h := h.2
  refine r_by (c := a1 = 1) (fun c2 => ?_) (fun nc2 => ?_)
  · refine r_swIn (tgt := 47) (off := 46) (v := 1) (dc D_cX2_nameOf_0 1 rfl) c2 (by decide) (by decide) ?_
    have h := h.1 c2
    refine r_ldcS (q := 1) (tx := "to") (dc D_cX2_nameOf_0 4 rfl) (by decide +kernel) ?_
    exact r_sret (z := 1) (dc D_cX2_nameOf_0 5 rfl) rfl rfl (Rl rfl) h
  replace h := h.2
  refine r_by (c := a1 = 2) (fun c3 => ?_) (fun nc3 => ?_)
  · refine r_swIn (tgt := 50) (off := 49) (v := 2) (dc D_cX2_nameOf_0 1 rfl) c3 (by decide) (by decide) ?_
    have h := h.1 c3
    refine r_ldcS (q := 2) (tx := "cap") (dc D_cX2_nameOf_0 6 rfl) (by decide +kernel) ?_
    exact r_sret (z := 2) (dc D_cX2_nameOf_0 7 rfl) rfl rfl (Rl rfl) h
  replace h := h.2
  refine r_by (c := a1 = 3) (fun c4 => ?_) (fun nc4 => ?_)
  · refine r_swIn (tgt := 53) (off := 52) (v := 3) (dc D_cX2_nameOf_0 1 rfl) c4 (by decide) (by decide) ?_
    have h := h.1 c4
    refine r_ldcS (q := 3) (tx := "least") (dc D_cX2_nameOf_0 8 rfl) (by decide +kernel) ?_
    exact r_sret (z := 3) (dc D_cX2_nameOf_0 9 rfl) rfl rfl (Rl rfl) h
  replace h := h.2
  refine r_by (c := a1 = 4) (fun c5 => ?_) (fun nc5 => ?_)
  · refine r_swIn (tgt := 56) (off := 55) (v := 4) (dc D_cX2_nameOf_0 1 rfl) c5 (by decide) (by decide) ?_
    have h := h.1 c5
    refine r_ldcS (q := 4) (tx := "delay") (dc D_cX2_nameOf_0 10 rfl) (by decide +kernel) ?_
    exact r_sret (z := 4) (dc D_cX2_nameOf_0 11 rfl) rfl rfl (Rl rfl) h
  replace h := h.2
  refine r_by (c := a1 = 5) (fun c6 => ?_) (fun nc6 => ?_)
  · refine r_swIn (tgt := 59) (off := 58) (v := 5) (dc D_cX2_nameOf_0 1 rfl) c6 (by decide) (by decide) ?_
    have h := h.1 c6
    refine r_ldcS (q := 5) (tx := "water") (dc D_cX2_nameOf_0 12 rfl) (by decide +kernel) ?_
    exact r_sret (z := 5) (dc D_cX2_nameOf_0 13 rfl) rfl rfl (Rl rfl) h
  replace h := h.2
  refine r_by (c := a1 = 6) (fun c7 => ?_) (fun nc7 => ?_)
  · refine r_swIn (tgt := 62) (off := 61) (v := 6) (dc D_cX2_nameOf_0 1 rfl) c7 (by decide) (by decide) ?_
    have h := h.1 c7
    refine r_ldcS (q := 6) (tx := "room") (dc D_cX2_nameOf_0 14 rfl) (by decide +kernel) ?_
    exact r_sret (z := 6) (dc D_cX2_nameOf_0 15 rfl) rfl rfl (Rl rfl) h
  replace h := h.2
  have c8 : a1 < 0 ∨ 6 < a1 := by omega
  have h := h c8
  refine r_swOut (tgt := 65) (dc D_cX2_nameOf_0 1 rfl) (by decide) ra1 c8 ?_
  refine r_ldcS (q := 7) (tx := "shut") (dc D_cX2_nameOf_0 16 rfl) (by decide +kernel) ?_
  exact r_sret (z := 7) (dc D_cX2_nameOf_0 17 rfl) rfl rfl (Rl rfl) h
-- end of GateFlow$Condition.nameOf
def mi_X2_isWord : MI := (cX2_isWord, RX2, 4, 8, (some .boolean), 1)
def BX2_isWord_17 (K17 : Int → Int → Int → PS → Prop) (x1 x2 x3 : Int) (σ : PS) (Φ : Int → PS → Prop) : Prop :=
  x2.toNat < 9 ∧
  ((slen (x2.toNat) ≤ x3 →
    Φ 1 σ) ∧
  (¬ slen (x2.toNat) ≤ x3 →
    Rg (x1 + x3) ∧
    FX9_byteAt (x1 + x3) σ (fun z4 σ5 =>
    (x2.toNat < 9 ∧ 0 ≤ x3 ∧ x3 < slen (x2.toNat)) ∧
    ((z4 = schr (x2.toNat) x3.toNat →
      Rg (x3 + 1) ∧
      K17 x1 x2 (x3 + 1) σ5) ∧
    (¬ z4 = schr (x2.toNat) x3.toNat →
      Φ 0 σ5)))))
def LX2_isWord_17 : Nat → Int → Int → Int → PS → (Int → PS → Prop) → Prop
  | 0, _, _, _, _, _ => False
  | n + 1, x1, x2, x3, σ, Φ => BX2_isWord_17 (fun x1 x2 x3 σ => LX2_isWord_17 n x1 x2 x3 σ Φ) x1 x2 x3 σ Φ
def FX2_isWord (a2 a3 : Int) (σ : PS) (Φ : Int → PS → Prop) : Prop :=
  Rg ((σ 9 2) - a2) ∧
  a3.toNat < 9 ∧
  (((σ 9 2) - a2 = slen (a3.toNat) →
    ∃ n, LX2_isWord_17 n a2 a3 0 σ Φ) ∧
  (¬ (σ 9 2) - a2 = slen (a3.toNat) →
    Φ 0 σ))
theorem cw_RX2_107 : CWV RX2 107 yJ0_length_8abf5 mi_Slength := tb_r [1020, 1021, 1022, 113, 1023] (by decide +kernel)
theorem cw_RX2_81 : CWV RX2 81 yX9_byteAt mi_X9_byteAt := tb_r [1005, 958, 959, 105, 960] (by decide +kernel)
theorem cw_RX2_112 : CWV RX2 112 yJ0_charAt_5068e mi_ScharAt := tb_r [1030, 1031, 1032, 113, 1033] (by decide +kernel)
set_option maxRecDepth 100000 in
theorem TBX2_isWord_17 {E : EV} (hE : eOK layC E) {Φ : Int → PS → Prop} {K17 : Int → Int → Int → PS → Prop} (x : CX) (hK17 : ∀ (x1 x2 x3 : Int) (σ : PS), Rg x1 → Rg x2 → Rg x3 → RS σ → K17 x1 x2 x3 σ → RW layC E mi_X2_isWord Φ 17 [some (.ref (eA E 9)), some (.int (iz x1)), some (.ref (eS E (x2.toNat))), some (.int (iz x3))] [] σ x) (x1 x2 x3 : Int) (rx1 : Rg x1) (rx2 : Rg x2) (rx3 : Rg x3) (σ : PS) (hs : RS σ) (h : BX2_isWord_17 K17 x1 x2 x3 σ Φ) : RW layC E mi_X2_isWord Φ 17 [some (.ref (eA E 9)), some (.int (iz x1)), some (.ref (eS E (x2.toNat))), some (.int (iz x3))] [] σ x := by
  refine r_iloadn (dc D_cX2_isWord_0 11 rfl) rfl rfl ?_
  refine r_aloadn (dc D_cX2_isWord_0 12 rfl) rfl rfl ?_
  obtain ⟨o1, h⟩ := h
  refine r_strlen (dc D_cX2_isWord_0 13 rfl) cw_RX2_107 o1 rfl rfl ?_
  refine r_icmp_ge (tgt := 48) (dc D_cX2_isWord_0 14 rfl) (by decide) rx3 (Rg_slen o1) (fun c2 => ?_) (fun c2 => ?_)
  · have h := h.1 c2
    refine r_iconst (n := 1) (dc D_cX2_isWord_0 28 rfl) ?_
    exact r_zret (dc D_cX2_isWord_0 29 rfl) rfl (by decide) h
  · have h := h.2 c2
    refine r_aloadn (dc D_cX2_isWord_0 15 rfl) rfl rfl ?_
    refine r_iloadn (dc D_cX2_isWord_0 16 rfl) rfl rfl ?_
    refine r_iloadn (dc D_cX2_isWord_0 17 rfl) rfl rfl ?_
    refine r_iadd (dc D_cX2_isWord_0 18 rfl) ?_
    obtain ⟨o3, h⟩ := h
    refine r_callV (As := [.int (iz (x1 + x3))]) (st := []) (dc D_cX2_isWord_0 19 rfl) cw_RX2_81 nm_yX9_byteAt (CX9_byteAt hE _ o3 _ hs h) lC_9 rfl rfl (by decide) rfl rfl rfl (fun z4 σ5 rz4 hσ5 h => ?_)
    show RW layC E mi_X2_isWord Φ 32 [some (.ref (eA E 9)), some (.int (iz x1)), some (.ref (eS E (x2.toNat))), some (.int (iz x3))] [.int (iz z4)] σ5 x
    refine r_aloadn (dc D_cX2_isWord_0 20 rfl) rfl rfl ?_
    refine r_iloadn (dc D_cX2_isWord_0 21 rfl) rfl rfl ?_
    obtain ⟨o6, h⟩ := h
    refine r_strat (dc D_cX2_isWord_0 22 rfl) cw_RX2_112 o6 rfl rfl ?_
    refine r_icmp_eq (tgt := 42) (dc D_cX2_isWord_0 23 rfl) (by decide) rz4 (Rg_schr _ _) (fun c7 => ?_) (fun c7 => ?_)
    · have h := h.1 c7
      obtain ⟨o8, h⟩ := h
      refine r_iinc (lv' := [some (.ref (eA E 9)), some (.int (iz x1)), some (.ref (eS E (x2.toNat))), some (.int (iz (x3 + 1)))]) (dc D_cX2_isWord_0 26 rfl) rfl rfl rfl ?_
      refine r_goto (tgt := 17) (dc D_cX2_isWord_0 27 rfl) (by decide) ?_
      exact hK17 _ _ _ _ rx1 rx2 o8 hσ5 h
    · have h := h.2 c7
      refine r_iconst (n := 0) (dc D_cX2_isWord_0 24 rfl) ?_
      exact r_zret (dc D_cX2_isWord_0 25 rfl) rfl (by decide) h
theorem TX2_isWord_17 {E : EV} (hE : eOK layC E) {Φ : Int → PS → Prop} (x : CX) (n : Nat) : ∀ (x1 x2 x3 : Int) (σ : PS), Rg x1 → Rg x2 → Rg x3 → RS σ → LX2_isWord_17 n x1 x2 x3 σ Φ → RW layC E mi_X2_isWord Φ 17 [some (.ref (eA E 9)), some (.int (iz x1)), some (.ref (eS E (x2.toNat))), some (.int (iz x3))] [] σ x := by
  induction n with
  | zero => intro x1 x2 x3 σ _ _ _ _ h; exact h.elim
  | succ n ih => intro x1 x2 x3 σ rx1 rx2 rx3 hs h; exact TBX2_isWord_17 hE x ih x1 x2 x3 rx1 rx2 rx3 σ hs h
set_option maxRecDepth 100000 in
theorem CX2_isWord {E : EV} (hE : eOK layC E) {Φ : Int → PS → Prop} (a2 a3 : Int) (ra2 : Rg a2) (ra3 : Rg a3) (σ : PS) (hs : RS σ) (h : FX2_isWord a2 a3 σ Φ) : CT layC E yX2_isWord mi_X2_isWord [.ref (eA E 9), .int (iz a2), .ref (eS E (a3.toNat))] σ Φ := by
  refine ct_of (by decide +kernel) rfl hE rfl rfl hs (fun x => ?_)
  show RW layC E mi_X2_isWord Φ 0 [some (.ref (eA E 9)), some (.int (iz a2)), some (.ref (eS E (a3.toNat))), none] [] σ x
  refine r_aloadn (dc D_cX2_isWord_0 0 rfl) rfl rfl ?_
  refine r_getI (dc D_cX2_isWord_0 1 rfl) fw_RX2_52 lC_9 rfl ?_
  refine r_iloadn (dc D_cX2_isWord_0 2 rfl) rfl rfl ?_
  refine r_isub (dc D_cX2_isWord_0 3 rfl) ?_
  obtain ⟨o1, h⟩ := h
  refine r_aloadn (dc D_cX2_isWord_0 4 rfl) rfl rfl ?_
  obtain ⟨o2, h⟩ := h
  refine r_strlen (dc D_cX2_isWord_0 5 rfl) cw_RX2_107 o2 rfl rfl ?_
  refine r_icmp_eq (tgt := 15) (dc D_cX2_isWord_0 6 rfl) (by decide) o1 (Rg_slen o2) (fun c3 => ?_) (fun c3 => ?_)
  · have h := h.1 c3
    refine r_iconst (n := 0) (dc D_cX2_isWord_0 9 rfl) ?_
    refine r_istoren (lv' := [some (.ref (eA E 9)), some (.int (iz a2)), some (.ref (eS E (a3.toNat))), some (.int (iz 0))]) (dc D_cX2_isWord_0 10 rfl) rfl rfl rfl ?_
    obtain ⟨n, h⟩ := h
    exact TX2_isWord_17 hE x n _ _ _ _ ra2 ra3 (Rl rfl) hs h
  · have h := h.2 c3
    refine r_iconst (n := 0) (dc D_cX2_isWord_0 7 rfl) ?_
    exact r_zret (dc D_cX2_isWord_0 8 rfl) rfl (by decide) h
-- end of GateFlow$Condition.isWord
