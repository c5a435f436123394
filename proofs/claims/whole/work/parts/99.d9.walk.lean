theorem nn_L_7 : NN RL 7 11 16 [.null, .null, .int (iz 0), .null, .int (iz 0), .null, .int (iz 0), .null, .int (iz 0), .null, .int (iz 0), .null, .null, .null, .null, .null] := ⟨RX11, TX11, tyX11, rfl, tyX11_ok, tb_r [118, 119, 97] (by decide +kernel), uw_11, fun j hj => by rcases (show j = 0 ∨ j = 1 ∨ j = 2 ∨ j = 3 ∨ j = 4 ∨ j = 5 ∨ j = 6 ∨ j = 7 ∨ j = 8 ∨ j = 9 ∨ j = 10 ∨ j = 11 ∨ j = 12 ∨ j = 13 ∨ j = 14 ∨ j = 15 by omega) with rfl | rfl | rfl | rfl | rfl | rfl | rfl | rfl | rfl | rfl | rfl | rfl | rfl | rfl | rfl | rfl <;> first | rfl | exact congrArg Value.int iz_0.symm⟩
theorem nn_L_10 : NN RL 10 12 39 [.null, .null, .int (iz 0), .null, .null, .null, .null, .int (iz 0), .null, .null, .null, .null, .null, .null, .null, .null, .int (iz 0), .int (iz 0), .int (iz 0), .null, .null, .null, .null, .null, .null, .int (iz 0), .null, .null, .null, .int (iz 0), .int (iz 0), .int (iz 0), .int (iz 0), .int (iz 0), .int (iz 0), .null, .int (iz 0), .null, .null] := ⟨RX12, TX12, tyX12, rfl, tyX12_ok, tb_r [1213, 1214, 110] (by decide +kernel), uw_12, fun j hj => by rcases (show j = 0 ∨ j = 1 ∨ j = 2 ∨ j = 3 ∨ j = 4 ∨ j = 5 ∨ j = 6 ∨ j = 7 ∨ j = 8 ∨ j = 9 ∨ j = 10 ∨ j = 11 ∨ j = 12 ∨ j = 13 ∨ j = 14 ∨ j = 15 ∨ j = 16 ∨ j = 17 ∨ j = 18 ∨ j = 19 ∨ j = 20 ∨ j = 21 ∨ j = 22 ∨ j = 23 ∨ j = 24 ∨ j = 25 ∨ j = 26 ∨ j = 27 ∨ j = 28 ∨ j = 29 ∨ j = 30 ∨ j = 31 ∨ j = 32 ∨ j = 33 ∨ j = 34 ∨ j = 35 ∨ j = 36 ∨ j = 37 ∨ j = 38 by omega) with rfl | rfl | rfl | rfl | rfl | rfl | rfl | rfl | rfl | rfl | rfl | rfl | rfl | rfl | rfl | rfl | rfl | rfl | rfl | rfl | rfl | rfl | rfl | rfl | rfl | rfl | rfl | rfl | rfl | rfl | rfl | rfl | rfl | rfl | rfl | rfl | rfl | rfl | rfl <;> first | rfl | exact congrArg Value.int iz_0.symm⟩
theorem ci_L_9 : CWI RL 9 yX11_init mi_X11_init := ⟨tb_r [120, 121, 97, 122] (by decide +kernel), rfl, rfl, nm_X11_init⟩
theorem ci_L_12 : CWI RL 12 yX12_init mi_X12_init := ⟨tb_r [1215, 1216, 110, 1217] (by decide +kernel), rfl, rfl, nm_X12_init⟩
section Walk
variable {E : EV} {A : Nat → Prop} {Q : State → Prop} {fC fM : Nat → Nat} {b L : Nat} {xs : Nat → Int32} {x : CX}
theorem law_head {i : Int} {σc σm : PS} (hX : XS b L xs A x) (hL : L ≤ 3072) (h0 : 0 ≤ i) (h2 : i ≤ L + 6) (kt : NL E A Q fC fM b i 1278 [] σc σm x) (kf : i + 6 ≤ L → NL E A Q fC fM b i 27 [] σc σm x) : NL E A Q fC fM b i 18 [] σc σm x := by
  refine n_iload (M := mi_law) (a := i) (dc D_cL_law_0 10 rfl) rfl rfl ?_
  refine n_aload (M := mi_law) (dc D_cL_law_0 11 rfl) rfl rfl ?_
  refine n_slen (M := mi_law) (dc D_cL_law_0 12 rfl) hX ?_
  refine n_bipush (M := mi_law) (z := 6) (dc D_cL_law_0 13 rfl) (by decide +kernel) ?_
  refine n_isub (M := mi_law) (dc D_cL_law_0 14 rfl) ?_
  exact n_icmp_gt (M := mi_law) (tgt := 1278) (dc D_cL_law_0 15 rfl) rfl ⟨by omega, by omega⟩ ⟨by omega, by omega⟩ (fun _ => kt) (fun c => kf (by omega))
theorem law_loop (hX : XS b L xs A x) (hL : L ≤ 3072) (hend : ∀ (lv : List (Option Value)) (ws : va_W), NW E mi_law A 600000 7302250 Q 1278 lv [] ws 600000 7302250 x) (hEC : eOK layC (wE E fC)) (hEM : eOK layM (wE E fM)) : ∀ (n : Nat) (i : Int) (d : DS) (σc σm : PS), 0 ≤ i → L + 1 ≤ i + n → i ≤ L + 6 → okD d → CR d σc → MR d σm → RS σc → RS σm → NL E A Q fC fM b i 18 [] σc σm x := by
  intro n
  induction n with
  | zero =>
    intro i d σc σm h0 h1 h2 hd hc hm rc rm
    exact law_head hX hL h0 h2 (hend _ _) (fun c => by omega)
  | succ n ih =>
    intro i d σc σm h0 h1 h2 hd hc hm rc rm
    refine law_head hX hL h0 h2 (hend _ _) (fun c => ?_)
    refine n_aload (M := mi_law) (dc D_cL_law_0 16 rfl) rfl rfl ?_
    refine n_iload (M := mi_law) (a := i) (dc D_cL_law_0 17 rfl) rfl rfl ?_
    refine n_sld (M := mi_law) (dc D_cL_law_0 18 rfl) hX hL (by omega) ?_
    refine n_bipush (M := mi_law) (z := 63) (dc D_cL_law_0 19 rfl) (by decide +kernel) ?_
    refine n_iand (M := mi_law) (dc D_cL_law_0 20 rfl) ?_
    refine law_switch (Rg_of _) hX hL ⟨h0, c⟩ hEC hEM (fun d' σc' σm' hd' hc' hm' rc' rm' => ?_) hd hc hm rc rm
    refine n_iinc (M := mi_law) (a := i) (lv' := LVs b fC fM (i + 6)) (dc D_cL_law_20 26 rfl) rfl rfl rfl ?_
    exact n_goto (M := mi_law) (tgt := 18) (dc D_cL_law_20 27 rfl) rfl (ih (i + 6) d' σc' σm' (by omega) (by omega) (by omega) hd' hc' hm' rc' rm')
theorem law_a3 (hX : XS b L xs A x) (hL : L ≤ 3072) (hend : ∀ (lv : List (Option Value)) (ws : va_W), NW E mi_law A 600000 7302250 Q 1278 lv [] ws 600000 7302250 x) {k n : Nat} (hk : Nat.ble k 600000 = true) (hn : Nat.ble n 7302250 = true) : NW E mi_law A 600000 7302250 Q 15 [some (.ref b), some (.ref (fC 0)), none, none] [.ref (fM 0)] (wld layC (wE E fC) σC0 ++ wld layM (wE E fM) σM0) k n x := by
  refine n_astore (M := mi_law) (lv' := [some (.ref b), some (.ref (fC 0)), some (.ref (fM 0)), none]) (dc D_cL_law_0 7 rfl) rfl rfl rfl ?_
  refine n_iconst (M := mi_law) (z := 0) (dc D_cL_law_0 8 rfl) ?_
  refine n_istore (M := mi_law) (a := 0) (lv' := LVs b fC fM 0) (dc D_cL_law_0 9 rfl) rfl rfl rfl ?_
  refine n_widen (M := mi_law) (k' := 600000) (n' := 7302250) hk hn ?_
  refine n_sig (ws' := W2 E fC fM σC0 σM0) (by unfold W2; rw [List.append_nil]) ?_
  refine n_knowD (fun hD => ?_)
  exact law_loop hX hL hend (wld_eOK (va_D_l hD)) (wld_eOK (va_D_l (va_D_r hD))) (L + 1) 0 dS0 σC0 σM0 (by omega) (by omega) (by omega) okD_0 CR_0 MR_0 RS_C0 RS_M0
theorem law_a2 (hX : XS b L xs A x) (hL : L ≤ 3072) (hend : ∀ (lv : List (Option Value)) (ws : va_W), NW E mi_law A 600000 7302250 Q 1278 lv [] ws 600000 7302250 x) {k n : Nat} (hk : Nat.ble (k + 1 + 26) 600000 = true) (hk1 : Nat.ble (k + 1) 600000 = true) (hn : Nat.ble (n + 39 + 19325) 7302250 = true) (hn1 : Nat.ble (n + 39) 7302250 = true) : NW E mi_law A 600000 7302250 Q 8 [some (.ref b), some (.ref (fC 0)), none, none] [] (wld layC (wE E fC) σC0) k n x := by
  refine n_new (M := mi_law) (dc D_cL_law_0 4 rfl) nn_L_10 hk1 hn1 (fun q1 => ?_)
  refine n_dup (M := mi_law) (dc D_cL_law_0 5 rfl) rfl ?_
  refine n_initL (M := mi_law) (N := 64) (dc D_cL_law_0 6 rfl) (Or.inl ci_L_12) (nt_X12 E) wld_len (by decide +kernel) (Nat.le_of_ble_eq_true rfl) rfl rfl hk hn (fun w1 hw => ?_)
  refine Exists.elim hw (fun fM hM => ?_)
  have e0 : fM 0 = q1 := hM.1
  have e1 : w1 = wld layM (wE E fM) σM0 := hM.2
  refine n_sig (congrArg (fun z => wld layC (wE E fC) σC0 ++ z) e1) ?_
  rw [← e0]
  exact law_a3 hX hL hend hk hn
theorem law_all (hX : XS b L xs A x) (hL : L ≤ 3072) (hend : ∀ (lv : List (Option Value)) (ws : va_W), NW E mi_law A 600000 7302250 Q 1278 lv [] ws 600000 7302250 x) : NW E mi_law A 600000 7302250 Q 0 [some (.ref b), none, none, none] [] [] 0 0 x := by
  refine n_new (M := mi_law) (dc D_cL_law_0 0 rfl) nn_L_7 rfl rfl (fun q0 => ?_)
  refine n_dup (M := mi_law) (dc D_cL_law_0 1 rfl) rfl ?_
  refine n_initL (M := mi_law) (ws := []) (N := 0) (dc D_cL_law_0 2 rfl) (Or.inl ci_L_9) (nt_X11 E) rfl rfl (Nat.le_of_ble_eq_true rfl) rfl rfl rfl rfl (fun w1 hw => ?_)
  refine Exists.elim hw (fun fC hC => ?_)
  have e0 : fC 0 = q0 := hC.1
  have e1 : w1 = wld layC (wE E fC) σC0 := hC.2
  refine n_sig (congrArg (fun z => [] ++ z) e1) ?_
  rw [← e0]
  refine n_sig (List.nil_append _) ?_
  refine n_astore (M := mi_law) (lv' := [some (.ref b), some (.ref (fC 0)), none, none]) (dc D_cL_law_0 3 rfl) rfl rfl rfl ?_
  exact law_a2 hX hL hend rfl rfl rfl rfl
end Walk
