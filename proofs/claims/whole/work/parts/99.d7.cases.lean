section Cases
variable {E : EV} {A : Nat → Prop} {Q : State → Prop} {fC fM : Nat → Nat} {b L : Nat} {i : Int} {xs : Nat → Int32} {d : DS} {σc σm : PS} {x : CX}
theorem cl_13 : CWV RL 13 yX11_gate mi_X11_gate := tb_r [546, 547, 548, 97, 549] (by decide +kernel)
theorem nl_13 : ynm yX11_gate 5 := ⟨⟨by decide +kernel, by decide +kernel⟩, by decide +kernel⟩
theorem cl_17 : CWV RL 17 yX12_gate mi_X12_gate := tb_r [1338, 1339, 1340, 110, 1341] (by decide +kernel)
theorem nl_17 : ynm yX12_gate 5 := ⟨⟨by decide +kernel, by decide +kernel⟩, by decide +kernel⟩
theorem law_gate (hX : XS b L xs A x) (hL : L ≤ 3072) (hi : 0 ≤ i ∧ i + 6 ≤ L) (hEC : eOK layC (wE E fC)) (hEM : eOK layM (wE E fM)) (kk : KK E A Q fC fM b i x) (hd : okD d) (hc : CR d σc) (hm : MR d σm) (rc : RS σc) (rm : RS σm) : NL E A Q fC fM b i 216 [] σc σm x := by
  refine l_C (dc D_cL_law_0 22 rfl) ?_
  refine l_arg 1 (dc D_cL_law_0 23 rfl) (dc D_cL_law_0 24 rfl) (dc D_cL_law_0 25 rfl) (dc D_cL_law_0 26 rfl) (dc D_cL_law_0 27 rfl) ⟨rfl, by decide⟩ hX hL hi ?_
  refine l_arg 2 (dc D_cL_law_0 28 rfl) (dc D_cL_law_0 29 rfl) (dc D_cL_law_0 30 rfl) (dc D_cL_law_0 31 rfl) (dc D_cL_law_0 32 rfl) ⟨rfl, by decide⟩ hX hL hi ?_
  refine l_arg 3 (dc D_cL_law_0 33 rfl) (dc D_cL_law_0 34 rfl) (dc D_cL_law_0 35 rfl) (dc D_cL_law_0 36 rfl) (dc D_cL_law_0 37 rfl) ⟨rfl, by decide⟩ hX hL hi ?_
  refine l_arg 4 (dc D_cL_law_0 38 rfl) (dc D_cL_law_0 39 rfl) (dc D_cL_law_1 0 rfl) (dc D_cL_law_1 1 rfl) (dc D_cL_law_1 2 rfl) ⟨rfl, by decide⟩ hX hL hi ?_
  refine l_arg 5 (dc D_cL_law_1 3 rfl) (dc D_cL_law_1 4 rfl) (dc D_cL_law_1 5 rfl) (dc D_cL_law_1 6 rfl) (dc D_cL_law_1 7 rfl) ⟨rfl, by decide⟩ hX hL hi ?_
  refine l_callC (n0 := 5) (dc D_cL_law_1 8 rfl) cl_13 nl_13 (CX11_gate hEC (xz xs i 1) (xz xs i 2) (xz xs i 3) (xz xs i 4) (xz xs i 5) (Rg_of _) (Rg_of _) (Rg_of _) (Rg_of _) (Rg_of _) σc rc (p_gate _ _ _ _ _ d σc σm hd hc hm)) rfl rfl rfl rfl rfl rfl rfl (fun z1 σc' hz1 hs1 h1 => ?_)
  refine l_M (dc D_cL_law_1 9 rfl) ?_
  refine l_arg 1 (dc D_cL_law_1 10 rfl) (dc D_cL_law_1 11 rfl) (dc D_cL_law_1 12 rfl) (dc D_cL_law_1 13 rfl) (dc D_cL_law_1 14 rfl) ⟨rfl, by decide⟩ hX hL hi ?_
  refine l_arg 2 (dc D_cL_law_1 15 rfl) (dc D_cL_law_1 16 rfl) (dc D_cL_law_1 17 rfl) (dc D_cL_law_1 18 rfl) (dc D_cL_law_1 19 rfl) ⟨rfl, by decide⟩ hX hL hi ?_
  refine l_arg 3 (dc D_cL_law_1 20 rfl) (dc D_cL_law_1 21 rfl) (dc D_cL_law_1 22 rfl) (dc D_cL_law_1 23 rfl) (dc D_cL_law_1 24 rfl) ⟨rfl, by decide⟩ hX hL hi ?_
  refine l_arg 4 (dc D_cL_law_1 25 rfl) (dc D_cL_law_1 26 rfl) (dc D_cL_law_1 27 rfl) (dc D_cL_law_1 28 rfl) (dc D_cL_law_1 29 rfl) ⟨rfl, by decide⟩ hX hL hi ?_
  refine l_arg 5 (dc D_cL_law_1 30 rfl) (dc D_cL_law_1 31 rfl) (dc D_cL_law_1 32 rfl) (dc D_cL_law_1 33 rfl) (dc D_cL_law_1 34 rfl) ⟨rfl, by decide⟩ hX hL hi ?_
  refine l_callM (n0 := 5) (dc D_cL_law_1 35 rfl) cl_17 nl_17 (CX12_gate hEM (xz xs i 1) (xz xs i 2) (xz xs i 3) (xz xs i 4) (xz xs i 5) (Rg_of _) (Rg_of _) (Rg_of _) (Rg_of _) (Rg_of _) σm rm h1) rfl rfl rfl rfl rfl rfl rfl (fun z2 σm' hz2 hs2 h2 => ?_)
  obtain ⟨e, d', hd', hc', hm'⟩ := h2
  exact l_same (dc D_cL_law_1 36 rfl) e rfl (kk d' σc' σm' hd' hc' hm' hs1 hs2)
theorem cl_18 : CWV RL 18 yX11_of mi_X11_of := tb_r [567, 568, 569, 97, 570] (by decide +kernel)
theorem nl_18 : ynm yX11_of 2 := ⟨⟨by decide +kernel, by decide +kernel⟩, by decide +kernel⟩
theorem cl_22 : CWV RL 22 yX12_of mi_X12_of := tb_r [1356, 1357, 1358, 110, 1359] (by decide +kernel)
theorem nl_22 : ynm yX12_of 2 := ⟨⟨by decide +kernel, by decide +kernel⟩, by decide +kernel⟩
theorem law_of (hX : XS b L xs A x) (hL : L ≤ 3072) (hi : 0 ≤ i ∧ i + 6 ≤ L) (hEC : eOK layC (wE E fC)) (hEM : eOK layM (wE E fM)) (kk : KK E A Q fC fM b i x) (hd : okD d) (hc : CR d σc) (hm : MR d σm) (rc : RS σc) (rm : RS σm) : NL E A Q fC fM b i 279 [] σc σm x := by
  refine l_C (dc D_cL_law_1 39 rfl) ?_
  refine l_arg 1 (dc D_cL_law_2 0 rfl) (dc D_cL_law_2 1 rfl) (dc D_cL_law_2 2 rfl) (dc D_cL_law_2 3 rfl) (dc D_cL_law_2 4 rfl) ⟨rfl, by decide⟩ hX hL hi ?_
  refine l_arg 2 (dc D_cL_law_2 5 rfl) (dc D_cL_law_2 6 rfl) (dc D_cL_law_2 7 rfl) (dc D_cL_law_2 8 rfl) (dc D_cL_law_2 9 rfl) ⟨rfl, by decide⟩ hX hL hi ?_
  refine l_callC (n0 := 2) (dc D_cL_law_2 10 rfl) cl_18 nl_18 (CX11_of hEC (xz xs i 1) (xz xs i 2) (Rg_of _) (Rg_of _) σc rc (p_of _ _ d σc σm hd hc hm)) rfl rfl rfl rfl rfl rfl rfl (fun z1 σc' hz1 hs1 h1 => ?_)
  refine l_M (dc D_cL_law_2 11 rfl) ?_
  refine l_arg 1 (dc D_cL_law_2 12 rfl) (dc D_cL_law_2 13 rfl) (dc D_cL_law_2 14 rfl) (dc D_cL_law_2 15 rfl) (dc D_cL_law_2 16 rfl) ⟨rfl, by decide⟩ hX hL hi ?_
  refine l_arg 2 (dc D_cL_law_2 17 rfl) (dc D_cL_law_2 18 rfl) (dc D_cL_law_2 19 rfl) (dc D_cL_law_2 20 rfl) (dc D_cL_law_2 21 rfl) ⟨rfl, by decide⟩ hX hL hi ?_
  refine l_callM (n0 := 2) (dc D_cL_law_2 22 rfl) cl_22 nl_22 (CX12_of hEM (xz xs i 1) (xz xs i 2) (Rg_of _) (Rg_of _) σm rm h1) rfl rfl rfl rfl rfl rfl rfl (fun z2 σm' hz2 hs2 h2 => ?_)
  obtain ⟨e, d', hd', hc', hm'⟩ := h2
  exact l_same (dc D_cL_law_2 23 rfl) e rfl (kk d' σc' σm' hd' hc' hm' hs1 hs2)
theorem cl_23 : CWV RL 23 yX11_widen mi_X11_widen := tb_r [575, 576, 577, 97, 578] (by decide +kernel)
theorem nl_23 : ynm yX11_widen 2 := ⟨⟨by decide +kernel, by decide +kernel⟩, by decide +kernel⟩
theorem cl_26 : CWV RL 26 yX12_widen mi_X12_widen := tb_r [1368, 1369, 1370, 110, 1371] (by decide +kernel)
theorem nl_26 : ynm yX12_widen 2 := ⟨⟨by decide +kernel, by decide +kernel⟩, by decide +kernel⟩
theorem law_widen (hX : XS b L xs A x) (hL : L ≤ 3072) (hi : 0 ≤ i ∧ i + 6 ≤ L) (hEC : eOK layC (wE E fC)) (hEM : eOK layM (wE E fM)) (kk : KK E A Q fC fM b i x) (hd : okD d) (hc : CR d σc) (hm : MR d σm) (rc : RS σc) (rm : RS σm) : NL E A Q fC fM b i 312 [] σc σm x := by
  refine l_C (dc D_cL_law_2 26 rfl) ?_
  refine l_arg 1 (dc D_cL_law_2 27 rfl) (dc D_cL_law_2 28 rfl) (dc D_cL_law_2 29 rfl) (dc D_cL_law_2 30 rfl) (dc D_cL_law_2 31 rfl) ⟨rfl, by decide⟩ hX hL hi ?_
  refine l_arg 2 (dc D_cL_law_2 32 rfl) (dc D_cL_law_2 33 rfl) (dc D_cL_law_2 34 rfl) (dc D_cL_law_2 35 rfl) (dc D_cL_law_2 36 rfl) ⟨rfl, by decide⟩ hX hL hi ?_
  refine l_callC (n0 := 2) (dc D_cL_law_2 37 rfl) cl_23 nl_23 (CX11_widen hEC (xz xs i 1) (xz xs i 2) (Rg_of _) (Rg_of _) σc rc (p_widen _ _ d σc σm hd hc hm)) rfl rfl rfl rfl rfl rfl rfl (fun z1 σc' hz1 hs1 h1 => ?_)
  refine l_M (dc D_cL_law_2 38 rfl) ?_
  refine l_arg 1 (dc D_cL_law_2 39 rfl) (dc D_cL_law_3 0 rfl) (dc D_cL_law_3 1 rfl) (dc D_cL_law_3 2 rfl) (dc D_cL_law_3 3 rfl) ⟨rfl, by decide⟩ hX hL hi ?_
  refine l_arg 2 (dc D_cL_law_3 4 rfl) (dc D_cL_law_3 5 rfl) (dc D_cL_law_3 6 rfl) (dc D_cL_law_3 7 rfl) (dc D_cL_law_3 8 rfl) ⟨rfl, by decide⟩ hX hL hi ?_
  refine l_callM (n0 := 2) (dc D_cL_law_3 9 rfl) cl_26 nl_26 (CX12_widen hEM (xz xs i 1) (xz xs i 2) (Rg_of _) (Rg_of _) σm rm h1) rfl rfl rfl rfl rfl rfl rfl (fun z2 σm' hz2 hs2 h2 => ?_)
  obtain ⟨e, d', hd', hc', hm'⟩ := h2
  exact l_same (dc D_cL_law_3 10 rfl) e rfl (kk d' σc' σm' hd' hc' hm' hs1 hs2)
theorem cl_27 : CWV RL 27 yX11_bind mi_X11_bind := tb_r [579, 580, 581, 97, 582] (by decide +kernel)
theorem nl_27 : ynm yX11_bind 2 := ⟨⟨by decide +kernel, by decide +kernel⟩, by decide +kernel⟩
theorem cl_30 : CWV RL 30 yX12_bind mi_X12_bind := tb_r [1376, 1377, 1378, 110, 1379] (by decide +kernel)
theorem nl_30 : ynm yX12_bind 2 := ⟨⟨by decide +kernel, by decide +kernel⟩, by decide +kernel⟩
theorem law_bind (hX : XS b L xs A x) (hL : L ≤ 3072) (hi : 0 ≤ i ∧ i + 6 ≤ L) (hEC : eOK layC (wE E fC)) (hEM : eOK layM (wE E fM)) (kk : KK E A Q fC fM b i x) (hd : okD d) (hc : CR d σc) (hm : MR d σm) (rc : RS σc) (rm : RS σm) : NL E A Q fC fM b i 345 [] σc σm x := by
  refine l_C (dc D_cL_law_3 13 rfl) ?_
  refine l_arg 1 (dc D_cL_law_3 14 rfl) (dc D_cL_law_3 15 rfl) (dc D_cL_law_3 16 rfl) (dc D_cL_law_3 17 rfl) (dc D_cL_law_3 18 rfl) ⟨rfl, by decide⟩ hX hL hi ?_
  refine l_arg 2 (dc D_cL_law_3 19 rfl) (dc D_cL_law_3 20 rfl) (dc D_cL_law_3 21 rfl) (dc D_cL_law_3 22 rfl) (dc D_cL_law_3 23 rfl) ⟨rfl, by decide⟩ hX hL hi ?_
  refine l_callC (n0 := 2) (dc D_cL_law_3 24 rfl) cl_27 nl_27 (CX11_bind hEC (xz xs i 1) (xz xs i 2) (Rg_of _) (Rg_of _) σc rc (p_bind _ _ d σc σm hd hc hm)) rfl rfl rfl rfl rfl rfl rfl (fun z1 σc' hz1 hs1 h1 => ?_)
  refine l_M (dc D_cL_law_3 25 rfl) ?_
  refine l_arg 1 (dc D_cL_law_3 26 rfl) (dc D_cL_law_3 27 rfl) (dc D_cL_law_3 28 rfl) (dc D_cL_law_3 29 rfl) (dc D_cL_law_3 30 rfl) ⟨rfl, by decide⟩ hX hL hi ?_
  refine l_arg 2 (dc D_cL_law_3 31 rfl) (dc D_cL_law_3 32 rfl) (dc D_cL_law_3 33 rfl) (dc D_cL_law_3 34 rfl) (dc D_cL_law_3 35 rfl) ⟨rfl, by decide⟩ hX hL hi ?_
  refine l_callM (n0 := 2) (dc D_cL_law_3 36 rfl) cl_30 nl_30 (CX12_bind hEM (xz xs i 1) (xz xs i 2) (Rg_of _) (Rg_of _) σm rm h1) rfl rfl rfl rfl rfl rfl rfl (fun z2 σm' hz2 hs2 h2 => ?_)
  obtain ⟨e, d', hd', hc', hm'⟩ := h2
  exact l_same (dc D_cL_law_3 37 rfl) e rfl (kk d' σc' σm' hd' hc' hm' hs1 hs2)
theorem cl_31 : CWV RL 31 yX11_turn mi_X11_turn := tb_r [583, 584, 585, 97, 586] (by decide +kernel)
theorem nl_31 : ynm yX11_turn 2 := ⟨⟨by decide +kernel, by decide +kernel⟩, by decide +kernel⟩
theorem cl_34 : CWV RL 34 yX12_turn mi_X12_turn := tb_r [1380, 1381, 1382, 110, 1383] (by decide +kernel)
theorem nl_34 : ynm yX12_turn 2 := ⟨⟨by decide +kernel, by decide +kernel⟩, by decide +kernel⟩
theorem law_turn (hX : XS b L xs A x) (hL : L ≤ 3072) (hi : 0 ≤ i ∧ i + 6 ≤ L) (hEC : eOK layC (wE E fC)) (hEM : eOK layM (wE E fM)) (kk : KK E A Q fC fM b i x) (hd : okD d) (hc : CR d σc) (hm : MR d σm) (rc : RS σc) (rm : RS σm) : NL E A Q fC fM b i 378 [] σc σm x := by
  refine l_C (dc D_cL_law_4 0 rfl) ?_
  refine l_arg 1 (dc D_cL_law_4 1 rfl) (dc D_cL_law_4 2 rfl) (dc D_cL_law_4 3 rfl) (dc D_cL_law_4 4 rfl) (dc D_cL_law_4 5 rfl) ⟨rfl, by decide⟩ hX hL hi ?_
  refine l_arg 2 (dc D_cL_law_4 6 rfl) (dc D_cL_law_4 7 rfl) (dc D_cL_law_4 8 rfl) (dc D_cL_law_4 9 rfl) (dc D_cL_law_4 10 rfl) ⟨rfl, by decide⟩ hX hL hi ?_
  refine l_callC (n0 := 2) (dc D_cL_law_4 11 rfl) cl_31 nl_31 (CX11_turn hEC (xz xs i 1) (xz xs i 2) (Rg_of _) (Rg_of _) σc rc (p_turn _ _ d σc σm hd hc hm)) rfl rfl rfl rfl rfl rfl rfl (fun z1 σc' hz1 hs1 h1 => ?_)
  refine l_M (dc D_cL_law_4 12 rfl) ?_
  refine l_arg 1 (dc D_cL_law_4 13 rfl) (dc D_cL_law_4 14 rfl) (dc D_cL_law_4 15 rfl) (dc D_cL_law_4 16 rfl) (dc D_cL_law_4 17 rfl) ⟨rfl, by decide⟩ hX hL hi ?_
  refine l_arg 2 (dc D_cL_law_4 18 rfl) (dc D_cL_law_4 19 rfl) (dc D_cL_law_4 20 rfl) (dc D_cL_law_4 21 rfl) (dc D_cL_law_4 22 rfl) ⟨rfl, by decide⟩ hX hL hi ?_
  refine l_callM (n0 := 2) (dc D_cL_law_4 23 rfl) cl_34 nl_34 (CX12_turn hEM (xz xs i 1) (xz xs i 2) (Rg_of _) (Rg_of _) σm rm h1) rfl rfl rfl rfl rfl rfl rfl (fun z2 σm' hz2 hs2 h2 => ?_)
  obtain ⟨e, d', hd', hc', hm'⟩ := h2
  exact l_same (dc D_cL_law_4 24 rfl) e rfl (kk d' σc' σm' hd' hc' hm' hs1 hs2)
theorem cl_35 : CWV RL 35 yX11_drop mi_X11_drop := tb_r [590, 591, 592, 97, 593] (by decide +kernel)
theorem nl_35 : ynm yX11_drop 0 := ⟨⟨by decide +kernel, by decide +kernel⟩, by decide +kernel⟩
theorem cl_39 : CWV RL 39 yX12_drop mi_X12_drop := tb_r [1384, 1385, 1386, 110, 1387] (by decide +kernel)
theorem nl_39 : ynm yX12_drop 0 := ⟨⟨by decide +kernel, by decide +kernel⟩, by decide +kernel⟩
theorem law_drop (hX : XS b L xs A x) (hL : L ≤ 3072) (hi : 0 ≤ i ∧ i + 6 ≤ L) (hEC : eOK layC (wE E fC)) (hEM : eOK layM (wE E fM)) (kk : KK E A Q fC fM b i x) (hd : okD d) (hc : CR d σc) (hm : MR d σm) (rc : RS σc) (rm : RS σm) : NL E A Q fC fM b i 411 [] σc σm x := by
  refine l_C (dc D_cL_law_4 27 rfl) ?_
  refine l_callC (n0 := 0) (dc D_cL_law_4 28 rfl) cl_35 nl_35 (CX11_drop hEC  σc rc (p_drop  d σc σm hd hc hm)) rfl rfl rfl rfl rfl rfl rfl (fun z1 σc' hz1 hs1 h1 => ?_)
  refine l_M (dc D_cL_law_4 29 rfl) ?_
  refine l_callM (n0 := 0) (dc D_cL_law_4 30 rfl) cl_39 nl_39 (CX12_drop hEM  σm rm h1) rfl rfl rfl rfl rfl rfl rfl (fun z2 σm' hz2 hs2 h2 => ?_)
  obtain ⟨e, d', hd', hc', hm'⟩ := h2
  exact l_same (dc D_cL_law_4 31 rfl) e rfl (kk d' σc' σm' hd' hc' hm' hs1 hs2)
theorem cl_40 : CWV RL 40 yX11_ends mi_X11_ends := tb_r [594, 595, 596, 97, 597] (by decide +kernel)
theorem nl_40 : ynm yX11_ends 2 := ⟨⟨by decide +kernel, by decide +kernel⟩, by decide +kernel⟩
theorem cl_43 : CWV RL 43 yX12_ends mi_X12_ends := tb_r [1388, 1389, 1390, 110, 1391] (by decide +kernel)
theorem nl_43 : ynm yX12_ends 2 := ⟨⟨by decide +kernel, by decide +kernel⟩, by decide +kernel⟩
theorem law_ends (hX : XS b L xs A x) (hL : L ≤ 3072) (hi : 0 ≤ i ∧ i + 6 ≤ L) (hEC : eOK layC (wE E fC)) (hEM : eOK layM (wE E fM)) (kk : KK E A Q fC fM b i x) (hd : okD d) (hc : CR d σc) (hm : MR d σm) (rc : RS σc) (rm : RS σm) : NL E A Q fC fM b i 424 [] σc σm x := by
  refine l_C (dc D_cL_law_4 34 rfl) ?_
  refine l_arg 1 (dc D_cL_law_4 35 rfl) (dc D_cL_law_4 36 rfl) (dc D_cL_law_4 37 rfl) (dc D_cL_law_4 38 rfl) (dc D_cL_law_4 39 rfl) ⟨rfl, by decide⟩ hX hL hi ?_
  refine l_arg 2 (dc D_cL_law_5 0 rfl) (dc D_cL_law_5 1 rfl) (dc D_cL_law_5 2 rfl) (dc D_cL_law_5 3 rfl) (dc D_cL_law_5 4 rfl) ⟨rfl, by decide⟩ hX hL hi ?_
  refine l_callC (n0 := 2) (dc D_cL_law_5 5 rfl) cl_40 nl_40 (CX11_ends hEC (xz xs i 1) (xz xs i 2) (Rg_of _) (Rg_of _) σc rc (p_ends _ _ d σc σm hd hc hm)) rfl rfl rfl rfl rfl rfl rfl (fun z1 σc' hz1 hs1 h1 => ?_)
  refine l_M (dc D_cL_law_5 6 rfl) ?_
  refine l_arg 1 (dc D_cL_law_5 7 rfl) (dc D_cL_law_5 8 rfl) (dc D_cL_law_5 9 rfl) (dc D_cL_law_5 10 rfl) (dc D_cL_law_5 11 rfl) ⟨rfl, by decide⟩ hX hL hi ?_
  refine l_arg 2 (dc D_cL_law_5 12 rfl) (dc D_cL_law_5 13 rfl) (dc D_cL_law_5 14 rfl) (dc D_cL_law_5 15 rfl) (dc D_cL_law_5 16 rfl) ⟨rfl, by decide⟩ hX hL hi ?_
  refine l_callM (n0 := 2) (dc D_cL_law_5 17 rfl) cl_43 nl_43 (CX12_ends hEM (xz xs i 1) (xz xs i 2) (Rg_of _) (Rg_of _) σm rm h1) rfl rfl rfl rfl rfl rfl rfl (fun z2 σm' hz2 hs2 h2 => ?_)
  obtain ⟨e, d', hd', hc', hm'⟩ := h2
  exact l_same (dc D_cL_law_5 18 rfl) e rfl (kk d' σc' σm' hd' hc' hm' hs1 hs2)
theorem cl_44 : CWV RL 44 yX11_most mi_X11_most := tb_r [598, 599, 600, 97, 601] (by decide +kernel)
theorem nl_44 : ynm yX11_most 0 := ⟨⟨by decide +kernel, by decide +kernel⟩, by decide +kernel⟩
theorem cl_47 : CWV RL 47 yX12_most mi_X12_most := tb_r [1392, 1393, 1394, 110, 1395] (by decide +kernel)
theorem nl_47 : ynm yX12_most 0 := ⟨⟨by decide +kernel, by decide +kernel⟩, by decide +kernel⟩
theorem law_most (hX : XS b L xs A x) (hL : L ≤ 3072) (hi : 0 ≤ i ∧ i + 6 ≤ L) (hEC : eOK layC (wE E fC)) (hEM : eOK layM (wE E fM)) (kk : KK E A Q fC fM b i x) (hd : okD d) (hc : CR d σc) (hm : MR d σm) (rc : RS σc) (rm : RS σm) : NL E A Q fC fM b i 457 [] σc σm x := by
  refine l_C (dc D_cL_law_5 21 rfl) ?_
  refine l_callC (n0 := 0) (dc D_cL_law_5 22 rfl) cl_44 nl_44 (CX11_most hEC  σc rc (p_most  d σc σm hd hc hm)) rfl rfl rfl rfl rfl rfl rfl (fun z1 σc' hz1 hs1 h1 => ?_)
  refine l_M (dc D_cL_law_5 23 rfl) ?_
  refine l_callM (n0 := 0) (dc D_cL_law_5 24 rfl) cl_47 nl_47 (CX12_most hEM  σm rm h1) rfl rfl rfl rfl rfl rfl rfl (fun z2 σm' hz2 hs2 h2 => ?_)
  obtain ⟨e, d', hd', hc', hm'⟩ := h2
  exact l_same (dc D_cL_law_5 25 rfl) e rfl (kk d' σc' σm' hd' hc' hm' hs1 hs2)
theorem cl_48 : CWV RL 48 yX11_water mi_X11_water := tb_r [659, 660, 661, 97, 662] (by decide +kernel)
theorem nl_48 : ynm yX11_water 1 := ⟨⟨by decide +kernel, by decide +kernel⟩, by decide +kernel⟩
theorem cl_52 : CWV RL 52 yX12_water mi_X12_water := tb_r [1442, 1443, 1444, 110, 1445] (by decide +kernel)
theorem nl_52 : ynm yX12_water 1 := ⟨⟨by decide +kernel, by decide +kernel⟩, by decide +kernel⟩
theorem law_water (hX : XS b L xs A x) (hL : L ≤ 3072) (hi : 0 ≤ i ∧ i + 6 ≤ L) (hEC : eOK layC (wE E fC)) (hEM : eOK layM (wE E fM)) (kk : KK E A Q fC fM b i x) (hd : okD d) (hc : CR d σc) (hm : MR d σm) (rc : RS σc) (rm : RS σm) : NL E A Q fC fM b i 470 [] σc σm x := by
  refine l_C (dc D_cL_law_5 28 rfl) ?_
  refine l_arg 1 (dc D_cL_law_5 29 rfl) (dc D_cL_law_5 30 rfl) (dc D_cL_law_5 31 rfl) (dc D_cL_law_5 32 rfl) (dc D_cL_law_5 33 rfl) ⟨rfl, by decide⟩ hX hL hi ?_
  refine l_callC (n0 := 1) (dc D_cL_law_5 34 rfl) cl_48 nl_48 (CX11_water hEC (xz xs i 1) (Rg_of _) σc rc (p_water _ d σc σm hd hc hm)) rfl rfl rfl rfl rfl rfl rfl (fun z1 σc' hz1 hs1 h1 => ?_)
  refine l_M (dc D_cL_law_5 35 rfl) ?_
  refine l_arg 1 (dc D_cL_law_5 36 rfl) (dc D_cL_law_5 37 rfl) (dc D_cL_law_5 38 rfl) (dc D_cL_law_5 39 rfl) (dc D_cL_law_6 0 rfl) ⟨rfl, by decide⟩ hX hL hi ?_
  refine l_callM (n0 := 1) (dc D_cL_law_6 1 rfl) cl_52 nl_52 (CX12_water hEM (xz xs i 1) (Rg_of _) σm rm h1) rfl rfl rfl rfl rfl rfl rfl (fun z2 σm' hz2 hs2 h2 => ?_)
  obtain ⟨e, d', hd', hc', hm'⟩ := h2
  exact l_same (dc D_cL_law_6 2 rfl) e rfl (kk d' σc' σm' hd' hc' hm' hs1 hs2)
theorem cl_53 : CWV RL 53 yX11_ways mi_X11_ways := tb_r [663, 664, 665, 97, 666] (by decide +kernel)
theorem nl_53 : ynm yX11_ways 2 := ⟨⟨by decide +kernel, by decide +kernel⟩, by decide +kernel⟩
theorem cl_56 : CWV RL 56 yX12_ways mi_X12_ways := tb_r [1446, 1447, 1448, 110, 1449] (by decide +kernel)
theorem nl_56 : ynm yX12_ways 2 := ⟨⟨by decide +kernel, by decide +kernel⟩, by decide +kernel⟩
theorem law_ways (hX : XS b L xs A x) (hL : L ≤ 3072) (hi : 0 ≤ i ∧ i + 6 ≤ L) (hEC : eOK layC (wE E fC)) (hEM : eOK layM (wE E fM)) (kk : KK E A Q fC fM b i x) (hd : okD d) (hc : CR d σc) (hm : MR d σm) (rc : RS σc) (rm : RS σm) : NL E A Q fC fM b i 493 [] σc σm x := by
  refine l_C (dc D_cL_law_6 5 rfl) ?_
  refine l_arg 1 (dc D_cL_law_6 6 rfl) (dc D_cL_law_6 7 rfl) (dc D_cL_law_6 8 rfl) (dc D_cL_law_6 9 rfl) (dc D_cL_law_6 10 rfl) ⟨rfl, by decide⟩ hX hL hi ?_
  refine l_arg 2 (dc D_cL_law_6 11 rfl) (dc D_cL_law_6 12 rfl) (dc D_cL_law_6 13 rfl) (dc D_cL_law_6 14 rfl) (dc D_cL_law_6 15 rfl) ⟨rfl, by decide⟩ hX hL hi ?_
  refine l_callC (n0 := 2) (dc D_cL_law_6 16 rfl) cl_53 nl_53 (CX11_ways hEC (xz xs i 1) (xz xs i 2) (Rg_of _) (Rg_of _) σc rc (p_ways _ _ (Rg_of _) (Rg_of _) d σc σm hd hc hm)) rfl rfl rfl rfl rfl rfl rfl (fun z1 σc' hz1 hs1 h1 => ?_)
  refine l_M (dc D_cL_law_6 17 rfl) ?_
  refine l_arg 1 (dc D_cL_law_6 18 rfl) (dc D_cL_law_6 19 rfl) (dc D_cL_law_6 20 rfl) (dc D_cL_law_6 21 rfl) (dc D_cL_law_6 22 rfl) ⟨rfl, by decide⟩ hX hL hi ?_
  refine l_arg 2 (dc D_cL_law_6 23 rfl) (dc D_cL_law_6 24 rfl) (dc D_cL_law_6 25 rfl) (dc D_cL_law_6 26 rfl) (dc D_cL_law_6 27 rfl) ⟨rfl, by decide⟩ hX hL hi ?_
  refine l_callM (n0 := 2) (dc D_cL_law_6 28 rfl) cl_56 nl_56 (CX12_ways hEM (xz xs i 1) (xz xs i 2) (Rg_of _) (Rg_of _) σm rm h1) rfl rfl rfl rfl rfl rfl rfl (fun z2 σm' hz2 hs2 h2 => ?_)
  obtain ⟨e, d', hd', hc', hm'⟩ := h2
  exact l_same (dc D_cL_law_6 29 rfl) e rfl (kk d' σc' σm' hd' hc' hm' hs1 hs2)
theorem cl_57 : CWV RL 57 yX11_byHeights mi_X11_byHeights := tb_r [667, 668, 669, 97, 670] (by decide +kernel)
theorem nl_57 : ynm yX11_byHeights 1 := ⟨⟨by decide +kernel, by decide +kernel⟩, by decide +kernel⟩
theorem cl_60 : CWV RL 60 yX12_byHeights mi_X12_byHeights := tb_r [1450, 1451, 1452, 110, 1453] (by decide +kernel)
theorem nl_60 : ynm yX12_byHeights 1 := ⟨⟨by decide +kernel, by decide +kernel⟩, by decide +kernel⟩
theorem law_byHeights (hX : XS b L xs A x) (hL : L ≤ 3072) (hi : 0 ≤ i ∧ i + 6 ≤ L) (hEC : eOK layC (wE E fC)) (hEM : eOK layM (wE E fM)) (kk : KK E A Q fC fM b i x) (hd : okD d) (hc : CR d σc) (hm : MR d σm) (rc : RS σc) (rm : RS σm) : NL E A Q fC fM b i 526 [] σc σm x := by
  refine l_C (dc D_cL_law_6 32 rfl) ?_
  refine l_arg 1 (dc D_cL_law_6 33 rfl) (dc D_cL_law_6 34 rfl) (dc D_cL_law_6 35 rfl) (dc D_cL_law_6 36 rfl) (dc D_cL_law_6 37 rfl) ⟨rfl, by decide⟩ hX hL hi ?_
  refine l_callC (n0 := 1) (dc D_cL_law_6 38 rfl) cl_57 nl_57 (CX11_byHeights hEC (xz xs i 1) (Rg_of _) σc rc (p_byHeights _ d σc σm hd hc hm)) rfl rfl rfl rfl rfl rfl rfl (fun z1 σc' hz1 hs1 h1 => ?_)
  refine l_M (dc D_cL_law_6 39 rfl) ?_
  refine l_arg 1 (dc D_cL_law_7 0 rfl) (dc D_cL_law_7 1 rfl) (dc D_cL_law_7 2 rfl) (dc D_cL_law_7 3 rfl) (dc D_cL_law_7 4 rfl) ⟨rfl, by decide⟩ hX hL hi ?_
  refine l_callM (n0 := 1) (dc D_cL_law_7 5 rfl) cl_60 nl_60 (CX12_byHeights hEM (xz xs i 1) (Rg_of _) σm rm h1) rfl rfl rfl rfl rfl rfl rfl (fun z2 σm' hz2 hs2 h2 => ?_)
  obtain ⟨e, d', hd', hc', hm'⟩ := h2
  exact l_same (dc D_cL_law_7 6 rfl) e rfl (kk d' σc' σm' hd' hc' hm' hs1 hs2)
theorem cl_61 : CWV RL 61 yX11_heights mi_X11_heights := tb_r [708, 709, 710, 97, 711] (by decide +kernel)
theorem nl_61 : ynm yX11_heights 2 := ⟨⟨by decide +kernel, by decide +kernel⟩, by decide +kernel⟩
theorem cl_64 : CWV RL 64 yX12_heights mi_X12_heights := tb_r [1474, 1475, 1476, 110, 1477] (by decide +kernel)
theorem nl_64 : ynm yX12_heights 2 := ⟨⟨by decide +kernel, by decide +kernel⟩, by decide +kernel⟩
theorem law_heights (hX : XS b L xs A x) (hL : L ≤ 3072) (hi : 0 ≤ i ∧ i + 6 ≤ L) (hEC : eOK layC (wE E fC)) (hEM : eOK layM (wE E fM)) (kk : KK E A Q fC fM b i x) (hd : okD d) (hc : CR d σc) (hm : MR d σm) (rc : RS σc) (rm : RS σm) : NL E A Q fC fM b i 549 [] σc σm x := by
  refine l_C (dc D_cL_law_7 9 rfl) ?_
  refine l_arg 1 (dc D_cL_law_7 10 rfl) (dc D_cL_law_7 11 rfl) (dc D_cL_law_7 12 rfl) (dc D_cL_law_7 13 rfl) (dc D_cL_law_7 14 rfl) ⟨rfl, by decide⟩ hX hL hi ?_
  refine l_arg 2 (dc D_cL_law_7 15 rfl) (dc D_cL_law_7 16 rfl) (dc D_cL_law_7 17 rfl) (dc D_cL_law_7 18 rfl) (dc D_cL_law_7 19 rfl) ⟨rfl, by decide⟩ hX hL hi ?_
  refine l_callC (n0 := 2) (dc D_cL_law_7 20 rfl) cl_61 nl_61 (CX11_heights hEC (xz xs i 1) (xz xs i 2) (Rg_of _) (Rg_of _) σc rc (p_heights _ _ d σc σm hd hc hm)) rfl rfl rfl rfl rfl rfl rfl (fun z1 σc' hz1 hs1 h1 => ?_)
  refine l_M (dc D_cL_law_7 21 rfl) ?_
  refine l_arg 1 (dc D_cL_law_7 22 rfl) (dc D_cL_law_7 23 rfl) (dc D_cL_law_7 24 rfl) (dc D_cL_law_7 25 rfl) (dc D_cL_law_7 26 rfl) ⟨rfl, by decide⟩ hX hL hi ?_
  refine l_arg 2 (dc D_cL_law_7 27 rfl) (dc D_cL_law_7 28 rfl) (dc D_cL_law_7 29 rfl) (dc D_cL_law_7 30 rfl) (dc D_cL_law_7 31 rfl) ⟨rfl, by decide⟩ hX hL hi ?_
  refine l_callM (n0 := 2) (dc D_cL_law_7 32 rfl) cl_64 nl_64 (CX12_heights hEM (xz xs i 1) (xz xs i 2) (Rg_of _) (Rg_of _) σm rm h1) rfl rfl rfl rfl rfl rfl rfl (fun z2 σm' hz2 hs2 h2 => ?_)
  obtain ⟨e, d', hd', hc', hm'⟩ := h2
  exact l_same (dc D_cL_law_7 33 rfl) e rfl (kk d' σc' σm' hd' hc' hm' hs1 hs2)
theorem cl_65 : CWV RL 65 yX11_near mi_X11_near := tb_r [712, 713, 714, 97, 715] (by decide +kernel)
theorem nl_65 : ynm yX11_near 0 := ⟨⟨by decide +kernel, by decide +kernel⟩, by decide +kernel⟩
theorem cl_68 : CWV RL 68 yX12_near mi_X12_near := tb_r [1478, 1479, 1480, 110, 1481] (by decide +kernel)
theorem nl_68 : ynm yX12_near 0 := ⟨⟨by decide +kernel, by decide +kernel⟩, by decide +kernel⟩
theorem law_near (hX : XS b L xs A x) (hL : L ≤ 3072) (hi : 0 ≤ i ∧ i + 6 ≤ L) (hEC : eOK layC (wE E fC)) (hEM : eOK layM (wE E fM)) (kk : KK E A Q fC fM b i x) (hd : okD d) (hc : CR d σc) (hm : MR d σm) (rc : RS σc) (rm : RS σm) : NL E A Q fC fM b i 582 [] σc σm x := by
  refine l_C (dc D_cL_law_7 36 rfl) ?_
  refine l_callC (n0 := 0) (dc D_cL_law_7 37 rfl) cl_65 nl_65 (CX11_near hEC  σc rc (p_near  d σc σm hd hc hm)) rfl rfl rfl rfl rfl rfl rfl (fun z1 σc' hz1 hs1 h1 => ?_)
  refine l_M (dc D_cL_law_7 38 rfl) ?_
  refine l_callM (n0 := 0) (dc D_cL_law_7 39 rfl) cl_68 nl_68 (CX12_near hEM  σm rm h1) rfl rfl rfl rfl rfl rfl rfl (fun z2 σm' hz2 hs2 h2 => ?_)
  obtain ⟨e, d', hd', hc', hm'⟩ := h2
  exact l_same (dc D_cL_law_8 0 rfl) e rfl (kk d' σc' σm' hd' hc' hm' hs1 hs2)
theorem cl_69 : CWV RL 69 yX11_far mi_X11_far := tb_r [716, 717, 718, 97, 719] (by decide +kernel)
theorem nl_69 : ynm yX11_far 0 := ⟨⟨by decide +kernel, by decide +kernel⟩, by decide +kernel⟩
theorem cl_72 : CWV RL 72 yX12_far mi_X12_far := tb_r [1486, 1487, 1488, 110, 1489] (by decide +kernel)
theorem nl_72 : ynm yX12_far 0 := ⟨⟨by decide +kernel, by decide +kernel⟩, by decide +kernel⟩
theorem law_far (hX : XS b L xs A x) (hL : L ≤ 3072) (hi : 0 ≤ i ∧ i + 6 ≤ L) (hEC : eOK layC (wE E fC)) (hEM : eOK layM (wE E fM)) (kk : KK E A Q fC fM b i x) (hd : okD d) (hc : CR d σc) (hm : MR d σm) (rc : RS σc) (rm : RS σm) : NL E A Q fC fM b i 595 [] σc σm x := by
  refine l_C (dc D_cL_law_8 3 rfl) ?_
  refine l_callC (n0 := 0) (dc D_cL_law_8 4 rfl) cl_69 nl_69 (CX11_far hEC  σc rc (p_far  d σc σm hd hc hm)) rfl rfl rfl rfl rfl rfl rfl (fun z1 σc' hz1 hs1 h1 => ?_)
  refine l_M (dc D_cL_law_8 5 rfl) ?_
  refine l_callM (n0 := 0) (dc D_cL_law_8 6 rfl) cl_72 nl_72 (CX12_far hEM  σm rm h1) rfl rfl rfl rfl rfl rfl rfl (fun z2 σm' hz2 hs2 h2 => ?_)
  obtain ⟨e, d', hd', hc', hm'⟩ := h2
  exact l_same (dc D_cL_law_8 7 rfl) e rfl (kk d' σc' σm' hd' hc' hm' hs1 hs2)
theorem cl_73 : CWV RL 73 yX11_cut mi_X11_cut := tb_r [720, 721, 722, 97, 723] (by decide +kernel)
theorem nl_73 : ynm yX11_cut 1 := ⟨⟨by decide +kernel, by decide +kernel⟩, by decide +kernel⟩
theorem cl_76 : CWV RL 76 yX12_cut mi_X12_cut := tb_r [1490, 1491, 1492, 110, 1493] (by decide +kernel)
theorem nl_76 : ynm yX12_cut 1 := ⟨⟨by decide +kernel, by decide +kernel⟩, by decide +kernel⟩
theorem law_cut (hX : XS b L xs A x) (hL : L ≤ 3072) (hi : 0 ≤ i ∧ i + 6 ≤ L) (hEC : eOK layC (wE E fC)) (hEM : eOK layM (wE E fM)) (kk : KK E A Q fC fM b i x) (hd : okD d) (hc : CR d σc) (hm : MR d σm) (rc : RS σc) (rm : RS σm) : NL E A Q fC fM b i 608 [] σc σm x := by
  refine l_C (dc D_cL_law_8 10 rfl) ?_
  refine l_arg 1 (dc D_cL_law_8 11 rfl) (dc D_cL_law_8 12 rfl) (dc D_cL_law_8 13 rfl) (dc D_cL_law_8 14 rfl) (dc D_cL_law_8 15 rfl) ⟨rfl, by decide⟩ hX hL hi ?_
  refine l_callC (n0 := 1) (dc D_cL_law_8 16 rfl) cl_73 nl_73 (CX11_cut hEC (xz xs i 1) (Rg_of _) σc rc (p_cut _ d σc σm hd hc hm)) rfl rfl rfl rfl rfl rfl rfl (fun z1 σc' hz1 hs1 h1 => ?_)
  refine l_M (dc D_cL_law_8 17 rfl) ?_
  refine l_arg 1 (dc D_cL_law_8 18 rfl) (dc D_cL_law_8 19 rfl) (dc D_cL_law_8 20 rfl) (dc D_cL_law_8 21 rfl) (dc D_cL_law_8 22 rfl) ⟨rfl, by decide⟩ hX hL hi ?_
  refine l_callM (n0 := 1) (dc D_cL_law_8 23 rfl) cl_76 nl_76 (CX12_cut hEM (xz xs i 1) (Rg_of _) σm rm h1) rfl rfl rfl rfl rfl rfl rfl (fun z2 σm' hz2 hs2 h2 => ?_)
  obtain ⟨e, d', hd', hc', hm'⟩ := h2
  exact l_same (dc D_cL_law_8 24 rfl) e rfl (kk d' σc' σm' hd' hc' hm' hs1 hs2)
theorem cl_77 : CWV RL 77 yX11_wide mi_X11_wide := tb_r [725, 726, 727, 97, 728] (by decide +kernel)
theorem nl_77 : ynm yX11_wide 0 := ⟨⟨by decide +kernel, by decide +kernel⟩, by decide +kernel⟩
theorem cl_80 : CWV RL 80 yX12_wide mi_X12_wide := tb_r [1496, 1497, 1498, 110, 1499] (by decide +kernel)
theorem nl_80 : ynm yX12_wide 0 := ⟨⟨by decide +kernel, by decide +kernel⟩, by decide +kernel⟩
theorem law_wide (hX : XS b L xs A x) (hL : L ≤ 3072) (hi : 0 ≤ i ∧ i + 6 ≤ L) (hEC : eOK layC (wE E fC)) (hEM : eOK layM (wE E fM)) (kk : KK E A Q fC fM b i x) (hd : okD d) (hc : CR d σc) (hm : MR d σm) (rc : RS σc) (rm : RS σm) : NL E A Q fC fM b i 631 [] σc σm x := by
  refine l_C (dc D_cL_law_8 27 rfl) ?_
  refine l_callC (n0 := 0) (dc D_cL_law_8 28 rfl) cl_77 nl_77 (CX11_wide hEC  σc rc (p_wide  d σc σm hd hc hm)) rfl rfl rfl rfl rfl rfl rfl (fun z1 σc' hz1 hs1 h1 => ?_)
  refine l_M (dc D_cL_law_8 29 rfl) ?_
  refine l_callM (n0 := 0) (dc D_cL_law_8 30 rfl) cl_80 nl_80 (CX12_wide hEM  σm rm h1) rfl rfl rfl rfl rfl rfl rfl (fun z2 σm' hz2 hs2 h2 => ?_)
  obtain ⟨e, d', hd', hc', hm'⟩ := h2
  exact l_same (dc D_cL_law_8 31 rfl) e rfl (kk d' σc' σm' hd' hc' hm' hs1 hs2)
theorem cl_81 : CWV RL 81 yX11_narrow mi_X11_narrow := tb_r [729, 730, 731, 97, 732] (by decide +kernel)
theorem nl_81 : ynm yX11_narrow 0 := ⟨⟨by decide +kernel, by decide +kernel⟩, by decide +kernel⟩
theorem cl_84 : CWV RL 84 yX12_narrow mi_X12_narrow := tb_r [1504, 1505, 1506, 110, 1507] (by decide +kernel)
theorem nl_84 : ynm yX12_narrow 0 := ⟨⟨by decide +kernel, by decide +kernel⟩, by decide +kernel⟩
theorem law_narrow (hX : XS b L xs A x) (hL : L ≤ 3072) (hi : 0 ≤ i ∧ i + 6 ≤ L) (hEC : eOK layC (wE E fC)) (hEM : eOK layM (wE E fM)) (kk : KK E A Q fC fM b i x) (hd : okD d) (hc : CR d σc) (hm : MR d σm) (rc : RS σc) (rm : RS σm) : NL E A Q fC fM b i 644 [] σc σm x := by
  refine l_C (dc D_cL_law_8 34 rfl) ?_
  refine l_callC (n0 := 0) (dc D_cL_law_8 35 rfl) cl_81 nl_81 (CX11_narrow hEC  σc rc (p_narrow  d σc σm hd hc hm)) rfl rfl rfl rfl rfl rfl rfl (fun z1 σc' hz1 hs1 h1 => ?_)
  refine l_M (dc D_cL_law_8 36 rfl) ?_
  refine l_callM (n0 := 0) (dc D_cL_law_8 37 rfl) cl_84 nl_84 (CX12_narrow hEM  σm rm h1) rfl rfl rfl rfl rfl rfl rfl (fun z2 σm' hz2 hs2 h2 => ?_)
  obtain ⟨e, d', hd', hc', hm'⟩ := h2
  exact l_same (dc D_cL_law_8 38 rfl) e rfl (kk d' σc' σm' hd' hc' hm' hs1 hs2)
theorem cl_85 : CWV RL 85 yX11_more mi_X11_more := tb_r [735, 736, 737, 97, 738] (by decide +kernel)
theorem nl_85 : ynm yX11_more 2 := ⟨⟨by decide +kernel, by decide +kernel⟩, by decide +kernel⟩
theorem cl_88 : CWV RL 88 yX12_more mi_X12_more := tb_r [1508, 1509, 1510, 110, 1511] (by decide +kernel)
theorem nl_88 : ynm yX12_more 2 := ⟨⟨by decide +kernel, by decide +kernel⟩, by decide +kernel⟩
theorem law_more (hX : XS b L xs A x) (hL : L ≤ 3072) (hi : 0 ≤ i ∧ i + 6 ≤ L) (hEC : eOK layC (wE E fC)) (hEM : eOK layM (wE E fM)) (kk : KK E A Q fC fM b i x) (hd : okD d) (hc : CR d σc) (hm : MR d σm) (rc : RS σc) (rm : RS σm) : NL E A Q fC fM b i 657 [] σc σm x := by
  refine l_C (dc D_cL_law_9 1 rfl) ?_
  refine l_arg 1 (dc D_cL_law_9 2 rfl) (dc D_cL_law_9 3 rfl) (dc D_cL_law_9 4 rfl) (dc D_cL_law_9 5 rfl) (dc D_cL_law_9 6 rfl) ⟨rfl, by decide⟩ hX hL hi ?_
  refine l_arg 2 (dc D_cL_law_9 7 rfl) (dc D_cL_law_9 8 rfl) (dc D_cL_law_9 9 rfl) (dc D_cL_law_9 10 rfl) (dc D_cL_law_9 11 rfl) ⟨rfl, by decide⟩ hX hL hi ?_
  refine l_callC (n0 := 2) (dc D_cL_law_9 12 rfl) cl_85 nl_85 (CX11_more hEC (xz xs i 1) (xz xs i 2) (Rg_of _) (Rg_of _) σc rc (p_more _ _ d σc σm hd hc hm)) rfl rfl rfl rfl rfl rfl rfl (fun z1 σc' hz1 hs1 h1 => ?_)
  refine l_M (dc D_cL_law_9 13 rfl) ?_
  refine l_arg 1 (dc D_cL_law_9 14 rfl) (dc D_cL_law_9 15 rfl) (dc D_cL_law_9 16 rfl) (dc D_cL_law_9 17 rfl) (dc D_cL_law_9 18 rfl) ⟨rfl, by decide⟩ hX hL hi ?_
  refine l_arg 2 (dc D_cL_law_9 19 rfl) (dc D_cL_law_9 20 rfl) (dc D_cL_law_9 21 rfl) (dc D_cL_law_9 22 rfl) (dc D_cL_law_9 23 rfl) ⟨rfl, by decide⟩ hX hL hi ?_
  refine l_callM (n0 := 2) (dc D_cL_law_9 24 rfl) cl_88 nl_88 (CX12_more hEM (xz xs i 1) (xz xs i 2) (Rg_of _) (Rg_of _) σm rm h1) rfl rfl rfl rfl rfl rfl rfl (fun z2 σm' hz2 hs2 h2 => ?_)
  obtain ⟨e, d', hd', hc', hm'⟩ := h2
  exact l_same (dc D_cL_law_9 25 rfl) e rfl (kk d' σc' σm' hd' hc' hm' hs1 hs2)
theorem cl_89 : CWV RL 89 yX11_loss mi_X11_loss := tb_r [797, 798, 799, 97, 800] (by decide +kernel)
theorem nl_89 : ynm yX11_loss 1 := ⟨⟨by decide +kernel, by decide +kernel⟩, by decide +kernel⟩
theorem cl_92 : CWV RL 92 yX12_loss mi_X12_loss := tb_r [1512, 1513, 1514, 110, 1515] (by decide +kernel)
theorem nl_92 : ynm yX12_loss 1 := ⟨⟨by decide +kernel, by decide +kernel⟩, by decide +kernel⟩
theorem law_loss (hX : XS b L xs A x) (hL : L ≤ 3072) (hi : 0 ≤ i ∧ i + 6 ≤ L) (hEC : eOK layC (wE E fC)) (hEM : eOK layM (wE E fM)) (kk : KK E A Q fC fM b i x) (hd : okD d) (hc : CR d σc) (hm : MR d σm) (rc : RS σc) (rm : RS σm) : NL E A Q fC fM b i 690 [] σc σm x := by
  refine l_C (dc D_cL_law_9 28 rfl) ?_
  refine l_arg 1 (dc D_cL_law_9 29 rfl) (dc D_cL_law_9 30 rfl) (dc D_cL_law_9 31 rfl) (dc D_cL_law_9 32 rfl) (dc D_cL_law_9 33 rfl) ⟨rfl, by decide⟩ hX hL hi ?_
  refine l_callC (n0 := 1) (dc D_cL_law_9 34 rfl) cl_89 nl_89 (CX11_loss hEC (xz xs i 1) (Rg_of _) σc rc (p_loss _ (Rg_of _) d σc σm hd hc hm)) rfl rfl rfl rfl rfl rfl rfl (fun z1 σc' hz1 hs1 h1 => ?_)
  refine l_M (dc D_cL_law_9 35 rfl) ?_
  refine l_arg 1 (dc D_cL_law_9 36 rfl) (dc D_cL_law_9 37 rfl) (dc D_cL_law_9 38 rfl) (dc D_cL_law_9 39 rfl) (dc D_cL_law_10 0 rfl) ⟨rfl, by decide⟩ hX hL hi ?_
  refine l_callM (n0 := 1) (dc D_cL_law_10 1 rfl) cl_92 nl_92 (CX12_loss hEM (xz xs i 1) (Rg_of _) σm rm h1) rfl rfl rfl rfl rfl rfl rfl (fun z2 σm' hz2 hs2 h2 => ?_)
  obtain ⟨e, d', hd', hc', hm'⟩ := h2
  exact l_same (dc D_cL_law_10 2 rfl) e rfl (kk d' σc' σm' hd' hc' hm' hs1 hs2)
theorem cl_93 : CWV RL 93 yX11_worst mi_X11_worst := tb_r [805, 806, 807, 97, 808] (by decide +kernel)
theorem nl_93 : ynm yX11_worst 1 := ⟨⟨by decide +kernel, by decide +kernel⟩, by decide +kernel⟩
theorem cl_96 : CWV RL 96 yX12_worst mi_X12_worst := tb_r [1520, 1521, 1522, 110, 1523] (by decide +kernel)
theorem nl_96 : ynm yX12_worst 1 := ⟨⟨by decide +kernel, by decide +kernel⟩, by decide +kernel⟩
theorem law_worst (hX : XS b L xs A x) (hL : L ≤ 3072) (hi : 0 ≤ i ∧ i + 6 ≤ L) (hEC : eOK layC (wE E fC)) (hEM : eOK layM (wE E fM)) (kk : KK E A Q fC fM b i x) (hd : okD d) (hc : CR d σc) (hm : MR d σm) (rc : RS σc) (rm : RS σm) : NL E A Q fC fM b i 713 [] σc σm x := by
  refine l_C (dc D_cL_law_10 5 rfl) ?_
  refine l_arg 1 (dc D_cL_law_10 6 rfl) (dc D_cL_law_10 7 rfl) (dc D_cL_law_10 8 rfl) (dc D_cL_law_10 9 rfl) (dc D_cL_law_10 10 rfl) ⟨rfl, by decide⟩ hX hL hi ?_
  refine l_callC (n0 := 1) (dc D_cL_law_10 11 rfl) cl_93 nl_93 (CX11_worst hEC (xz xs i 1) (Rg_of _) σc rc (p_worst _ d σc σm hd hc hm)) rfl rfl rfl rfl rfl rfl rfl (fun z1 σc' hz1 hs1 h1 => ?_)
  refine l_M (dc D_cL_law_10 12 rfl) ?_
  refine l_arg 1 (dc D_cL_law_10 13 rfl) (dc D_cL_law_10 14 rfl) (dc D_cL_law_10 15 rfl) (dc D_cL_law_10 16 rfl) (dc D_cL_law_10 17 rfl) ⟨rfl, by decide⟩ hX hL hi ?_
  refine l_callM (n0 := 1) (dc D_cL_law_10 18 rfl) cl_96 nl_96 (CX12_worst hEM (xz xs i 1) (Rg_of _) σm rm h1) rfl rfl rfl rfl rfl rfl rfl (fun z2 σm' hz2 hs2 h2 => ?_)
  obtain ⟨e, d', hd', hc', hm'⟩ := h2
  exact l_same (dc D_cL_law_10 19 rfl) e rfl (kk d' σc' σm' hd' hc' hm' hs1 hs2)
theorem cl_97 : CWV RL 97 yX11_lines mi_X11_lines := tb_r [819, 820, 821, 97, 822] (by decide +kernel)
theorem nl_97 : ynm yX11_lines 2 := ⟨⟨by decide +kernel, by decide +kernel⟩, by decide +kernel⟩
theorem cl_100 : CWV RL 100 yX12_lines mi_X12_lines := tb_r [1524, 1525, 1526, 110, 1527] (by decide +kernel)
theorem nl_100 : ynm yX12_lines 2 := ⟨⟨by decide +kernel, by decide +kernel⟩, by decide +kernel⟩
theorem law_lines (hX : XS b L xs A x) (hL : L ≤ 3072) (hi : 0 ≤ i ∧ i + 6 ≤ L) (hEC : eOK layC (wE E fC)) (hEM : eOK layM (wE E fM)) (kk : KK E A Q fC fM b i x) (hd : okD d) (hc : CR d σc) (hm : MR d σm) (rc : RS σc) (rm : RS σm) : NL E A Q fC fM b i 736 [] σc σm x := by
  refine l_C (dc D_cL_law_10 22 rfl) ?_
  refine l_arg 1 (dc D_cL_law_10 23 rfl) (dc D_cL_law_10 24 rfl) (dc D_cL_law_10 25 rfl) (dc D_cL_law_10 26 rfl) (dc D_cL_law_10 27 rfl) ⟨rfl, by decide⟩ hX hL hi ?_
  refine l_arg 2 (dc D_cL_law_10 28 rfl) (dc D_cL_law_10 29 rfl) (dc D_cL_law_10 30 rfl) (dc D_cL_law_10 31 rfl) (dc D_cL_law_10 32 rfl) ⟨rfl, by decide⟩ hX hL hi ?_
  refine l_callC (n0 := 2) (dc D_cL_law_10 33 rfl) cl_97 nl_97 (CX11_lines hEC (xz xs i 1) (xz xs i 2) (Rg_of _) (Rg_of _) σc rc (p_lines _ _ (Rg_of _) (Rg_of _) d σc σm hd hc hm)) rfl rfl rfl rfl rfl rfl rfl (fun z1 σc' hz1 hs1 h1 => ?_)
  refine l_M (dc D_cL_law_10 34 rfl) ?_
  refine l_arg 1 (dc D_cL_law_10 35 rfl) (dc D_cL_law_10 36 rfl) (dc D_cL_law_10 37 rfl) (dc D_cL_law_10 38 rfl) (dc D_cL_law_10 39 rfl) ⟨rfl, by decide⟩ hX hL hi ?_
  refine l_arg 2 (dc D_cL_law_11 0 rfl) (dc D_cL_law_11 1 rfl) (dc D_cL_law_11 2 rfl) (dc D_cL_law_11 3 rfl) (dc D_cL_law_11 4 rfl) ⟨rfl, by decide⟩ hX hL hi ?_
  refine l_callM (n0 := 2) (dc D_cL_law_11 5 rfl) cl_100 nl_100 (CX12_lines hEM (xz xs i 1) (xz xs i 2) (Rg_of _) (Rg_of _) σm rm h1) rfl rfl rfl rfl rfl rfl rfl (fun z2 σm' hz2 hs2 h2 => ?_)
  obtain ⟨e, d', hd', hc', hm'⟩ := h2
  exact l_same (dc D_cL_law_11 6 rfl) e rfl (kk d' σc' σm' hd' hc' hm' hs1 hs2)
theorem cl_101 : CWV RL 101 yX11_bound mi_X11_bound := tb_r [846, 847, 848, 97, 849] (by decide +kernel)
theorem nl_101 : ynm yX11_bound 1 := ⟨⟨by decide +kernel, by decide +kernel⟩, by decide +kernel⟩
theorem cl_104 : CWV RL 104 yX12_bound mi_X12_bound := tb_r [1541, 1542, 1543, 110, 1544] (by decide +kernel)
theorem nl_104 : ynm yX12_bound 1 := ⟨⟨by decide +kernel, by decide +kernel⟩, by decide +kernel⟩
theorem law_bound (hX : XS b L xs A x) (hL : L ≤ 3072) (hi : 0 ≤ i ∧ i + 6 ≤ L) (hEC : eOK layC (wE E fC)) (hEM : eOK layM (wE E fM)) (kk : KK E A Q fC fM b i x) (hd : okD d) (hc : CR d σc) (hm : MR d σm) (rc : RS σc) (rm : RS σm) : NL E A Q fC fM b i 769 [] σc σm x := by
  refine l_C (dc D_cL_law_11 9 rfl) ?_
  refine l_arg 1 (dc D_cL_law_11 10 rfl) (dc D_cL_law_11 11 rfl) (dc D_cL_law_11 12 rfl) (dc D_cL_law_11 13 rfl) (dc D_cL_law_11 14 rfl) ⟨rfl, by decide⟩ hX hL hi ?_
  refine l_callC (n0 := 1) (dc D_cL_law_11 15 rfl) cl_101 nl_101 (CX11_bound hEC (xz xs i 1) (Rg_of _) σc rc (p_bound _ d σc σm hd hc hm)) rfl rfl rfl rfl rfl rfl rfl (fun z1 σc' hz1 hs1 h1 => ?_)
  refine l_M (dc D_cL_law_11 16 rfl) ?_
  refine l_arg 1 (dc D_cL_law_11 17 rfl) (dc D_cL_law_11 18 rfl) (dc D_cL_law_11 19 rfl) (dc D_cL_law_11 20 rfl) (dc D_cL_law_11 21 rfl) ⟨rfl, by decide⟩ hX hL hi ?_
  refine l_callM (n0 := 1) (dc D_cL_law_11 22 rfl) cl_104 nl_104 (CX12_bound hEM (xz xs i 1) (Rg_of _) σm rm h1) rfl rfl rfl rfl rfl rfl rfl (fun z2 σm' hz2 hs2 h2 => ?_)
  obtain ⟨e, d', hd', hc', hm'⟩ := h2
  exact l_same (dc D_cL_law_11 23 rfl) e rfl (kk d' σc' σm' hd' hc' hm' hs1 hs2)
theorem cl_105 : CWV RL 105 yX11_apart mi_X11_apart := tb_r [869, 870, 871, 97, 872] (by decide +kernel)
theorem nl_105 : ynm yX11_apart 1 := ⟨⟨by decide +kernel, by decide +kernel⟩, by decide +kernel⟩
theorem cl_108 : CWV RL 108 yX12_apart mi_X12_apart := tb_r [1566, 1567, 1568, 110, 1569] (by decide +kernel)
theorem nl_108 : ynm yX12_apart 1 := ⟨⟨by decide +kernel, by decide +kernel⟩, by decide +kernel⟩
theorem law_apart (hX : XS b L xs A x) (hL : L ≤ 3072) (hi : 0 ≤ i ∧ i + 6 ≤ L) (hEC : eOK layC (wE E fC)) (hEM : eOK layM (wE E fM)) (kk : KK E A Q fC fM b i x) (hd : okD d) (hc : CR d σc) (hm : MR d σm) (rc : RS σc) (rm : RS σm) : NL E A Q fC fM b i 792 [] σc σm x := by
  refine l_C (dc D_cL_law_11 26 rfl) ?_
  refine l_arg 1 (dc D_cL_law_11 27 rfl) (dc D_cL_law_11 28 rfl) (dc D_cL_law_11 29 rfl) (dc D_cL_law_11 30 rfl) (dc D_cL_law_11 31 rfl) ⟨rfl, by decide⟩ hX hL hi ?_
  refine l_callC (n0 := 1) (dc D_cL_law_11 32 rfl) cl_105 nl_105 (CX11_apart hEC (xz xs i 1) (Rg_of _) σc rc (p_apart _ d σc σm hd hc hm)) rfl rfl rfl rfl rfl rfl rfl (fun z1 σc' hz1 hs1 h1 => ?_)
  refine l_M (dc D_cL_law_11 33 rfl) ?_
  refine l_arg 1 (dc D_cL_law_11 34 rfl) (dc D_cL_law_11 35 rfl) (dc D_cL_law_11 36 rfl) (dc D_cL_law_11 37 rfl) (dc D_cL_law_11 38 rfl) ⟨rfl, by decide⟩ hX hL hi ?_
  refine l_callM (n0 := 1) (dc D_cL_law_11 39 rfl) cl_108 nl_108 (CX12_apart hEM (xz xs i 1) (Rg_of _) σm rm h1) rfl rfl rfl rfl rfl rfl rfl (fun z2 σm' hz2 hs2 h2 => ?_)
  obtain ⟨e, d', hd', hc', hm'⟩ := h2
  exact l_same (dc D_cL_law_12 0 rfl) e rfl (kk d' σc' σm' hd' hc' hm' hs1 hs2)
theorem cl_109 : CWV RL 109 yX11_hours mi_X11_hours := tb_r [877, 878, 879, 97, 880] (by decide +kernel)
theorem nl_109 : ynm yX11_hours 1 := ⟨⟨by decide +kernel, by decide +kernel⟩, by decide +kernel⟩
theorem cl_112 : CWV RL 112 yX12_hours mi_X12_hours := tb_r [1570, 1571, 1572, 110, 1573] (by decide +kernel)
theorem nl_112 : ynm yX12_hours 1 := ⟨⟨by decide +kernel, by decide +kernel⟩, by decide +kernel⟩
theorem law_hours (hX : XS b L xs A x) (hL : L ≤ 3072) (hi : 0 ≤ i ∧ i + 6 ≤ L) (hEC : eOK layC (wE E fC)) (hEM : eOK layM (wE E fM)) (kk : KK E A Q fC fM b i x) (hd : okD d) (hc : CR d σc) (hm : MR d σm) (rc : RS σc) (rm : RS σm) : NL E A Q fC fM b i 815 [] σc σm x := by
  refine l_C (dc D_cL_law_12 3 rfl) ?_
  refine l_arg 1 (dc D_cL_law_12 4 rfl) (dc D_cL_law_12 5 rfl) (dc D_cL_law_12 6 rfl) (dc D_cL_law_12 7 rfl) (dc D_cL_law_12 8 rfl) ⟨rfl, by decide⟩ hX hL hi ?_
  refine l_callC (n0 := 1) (dc D_cL_law_12 9 rfl) cl_109 nl_109 (CX11_hours hEC (xz xs i 1) (Rg_of _) σc rc (p_hours _ d σc σm hd hc hm)) rfl rfl rfl rfl rfl rfl rfl (fun z1 σc' hz1 hs1 h1 => ?_)
  refine l_M (dc D_cL_law_12 10 rfl) ?_
  refine l_arg 1 (dc D_cL_law_12 11 rfl) (dc D_cL_law_12 12 rfl) (dc D_cL_law_12 13 rfl) (dc D_cL_law_12 14 rfl) (dc D_cL_law_12 15 rfl) ⟨rfl, by decide⟩ hX hL hi ?_
  refine l_callM (n0 := 1) (dc D_cL_law_12 16 rfl) cl_112 nl_112 (CX12_hours hEM (xz xs i 1) (Rg_of _) σm rm h1) rfl rfl rfl rfl rfl rfl rfl (fun z2 σm' hz2 hs2 h2 => ?_)
  obtain ⟨e, d', hd', hc', hm'⟩ := h2
  exact l_same (dc D_cL_law_12 17 rfl) e rfl (kk d' σc' σm' hd' hc' hm' hs1 hs2)
theorem cl_113 : CWV RL 113 yX11_two mi_X11_two := tb_r [888, 889, 890, 97, 891] (by decide +kernel)
theorem nl_113 : ynm yX11_two 2 := ⟨⟨by decide +kernel, by decide +kernel⟩, by decide +kernel⟩
theorem cl_116 : CWV RL 116 yX12_two mi_X12_two := tb_r [1574, 1575, 1576, 110, 1577] (by decide +kernel)
theorem nl_116 : ynm yX12_two 2 := ⟨⟨by decide +kernel, by decide +kernel⟩, by decide +kernel⟩
theorem law_two (hX : XS b L xs A x) (hL : L ≤ 3072) (hi : 0 ≤ i ∧ i + 6 ≤ L) (hEC : eOK layC (wE E fC)) (hEM : eOK layM (wE E fM)) (kk : KK E A Q fC fM b i x) (hd : okD d) (hc : CR d σc) (hm : MR d σm) (rc : RS σc) (rm : RS σm) : NL E A Q fC fM b i 838 [] σc σm x := by
  refine l_C (dc D_cL_law_12 20 rfl) ?_
  refine l_arg 1 (dc D_cL_law_12 21 rfl) (dc D_cL_law_12 22 rfl) (dc D_cL_law_12 23 rfl) (dc D_cL_law_12 24 rfl) (dc D_cL_law_12 25 rfl) ⟨rfl, by decide⟩ hX hL hi ?_
  refine l_arg 2 (dc D_cL_law_12 26 rfl) (dc D_cL_law_12 27 rfl) (dc D_cL_law_12 28 rfl) (dc D_cL_law_12 29 rfl) (dc D_cL_law_12 30 rfl) ⟨rfl, by decide⟩ hX hL hi ?_
  refine l_callC (n0 := 2) (dc D_cL_law_12 31 rfl) cl_113 nl_113 (CX11_two hEC (xz xs i 1) (xz xs i 2) (Rg_of _) (Rg_of _) σc rc (p_two _ _ d σc σm hd hc hm)) rfl rfl rfl rfl rfl rfl rfl (fun z1 σc' hz1 hs1 h1 => ?_)
  refine l_M (dc D_cL_law_12 32 rfl) ?_
  refine l_arg 1 (dc D_cL_law_12 33 rfl) (dc D_cL_law_12 34 rfl) (dc D_cL_law_12 35 rfl) (dc D_cL_law_12 36 rfl) (dc D_cL_law_12 37 rfl) ⟨rfl, by decide⟩ hX hL hi ?_
  refine l_arg 2 (dc D_cL_law_12 38 rfl) (dc D_cL_law_12 39 rfl) (dc D_cL_law_13 0 rfl) (dc D_cL_law_13 1 rfl) (dc D_cL_law_13 2 rfl) ⟨rfl, by decide⟩ hX hL hi ?_
  refine l_callM (n0 := 2) (dc D_cL_law_13 3 rfl) cl_116 nl_116 (CX12_two hEM (xz xs i 1) (xz xs i 2) (Rg_of _) (Rg_of _) σm rm h1) rfl rfl rfl rfl rfl rfl rfl (fun z2 σm' hz2 hs2 h2 => ?_)
  obtain ⟨e, d', hd', hc', hm'⟩ := h2
  exact l_same (dc D_cL_law_13 4 rfl) e rfl (kk d' σc' σm' hd' hc' hm' hs1 hs2)
theorem cl_117 : CWV RL 117 yX11_reach mi_X11_reach := tb_r [912, 913, 914, 97, 915] (by decide +kernel)
theorem nl_117 : ynm yX11_reach 2 := ⟨⟨by decide +kernel, by decide +kernel⟩, by decide +kernel⟩
theorem cl_120 : CWV RL 120 yX12_reach mi_X12_reach := tb_r [1590, 1591, 1592, 110, 1593] (by decide +kernel)
theorem nl_120 : ynm yX12_reach 2 := ⟨⟨by decide +kernel, by decide +kernel⟩, by decide +kernel⟩
theorem law_reach (hX : XS b L xs A x) (hL : L ≤ 3072) (hi : 0 ≤ i ∧ i + 6 ≤ L) (hEC : eOK layC (wE E fC)) (hEM : eOK layM (wE E fM)) (kk : KK E A Q fC fM b i x) (hd : okD d) (hc : CR d σc) (hm : MR d σm) (rc : RS σc) (rm : RS σm) : NL E A Q fC fM b i 871 [] σc σm x := by
  refine l_C (dc D_cL_law_13 7 rfl) ?_
  refine l_arg 1 (dc D_cL_law_13 8 rfl) (dc D_cL_law_13 9 rfl) (dc D_cL_law_13 10 rfl) (dc D_cL_law_13 11 rfl) (dc D_cL_law_13 12 rfl) ⟨rfl, by decide⟩ hX hL hi ?_
  refine l_arg 2 (dc D_cL_law_13 13 rfl) (dc D_cL_law_13 14 rfl) (dc D_cL_law_13 15 rfl) (dc D_cL_law_13 16 rfl) (dc D_cL_law_13 17 rfl) ⟨rfl, by decide⟩ hX hL hi ?_
  refine l_callC (n0 := 2) (dc D_cL_law_13 18 rfl) cl_117 nl_117 (CX11_reach hEC (xz xs i 1) (xz xs i 2) (Rg_of _) (Rg_of _) σc rc (p_reach _ _ d σc σm hd hc hm)) rfl rfl rfl rfl rfl rfl rfl (fun z1 σc' hz1 hs1 h1 => ?_)
  refine l_M (dc D_cL_law_13 19 rfl) ?_
  refine l_arg 1 (dc D_cL_law_13 20 rfl) (dc D_cL_law_13 21 rfl) (dc D_cL_law_13 22 rfl) (dc D_cL_law_13 23 rfl) (dc D_cL_law_13 24 rfl) ⟨rfl, by decide⟩ hX hL hi ?_
  refine l_arg 2 (dc D_cL_law_13 25 rfl) (dc D_cL_law_13 26 rfl) (dc D_cL_law_13 27 rfl) (dc D_cL_law_13 28 rfl) (dc D_cL_law_13 29 rfl) ⟨rfl, by decide⟩ hX hL hi ?_
  refine l_callM (n0 := 2) (dc D_cL_law_13 30 rfl) cl_120 nl_120 (CX12_reach hEM (xz xs i 1) (xz xs i 2) (Rg_of _) (Rg_of _) σm rm h1) rfl rfl rfl rfl rfl rfl rfl (fun z2 σm' hz2 hs2 h2 => ?_)
  obtain ⟨e, d', hd', hc', hm'⟩ := h2
  exact l_same (dc D_cL_law_13 31 rfl) e rfl (kk d' σc' σm' hd' hc' hm' hs1 hs2)
theorem cl_121 : CWV RL 121 yX11_feed mi_X11_feed := tb_r [920, 921, 922, 97, 923] (by decide +kernel)
theorem nl_121 : ynm yX11_feed 1 := ⟨⟨by decide +kernel, by decide +kernel⟩, by decide +kernel⟩
theorem cl_124 : CWV RL 124 yX12_feed mi_X12_feed := tb_r [1594, 1595, 1596, 110, 1597] (by decide +kernel)
theorem nl_124 : ynm yX12_feed 1 := ⟨⟨by decide +kernel, by decide +kernel⟩, by decide +kernel⟩
theorem law_feed (hX : XS b L xs A x) (hL : L ≤ 3072) (hi : 0 ≤ i ∧ i + 6 ≤ L) (hEC : eOK layC (wE E fC)) (hEM : eOK layM (wE E fM)) (kk : KK E A Q fC fM b i x) (hd : okD d) (hc : CR d σc) (hm : MR d σm) (rc : RS σc) (rm : RS σm) : NL E A Q fC fM b i 904 [] σc σm x := by
  refine l_C (dc D_cL_law_13 34 rfl) ?_
  refine l_arg 1 (dc D_cL_law_13 35 rfl) (dc D_cL_law_13 36 rfl) (dc D_cL_law_13 37 rfl) (dc D_cL_law_13 38 rfl) (dc D_cL_law_13 39 rfl) ⟨rfl, by decide⟩ hX hL hi ?_
  refine l_callC (n0 := 1) (dc D_cL_law_14 0 rfl) cl_121 nl_121 (CX11_feed hEC (xz xs i 1) (Rg_of _) σc rc (p_feed _ d σc σm hd hc hm)) rfl rfl rfl rfl rfl rfl rfl (fun z1 σc' hz1 hs1 h1 => ?_)
  refine l_M (dc D_cL_law_14 1 rfl) ?_
  refine l_arg 1 (dc D_cL_law_14 2 rfl) (dc D_cL_law_14 3 rfl) (dc D_cL_law_14 4 rfl) (dc D_cL_law_14 5 rfl) (dc D_cL_law_14 6 rfl) ⟨rfl, by decide⟩ hX hL hi ?_
  refine l_callM (n0 := 1) (dc D_cL_law_14 7 rfl) cl_124 nl_124 (CX12_feed hEM (xz xs i 1) (Rg_of _) σm rm h1) rfl rfl rfl rfl rfl rfl rfl (fun z2 σm' hz2 hs2 h2 => ?_)
  obtain ⟨e, d', hd', hc', hm'⟩ := h2
  exact l_same (dc D_cL_law_14 8 rfl) e rfl (kk d' σc' σm' hd' hc' hm' hs1 hs2)
theorem cl_125 : CWV RL 125 yX11_clear mi_X11_clear := tb_r [928, 929, 930, 97, 931] (by decide +kernel)
theorem nl_125 : ynm yX11_clear 0 := ⟨⟨by decide +kernel, by decide +kernel⟩, by decide +kernel⟩
theorem cl_128 : CWV RL 128 yX12_clear mi_X12_clear := tb_r [1598, 1599, 1600, 110, 1601] (by decide +kernel)
theorem nl_128 : ynm yX12_clear 0 := ⟨⟨by decide +kernel, by decide +kernel⟩, by decide +kernel⟩
theorem law_clear (hX : XS b L xs A x) (hL : L ≤ 3072) (hi : 0 ≤ i ∧ i + 6 ≤ L) (hEC : eOK layC (wE E fC)) (hEM : eOK layM (wE E fM)) (kk : KK E A Q fC fM b i x) (hd : okD d) (hc : CR d σc) (hm : MR d σm) (rc : RS σc) (rm : RS σm) : NL E A Q fC fM b i 927 [] σc σm x := by
  refine l_C (dc D_cL_law_14 11 rfl) ?_
  refine l_callC (n0 := 0) (dc D_cL_law_14 12 rfl) cl_125 nl_125 (CX11_clear hEC  σc rc (p_clear  d σc σm hd hc hm)) rfl rfl rfl rfl rfl rfl rfl (fun z1 σc' hz1 hs1 h1 => ?_)
  refine l_M (dc D_cL_law_14 13 rfl) ?_
  refine l_callM (n0 := 0) (dc D_cL_law_14 14 rfl) cl_128 nl_128 (CX12_clear hEM  σm rm h1) rfl rfl rfl rfl rfl rfl rfl (fun z2 σm' hz2 hs2 h2 => ?_)
  obtain ⟨e, d', hd', hc', hm'⟩ := h2
  exact l_same (dc D_cL_law_14 15 rfl) e rfl (kk d' σc' σm' hd' hc' hm' hs1 hs2)
theorem cl_129 : CWV RL 129 yX11_read mi_X11_read := tb_r [932, 933, 934, 97, 935] (by decide +kernel)
theorem nl_129 : ynm yX11_read 0 := ⟨⟨by decide +kernel, by decide +kernel⟩, by decide +kernel⟩
theorem cl_132 : CWV RL 132 yX12_read mi_X12_read := tb_r [1602, 1603, 1604, 110, 1605] (by decide +kernel)
theorem nl_132 : ynm yX12_read 0 := ⟨⟨by decide +kernel, by decide +kernel⟩, by decide +kernel⟩
theorem law_read (hX : XS b L xs A x) (hL : L ≤ 3072) (hi : 0 ≤ i ∧ i + 6 ≤ L) (hEC : eOK layC (wE E fC)) (hEM : eOK layM (wE E fM)) (kk : KK E A Q fC fM b i x) (hd : okD d) (hc : CR d σc) (hm : MR d σm) (rc : RS σc) (rm : RS σm) : NL E A Q fC fM b i 940 [] σc σm x := by
  refine l_C (dc D_cL_law_14 18 rfl) ?_
  refine l_callC (n0 := 0) (dc D_cL_law_14 19 rfl) cl_129 nl_129 (CX11_read hEC  σc rc (p_read  d σc σm hd hc hm)) rfl rfl rfl rfl rfl rfl rfl (fun z1 σc' hz1 hs1 h1 => ?_)
  refine l_M (dc D_cL_law_14 20 rfl) ?_
  refine l_callM (n0 := 0) (dc D_cL_law_14 21 rfl) cl_132 nl_132 (CX12_read hEM  σm rm h1) rfl rfl rfl rfl rfl rfl rfl (fun z2 σm' hz2 hs2 h2 => ?_)
  obtain ⟨e, d', hd', hc', hm'⟩ := h2
  exact l_same (dc D_cL_law_14 22 rfl) e rfl (kk d' σc' σm' hd' hc' hm' hs1 hs2)
theorem cl_133 : CWV RL 133 yX11_pick mi_X11_pick := tb_r [974, 975, 976, 97, 977] (by decide +kernel)
theorem nl_133 : ynm yX11_pick 0 := ⟨⟨by decide +kernel, by decide +kernel⟩, by decide +kernel⟩
theorem cl_136 : CWV RL 136 yX12_pick mi_X12_pick := tb_r [1638, 1639, 1640, 110, 1641] (by decide +kernel)
theorem nl_136 : ynm yX12_pick 0 := ⟨⟨by decide +kernel, by decide +kernel⟩, by decide +kernel⟩
theorem law_pick (hX : XS b L xs A x) (hL : L ≤ 3072) (hi : 0 ≤ i ∧ i + 6 ≤ L) (hEC : eOK layC (wE E fC)) (hEM : eOK layM (wE E fM)) (kk : KK E A Q fC fM b i x) (hd : okD d) (hc : CR d σc) (hm : MR d σm) (rc : RS σc) (rm : RS σm) : NL E A Q fC fM b i 953 [] σc σm x := by
  refine l_C (dc D_cL_law_14 25 rfl) ?_
  refine l_callC (n0 := 0) (dc D_cL_law_14 26 rfl) cl_133 nl_133 (CX11_pick hEC  σc rc (p_pick  d σc σm hd hc hm)) rfl rfl rfl rfl rfl rfl rfl (fun z1 σc' hz1 hs1 h1 => ?_)
  refine l_M (dc D_cL_law_14 27 rfl) ?_
  refine l_callM (n0 := 0) (dc D_cL_law_14 28 rfl) cl_136 nl_136 (CX12_pick hEM  σm rm h1) rfl rfl rfl rfl rfl rfl rfl (fun z2 σm' hz2 hs2 h2 => ?_)
  obtain ⟨e, d', hd', hc', hm'⟩ := h2
  exact l_same (dc D_cL_law_14 29 rfl) e rfl (kk d' σc' σm' hd' hc' hm' hs1 hs2)
theorem cl_137 : CWV RL 137 yX11_many mi_X11_many := tb_r [1087, 1088, 1089, 97, 1090] (by decide +kernel)
theorem nl_137 : ynm yX11_many 0 := ⟨⟨by decide +kernel, by decide +kernel⟩, by decide +kernel⟩
theorem cl_140 : CWV RL 140 yX12_many mi_X12_many := tb_r [1673, 1674, 1675, 110, 1676] (by decide +kernel)
theorem nl_140 : ynm yX12_many 0 := ⟨⟨by decide +kernel, by decide +kernel⟩, by decide +kernel⟩
theorem law_many (hX : XS b L xs A x) (hL : L ≤ 3072) (hi : 0 ≤ i ∧ i + 6 ≤ L) (hEC : eOK layC (wE E fC)) (hEM : eOK layM (wE E fM)) (kk : KK E A Q fC fM b i x) (hd : okD d) (hc : CR d σc) (hm : MR d σm) (rc : RS σc) (rm : RS σm) : NL E A Q fC fM b i 966 [] σc σm x := by
  refine l_C (dc D_cL_law_14 32 rfl) ?_
  refine l_callC (n0 := 0) (dc D_cL_law_14 33 rfl) cl_137 nl_137 (CX11_many hEC  σc rc (p_many  d σc σm hd hc hm)) rfl rfl rfl rfl rfl rfl rfl (fun z1 σc' hz1 hs1 h1 => ?_)
  refine l_M (dc D_cL_law_14 34 rfl) ?_
  refine l_callM (n0 := 0) (dc D_cL_law_14 35 rfl) cl_140 nl_140 (CX12_many hEM  σm rm h1) rfl rfl rfl rfl rfl rfl rfl (fun z2 σm' hz2 hs2 h2 => ?_)
  obtain ⟨e, d', hd', hc', hm'⟩ := h2
  exact l_same (dc D_cL_law_14 36 rfl) e rfl (kk d' σc' σm' hd' hc' hm' hs1 hs2)
theorem cl_141 : CWV RL 141 yX11_shutAll mi_X11_shutAll := tb_r [1097, 1098, 1099, 97, 1100] (by decide +kernel)
theorem nl_141 : ynm yX11_shutAll 1 := ⟨⟨by decide +kernel, by decide +kernel⟩, by decide +kernel⟩
theorem cl_144 : CWV RL 144 yX12_shutAll mi_X12_shutAll := tb_r [1678, 1679, 1680, 110, 1681] (by decide +kernel)
theorem nl_144 : ynm yX12_shutAll 1 := ⟨⟨by decide +kernel, by decide +kernel⟩, by decide +kernel⟩
theorem law_shutAll (hX : XS b L xs A x) (hL : L ≤ 3072) (hi : 0 ≤ i ∧ i + 6 ≤ L) (hEC : eOK layC (wE E fC)) (hEM : eOK layM (wE E fM)) (kk : KK E A Q fC fM b i x) (hd : okD d) (hc : CR d σc) (hm : MR d σm) (rc : RS σc) (rm : RS σm) : NL E A Q fC fM b i 979 [] σc σm x := by
  refine l_C (dc D_cL_law_14 39 rfl) ?_
  refine l_arg 1 (dc D_cL_law_15 0 rfl) (dc D_cL_law_15 1 rfl) (dc D_cL_law_15 2 rfl) (dc D_cL_law_15 3 rfl) (dc D_cL_law_15 4 rfl) ⟨rfl, by decide⟩ hX hL hi ?_
  refine l_callC (n0 := 1) (dc D_cL_law_15 5 rfl) cl_141 nl_141 (CX11_shutAll hEC (xz xs i 1) (Rg_of _) σc rc (p_shutAll _ d σc σm hd hc hm)) rfl rfl rfl rfl rfl rfl rfl (fun z1 σc' hz1 hs1 h1 => ?_)
  refine l_M (dc D_cL_law_15 6 rfl) ?_
  refine l_arg 1 (dc D_cL_law_15 7 rfl) (dc D_cL_law_15 8 rfl) (dc D_cL_law_15 9 rfl) (dc D_cL_law_15 10 rfl) (dc D_cL_law_15 11 rfl) ⟨rfl, by decide⟩ hX hL hi ?_
  refine l_callM (n0 := 1) (dc D_cL_law_15 12 rfl) cl_144 nl_144 (CX12_shutAll hEM (xz xs i 1) (Rg_of _) σm rm h1) rfl rfl rfl rfl rfl rfl rfl (fun z2 σm' hz2 hs2 h2 => ?_)
  obtain ⟨e, d', hd', hc', hm'⟩ := h2
  exact l_same (dc D_cL_law_15 13 rfl) e rfl (kk d' σc' σm' hd' hc' hm' hs1 hs2)
theorem cl_145 : CWV RL 145 yX11_spell mi_X11_spell := tb_r [1101, 1102, 1103, 97, 1104] (by decide +kernel)
theorem nl_145 : ynm yX11_spell 0 := ⟨⟨by decide +kernel, by decide +kernel⟩, by decide +kernel⟩
theorem cl_148 : CWV RL 148 yX12_spell mi_X12_spell := tb_r [1682, 1683, 1684, 110, 1685] (by decide +kernel)
theorem nl_148 : ynm yX12_spell 0 := ⟨⟨by decide +kernel, by decide +kernel⟩, by decide +kernel⟩
theorem law_spell (hX : XS b L xs A x) (hL : L ≤ 3072) (hi : 0 ≤ i ∧ i + 6 ≤ L) (hEC : eOK layC (wE E fC)) (hEM : eOK layM (wE E fM)) (kk : KK E A Q fC fM b i x) (hd : okD d) (hc : CR d σc) (hm : MR d σm) (rc : RS σc) (rm : RS σm) : NL E A Q fC fM b i 1002 [] σc σm x := by
  refine l_C (dc D_cL_law_15 16 rfl) ?_
  refine l_callC (n0 := 0) (dc D_cL_law_15 17 rfl) cl_145 nl_145 (CX11_spell hEC  σc rc (p_spell  d σc σm hd hc hm)) rfl rfl rfl rfl rfl rfl rfl (fun z1 σc' hz1 hs1 h1 => ?_)
  refine l_M (dc D_cL_law_15 18 rfl) ?_
  refine l_callM (n0 := 0) (dc D_cL_law_15 19 rfl) cl_148 nl_148 (CX12_spell hEM  σm rm h1) rfl rfl rfl rfl rfl rfl rfl (fun z2 σm' hz2 hs2 h2 => ?_)
  obtain ⟨e, d', hd', hc', hm'⟩ := h2
  exact l_same (dc D_cL_law_15 20 rfl) e rfl (kk d' σc' σm' hd' hc' hm' hs1 hs2)
theorem cl_149 : CWV RL 149 yX11_paper mi_X11_paper := tb_r [1121, 1122, 1123, 97, 1124] (by decide +kernel)
theorem nl_149 : ynm yX11_paper 1 := ⟨⟨by decide +kernel, by decide +kernel⟩, by decide +kernel⟩
theorem cl_152 : CWV RL 152 yX12_paper mi_X12_paper := tb_r [1694, 1695, 1696, 110, 1697] (by decide +kernel)
theorem nl_152 : ynm yX12_paper 1 := ⟨⟨by decide +kernel, by decide +kernel⟩, by decide +kernel⟩
theorem law_paper (hX : XS b L xs A x) (hL : L ≤ 3072) (hi : 0 ≤ i ∧ i + 6 ≤ L) (hEC : eOK layC (wE E fC)) (hEM : eOK layM (wE E fM)) (kk : KK E A Q fC fM b i x) (hd : okD d) (hc : CR d σc) (hm : MR d σm) (rc : RS σc) (rm : RS σm) : NL E A Q fC fM b i 1015 [] σc σm x := by
  refine l_C (dc D_cL_law_15 23 rfl) ?_
  refine l_arg 1 (dc D_cL_law_15 24 rfl) (dc D_cL_law_15 25 rfl) (dc D_cL_law_15 26 rfl) (dc D_cL_law_15 27 rfl) (dc D_cL_law_15 28 rfl) ⟨rfl, by decide⟩ hX hL hi ?_
  refine l_callC (n0 := 1) (dc D_cL_law_15 29 rfl) cl_149 nl_149 (CX11_paper hEC (xz xs i 1) (Rg_of _) σc rc (p_paper _ d σc σm hd hc hm)) rfl rfl rfl rfl rfl rfl rfl (fun z1 σc' hz1 hs1 h1 => ?_)
  refine l_M (dc D_cL_law_15 30 rfl) ?_
  refine l_arg 1 (dc D_cL_law_15 31 rfl) (dc D_cL_law_15 32 rfl) (dc D_cL_law_15 33 rfl) (dc D_cL_law_15 34 rfl) (dc D_cL_law_15 35 rfl) ⟨rfl, by decide⟩ hX hL hi ?_
  refine l_callM (n0 := 1) (dc D_cL_law_15 36 rfl) cl_152 nl_152 (CX12_paper hEM (xz xs i 1) (Rg_of _) σm rm h1) rfl rfl rfl rfl rfl rfl rfl (fun z2 σm' hz2 hs2 h2 => ?_)
  obtain ⟨e, d', hd', hc', hm'⟩ := h2
  exact l_same (dc D_cL_law_15 37 rfl) e rfl (kk d' σc' σm' hd' hc' hm' hs1 hs2)
theorem cl_153 : CWV RL 153 yX11_told mi_X11_told := tb_r [1125, 1126, 1127, 97, 1128] (by decide +kernel)
theorem nl_153 : ynm yX11_told 1 := ⟨⟨by decide +kernel, by decide +kernel⟩, by decide +kernel⟩
theorem cl_156 : CWV RL 156 yX12_told mi_X12_told := tb_r [1698, 1699, 1700, 110, 1701] (by decide +kernel)
theorem nl_156 : ynm yX12_told 1 := ⟨⟨by decide +kernel, by decide +kernel⟩, by decide +kernel⟩
theorem law_told (hX : XS b L xs A x) (hL : L ≤ 3072) (hi : 0 ≤ i ∧ i + 6 ≤ L) (hEC : eOK layC (wE E fC)) (hEM : eOK layM (wE E fM)) (kk : KK E A Q fC fM b i x) (hd : okD d) (hc : CR d σc) (hm : MR d σm) (rc : RS σc) (rm : RS σm) : NL E A Q fC fM b i 1038 [] σc σm x := by
  refine l_C (dc D_cL_law_16 0 rfl) ?_
  refine l_arg 1 (dc D_cL_law_16 1 rfl) (dc D_cL_law_16 2 rfl) (dc D_cL_law_16 3 rfl) (dc D_cL_law_16 4 rfl) (dc D_cL_law_16 5 rfl) ⟨rfl, by decide⟩ hX hL hi ?_
  refine l_callC (n0 := 1) (dc D_cL_law_16 6 rfl) cl_153 nl_153 (CX11_told hEC (xz xs i 1) (Rg_of _) σc rc (p_told _ d σc σm hd hc hm)) rfl rfl rfl rfl rfl rfl rfl (fun z1 σc' hz1 hs1 h1 => ?_)
  refine l_M (dc D_cL_law_16 7 rfl) ?_
  refine l_arg 1 (dc D_cL_law_16 8 rfl) (dc D_cL_law_16 9 rfl) (dc D_cL_law_16 10 rfl) (dc D_cL_law_16 11 rfl) (dc D_cL_law_16 12 rfl) ⟨rfl, by decide⟩ hX hL hi ?_
  refine l_callM (n0 := 1) (dc D_cL_law_16 13 rfl) cl_156 nl_156 (CX12_told hEM (xz xs i 1) (Rg_of _) σm rm h1) rfl rfl rfl rfl rfl rfl rfl (fun z2 σm' hz2 hs2 h2 => ?_)
  obtain ⟨e, d', hd', hc', hm'⟩ := h2
  exact l_same (dc D_cL_law_16 14 rfl) e rfl (kk d' σc' σm' hd' hc' hm' hs1 hs2)
theorem cl_157 : CWV RL 157 yX11_list mi_X11_list := tb_r [1141, 1142, 1143, 97, 1144] (by decide +kernel)
theorem nl_157 : ynm yX11_list 2 := ⟨⟨by decide +kernel, by decide +kernel⟩, by decide +kernel⟩
theorem cl_160 : CWV RL 160 yX12_list mi_X12_list := tb_r [1715, 1716, 1717, 110, 1718] (by decide +kernel)
theorem nl_160 : ynm yX12_list 2 := ⟨⟨by decide +kernel, by decide +kernel⟩, by decide +kernel⟩
theorem law_list (hX : XS b L xs A x) (hL : L ≤ 3072) (hi : 0 ≤ i ∧ i + 6 ≤ L) (hEC : eOK layC (wE E fC)) (hEM : eOK layM (wE E fM)) (kk : KK E A Q fC fM b i x) (hd : okD d) (hc : CR d σc) (hm : MR d σm) (rc : RS σc) (rm : RS σm) : NL E A Q fC fM b i 1061 [] σc σm x := by
  refine l_C (dc D_cL_law_16 17 rfl) ?_
  refine l_arg 1 (dc D_cL_law_16 18 rfl) (dc D_cL_law_16 19 rfl) (dc D_cL_law_16 20 rfl) (dc D_cL_law_16 21 rfl) (dc D_cL_law_16 22 rfl) ⟨rfl, by decide⟩ hX hL hi ?_
  refine l_arg 2 (dc D_cL_law_16 23 rfl) (dc D_cL_law_16 24 rfl) (dc D_cL_law_16 25 rfl) (dc D_cL_law_16 26 rfl) (dc D_cL_law_16 27 rfl) ⟨rfl, by decide⟩ hX hL hi ?_
  refine l_callC (n0 := 2) (dc D_cL_law_16 28 rfl) cl_157 nl_157 (CX11_list hEC (xz xs i 1) (xz xs i 2) (Rg_of _) (Rg_of _) σc rc (p_list _ _ d σc σm hd hc hm)) rfl rfl rfl rfl rfl rfl rfl (fun z1 σc' hz1 hs1 h1 => ?_)
  refine l_M (dc D_cL_law_16 29 rfl) ?_
  refine l_arg 1 (dc D_cL_law_16 30 rfl) (dc D_cL_law_16 31 rfl) (dc D_cL_law_16 32 rfl) (dc D_cL_law_16 33 rfl) (dc D_cL_law_16 34 rfl) ⟨rfl, by decide⟩ hX hL hi ?_
  refine l_arg 2 (dc D_cL_law_16 35 rfl) (dc D_cL_law_16 36 rfl) (dc D_cL_law_16 37 rfl) (dc D_cL_law_16 38 rfl) (dc D_cL_law_16 39 rfl) ⟨rfl, by decide⟩ hX hL hi ?_
  refine l_callM (n0 := 2) (dc D_cL_law_17 0 rfl) cl_160 nl_160 (CX12_list hEM (xz xs i 1) (xz xs i 2) (Rg_of _) (Rg_of _) σm rm h1) rfl rfl rfl rfl rfl rfl rfl (fun z2 σm' hz2 hs2 h2 => ?_)
  obtain ⟨e, d', hd', hc', hm'⟩ := h2
  exact l_same (dc D_cL_law_17 1 rfl) e rfl (kk d' σc' σm' hd' hc' hm' hs1 hs2)
theorem cl_161 : CWV RL 161 yX11_set mi_X11_set := tb_r [1154, 1155, 1156, 97, 1157] (by decide +kernel)
theorem nl_161 : ynm yX11_set 3 := ⟨⟨by decide +kernel, by decide +kernel⟩, by decide +kernel⟩
theorem cl_165 : CWV RL 165 yX12_set mi_X12_set := tb_r [1722, 1723, 1724, 110, 1725] (by decide +kernel)
theorem nl_165 : ynm yX12_set 3 := ⟨⟨by decide +kernel, by decide +kernel⟩, by decide +kernel⟩
theorem law_set (hX : XS b L xs A x) (hL : L ≤ 3072) (hi : 0 ≤ i ∧ i + 6 ≤ L) (hEC : eOK layC (wE E fC)) (hEM : eOK layM (wE E fM)) (kk : KK E A Q fC fM b i x) (hd : okD d) (hc : CR d σc) (hm : MR d σm) (rc : RS σc) (rm : RS σm) : NL E A Q fC fM b i 1094 [] σc σm x := by
  refine l_C (dc D_cL_law_17 4 rfl) ?_
  refine l_arg 1 (dc D_cL_law_17 5 rfl) (dc D_cL_law_17 6 rfl) (dc D_cL_law_17 7 rfl) (dc D_cL_law_17 8 rfl) (dc D_cL_law_17 9 rfl) ⟨rfl, by decide⟩ hX hL hi ?_
  refine l_arg 2 (dc D_cL_law_17 10 rfl) (dc D_cL_law_17 11 rfl) (dc D_cL_law_17 12 rfl) (dc D_cL_law_17 13 rfl) (dc D_cL_law_17 14 rfl) ⟨rfl, by decide⟩ hX hL hi ?_
  refine l_arg 3 (dc D_cL_law_17 15 rfl) (dc D_cL_law_17 16 rfl) (dc D_cL_law_17 17 rfl) (dc D_cL_law_17 18 rfl) (dc D_cL_law_17 19 rfl) ⟨rfl, by decide⟩ hX hL hi ?_
  refine l_callC (n0 := 3) (dc D_cL_law_17 20 rfl) cl_161 nl_161 (CX11_set hEC (xz xs i 1) (xz xs i 2) (xz xs i 3) (Rg_of _) (Rg_of _) (Rg_of _) σc rc (p_set _ _ _ d σc σm hd hc hm)) rfl rfl rfl rfl rfl rfl rfl (fun z1 σc' hz1 hs1 h1 => ?_)
  refine l_M (dc D_cL_law_17 21 rfl) ?_
  refine l_arg 1 (dc D_cL_law_17 22 rfl) (dc D_cL_law_17 23 rfl) (dc D_cL_law_17 24 rfl) (dc D_cL_law_17 25 rfl) (dc D_cL_law_17 26 rfl) ⟨rfl, by decide⟩ hX hL hi ?_
  refine l_arg 2 (dc D_cL_law_17 27 rfl) (dc D_cL_law_17 28 rfl) (dc D_cL_law_17 29 rfl) (dc D_cL_law_17 30 rfl) (dc D_cL_law_17 31 rfl) ⟨rfl, by decide⟩ hX hL hi ?_
  refine l_arg 3 (dc D_cL_law_17 32 rfl) (dc D_cL_law_17 33 rfl) (dc D_cL_law_17 34 rfl) (dc D_cL_law_17 35 rfl) (dc D_cL_law_17 36 rfl) ⟨rfl, by decide⟩ hX hL hi ?_
  refine l_callM (n0 := 3) (dc D_cL_law_17 37 rfl) cl_165 nl_165 (CX12_set hEM (xz xs i 1) (xz xs i 2) (xz xs i 3) (Rg_of _) (Rg_of _) (Rg_of _) σm rm h1) rfl rfl rfl rfl rfl rfl rfl (fun z2 σm' hz2 hs2 h2 => ?_)
  obtain ⟨e, d', hd', hc', hm'⟩ := h2
  exact l_same (dc D_cL_law_17 38 rfl) e rfl (kk d' σc' σm' hd' hc' hm' hs1 hs2)
theorem cl_166 : CWV RL 166 yX11_get mi_X11_get := tb_r [1171, 1172, 1173, 97, 1174] (by decide +kernel)
theorem nl_166 : ynm yX11_get 2 := ⟨⟨by decide +kernel, by decide +kernel⟩, by decide +kernel⟩
theorem cl_169 : CWV RL 169 yX12_get mi_X12_get := tb_r [1726, 1727, 1728, 110, 1729] (by decide +kernel)
theorem nl_169 : ynm yX12_get 2 := ⟨⟨by decide +kernel, by decide +kernel⟩, by decide +kernel⟩
theorem law_get (hX : XS b L xs A x) (hL : L ≤ 3072) (hi : 0 ≤ i ∧ i + 6 ≤ L) (hEC : eOK layC (wE E fC)) (hEM : eOK layM (wE E fM)) (kk : KK E A Q fC fM b i x) (hd : okD d) (hc : CR d σc) (hm : MR d σm) (rc : RS σc) (rm : RS σm) : NL E A Q fC fM b i 1137 [] σc σm x := by
  refine l_C (dc D_cL_law_18 1 rfl) ?_
  refine l_arg 1 (dc D_cL_law_18 2 rfl) (dc D_cL_law_18 3 rfl) (dc D_cL_law_18 4 rfl) (dc D_cL_law_18 5 rfl) (dc D_cL_law_18 6 rfl) ⟨rfl, by decide⟩ hX hL hi ?_
  refine l_arg 2 (dc D_cL_law_18 7 rfl) (dc D_cL_law_18 8 rfl) (dc D_cL_law_18 9 rfl) (dc D_cL_law_18 10 rfl) (dc D_cL_law_18 11 rfl) ⟨rfl, by decide⟩ hX hL hi ?_
  refine l_callC (n0 := 2) (dc D_cL_law_18 12 rfl) cl_166 nl_166 (CX11_get hEC (xz xs i 1) (xz xs i 2) (Rg_of _) (Rg_of _) σc rc (p_get _ _ d σc σm hd hc hm)) rfl rfl rfl rfl rfl rfl rfl (fun z1 σc' hz1 hs1 h1 => ?_)
  refine l_M (dc D_cL_law_18 13 rfl) ?_
  refine l_arg 1 (dc D_cL_law_18 14 rfl) (dc D_cL_law_18 15 rfl) (dc D_cL_law_18 16 rfl) (dc D_cL_law_18 17 rfl) (dc D_cL_law_18 18 rfl) ⟨rfl, by decide⟩ hX hL hi ?_
  refine l_arg 2 (dc D_cL_law_18 19 rfl) (dc D_cL_law_18 20 rfl) (dc D_cL_law_18 21 rfl) (dc D_cL_law_18 22 rfl) (dc D_cL_law_18 23 rfl) ⟨rfl, by decide⟩ hX hL hi ?_
  refine l_callM (n0 := 2) (dc D_cL_law_18 24 rfl) cl_169 nl_169 (CX12_get hEM (xz xs i 1) (xz xs i 2) (Rg_of _) (Rg_of _) σm rm h1) rfl rfl rfl rfl rfl rfl rfl (fun z2 σm' hz2 hs2 h2 => ?_)
  obtain ⟨e, d', hd', hc', hm'⟩ := h2
  exact l_same (dc D_cL_law_18 25 rfl) e rfl (kk d' σc' σm' hd' hc' hm' hs1 hs2)
theorem cl_170 : CWV RL 170 yX11_lay mi_X11_lay := tb_r [1180, 1181, 1182, 97, 1183] (by decide +kernel)
theorem nl_170 : ynm yX11_lay 3 := ⟨⟨by decide +kernel, by decide +kernel⟩, by decide +kernel⟩
theorem cl_173 : CWV RL 173 yX12_lay mi_X12_lay := tb_r [1731, 1732, 1733, 110, 1734] (by decide +kernel)
theorem nl_173 : ynm yX12_lay 3 := ⟨⟨by decide +kernel, by decide +kernel⟩, by decide +kernel⟩
theorem law_lay (hX : XS b L xs A x) (hL : L ≤ 3072) (hi : 0 ≤ i ∧ i + 6 ≤ L) (hEC : eOK layC (wE E fC)) (hEM : eOK layM (wE E fM)) (kk : KK E A Q fC fM b i x) (hd : okD d) (hc : CR d σc) (hm : MR d σm) (rc : RS σc) (rm : RS σm) : NL E A Q fC fM b i 1170 [] σc σm x := by
  refine l_C (dc D_cL_law_18 28 rfl) ?_
  refine l_arg 1 (dc D_cL_law_18 29 rfl) (dc D_cL_law_18 30 rfl) (dc D_cL_law_18 31 rfl) (dc D_cL_law_18 32 rfl) (dc D_cL_law_18 33 rfl) ⟨rfl, by decide⟩ hX hL hi ?_
  refine l_arg 2 (dc D_cL_law_18 34 rfl) (dc D_cL_law_18 35 rfl) (dc D_cL_law_18 36 rfl) (dc D_cL_law_18 37 rfl) (dc D_cL_law_18 38 rfl) ⟨rfl, by decide⟩ hX hL hi ?_
  refine l_arg 3 (dc D_cL_law_18 39 rfl) (dc D_cL_law_19 0 rfl) (dc D_cL_law_19 1 rfl) (dc D_cL_law_19 2 rfl) (dc D_cL_law_19 3 rfl) ⟨rfl, by decide⟩ hX hL hi ?_
  refine l_callC (n0 := 3) (dc D_cL_law_19 4 rfl) cl_170 nl_170 (CX11_lay hEC (xz xs i 1) (xz xs i 2) (xz xs i 3) (Rg_of _) (Rg_of _) (Rg_of _) σc rc (p_lay _ _ _ (Rg_of _) d σc σm hd hc hm)) rfl rfl rfl rfl rfl rfl rfl (fun z1 σc' hz1 hs1 h1 => ?_)
  refine l_M (dc D_cL_law_19 5 rfl) ?_
  refine l_arg 1 (dc D_cL_law_19 6 rfl) (dc D_cL_law_19 7 rfl) (dc D_cL_law_19 8 rfl) (dc D_cL_law_19 9 rfl) (dc D_cL_law_19 10 rfl) ⟨rfl, by decide⟩ hX hL hi ?_
  refine l_arg 2 (dc D_cL_law_19 11 rfl) (dc D_cL_law_19 12 rfl) (dc D_cL_law_19 13 rfl) (dc D_cL_law_19 14 rfl) (dc D_cL_law_19 15 rfl) ⟨rfl, by decide⟩ hX hL hi ?_
  refine l_arg 3 (dc D_cL_law_19 16 rfl) (dc D_cL_law_19 17 rfl) (dc D_cL_law_19 18 rfl) (dc D_cL_law_19 19 rfl) (dc D_cL_law_19 20 rfl) ⟨rfl, by decide⟩ hX hL hi ?_
  refine l_callM (n0 := 3) (dc D_cL_law_19 21 rfl) cl_173 nl_173 (CX12_lay hEM (xz xs i 1) (xz xs i 2) (xz xs i 3) (Rg_of _) (Rg_of _) (Rg_of _) σm rm h1) rfl rfl rfl rfl rfl rfl rfl (fun z2 σm' hz2 hs2 h2 => ?_)
  obtain ⟨e, d', hd', hc', hm'⟩ := h2
  exact l_same (dc D_cL_law_19 22 rfl) e rfl (kk d' σc' σm' hd' hc' hm' hs1 hs2)
theorem cl_174 : CWV RL 174 yX11_judge mi_X11_judge := tb_r [1184, 1185, 1186, 97, 1187] (by decide +kernel)
theorem nl_174 : ynm yX11_judge 2 := ⟨⟨by decide +kernel, by decide +kernel⟩, by decide +kernel⟩
theorem cl_177 : CWV RL 177 yX12_judge mi_X12_judge := tb_r [1735, 1736, 1737, 110, 1738] (by decide +kernel)
theorem nl_177 : ynm yX12_judge 2 := ⟨⟨by decide +kernel, by decide +kernel⟩, by decide +kernel⟩
theorem law_judge (hX : XS b L xs A x) (hL : L ≤ 3072) (hi : 0 ≤ i ∧ i + 6 ≤ L) (hEC : eOK layC (wE E fC)) (hEM : eOK layM (wE E fM)) (kk : KK E A Q fC fM b i x) (hd : okD d) (hc : CR d σc) (hm : MR d σm) (rc : RS σc) (rm : RS σm) : NL E A Q fC fM b i 1213 [] σc σm x := by
  refine l_C (dc D_cL_law_19 25 rfl) ?_
  refine l_arg 1 (dc D_cL_law_19 26 rfl) (dc D_cL_law_19 27 rfl) (dc D_cL_law_19 28 rfl) (dc D_cL_law_19 29 rfl) (dc D_cL_law_19 30 rfl) ⟨rfl, by decide⟩ hX hL hi ?_
  refine l_arg 2 (dc D_cL_law_19 31 rfl) (dc D_cL_law_19 32 rfl) (dc D_cL_law_19 33 rfl) (dc D_cL_law_19 34 rfl) (dc D_cL_law_19 35 rfl) ⟨rfl, by decide⟩ hX hL hi ?_
  refine l_callC (n0 := 2) (dc D_cL_law_19 36 rfl) cl_174 nl_174 (CX11_judge hEC (xz xs i 1) (xz xs i 2) (Rg_of _) (Rg_of _) σc rc (p_judge _ _ (Rg_of _) d σc σm hd hc hm)) rfl rfl rfl rfl rfl rfl rfl (fun z1 σc' hz1 hs1 h1 => ?_)
  refine l_M (dc D_cL_law_19 37 rfl) ?_
  refine l_arg 1 (dc D_cL_law_19 38 rfl) (dc D_cL_law_19 39 rfl) (dc D_cL_law_20 0 rfl) (dc D_cL_law_20 1 rfl) (dc D_cL_law_20 2 rfl) ⟨rfl, by decide⟩ hX hL hi ?_
  refine l_arg 2 (dc D_cL_law_20 3 rfl) (dc D_cL_law_20 4 rfl) (dc D_cL_law_20 5 rfl) (dc D_cL_law_20 6 rfl) (dc D_cL_law_20 7 rfl) ⟨rfl, by decide⟩ hX hL hi ?_
  refine l_callM (n0 := 2) (dc D_cL_law_20 8 rfl) cl_177 nl_177 (CX12_judge hEM (xz xs i 1) (xz xs i 2) (Rg_of _) (Rg_of _) σm rm h1) rfl rfl rfl rfl rfl rfl rfl (fun z2 σm' hz2 hs2 h2 => ?_)
  obtain ⟨e, d', hd', hc', hm'⟩ := h2
  exact l_same (dc D_cL_law_20 9 rfl) e rfl (kk d' σc' σm' hd' hc' hm' hs1 hs2)
theorem cl_178 : CWV RL 178 yX11_image mi_X11_image := tb_r [1200, 1201, 1202, 97, 1203] (by decide +kernel)
theorem nl_178 : ynm yX11_image 0 := ⟨⟨by decide +kernel, by decide +kernel⟩, by decide +kernel⟩
theorem cl_181 : CWV RL 181 yX12_image mi_X12_image := tb_r [1740, 1741, 1742, 110, 1743] (by decide +kernel)
theorem nl_181 : ynm yX12_image 0 := ⟨⟨by decide +kernel, by decide +kernel⟩, by decide +kernel⟩
theorem law_image (hX : XS b L xs A x) (hL : L ≤ 3072) (hi : 0 ≤ i ∧ i + 6 ≤ L) (hEC : eOK layC (wE E fC)) (hEM : eOK layM (wE E fM)) (kk : KK E A Q fC fM b i x) (hd : okD d) (hc : CR d σc) (hm : MR d σm) (rc : RS σc) (rm : RS σm) : NL E A Q fC fM b i 1246 [] σc σm x := by
  refine l_C (dc D_cL_law_20 12 rfl) ?_
  refine l_callC (n0 := 0) (dc D_cL_law_20 13 rfl) cl_178 nl_178 (CX11_image hEC  σc rc (p_image  d σc σm hd hc hm)) rfl rfl rfl rfl rfl rfl rfl (fun z1 σc' hz1 hs1 h1 => ?_)
  refine l_M (dc D_cL_law_20 14 rfl) ?_
  refine l_callM (n0 := 0) (dc D_cL_law_20 15 rfl) cl_181 nl_181 (CX12_image hEM  σm rm h1) rfl rfl rfl rfl rfl rfl rfl (fun z2 σm' hz2 hs2 h2 => ?_)
  obtain ⟨e, d', hd', hc', hm'⟩ := h2
  exact l_same (dc D_cL_law_20 16 rfl) e rfl (kk d' σc' σm' hd' hc' hm' hs1 hs2)
theorem cl_182 : CWV RL 182 yX11_undo mi_X11_undo := tb_r [1209, 1210, 1211, 97, 1212] (by decide +kernel)
theorem nl_182 : ynm yX11_undo 0 := ⟨⟨by decide +kernel, by decide +kernel⟩, by decide +kernel⟩
theorem cl_185 : CWV RL 185 yX12_undo mi_X12_undo := tb_r [1744, 1745, 1746, 110, 1747] (by decide +kernel)
theorem nl_185 : ynm yX12_undo 0 := ⟨⟨by decide +kernel, by decide +kernel⟩, by decide +kernel⟩
theorem law_undo (hX : XS b L xs A x) (hL : L ≤ 3072) (hi : 0 ≤ i ∧ i + 6 ≤ L) (hEC : eOK layC (wE E fC)) (hEM : eOK layM (wE E fM)) (kk : KK E A Q fC fM b i x) (hd : okD d) (hc : CR d σc) (hm : MR d σm) (rc : RS σc) (rm : RS σm) : NL E A Q fC fM b i 1259 [] σc σm x := by
  refine l_C (dc D_cL_law_20 19 rfl) ?_
  refine l_callC (n0 := 0) (dc D_cL_law_20 20 rfl) cl_182 nl_182 (CX11_undo hEC  σc rc (p_undo  d σc σm hd hc hm)) rfl rfl rfl rfl rfl rfl rfl (fun z1 σc' hz1 hs1 h1 => ?_)
  refine l_M (dc D_cL_law_20 21 rfl) ?_
  refine l_callM (n0 := 0) (dc D_cL_law_20 22 rfl) cl_185 nl_185 (CX12_undo hEM  σm rm h1) rfl rfl rfl rfl rfl rfl rfl (fun z2 σm' hz2 hs2 h2 => ?_)
  obtain ⟨e, d', hd', hc', hm'⟩ := h2
  exact l_same (dc D_cL_law_20 23 rfl) e rfl (kk d' σc' σm' hd' hc' hm' hs1 hs2)
theorem law_switch {v : Int} (hv : Rg v) (hX : XS b L xs A x) (hL : L ≤ 3072) (hi : 0 ≤ i ∧ i + 6 ≤ L) (hEC : eOK layC (wE E fC)) (hEM : eOK layM (wE E fM)) (kk : KK E A Q fC fM b i x) (hd : okD d) (hc : CR d σc) (hm : MR d σm) (rc : RS σc) (rm : RS σm) : NL E A Q fC fM b i 33 [.int (iz v)] σc σm x := by
  by_cases h : v < 0 ∨ 41 < v
  · exact n_tabOut (M := mi_law) (tgt := 1272) (dc D_cL_law_0 21 rfl) hv h rfl (kk d σc σm hd hc hm rc rm)
  · have h9 : v = 0 ∨ v = 1 ∨ v = 2 ∨ v = 3 ∨ v = 4 ∨ v = 5 ∨ v = 6 ∨ v = 7 ∨ v = 8 ∨ v = 9 ∨ v = 10 ∨ v = 11 ∨ v = 12 ∨ v = 13 ∨ v = 14 ∨ v = 15 ∨ v = 16 ∨ v = 17 ∨ v = 18 ∨ v = 19 ∨ v = 20 ∨ v = 21 ∨ v = 22 ∨ v = 23 ∨ v = 24 ∨ v = 25 ∨ v = 26 ∨ v = 27 ∨ v = 28 ∨ v = 29 ∨ v = 30 ∨ v = 31 ∨ v = 32 ∨ v = 33 ∨ v = 34 ∨ v = 35 ∨ v = 36 ∨ v = 37 ∨ v = 38 ∨ v = 39 ∨ v = 40 ∨ v = 41 := by omega
    rcases h9 with rfl | rfl | rfl | rfl | rfl | rfl | rfl | rfl | rfl | rfl | rfl | rfl | rfl | rfl | rfl | rfl | rfl | rfl | rfl | rfl | rfl | rfl | rfl | rfl | rfl | rfl | rfl | rfl | rfl | rfl | rfl | rfl | rfl | rfl | rfl | rfl | rfl | rfl | rfl | rfl | rfl | rfl
    · exact n_tabIn (M := mi_law) (off := 183) (tgt := 216) (dc D_cL_law_0 21 rfl) hv (by decide) (by decide) rfl rfl (law_gate hX hL hi hEC hEM kk hd hc hm rc rm)
    · exact n_tabIn (M := mi_law) (off := 246) (tgt := 279) (dc D_cL_law_0 21 rfl) hv (by decide) (by decide) rfl rfl (law_of hX hL hi hEC hEM kk hd hc hm rc rm)
    · exact n_tabIn (M := mi_law) (off := 279) (tgt := 312) (dc D_cL_law_0 21 rfl) hv (by decide) (by decide) rfl rfl (law_widen hX hL hi hEC hEM kk hd hc hm rc rm)
    · exact n_tabIn (M := mi_law) (off := 312) (tgt := 345) (dc D_cL_law_0 21 rfl) hv (by decide) (by decide) rfl rfl (law_bind hX hL hi hEC hEM kk hd hc hm rc rm)
    · exact n_tabIn (M := mi_law) (off := 345) (tgt := 378) (dc D_cL_law_0 21 rfl) hv (by decide) (by decide) rfl rfl (law_turn hX hL hi hEC hEM kk hd hc hm rc rm)
    · exact n_tabIn (M := mi_law) (off := 378) (tgt := 411) (dc D_cL_law_0 21 rfl) hv (by decide) (by decide) rfl rfl (law_drop hX hL hi hEC hEM kk hd hc hm rc rm)
    · exact n_tabIn (M := mi_law) (off := 391) (tgt := 424) (dc D_cL_law_0 21 rfl) hv (by decide) (by decide) rfl rfl (law_ends hX hL hi hEC hEM kk hd hc hm rc rm)
    · exact n_tabIn (M := mi_law) (off := 424) (tgt := 457) (dc D_cL_law_0 21 rfl) hv (by decide) (by decide) rfl rfl (law_most hX hL hi hEC hEM kk hd hc hm rc rm)
    · exact n_tabIn (M := mi_law) (off := 437) (tgt := 470) (dc D_cL_law_0 21 rfl) hv (by decide) (by decide) rfl rfl (law_water hX hL hi hEC hEM kk hd hc hm rc rm)
    · exact n_tabIn (M := mi_law) (off := 460) (tgt := 493) (dc D_cL_law_0 21 rfl) hv (by decide) (by decide) rfl rfl (law_ways hX hL hi hEC hEM kk hd hc hm rc rm)
    · exact n_tabIn (M := mi_law) (off := 493) (tgt := 526) (dc D_cL_law_0 21 rfl) hv (by decide) (by decide) rfl rfl (law_byHeights hX hL hi hEC hEM kk hd hc hm rc rm)
    · exact n_tabIn (M := mi_law) (off := 516) (tgt := 549) (dc D_cL_law_0 21 rfl) hv (by decide) (by decide) rfl rfl (law_heights hX hL hi hEC hEM kk hd hc hm rc rm)
    · exact n_tabIn (M := mi_law) (off := 549) (tgt := 582) (dc D_cL_law_0 21 rfl) hv (by decide) (by decide) rfl rfl (law_near hX hL hi hEC hEM kk hd hc hm rc rm)
    · exact n_tabIn (M := mi_law) (off := 562) (tgt := 595) (dc D_cL_law_0 21 rfl) hv (by decide) (by decide) rfl rfl (law_far hX hL hi hEC hEM kk hd hc hm rc rm)
    · exact n_tabIn (M := mi_law) (off := 575) (tgt := 608) (dc D_cL_law_0 21 rfl) hv (by decide) (by decide) rfl rfl (law_cut hX hL hi hEC hEM kk hd hc hm rc rm)
    · exact n_tabIn (M := mi_law) (off := 598) (tgt := 631) (dc D_cL_law_0 21 rfl) hv (by decide) (by decide) rfl rfl (law_wide hX hL hi hEC hEM kk hd hc hm rc rm)
    · exact n_tabIn (M := mi_law) (off := 611) (tgt := 644) (dc D_cL_law_0 21 rfl) hv (by decide) (by decide) rfl rfl (law_narrow hX hL hi hEC hEM kk hd hc hm rc rm)
    · exact n_tabIn (M := mi_law) (off := 624) (tgt := 657) (dc D_cL_law_0 21 rfl) hv (by decide) (by decide) rfl rfl (law_more hX hL hi hEC hEM kk hd hc hm rc rm)
    · exact n_tabIn (M := mi_law) (off := 657) (tgt := 690) (dc D_cL_law_0 21 rfl) hv (by decide) (by decide) rfl rfl (law_loss hX hL hi hEC hEM kk hd hc hm rc rm)
    · exact n_tabIn (M := mi_law) (off := 680) (tgt := 713) (dc D_cL_law_0 21 rfl) hv (by decide) (by decide) rfl rfl (law_worst hX hL hi hEC hEM kk hd hc hm rc rm)
    · exact n_tabIn (M := mi_law) (off := 703) (tgt := 736) (dc D_cL_law_0 21 rfl) hv (by decide) (by decide) rfl rfl (law_lines hX hL hi hEC hEM kk hd hc hm rc rm)
    · exact n_tabIn (M := mi_law) (off := 736) (tgt := 769) (dc D_cL_law_0 21 rfl) hv (by decide) (by decide) rfl rfl (law_bound hX hL hi hEC hEM kk hd hc hm rc rm)
    · exact n_tabIn (M := mi_law) (off := 759) (tgt := 792) (dc D_cL_law_0 21 rfl) hv (by decide) (by decide) rfl rfl (law_apart hX hL hi hEC hEM kk hd hc hm rc rm)
    · exact n_tabIn (M := mi_law) (off := 782) (tgt := 815) (dc D_cL_law_0 21 rfl) hv (by decide) (by decide) rfl rfl (law_hours hX hL hi hEC hEM kk hd hc hm rc rm)
    · exact n_tabIn (M := mi_law) (off := 805) (tgt := 838) (dc D_cL_law_0 21 rfl) hv (by decide) (by decide) rfl rfl (law_two hX hL hi hEC hEM kk hd hc hm rc rm)
    · exact n_tabIn (M := mi_law) (off := 838) (tgt := 871) (dc D_cL_law_0 21 rfl) hv (by decide) (by decide) rfl rfl (law_reach hX hL hi hEC hEM kk hd hc hm rc rm)
    · exact n_tabIn (M := mi_law) (off := 871) (tgt := 904) (dc D_cL_law_0 21 rfl) hv (by decide) (by decide) rfl rfl (law_feed hX hL hi hEC hEM kk hd hc hm rc rm)
    · exact n_tabIn (M := mi_law) (off := 894) (tgt := 927) (dc D_cL_law_0 21 rfl) hv (by decide) (by decide) rfl rfl (law_clear hX hL hi hEC hEM kk hd hc hm rc rm)
    · exact n_tabIn (M := mi_law) (off := 907) (tgt := 940) (dc D_cL_law_0 21 rfl) hv (by decide) (by decide) rfl rfl (law_read hX hL hi hEC hEM kk hd hc hm rc rm)
    · exact n_tabIn (M := mi_law) (off := 920) (tgt := 953) (dc D_cL_law_0 21 rfl) hv (by decide) (by decide) rfl rfl (law_pick hX hL hi hEC hEM kk hd hc hm rc rm)
    · exact n_tabIn (M := mi_law) (off := 933) (tgt := 966) (dc D_cL_law_0 21 rfl) hv (by decide) (by decide) rfl rfl (law_many hX hL hi hEC hEM kk hd hc hm rc rm)
    · exact n_tabIn (M := mi_law) (off := 946) (tgt := 979) (dc D_cL_law_0 21 rfl) hv (by decide) (by decide) rfl rfl (law_shutAll hX hL hi hEC hEM kk hd hc hm rc rm)
    · exact n_tabIn (M := mi_law) (off := 969) (tgt := 1002) (dc D_cL_law_0 21 rfl) hv (by decide) (by decide) rfl rfl (law_spell hX hL hi hEC hEM kk hd hc hm rc rm)
    · exact n_tabIn (M := mi_law) (off := 982) (tgt := 1015) (dc D_cL_law_0 21 rfl) hv (by decide) (by decide) rfl rfl (law_paper hX hL hi hEC hEM kk hd hc hm rc rm)
    · exact n_tabIn (M := mi_law) (off := 1005) (tgt := 1038) (dc D_cL_law_0 21 rfl) hv (by decide) (by decide) rfl rfl (law_told hX hL hi hEC hEM kk hd hc hm rc rm)
    · exact n_tabIn (M := mi_law) (off := 1028) (tgt := 1061) (dc D_cL_law_0 21 rfl) hv (by decide) (by decide) rfl rfl (law_list hX hL hi hEC hEM kk hd hc hm rc rm)
    · exact n_tabIn (M := mi_law) (off := 1061) (tgt := 1094) (dc D_cL_law_0 21 rfl) hv (by decide) (by decide) rfl rfl (law_set hX hL hi hEC hEM kk hd hc hm rc rm)
    · exact n_tabIn (M := mi_law) (off := 1104) (tgt := 1137) (dc D_cL_law_0 21 rfl) hv (by decide) (by decide) rfl rfl (law_get hX hL hi hEC hEM kk hd hc hm rc rm)
    · exact n_tabIn (M := mi_law) (off := 1137) (tgt := 1170) (dc D_cL_law_0 21 rfl) hv (by decide) (by decide) rfl rfl (law_lay hX hL hi hEC hEM kk hd hc hm rc rm)
    · exact n_tabIn (M := mi_law) (off := 1180) (tgt := 1213) (dc D_cL_law_0 21 rfl) hv (by decide) (by decide) rfl rfl (law_judge hX hL hi hEC hEM kk hd hc hm rc rm)
    · exact n_tabIn (M := mi_law) (off := 1213) (tgt := 1246) (dc D_cL_law_0 21 rfl) hv (by decide) (by decide) rfl rfl (law_image hX hL hi hEC hEM kk hd hc hm rc rm)
    · exact n_tabIn (M := mi_law) (off := 1226) (tgt := 1259) (dc D_cL_law_0 21 rfl) hv (by decide) (by decide) rfl rfl (law_undo hX hL hi hEC hEM kk hd hc hm rc rm)
end Cases
