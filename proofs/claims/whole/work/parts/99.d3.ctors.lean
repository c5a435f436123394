theorem aw_int : Cond.arrayClass .int ∈ TB := tb_1 210 (by decide +kernel)
theorem aw_byte : Cond.arrayClass .byte ∈ TB := tb_1 446 (by decide +kernel)
theorem aw_boolean : Cond.arrayClass .boolean ∈ TB := tb_1 1337 (by decide +kernel)
def mi_X3_init : MI := (cX3_init, RX3, 1, 1, none, 0)
def BX3 (E : EV) (h0 : Nat) (ws : va_W) : Prop := ∃ q1 q2 q3 q4 q5 q6 : Nat, ws = [(h0, .inr (3, [.ref q1, .ref q2, .ref q3, .ref q4, .ref q5, .ref q6, .int (iz 0), .int (iz 0), .int (iz 11)])), (q1, ia E 0 30 z0), (q2, ia E 0 30 z0), (q3, ia E 0 30 z0), (q4, ia E 0 30 z0), (q5, ia E 0 30 z0), (q6, ia E 0 30 z0)]
theorem ob_X3 : ∀ w ∈ ([.methodLink RX3 3 Lib.objectInit, .instanceMethod Lib.objectInit, .code Lib.objectInit ⟨#[0xb1]⟩ 1 none] : List Cond), w ∈ TB := tb_r [131, 124, 125] (by decide +kernel)
theorem fn_X3_9 : FW RX3 9 3 0 := ⟨RX3, TX3, 9, rfl, by decide, rfl, tb_1 132 (by decide +kernel), uw_3⟩
theorem ff_3_0 : FF RX3 3 0 (.array .int) := ⟨RX3, TX3, 9, tyX3, rfl, tyX3_ok, nmX3, rfl, rfl, by decide +kernel⟩
theorem fn_X3_15 : FW RX3 15 3 1 := ⟨RX3, TX3, 9, rfl, by decide, rfl, tb_1 141 (by decide +kernel), uw_3⟩
theorem ff_3_1 : FF RX3 3 1 (.array .int) := ⟨RX3, TX3, 9, tyX3, rfl, tyX3_ok, nmX3, rfl, rfl, by decide +kernel⟩
theorem fn_X3_18 : FW RX3 18 3 2 := ⟨RX3, TX3, 9, rfl, by decide, rfl, tb_1 150 (by decide +kernel), uw_3⟩
theorem ff_3_2 : FF RX3 3 2 (.array .int) := ⟨RX3, TX3, 9, tyX3, rfl, tyX3_ok, nmX3, rfl, rfl, by decide +kernel⟩
theorem fn_X3_21 : FW RX3 21 3 3 := ⟨RX3, TX3, 9, rfl, by decide, rfl, tb_1 154 (by decide +kernel), uw_3⟩
theorem ff_3_3 : FF RX3 3 3 (.array .int) := ⟨RX3, TX3, 9, tyX3, rfl, tyX3_ok, nmX3, rfl, rfl, by decide +kernel⟩
theorem fn_X3_24 : FW RX3 24 3 4 := ⟨RX3, TX3, 9, rfl, by decide, rfl, tb_1 158 (by decide +kernel), uw_3⟩
theorem ff_3_4 : FF RX3 3 4 (.array .int) := ⟨RX3, TX3, 9, tyX3, rfl, tyX3_ok, nmX3, rfl, rfl, by decide +kernel⟩
theorem fn_X3_27 : FW RX3 27 3 5 := ⟨RX3, TX3, 9, rfl, by decide, rfl, tb_1 163 (by decide +kernel), uw_3⟩
theorem ff_3_5 : FF RX3 3 5 (.array .int) := ⟨RX3, TX3, 9, tyX3, rfl, tyX3_ok, nmX3, rfl, rfl, by decide +kernel⟩
theorem fn_X3_30 : FW RX3 30 3 8 := ⟨RX3, TX3, 9, rfl, by decide, rfl, tb_1 184 (by decide +kernel), uw_3⟩
theorem fq_3_8 : FP 3 8 .int := ⟨RX3, TX3, 9, tyX3, rfl, tyX3_ok, nmX3, rfl, by decide +kernel⟩
theorem nm_X3_init : ynm yX3_init 0 := ⟨⟨by decide +kernel, by decide +kernel⟩, by decide +kernel⟩
set_option maxHeartbeats 4000000 in
set_option maxRecDepth 100000 in
theorem nt_X3 (E : EV) : NCT E yX3_init mi_X3_init 6 180 3 [.null, .null, .null, .null, .null, .null, .int (iz 0), .int (iz 0), .int (iz 0)] (BX3 E) := by
  refine nt_of (by decide +kernel) rfl rfl rfl rfl (fun h0 A x hi hn => ?_)
  refine n_aload (dc D_cX3_init_0 0 rfl) rfl rfl ?_
  refine n_obj (dc D_cX3_init_0 1 rfl) ob_X3 (by decide) ?_
  refine n_aload (dc D_cX3_init_0 2 rfl) rfl rfl ?_
  refine n_bipush (dc D_cX3_init_0 3 rfl) (by decide +kernel) ?_
  refine n_newI (N := 30) (dc D_cX3_init_0 4 rfl) aw_int (by decide +kernel) rfl rfl rfl (fun q1 => ?_)
  refine n_sig (ws' := [(h0, .inr (3, [.null, .null, .null, .null, .null, .null, .int (iz 0), .int (iz 0), .int (iz 0)])), (q1, ia E 0 30 z0)]) rfl ?_
  refine n_cs (k' := 1) (n' := 30) rfl rfl ?_
  refine n_putF (q0 := 0) (ws' := [(h0, .inr (3, [.ref q1, .null, .null, .null, .null, .null, .int (iz 0), .int (iz 0), .int (iz 0)])), (q1, ia E 0 30 z0)]) (dc D_cX3_init_0 5 rfl) hi fn_X3_9 ff_3_0 rfl ⟨rfl, rfl⟩ rfl rfl ?_
  refine n_aload (dc D_cX3_init_0 6 rfl) rfl rfl ?_
  refine n_bipush (dc D_cX3_init_0 7 rfl) (by decide +kernel) ?_
  refine n_newI (N := 30) (dc D_cX3_init_0 8 rfl) aw_int (by decide +kernel) rfl rfl rfl (fun q2 => ?_)
  refine n_sig (ws' := [(h0, .inr (3, [.ref q1, .null, .null, .null, .null, .null, .int (iz 0), .int (iz 0), .int (iz 0)])), (q1, ia E 0 30 z0), (q2, ia E 0 30 z0)]) rfl ?_
  refine n_cs (k' := 2) (n' := 60) rfl rfl ?_
  refine n_putF (q0 := 0) (ws' := [(h0, .inr (3, [.ref q1, .ref q2, .null, .null, .null, .null, .int (iz 0), .int (iz 0), .int (iz 0)])), (q1, ia E 0 30 z0), (q2, ia E 0 30 z0)]) (dc D_cX3_init_0 9 rfl) hi fn_X3_15 ff_3_1 rfl ⟨rfl, rfl⟩ rfl rfl ?_
  refine n_aload (dc D_cX3_init_0 10 rfl) rfl rfl ?_
  refine n_bipush (dc D_cX3_init_0 11 rfl) (by decide +kernel) ?_
  refine n_newI (N := 30) (dc D_cX3_init_0 12 rfl) aw_int (by decide +kernel) rfl rfl rfl (fun q3 => ?_)
  refine n_sig (ws' := [(h0, .inr (3, [.ref q1, .ref q2, .null, .null, .null, .null, .int (iz 0), .int (iz 0), .int (iz 0)])), (q1, ia E 0 30 z0), (q2, ia E 0 30 z0), (q3, ia E 0 30 z0)]) rfl ?_
  refine n_cs (k' := 3) (n' := 90) rfl rfl ?_
  refine n_putF (q0 := 0) (ws' := [(h0, .inr (3, [.ref q1, .ref q2, .ref q3, .null, .null, .null, .int (iz 0), .int (iz 0), .int (iz 0)])), (q1, ia E 0 30 z0), (q2, ia E 0 30 z0), (q3, ia E 0 30 z0)]) (dc D_cX3_init_0 13 rfl) hi fn_X3_18 ff_3_2 rfl ⟨rfl, rfl⟩ rfl rfl ?_
  refine n_aload (dc D_cX3_init_0 14 rfl) rfl rfl ?_
  refine n_bipush (dc D_cX3_init_0 15 rfl) (by decide +kernel) ?_
  refine n_newI (N := 30) (dc D_cX3_init_0 16 rfl) aw_int (by decide +kernel) rfl rfl rfl (fun q4 => ?_)
  refine n_sig (ws' := [(h0, .inr (3, [.ref q1, .ref q2, .ref q3, .null, .null, .null, .int (iz 0), .int (iz 0), .int (iz 0)])), (q1, ia E 0 30 z0), (q2, ia E 0 30 z0), (q3, ia E 0 30 z0), (q4, ia E 0 30 z0)]) rfl ?_
  refine n_cs (k' := 4) (n' := 120) rfl rfl ?_
  refine n_putF (q0 := 0) (ws' := [(h0, .inr (3, [.ref q1, .ref q2, .ref q3, .ref q4, .null, .null, .int (iz 0), .int (iz 0), .int (iz 0)])), (q1, ia E 0 30 z0), (q2, ia E 0 30 z0), (q3, ia E 0 30 z0), (q4, ia E 0 30 z0)]) (dc D_cX3_init_0 17 rfl) hi fn_X3_21 ff_3_3 rfl ⟨rfl, rfl⟩ rfl rfl ?_
  refine n_aload (dc D_cX3_init_0 18 rfl) rfl rfl ?_
  refine n_bipush (dc D_cX3_init_0 19 rfl) (by decide +kernel) ?_
  refine n_newI (N := 30) (dc D_cX3_init_0 20 rfl) aw_int (by decide +kernel) rfl rfl rfl (fun q5 => ?_)
  refine n_sig (ws' := [(h0, .inr (3, [.ref q1, .ref q2, .ref q3, .ref q4, .null, .null, .int (iz 0), .int (iz 0), .int (iz 0)])), (q1, ia E 0 30 z0), (q2, ia E 0 30 z0), (q3, ia E 0 30 z0), (q4, ia E 0 30 z0), (q5, ia E 0 30 z0)]) rfl ?_
  refine n_cs (k' := 5) (n' := 150) rfl rfl ?_
  refine n_putF (q0 := 0) (ws' := [(h0, .inr (3, [.ref q1, .ref q2, .ref q3, .ref q4, .ref q5, .null, .int (iz 0), .int (iz 0), .int (iz 0)])), (q1, ia E 0 30 z0), (q2, ia E 0 30 z0), (q3, ia E 0 30 z0), (q4, ia E 0 30 z0), (q5, ia E 0 30 z0)]) (dc D_cX3_init_0 21 rfl) hi fn_X3_24 ff_3_4 rfl ⟨rfl, rfl⟩ rfl rfl ?_
  refine n_aload (dc D_cX3_init_0 22 rfl) rfl rfl ?_
  refine n_bipush (dc D_cX3_init_0 23 rfl) (by decide +kernel) ?_
  refine n_newI (N := 30) (dc D_cX3_init_0 24 rfl) aw_int (by decide +kernel) rfl rfl rfl (fun q6 => ?_)
  refine n_sig (ws' := [(h0, .inr (3, [.ref q1, .ref q2, .ref q3, .ref q4, .ref q5, .null, .int (iz 0), .int (iz 0), .int (iz 0)])), (q1, ia E 0 30 z0), (q2, ia E 0 30 z0), (q3, ia E 0 30 z0), (q4, ia E 0 30 z0), (q5, ia E 0 30 z0), (q6, ia E 0 30 z0)]) rfl ?_
  refine n_cs (k' := 6) (n' := 180) rfl rfl ?_
  refine n_putF (q0 := 0) (ws' := [(h0, .inr (3, [.ref q1, .ref q2, .ref q3, .ref q4, .ref q5, .ref q6, .int (iz 0), .int (iz 0), .int (iz 0)])), (q1, ia E 0 30 z0), (q2, ia E 0 30 z0), (q3, ia E 0 30 z0), (q4, ia E 0 30 z0), (q5, ia E 0 30 z0), (q6, ia E 0 30 z0)]) (dc D_cX3_init_0 25 rfl) hi fn_X3_27 ff_3_5 rfl ⟨rfl, rfl⟩ rfl rfl ?_
  refine n_aload (dc D_cX3_init_0 26 rfl) rfl rfl ?_
  refine n_bipush (dc D_cX3_init_0 27 rfl) (by decide +kernel) ?_
  refine n_put (q0 := 0) (ws' := [(h0, .inr (3, [.ref q1, .ref q2, .ref q3, .ref q4, .ref q5, .ref q6, .int (iz 0), .int (iz 0), .int (iz 11)])), (q1, ia E 0 30 z0), (q2, ia E 0 30 z0), (q3, ia E 0 30 z0), (q4, ia E 0 30 z0), (q5, ia E 0 30 z0), (q6, ia E 0 30 z0)]) (dc D_cX3_init_0 28 rfl) fn_X3_30 fq_3_8 rfl ⟨rfl, rfl⟩ rfl rfl ?_
  exact n_ret (B := BX3 E h0) (dc D_cX3_init_0 29 rfl) hn rfl rfl [0, 1, 2, 3, 4, 5, 6] rfl rfl ⟨q1, q2, q3, q4, q5, q6, rfl⟩
def mi_X1_init : MI := (cX1_init, RX1, 1, 1, none, 0)
def BX1 (E : EV) (h0 : Nat) (ws : va_W) : Prop := ∃ q1 q2 q3 q4 q5 q6 q7 : Nat, ws = [(h0, .inr (1, [.ref q1, .ref q2, .ref q3, .ref q4, .ref q5, .ref q6, .ref q7, .int (iz 0), .int (iz 0), .int (iz 0), .int (iz 0)])), (q1, ia E 0 30 z0), (q2, ia E 0 360 z0), (q3, ia E 0 360 z0), (q4, ia E 0 4320 z0), (q5, ia E 0 30 z0), (q6, ia E 0 12 z0), (q7, ia E 0 12 z0)]
theorem ob_X1 : ∀ w ∈ ([.methodLink RX1 3 Lib.objectInit, .instanceMethod Lib.objectInit, .code Lib.objectInit ⟨#[0xb1]⟩ 1 none] : List Cond), w ∈ TB := tb_r [216, 124, 125] (by decide +kernel)
theorem fn_X1_9 : FW RX1 9 1 0 := ⟨RX1, TX1, 11, rfl, by decide, rfl, tb_1 217 (by decide +kernel), uw_1⟩
theorem ff_1_0 : FF RX1 1 0 (.array .int) := ⟨RX1, TX1, 11, tyX1, rfl, tyX1_ok, nmX1, rfl, rfl, by decide +kernel⟩
theorem fn_X1_15 : FW RX1 15 1 1 := ⟨RX1, TX1, 11, rfl, by decide, rfl, tb_1 220 (by decide +kernel), uw_1⟩
theorem ff_1_1 : FF RX1 1 1 (.array .int) := ⟨RX1, TX1, 11, tyX1, rfl, tyX1_ok, nmX1, rfl, rfl, by decide +kernel⟩
theorem fn_X1_18 : FW RX1 18 1 2 := ⟨RX1, TX1, 11, rfl, by decide, rfl, tb_1 222 (by decide +kernel), uw_1⟩
theorem ff_1_2 : FF RX1 1 2 (.array .int) := ⟨RX1, TX1, 11, tyX1, rfl, tyX1_ok, nmX1, rfl, rfl, by decide +kernel⟩
theorem fn_X1_21 : FW RX1 21 1 3 := ⟨RX1, TX1, 11, rfl, by decide, rfl, tb_1 224 (by decide +kernel), uw_1⟩
theorem ff_1_3 : FF RX1 1 3 (.array .int) := ⟨RX1, TX1, 11, tyX1, rfl, tyX1_ok, nmX1, rfl, rfl, by decide +kernel⟩
theorem fn_X1_24 : FW RX1 24 1 4 := ⟨RX1, TX1, 11, rfl, by decide, rfl, tb_1 226 (by decide +kernel), uw_1⟩
theorem ff_1_4 : FF RX1 1 4 (.array .int) := ⟨RX1, TX1, 11, tyX1, rfl, tyX1_ok, nmX1, rfl, rfl, by decide +kernel⟩
theorem fn_X1_27 : FW RX1 27 1 5 := ⟨RX1, TX1, 11, rfl, by decide, rfl, tb_1 227 (by decide +kernel), uw_1⟩
theorem ff_1_5 : FF RX1 1 5 (.array .int) := ⟨RX1, TX1, 11, tyX1, rfl, tyX1_ok, nmX1, rfl, rfl, by decide +kernel⟩
theorem fn_X1_30 : FW RX1 30 1 6 := ⟨RX1, TX1, 11, rfl, by decide, rfl, tb_1 228 (by decide +kernel), uw_1⟩
theorem ff_1_6 : FF RX1 1 6 (.array .int) := ⟨RX1, TX1, 11, tyX1, rfl, tyX1_ok, nmX1, rfl, rfl, by decide +kernel⟩
theorem nm_X1_init : ynm yX1_init 0 := ⟨⟨by decide +kernel, by decide +kernel⟩, by decide +kernel⟩
set_option maxHeartbeats 4000000 in
set_option maxRecDepth 100000 in
theorem nt_X1 (E : EV) : NCT E yX1_init mi_X1_init 7 5124 1 [.null, .null, .null, .null, .null, .null, .null, .int (iz 0), .int (iz 0), .int (iz 0), .int (iz 0)] (BX1 E) := by
  refine nt_of (by decide +kernel) rfl rfl rfl rfl (fun h0 A x hi hn => ?_)
  refine n_aload (dc D_cX1_init_0 0 rfl) rfl rfl ?_
  refine n_obj (dc D_cX1_init_0 1 rfl) ob_X1 (by decide) ?_
  refine n_aload (dc D_cX1_init_0 2 rfl) rfl rfl ?_
  refine n_bipush (dc D_cX1_init_0 3 rfl) (by decide +kernel) ?_
  refine n_newI (N := 30) (dc D_cX1_init_0 4 rfl) aw_int (by decide +kernel) rfl rfl rfl (fun q1 => ?_)
  refine n_sig (ws' := [(h0, .inr (1, [.null, .null, .null, .null, .null, .null, .null, .int (iz 0), .int (iz 0), .int (iz 0), .int (iz 0)])), (q1, ia E 0 30 z0)]) rfl ?_
  refine n_cs (k' := 1) (n' := 30) rfl rfl ?_
  refine n_putF (q0 := 0) (ws' := [(h0, .inr (1, [.ref q1, .null, .null, .null, .null, .null, .null, .int (iz 0), .int (iz 0), .int (iz 0), .int (iz 0)])), (q1, ia E 0 30 z0)]) (dc D_cX1_init_0 5 rfl) hi fn_X1_9 ff_1_0 rfl ⟨rfl, rfl⟩ rfl rfl ?_
  refine n_aload (dc D_cX1_init_0 6 rfl) rfl rfl ?_
  refine n_sipush (dc D_cX1_init_0 7 rfl) (by decide +kernel) ?_
  refine n_newI (N := 360) (dc D_cX1_init_0 8 rfl) aw_int (by decide +kernel) rfl rfl rfl (fun q2 => ?_)
  refine n_sig (ws' := [(h0, .inr (1, [.ref q1, .null, .null, .null, .null, .null, .null, .int (iz 0), .int (iz 0), .int (iz 0), .int (iz 0)])), (q1, ia E 0 30 z0), (q2, ia E 0 360 z0)]) rfl ?_
  refine n_cs (k' := 2) (n' := 390) rfl rfl ?_
  refine n_putF (q0 := 0) (ws' := [(h0, .inr (1, [.ref q1, .ref q2, .null, .null, .null, .null, .null, .int (iz 0), .int (iz 0), .int (iz 0), .int (iz 0)])), (q1, ia E 0 30 z0), (q2, ia E 0 360 z0)]) (dc D_cX1_init_0 9 rfl) hi fn_X1_15 ff_1_1 rfl ⟨rfl, rfl⟩ rfl rfl ?_
  refine n_aload (dc D_cX1_init_0 10 rfl) rfl rfl ?_
  refine n_sipush (dc D_cX1_init_0 11 rfl) (by decide +kernel) ?_
  refine n_newI (N := 360) (dc D_cX1_init_0 12 rfl) aw_int (by decide +kernel) rfl rfl rfl (fun q3 => ?_)
  refine n_sig (ws' := [(h0, .inr (1, [.ref q1, .ref q2, .null, .null, .null, .null, .null, .int (iz 0), .int (iz 0), .int (iz 0), .int (iz 0)])), (q1, ia E 0 30 z0), (q2, ia E 0 360 z0), (q3, ia E 0 360 z0)]) rfl ?_
  refine n_cs (k' := 3) (n' := 750) rfl rfl ?_
  refine n_putF (q0 := 0) (ws' := [(h0, .inr (1, [.ref q1, .ref q2, .ref q3, .null, .null, .null, .null, .int (iz 0), .int (iz 0), .int (iz 0), .int (iz 0)])), (q1, ia E 0 30 z0), (q2, ia E 0 360 z0), (q3, ia E 0 360 z0)]) (dc D_cX1_init_0 13 rfl) hi fn_X1_18 ff_1_2 rfl ⟨rfl, rfl⟩ rfl rfl ?_
  refine n_aload (dc D_cX1_init_0 14 rfl) rfl rfl ?_
  refine n_sipush (dc D_cX1_init_0 15 rfl) (by decide +kernel) ?_
  refine n_newI (N := 4320) (dc D_cX1_init_0 16 rfl) aw_int (by decide +kernel) rfl rfl rfl (fun q4 => ?_)
  refine n_sig (ws' := [(h0, .inr (1, [.ref q1, .ref q2, .ref q3, .null, .null, .null, .null, .int (iz 0), .int (iz 0), .int (iz 0), .int (iz 0)])), (q1, ia E 0 30 z0), (q2, ia E 0 360 z0), (q3, ia E 0 360 z0), (q4, ia E 0 4320 z0)]) rfl ?_
  refine n_cs (k' := 4) (n' := 5070) rfl rfl ?_
  refine n_putF (q0 := 0) (ws' := [(h0, .inr (1, [.ref q1, .ref q2, .ref q3, .ref q4, .null, .null, .null, .int (iz 0), .int (iz 0), .int (iz 0), .int (iz 0)])), (q1, ia E 0 30 z0), (q2, ia E 0 360 z0), (q3, ia E 0 360 z0), (q4, ia E 0 4320 z0)]) (dc D_cX1_init_0 17 rfl) hi fn_X1_21 ff_1_3 rfl ⟨rfl, rfl⟩ rfl rfl ?_
  refine n_aload (dc D_cX1_init_0 18 rfl) rfl rfl ?_
  refine n_bipush (dc D_cX1_init_0 19 rfl) (by decide +kernel) ?_
  refine n_newI (N := 30) (dc D_cX1_init_0 20 rfl) aw_int (by decide +kernel) rfl rfl rfl (fun q5 => ?_)
  refine n_sig (ws' := [(h0, .inr (1, [.ref q1, .ref q2, .ref q3, .ref q4, .null, .null, .null, .int (iz 0), .int (iz 0), .int (iz 0), .int (iz 0)])), (q1, ia E 0 30 z0), (q2, ia E 0 360 z0), (q3, ia E 0 360 z0), (q4, ia E 0 4320 z0), (q5, ia E 0 30 z0)]) rfl ?_
  refine n_cs (k' := 5) (n' := 5100) rfl rfl ?_
  refine n_putF (q0 := 0) (ws' := [(h0, .inr (1, [.ref q1, .ref q2, .ref q3, .ref q4, .ref q5, .null, .null, .int (iz 0), .int (iz 0), .int (iz 0), .int (iz 0)])), (q1, ia E 0 30 z0), (q2, ia E 0 360 z0), (q3, ia E 0 360 z0), (q4, ia E 0 4320 z0), (q5, ia E 0 30 z0)]) (dc D_cX1_init_0 21 rfl) hi fn_X1_24 ff_1_4 rfl ⟨rfl, rfl⟩ rfl rfl ?_
  refine n_aload (dc D_cX1_init_0 22 rfl) rfl rfl ?_
  refine n_bipush (dc D_cX1_init_0 23 rfl) (by decide +kernel) ?_
  refine n_newI (N := 12) (dc D_cX1_init_0 24 rfl) aw_int (by decide +kernel) rfl rfl rfl (fun q6 => ?_)
  refine n_sig (ws' := [(h0, .inr (1, [.ref q1, .ref q2, .ref q3, .ref q4, .ref q5, .null, .null, .int (iz 0), .int (iz 0), .int (iz 0), .int (iz 0)])), (q1, ia E 0 30 z0), (q2, ia E 0 360 z0), (q3, ia E 0 360 z0), (q4, ia E 0 4320 z0), (q5, ia E 0 30 z0), (q6, ia E 0 12 z0)]) rfl ?_
  refine n_cs (k' := 6) (n' := 5112) rfl rfl ?_
  refine n_putF (q0 := 0) (ws' := [(h0, .inr (1, [.ref q1, .ref q2, .ref q3, .ref q4, .ref q5, .ref q6, .null, .int (iz 0), .int (iz 0), .int (iz 0), .int (iz 0)])), (q1, ia E 0 30 z0), (q2, ia E 0 360 z0), (q3, ia E 0 360 z0), (q4, ia E 0 4320 z0), (q5, ia E 0 30 z0), (q6, ia E 0 12 z0)]) (dc D_cX1_init_0 25 rfl) hi fn_X1_27 ff_1_5 rfl ⟨rfl, rfl⟩ rfl rfl ?_
  refine n_aload (dc D_cX1_init_0 26 rfl) rfl rfl ?_
  refine n_bipush (dc D_cX1_init_0 27 rfl) (by decide +kernel) ?_
  refine n_newI (N := 12) (dc D_cX1_init_0 28 rfl) aw_int (by decide +kernel) rfl rfl rfl (fun q7 => ?_)
  refine n_sig (ws' := [(h0, .inr (1, [.ref q1, .ref q2, .ref q3, .ref q4, .ref q5, .ref q6, .null, .int (iz 0), .int (iz 0), .int (iz 0), .int (iz 0)])), (q1, ia E 0 30 z0), (q2, ia E 0 360 z0), (q3, ia E 0 360 z0), (q4, ia E 0 4320 z0), (q5, ia E 0 30 z0), (q6, ia E 0 12 z0), (q7, ia E 0 12 z0)]) rfl ?_
  refine n_cs (k' := 7) (n' := 5124) rfl rfl ?_
  refine n_putF (q0 := 0) (ws' := [(h0, .inr (1, [.ref q1, .ref q2, .ref q3, .ref q4, .ref q5, .ref q6, .ref q7, .int (iz 0), .int (iz 0), .int (iz 0), .int (iz 0)])), (q1, ia E 0 30 z0), (q2, ia E 0 360 z0), (q3, ia E 0 360 z0), (q4, ia E 0 4320 z0), (q5, ia E 0 30 z0), (q6, ia E 0 12 z0), (q7, ia E 0 12 z0)]) (dc D_cX1_init_0 29 rfl) hi fn_X1_30 ff_1_6 rfl ⟨rfl, rfl⟩ rfl rfl ?_
  exact n_ret (B := BX1 E h0) (dc D_cX1_init_0 30 rfl) hn rfl rfl [0, 1, 2, 3, 4, 5, 6, 7] rfl rfl ⟨q1, q2, q3, q4, q5, q6, q7, rfl⟩
def mi_X0_init : MI := (cX0_init, RX0, 1, 1, none, 0)
def BX0 (E : EV) (h0 : Nat) (ws : va_W) : Prop := ∃ q1 q2 q3 q4 q5 q6 q7 q8 : Nat, ws = [(h0, .inr (0, [.ref q1, .ref q2, .ref q3, .ref q4, .ref q5, .ref q6, .ref q7, .ref q8, .int (iz 0), .int (iz 0), .int (iz 0)])), (q1, ia E 0 30 z0), (q2, ia E 0 12 z0), (q3, ia E 0 12 z0), (q4, ia E 0 12 z0), (q5, ia E 0 30 z0), (q6, ia E 0 12 z0), (q7, ia E 0 12 z0), (q8, ia E 0 12 z0)]
theorem ob_X0 : ∀ w ∈ ([.methodLink RX0 3 Lib.objectInit, .instanceMethod Lib.objectInit, .code Lib.objectInit ⟨#[0xb1]⟩ 1 none] : List Cond), w ∈ TB := tb_r [266, 124, 125] (by decide +kernel)
theorem fn_X0_9 : FW RX0 9 0 0 := ⟨RX0, TX0, 11, rfl, by decide, rfl, tb_1 267 (by decide +kernel), uw_0⟩
theorem ff_0_0 : FF RX0 0 0 (.array .int) := ⟨RX0, TX0, 11, tyX0, rfl, tyX0_ok, nmX0, rfl, rfl, by decide +kernel⟩
theorem fn_X0_15 : FW RX0 15 0 1 := ⟨RX0, TX0, 11, rfl, by decide, rfl, tb_1 269 (by decide +kernel), uw_0⟩
theorem ff_0_1 : FF RX0 0 1 (.array .int) := ⟨RX0, TX0, 11, tyX0, rfl, tyX0_ok, nmX0, rfl, rfl, by decide +kernel⟩
theorem fn_X0_18 : FW RX0 18 0 2 := ⟨RX0, TX0, 11, rfl, by decide, rfl, tb_1 271 (by decide +kernel), uw_0⟩
theorem ff_0_2 : FF RX0 0 2 (.array .int) := ⟨RX0, TX0, 11, tyX0, rfl, tyX0_ok, nmX0, rfl, rfl, by decide +kernel⟩
theorem fn_X0_21 : FW RX0 21 0 3 := ⟨RX0, TX0, 11, rfl, by decide, rfl, tb_1 273 (by decide +kernel), uw_0⟩
theorem ff_0_3 : FF RX0 0 3 (.array .int) := ⟨RX0, TX0, 11, tyX0, rfl, tyX0_ok, nmX0, rfl, rfl, by decide +kernel⟩
theorem fn_X0_24 : FW RX0 24 0 4 := ⟨RX0, TX0, 11, rfl, by decide, rfl, tb_1 275 (by decide +kernel), uw_0⟩
theorem ff_0_4 : FF RX0 0 4 (.array .int) := ⟨RX0, TX0, 11, tyX0, rfl, tyX0_ok, nmX0, rfl, rfl, by decide +kernel⟩
theorem fn_X0_27 : FW RX0 27 0 5 := ⟨RX0, TX0, 11, rfl, by decide, rfl, tb_1 276 (by decide +kernel), uw_0⟩
theorem ff_0_5 : FF RX0 0 5 (.array .int) := ⟨RX0, TX0, 11, tyX0, rfl, tyX0_ok, nmX0, rfl, rfl, by decide +kernel⟩
theorem fn_X0_30 : FW RX0 30 0 6 := ⟨RX0, TX0, 11, rfl, by decide, rfl, tb_1 277 (by decide +kernel), uw_0⟩
theorem ff_0_6 : FF RX0 0 6 (.array .int) := ⟨RX0, TX0, 11, tyX0, rfl, tyX0_ok, nmX0, rfl, rfl, by decide +kernel⟩
theorem fn_X0_33 : FW RX0 33 0 7 := ⟨RX0, TX0, 11, rfl, by decide, rfl, tb_1 278 (by decide +kernel), uw_0⟩
theorem ff_0_7 : FF RX0 0 7 (.array .int) := ⟨RX0, TX0, 11, tyX0, rfl, tyX0_ok, nmX0, rfl, rfl, by decide +kernel⟩
theorem nm_X0_init : ynm yX0_init 0 := ⟨⟨by decide +kernel, by decide +kernel⟩, by decide +kernel⟩
set_option maxHeartbeats 4000000 in
set_option maxRecDepth 100000 in
theorem nt_X0 (E : EV) : NCT E yX0_init mi_X0_init 8 132 0 [.null, .null, .null, .null, .null, .null, .null, .null, .int (iz 0), .int (iz 0), .int (iz 0)] (BX0 E) := by
  refine nt_of (by decide +kernel) rfl rfl rfl rfl (fun h0 A x hi hn => ?_)
  refine n_aload (dc D_cX0_init_0 0 rfl) rfl rfl ?_
  refine n_obj (dc D_cX0_init_0 1 rfl) ob_X0 (by decide) ?_
  refine n_aload (dc D_cX0_init_0 2 rfl) rfl rfl ?_
  refine n_bipush (dc D_cX0_init_0 3 rfl) (by decide +kernel) ?_
  refine n_newI (N := 30) (dc D_cX0_init_0 4 rfl) aw_int (by decide +kernel) rfl rfl rfl (fun q1 => ?_)
  refine n_sig (ws' := [(h0, .inr (0, [.null, .null, .null, .null, .null, .null, .null, .null, .int (iz 0), .int (iz 0), .int (iz 0)])), (q1, ia E 0 30 z0)]) rfl ?_
  refine n_cs (k' := 1) (n' := 30) rfl rfl ?_
  refine n_putF (q0 := 0) (ws' := [(h0, .inr (0, [.ref q1, .null, .null, .null, .null, .null, .null, .null, .int (iz 0), .int (iz 0), .int (iz 0)])), (q1, ia E 0 30 z0)]) (dc D_cX0_init_0 5 rfl) hi fn_X0_9 ff_0_0 rfl ⟨rfl, rfl⟩ rfl rfl ?_
  refine n_aload (dc D_cX0_init_0 6 rfl) rfl rfl ?_
  refine n_bipush (dc D_cX0_init_0 7 rfl) (by decide +kernel) ?_
  refine n_newI (N := 12) (dc D_cX0_init_0 8 rfl) aw_int (by decide +kernel) rfl rfl rfl (fun q2 => ?_)
  refine n_sig (ws' := [(h0, .inr (0, [.ref q1, .null, .null, .null, .null, .null, .null, .null, .int (iz 0), .int (iz 0), .int (iz 0)])), (q1, ia E 0 30 z0), (q2, ia E 0 12 z0)]) rfl ?_
  refine n_cs (k' := 2) (n' := 42) rfl rfl ?_
  refine n_putF (q0 := 0) (ws' := [(h0, .inr (0, [.ref q1, .ref q2, .null, .null, .null, .null, .null, .null, .int (iz 0), .int (iz 0), .int (iz 0)])), (q1, ia E 0 30 z0), (q2, ia E 0 12 z0)]) (dc D_cX0_init_0 9 rfl) hi fn_X0_15 ff_0_1 rfl ⟨rfl, rfl⟩ rfl rfl ?_
  refine n_aload (dc D_cX0_init_0 10 rfl) rfl rfl ?_
  refine n_bipush (dc D_cX0_init_0 11 rfl) (by decide +kernel) ?_
  refine n_newI (N := 12) (dc D_cX0_init_0 12 rfl) aw_int (by decide +kernel) rfl rfl rfl (fun q3 => ?_)
  refine n_sig (ws' := [(h0, .inr (0, [.ref q1, .ref q2, .null, .null, .null, .null, .null, .null, .int (iz 0), .int (iz 0), .int (iz 0)])), (q1, ia E 0 30 z0), (q2, ia E 0 12 z0), (q3, ia E 0 12 z0)]) rfl ?_
  refine n_cs (k' := 3) (n' := 54) rfl rfl ?_
  refine n_putF (q0 := 0) (ws' := [(h0, .inr (0, [.ref q1, .ref q2, .ref q3, .null, .null, .null, .null, .null, .int (iz 0), .int (iz 0), .int (iz 0)])), (q1, ia E 0 30 z0), (q2, ia E 0 12 z0), (q3, ia E 0 12 z0)]) (dc D_cX0_init_0 13 rfl) hi fn_X0_18 ff_0_2 rfl ⟨rfl, rfl⟩ rfl rfl ?_
  refine n_aload (dc D_cX0_init_0 14 rfl) rfl rfl ?_
  refine n_bipush (dc D_cX0_init_0 15 rfl) (by decide +kernel) ?_
  refine n_newI (N := 12) (dc D_cX0_init_0 16 rfl) aw_int (by decide +kernel) rfl rfl rfl (fun q4 => ?_)
  refine n_sig (ws' := [(h0, .inr (0, [.ref q1, .ref q2, .ref q3, .null, .null, .null, .null, .null, .int (iz 0), .int (iz 0), .int (iz 0)])), (q1, ia E 0 30 z0), (q2, ia E 0 12 z0), (q3, ia E 0 12 z0), (q4, ia E 0 12 z0)]) rfl ?_
  refine n_cs (k' := 4) (n' := 66) rfl rfl ?_
  refine n_putF (q0 := 0) (ws' := [(h0, .inr (0, [.ref q1, .ref q2, .ref q3, .ref q4, .null, .null, .null, .null, .int (iz 0), .int (iz 0), .int (iz 0)])), (q1, ia E 0 30 z0), (q2, ia E 0 12 z0), (q3, ia E 0 12 z0), (q4, ia E 0 12 z0)]) (dc D_cX0_init_0 17 rfl) hi fn_X0_21 ff_0_3 rfl ⟨rfl, rfl⟩ rfl rfl ?_
  refine n_aload (dc D_cX0_init_0 18 rfl) rfl rfl ?_
  refine n_bipush (dc D_cX0_init_0 19 rfl) (by decide +kernel) ?_
  refine n_newI (N := 30) (dc D_cX0_init_0 20 rfl) aw_int (by decide +kernel) rfl rfl rfl (fun q5 => ?_)
  refine n_sig (ws' := [(h0, .inr (0, [.ref q1, .ref q2, .ref q3, .ref q4, .null, .null, .null, .null, .int (iz 0), .int (iz 0), .int (iz 0)])), (q1, ia E 0 30 z0), (q2, ia E 0 12 z0), (q3, ia E 0 12 z0), (q4, ia E 0 12 z0), (q5, ia E 0 30 z0)]) rfl ?_
  refine n_cs (k' := 5) (n' := 96) rfl rfl ?_
  refine n_putF (q0 := 0) (ws' := [(h0, .inr (0, [.ref q1, .ref q2, .ref q3, .ref q4, .ref q5, .null, .null, .null, .int (iz 0), .int (iz 0), .int (iz 0)])), (q1, ia E 0 30 z0), (q2, ia E 0 12 z0), (q3, ia E 0 12 z0), (q4, ia E 0 12 z0), (q5, ia E 0 30 z0)]) (dc D_cX0_init_0 21 rfl) hi fn_X0_24 ff_0_4 rfl ⟨rfl, rfl⟩ rfl rfl ?_
  refine n_aload (dc D_cX0_init_0 22 rfl) rfl rfl ?_
  refine n_bipush (dc D_cX0_init_0 23 rfl) (by decide +kernel) ?_
  refine n_newI (N := 12) (dc D_cX0_init_0 24 rfl) aw_int (by decide +kernel) rfl rfl rfl (fun q6 => ?_)
  refine n_sig (ws' := [(h0, .inr (0, [.ref q1, .ref q2, .ref q3, .ref q4, .ref q5, .null, .null, .null, .int (iz 0), .int (iz 0), .int (iz 0)])), (q1, ia E 0 30 z0), (q2, ia E 0 12 z0), (q3, ia E 0 12 z0), (q4, ia E 0 12 z0), (q5, ia E 0 30 z0), (q6, ia E 0 12 z0)]) rfl ?_
  refine n_cs (k' := 6) (n' := 108) rfl rfl ?_
  refine n_putF (q0 := 0) (ws' := [(h0, .inr (0, [.ref q1, .ref q2, .ref q3, .ref q4, .ref q5, .ref q6, .null, .null, .int (iz 0), .int (iz 0), .int (iz 0)])), (q1, ia E 0 30 z0), (q2, ia E 0 12 z0), (q3, ia E 0 12 z0), (q4, ia E 0 12 z0), (q5, ia E 0 30 z0), (q6, ia E 0 12 z0)]) (dc D_cX0_init_0 25 rfl) hi fn_X0_27 ff_0_5 rfl ⟨rfl, rfl⟩ rfl rfl ?_
  refine n_aload (dc D_cX0_init_0 26 rfl) rfl rfl ?_
  refine n_bipush (dc D_cX0_init_0 27 rfl) (by decide +kernel) ?_
  refine n_newI (N := 12) (dc D_cX0_init_0 28 rfl) aw_int (by decide +kernel) rfl rfl rfl (fun q7 => ?_)
  refine n_sig (ws' := [(h0, .inr (0, [.ref q1, .ref q2, .ref q3, .ref q4, .ref q5, .ref q6, .null, .null, .int (iz 0), .int (iz 0), .int (iz 0)])), (q1, ia E 0 30 z0), (q2, ia E 0 12 z0), (q3, ia E 0 12 z0), (q4, ia E 0 12 z0), (q5, ia E 0 30 z0), (q6, ia E 0 12 z0), (q7, ia E 0 12 z0)]) rfl ?_
  refine n_cs (k' := 7) (n' := 120) rfl rfl ?_
  refine n_putF (q0 := 0) (ws' := [(h0, .inr (0, [.ref q1, .ref q2, .ref q3, .ref q4, .ref q5, .ref q6, .ref q7, .null, .int (iz 0), .int (iz 0), .int (iz 0)])), (q1, ia E 0 30 z0), (q2, ia E 0 12 z0), (q3, ia E 0 12 z0), (q4, ia E 0 12 z0), (q5, ia E 0 30 z0), (q6, ia E 0 12 z0), (q7, ia E 0 12 z0)]) (dc D_cX0_init_0 29 rfl) hi fn_X0_30 ff_0_6 rfl ⟨rfl, rfl⟩ rfl rfl ?_
  refine n_aload (dc D_cX0_init_0 30 rfl) rfl rfl ?_
  refine n_bipush (dc D_cX0_init_0 31 rfl) (by decide +kernel) ?_
  refine n_newI (N := 12) (dc D_cX0_init_0 32 rfl) aw_int (by decide +kernel) rfl rfl rfl (fun q8 => ?_)
  refine n_sig (ws' := [(h0, .inr (0, [.ref q1, .ref q2, .ref q3, .ref q4, .ref q5, .ref q6, .ref q7, .null, .int (iz 0), .int (iz 0), .int (iz 0)])), (q1, ia E 0 30 z0), (q2, ia E 0 12 z0), (q3, ia E 0 12 z0), (q4, ia E 0 12 z0), (q5, ia E 0 30 z0), (q6, ia E 0 12 z0), (q7, ia E 0 12 z0), (q8, ia E 0 12 z0)]) rfl ?_
  refine n_cs (k' := 8) (n' := 132) rfl rfl ?_
  refine n_putF (q0 := 0) (ws' := [(h0, .inr (0, [.ref q1, .ref q2, .ref q3, .ref q4, .ref q5, .ref q6, .ref q7, .ref q8, .int (iz 0), .int (iz 0), .int (iz 0)])), (q1, ia E 0 30 z0), (q2, ia E 0 12 z0), (q3, ia E 0 12 z0), (q4, ia E 0 12 z0), (q5, ia E 0 30 z0), (q6, ia E 0 12 z0), (q7, ia E 0 12 z0), (q8, ia E 0 12 z0)]) (dc D_cX0_init_0 33 rfl) hi fn_X0_33 ff_0_7 rfl ⟨rfl, rfl⟩ rfl rfl ?_
  exact n_ret (B := BX0 E h0) (dc D_cX0_init_0 34 rfl) hn rfl rfl [0, 1, 2, 3, 4, 5, 6, 7, 8] rfl rfl ⟨q1, q2, q3, q4, q5, q6, q7, q8, rfl⟩
def mi_X8_init : MI := (cX8_init, RX8, 1, 1, none, 0)
def BX8 (E : EV) (h0 : Nat) (ws : va_W) : Prop := ∃ q1 q2 q3 q4 q5 q6 q7 : Nat, ws = [(h0, .inr (8, [.ref q1, .ref q2, .ref q3, .ref q4, .ref q5, .ref q6, .ref q7, .int (iz 0), .int (iz 0)])), (q1, ia E 0 30 z0), (q2, ia E 0 30 z0), (q3, ia E 0 30 z0), (q4, ia E 0 360 z0), (q5, ia E 0 30 z0), (q6, ia E 0 12 z0), (q7, ia E 0 12 z0)]
theorem ob_X8 : ∀ w ∈ ([.methodLink RX8 3 Lib.objectInit, .instanceMethod Lib.objectInit, .code Lib.objectInit ⟨#[0xb1]⟩ 1 none] : List Cond), w ∈ TB := tb_r [311, 124, 125] (by decide +kernel)
theorem fn_X8_9 : FW RX8 9 8 0 := ⟨RX8, TX8, 9, rfl, by decide, rfl, tb_1 312 (by decide +kernel), uw_8⟩
theorem ff_8_0 : FF RX8 8 0 (.array .int) := ⟨RX8, TX8, 9, tyX8, rfl, tyX8_ok, nmX8, rfl, rfl, by decide +kernel⟩
theorem fn_X8_15 : FW RX8 15 8 1 := ⟨RX8, TX8, 9, rfl, by decide, rfl, tb_1 314 (by decide +kernel), uw_8⟩
theorem ff_8_1 : FF RX8 8 1 (.array .int) := ⟨RX8, TX8, 9, tyX8, rfl, tyX8_ok, nmX8, rfl, rfl, by decide +kernel⟩
theorem fn_X8_18 : FW RX8 18 8 2 := ⟨RX8, TX8, 9, rfl, by decide, rfl, tb_1 316 (by decide +kernel), uw_8⟩
theorem ff_8_2 : FF RX8 8 2 (.array .int) := ⟨RX8, TX8, 9, tyX8, rfl, tyX8_ok, nmX8, rfl, rfl, by decide +kernel⟩
theorem fn_X8_21 : FW RX8 21 8 3 := ⟨RX8, TX8, 9, rfl, by decide, rfl, tb_1 318 (by decide +kernel), uw_8⟩
theorem ff_8_3 : FF RX8 8 3 (.array .int) := ⟨RX8, TX8, 9, tyX8, rfl, tyX8_ok, nmX8, rfl, rfl, by decide +kernel⟩
theorem fn_X8_24 : FW RX8 24 8 4 := ⟨RX8, TX8, 9, rfl, by decide, rfl, tb_1 320 (by decide +kernel), uw_8⟩
theorem ff_8_4 : FF RX8 8 4 (.array .int) := ⟨RX8, TX8, 9, tyX8, rfl, tyX8_ok, nmX8, rfl, rfl, by decide +kernel⟩
theorem fn_X8_27 : FW RX8 27 8 5 := ⟨RX8, TX8, 9, rfl, by decide, rfl, tb_1 321 (by decide +kernel), uw_8⟩
theorem ff_8_5 : FF RX8 8 5 (.array .int) := ⟨RX8, TX8, 9, tyX8, rfl, tyX8_ok, nmX8, rfl, rfl, by decide +kernel⟩
theorem fn_X8_30 : FW RX8 30 8 6 := ⟨RX8, TX8, 9, rfl, by decide, rfl, tb_1 322 (by decide +kernel), uw_8⟩
theorem ff_8_6 : FF RX8 8 6 (.array .int) := ⟨RX8, TX8, 9, tyX8, rfl, tyX8_ok, nmX8, rfl, rfl, by decide +kernel⟩
theorem nm_X8_init : ynm yX8_init 0 := ⟨⟨by decide +kernel, by decide +kernel⟩, by decide +kernel⟩
set_option maxHeartbeats 4000000 in
set_option maxRecDepth 100000 in
theorem nt_X8 (E : EV) : NCT E yX8_init mi_X8_init 7 504 8 [.null, .null, .null, .null, .null, .null, .null, .int (iz 0), .int (iz 0)] (BX8 E) := by
  refine nt_of (by decide +kernel) rfl rfl rfl rfl (fun h0 A x hi hn => ?_)
  refine n_aload (dc D_cX8_init_0 0 rfl) rfl rfl ?_
  refine n_obj (dc D_cX8_init_0 1 rfl) ob_X8 (by decide) ?_
  refine n_aload (dc D_cX8_init_0 2 rfl) rfl rfl ?_
  refine n_bipush (dc D_cX8_init_0 3 rfl) (by decide +kernel) ?_
  refine n_newI (N := 30) (dc D_cX8_init_0 4 rfl) aw_int (by decide +kernel) rfl rfl rfl (fun q1 => ?_)
  refine n_sig (ws' := [(h0, .inr (8, [.null, .null, .null, .null, .null, .null, .null, .int (iz 0), .int (iz 0)])), (q1, ia E 0 30 z0)]) rfl ?_
  refine n_cs (k' := 1) (n' := 30) rfl rfl ?_
  refine n_putF (q0 := 0) (ws' := [(h0, .inr (8, [.ref q1, .null, .null, .null, .null, .null, .null, .int (iz 0), .int (iz 0)])), (q1, ia E 0 30 z0)]) (dc D_cX8_init_0 5 rfl) hi fn_X8_9 ff_8_0 rfl ⟨rfl, rfl⟩ rfl rfl ?_
  refine n_aload (dc D_cX8_init_0 6 rfl) rfl rfl ?_
  refine n_bipush (dc D_cX8_init_0 7 rfl) (by decide +kernel) ?_
  refine n_newI (N := 30) (dc D_cX8_init_0 8 rfl) aw_int (by decide +kernel) rfl rfl rfl (fun q2 => ?_)
  refine n_sig (ws' := [(h0, .inr (8, [.ref q1, .null, .null, .null, .null, .null, .null, .int (iz 0), .int (iz 0)])), (q1, ia E 0 30 z0), (q2, ia E 0 30 z0)]) rfl ?_
  refine n_cs (k' := 2) (n' := 60) rfl rfl ?_
  refine n_putF (q0 := 0) (ws' := [(h0, .inr (8, [.ref q1, .ref q2, .null, .null, .null, .null, .null, .int (iz 0), .int (iz 0)])), (q1, ia E 0 30 z0), (q2, ia E 0 30 z0)]) (dc D_cX8_init_0 9 rfl) hi fn_X8_15 ff_8_1 rfl ⟨rfl, rfl⟩ rfl rfl ?_
  refine n_aload (dc D_cX8_init_0 10 rfl) rfl rfl ?_
  refine n_bipush (dc D_cX8_init_0 11 rfl) (by decide +kernel) ?_
  refine n_newI (N := 30) (dc D_cX8_init_0 12 rfl) aw_int (by decide +kernel) rfl rfl rfl (fun q3 => ?_)
  refine n_sig (ws' := [(h0, .inr (8, [.ref q1, .ref q2, .null, .null, .null, .null, .null, .int (iz 0), .int (iz 0)])), (q1, ia E 0 30 z0), (q2, ia E 0 30 z0), (q3, ia E 0 30 z0)]) rfl ?_
  refine n_cs (k' := 3) (n' := 90) rfl rfl ?_
  refine n_putF (q0 := 0) (ws' := [(h0, .inr (8, [.ref q1, .ref q2, .ref q3, .null, .null, .null, .null, .int (iz 0), .int (iz 0)])), (q1, ia E 0 30 z0), (q2, ia E 0 30 z0), (q3, ia E 0 30 z0)]) (dc D_cX8_init_0 13 rfl) hi fn_X8_18 ff_8_2 rfl ⟨rfl, rfl⟩ rfl rfl ?_
  refine n_aload (dc D_cX8_init_0 14 rfl) rfl rfl ?_
  refine n_sipush (dc D_cX8_init_0 15 rfl) (by decide +kernel) ?_
  refine n_newI (N := 360) (dc D_cX8_init_0 16 rfl) aw_int (by decide +kernel) rfl rfl rfl (fun q4 => ?_)
  refine n_sig (ws' := [(h0, .inr (8, [.ref q1, .ref q2, .ref q3, .null, .null, .null, .null, .int (iz 0), .int (iz 0)])), (q1, ia E 0 30 z0), (q2, ia E 0 30 z0), (q3, ia E 0 30 z0), (q4, ia E 0 360 z0)]) rfl ?_
  refine n_cs (k' := 4) (n' := 450) rfl rfl ?_
  refine n_putF (q0 := 0) (ws' := [(h0, .inr (8, [.ref q1, .ref q2, .ref q3, .ref q4, .null, .null, .null, .int (iz 0), .int (iz 0)])), (q1, ia E 0 30 z0), (q2, ia E 0 30 z0), (q3, ia E 0 30 z0), (q4, ia E 0 360 z0)]) (dc D_cX8_init_0 17 rfl) hi fn_X8_21 ff_8_3 rfl ⟨rfl, rfl⟩ rfl rfl ?_
  refine n_aload (dc D_cX8_init_0 18 rfl) rfl rfl ?_
  refine n_bipush (dc D_cX8_init_0 19 rfl) (by decide +kernel) ?_
  refine n_newI (N := 30) (dc D_cX8_init_0 20 rfl) aw_int (by decide +kernel) rfl rfl rfl (fun q5 => ?_)
  refine n_sig (ws' := [(h0, .inr (8, [.ref q1, .ref q2, .ref q3, .ref q4, .null, .null, .null, .int (iz 0), .int (iz 0)])), (q1, ia E 0 30 z0), (q2, ia E 0 30 z0), (q3, ia E 0 30 z0), (q4, ia E 0 360 z0), (q5, ia E 0 30 z0)]) rfl ?_
  refine n_cs (k' := 5) (n' := 480) rfl rfl ?_
  refine n_putF (q0 := 0) (ws' := [(h0, .inr (8, [.ref q1, .ref q2, .ref q3, .ref q4, .ref q5, .null, .null, .int (iz 0), .int (iz 0)])), (q1, ia E 0 30 z0), (q2, ia E 0 30 z0), (q3, ia E 0 30 z0), (q4, ia E 0 360 z0), (q5, ia E 0 30 z0)]) (dc D_cX8_init_0 21 rfl) hi fn_X8_24 ff_8_4 rfl ⟨rfl, rfl⟩ rfl rfl ?_
  refine n_aload (dc D_cX8_init_0 22 rfl) rfl rfl ?_
  refine n_bipush (dc D_cX8_init_0 23 rfl) (by decide +kernel) ?_
  refine n_newI (N := 12) (dc D_cX8_init_0 24 rfl) aw_int (by decide +kernel) rfl rfl rfl (fun q6 => ?_)
  refine n_sig (ws' := [(h0, .inr (8, [.ref q1, .ref q2, .ref q3, .ref q4, .ref q5, .null, .null, .int (iz 0), .int (iz 0)])), (q1, ia E 0 30 z0), (q2, ia E 0 30 z0), (q3, ia E 0 30 z0), (q4, ia E 0 360 z0), (q5, ia E 0 30 z0), (q6, ia E 0 12 z0)]) rfl ?_
  refine n_cs (k' := 6) (n' := 492) rfl rfl ?_
  refine n_putF (q0 := 0) (ws' := [(h0, .inr (8, [.ref q1, .ref q2, .ref q3, .ref q4, .ref q5, .ref q6, .null, .int (iz 0), .int (iz 0)])), (q1, ia E 0 30 z0), (q2, ia E 0 30 z0), (q3, ia E 0 30 z0), (q4, ia E 0 360 z0), (q5, ia E 0 30 z0), (q6, ia E 0 12 z0)]) (dc D_cX8_init_0 25 rfl) hi fn_X8_27 ff_8_5 rfl ⟨rfl, rfl⟩ rfl rfl ?_
  refine n_aload (dc D_cX8_init_0 26 rfl) rfl rfl ?_
  refine n_bipush (dc D_cX8_init_0 27 rfl) (by decide +kernel) ?_
  refine n_newI (N := 12) (dc D_cX8_init_0 28 rfl) aw_int (by decide +kernel) rfl rfl rfl (fun q7 => ?_)
  refine n_sig (ws' := [(h0, .inr (8, [.ref q1, .ref q2, .ref q3, .ref q4, .ref q5, .ref q6, .null, .int (iz 0), .int (iz 0)])), (q1, ia E 0 30 z0), (q2, ia E 0 30 z0), (q3, ia E 0 30 z0), (q4, ia E 0 360 z0), (q5, ia E 0 30 z0), (q6, ia E 0 12 z0), (q7, ia E 0 12 z0)]) rfl ?_
  refine n_cs (k' := 7) (n' := 504) rfl rfl ?_
  refine n_putF (q0 := 0) (ws' := [(h0, .inr (8, [.ref q1, .ref q2, .ref q3, .ref q4, .ref q5, .ref q6, .ref q7, .int (iz 0), .int (iz 0)])), (q1, ia E 0 30 z0), (q2, ia E 0 30 z0), (q3, ia E 0 30 z0), (q4, ia E 0 360 z0), (q5, ia E 0 30 z0), (q6, ia E 0 12 z0), (q7, ia E 0 12 z0)]) (dc D_cX8_init_0 29 rfl) hi fn_X8_30 ff_8_6 rfl ⟨rfl, rfl⟩ rfl rfl ?_
  exact n_ret (B := BX8 E h0) (dc D_cX8_init_0 30 rfl) hn rfl rfl [0, 1, 2, 3, 4, 5, 6, 7] rfl rfl ⟨q1, q2, q3, q4, q5, q6, q7, rfl⟩
def mi_X6_init : MI := (cX6_init, RX6, 1, 1, none, 0)
def BX6 (E : EV) (h0 : Nat) (ws : va_W) : Prop := ∃ q1 q2 q3 q4 q5 q6 q7 q8 : Nat, ws = [(h0, .inr (6, [.ref q1, .ref q2, .ref q3, .ref q4, .ref q5, .ref q6, .ref q7, .ref q8, .int (iz 0), .int (iz 0)])), (q1, ia E 0 108 z0), (q2, ia E 0 108 z0), (q3, ia E 0 108 z0), (q4, ia E 0 108 z0), (q5, ia E 0 108 z0), (q6, ia E 0 672 z0), (q7, ia E 0 672 z0), (q8, ia E 0 672 z0)]
theorem ob_X6 : ∀ w ∈ ([.methodLink RX6 3 Lib.objectInit, .instanceMethod Lib.objectInit, .code Lib.objectInit ⟨#[0xb1]⟩ 1 none] : List Cond), w ∈ TB := tb_r [357, 124, 125] (by decide +kernel)
theorem fn_X6_9 : FW RX6 9 6 0 := ⟨RX6, TX6, 10, rfl, by decide, rfl, tb_1 358 (by decide +kernel), uw_6⟩
theorem ff_6_0 : FF RX6 6 0 (.array .int) := ⟨RX6, TX6, 10, tyX6, rfl, tyX6_ok, nmX6, rfl, rfl, by decide +kernel⟩
theorem fn_X6_15 : FW RX6 15 6 1 := ⟨RX6, TX6, 10, rfl, by decide, rfl, tb_1 359 (by decide +kernel), uw_6⟩
theorem ff_6_1 : FF RX6 6 1 (.array .int) := ⟨RX6, TX6, 10, tyX6, rfl, tyX6_ok, nmX6, rfl, rfl, by decide +kernel⟩
theorem fn_X6_18 : FW RX6 18 6 2 := ⟨RX6, TX6, 10, rfl, by decide, rfl, tb_1 360 (by decide +kernel), uw_6⟩
theorem ff_6_2 : FF RX6 6 2 (.array .int) := ⟨RX6, TX6, 10, tyX6, rfl, tyX6_ok, nmX6, rfl, rfl, by decide +kernel⟩
theorem fn_X6_21 : FW RX6 21 6 3 := ⟨RX6, TX6, 10, rfl, by decide, rfl, tb_1 361 (by decide +kernel), uw_6⟩
theorem ff_6_3 : FF RX6 6 3 (.array .int) := ⟨RX6, TX6, 10, tyX6, rfl, tyX6_ok, nmX6, rfl, rfl, by decide +kernel⟩
theorem fn_X6_24 : FW RX6 24 6 4 := ⟨RX6, TX6, 10, rfl, by decide, rfl, tb_1 362 (by decide +kernel), uw_6⟩
theorem ff_6_4 : FF RX6 6 4 (.array .int) := ⟨RX6, TX6, 10, tyX6, rfl, tyX6_ok, nmX6, rfl, rfl, by decide +kernel⟩
theorem fn_X6_27 : FW RX6 27 6 5 := ⟨RX6, TX6, 10, rfl, by decide, rfl, tb_1 363 (by decide +kernel), uw_6⟩
theorem ff_6_5 : FF RX6 6 5 (.array .int) := ⟨RX6, TX6, 10, tyX6, rfl, tyX6_ok, nmX6, rfl, rfl, by decide +kernel⟩
theorem fn_X6_30 : FW RX6 30 6 6 := ⟨RX6, TX6, 10, rfl, by decide, rfl, tb_1 364 (by decide +kernel), uw_6⟩
theorem ff_6_6 : FF RX6 6 6 (.array .int) := ⟨RX6, TX6, 10, tyX6, rfl, tyX6_ok, nmX6, rfl, rfl, by decide +kernel⟩
theorem fn_X6_33 : FW RX6 33 6 7 := ⟨RX6, TX6, 10, rfl, by decide, rfl, tb_1 365 (by decide +kernel), uw_6⟩
theorem ff_6_7 : FF RX6 6 7 (.array .int) := ⟨RX6, TX6, 10, tyX6, rfl, tyX6_ok, nmX6, rfl, rfl, by decide +kernel⟩
theorem nm_X6_init : ynm yX6_init 0 := ⟨⟨by decide +kernel, by decide +kernel⟩, by decide +kernel⟩
set_option maxHeartbeats 4000000 in
set_option maxRecDepth 100000 in
theorem nt_X6 (E : EV) : NCT E yX6_init mi_X6_init 8 2556 6 [.null, .null, .null, .null, .null, .null, .null, .null, .int (iz 0), .int (iz 0)] (BX6 E) := by
  refine nt_of (by decide +kernel) rfl rfl rfl rfl (fun h0 A x hi hn => ?_)
  refine n_aload (dc D_cX6_init_0 0 rfl) rfl rfl ?_
  refine n_obj (dc D_cX6_init_0 1 rfl) ob_X6 (by decide) ?_
  refine n_aload (dc D_cX6_init_0 2 rfl) rfl rfl ?_
  refine n_bipush (dc D_cX6_init_0 3 rfl) (by decide +kernel) ?_
  refine n_newI (N := 108) (dc D_cX6_init_0 4 rfl) aw_int (by decide +kernel) rfl rfl rfl (fun q1 => ?_)
  refine n_sig (ws' := [(h0, .inr (6, [.null, .null, .null, .null, .null, .null, .null, .null, .int (iz 0), .int (iz 0)])), (q1, ia E 0 108 z0)]) rfl ?_
  refine n_cs (k' := 1) (n' := 108) rfl rfl ?_
  refine n_putF (q0 := 0) (ws' := [(h0, .inr (6, [.ref q1, .null, .null, .null, .null, .null, .null, .null, .int (iz 0), .int (iz 0)])), (q1, ia E 0 108 z0)]) (dc D_cX6_init_0 5 rfl) hi fn_X6_9 ff_6_0 rfl ⟨rfl, rfl⟩ rfl rfl ?_
  refine n_aload (dc D_cX6_init_0 6 rfl) rfl rfl ?_
  refine n_bipush (dc D_cX6_init_0 7 rfl) (by decide +kernel) ?_
  refine n_newI (N := 108) (dc D_cX6_init_0 8 rfl) aw_int (by decide +kernel) rfl rfl rfl (fun q2 => ?_)
  refine n_sig (ws' := [(h0, .inr (6, [.ref q1, .null, .null, .null, .null, .null, .null, .null, .int (iz 0), .int (iz 0)])), (q1, ia E 0 108 z0), (q2, ia E 0 108 z0)]) rfl ?_
  refine n_cs (k' := 2) (n' := 216) rfl rfl ?_
  refine n_putF (q0 := 0) (ws' := [(h0, .inr (6, [.ref q1, .ref q2, .null, .null, .null, .null, .null, .null, .int (iz 0), .int (iz 0)])), (q1, ia E 0 108 z0), (q2, ia E 0 108 z0)]) (dc D_cX6_init_0 9 rfl) hi fn_X6_15 ff_6_1 rfl ⟨rfl, rfl⟩ rfl rfl ?_
  refine n_aload (dc D_cX6_init_0 10 rfl) rfl rfl ?_
  refine n_bipush (dc D_cX6_init_0 11 rfl) (by decide +kernel) ?_
  refine n_newI (N := 108) (dc D_cX6_init_0 12 rfl) aw_int (by decide +kernel) rfl rfl rfl (fun q3 => ?_)
  refine n_sig (ws' := [(h0, .inr (6, [.ref q1, .ref q2, .null, .null, .null, .null, .null, .null, .int (iz 0), .int (iz 0)])), (q1, ia E 0 108 z0), (q2, ia E 0 108 z0), (q3, ia E 0 108 z0)]) rfl ?_
  refine n_cs (k' := 3) (n' := 324) rfl rfl ?_
  refine n_putF (q0 := 0) (ws' := [(h0, .inr (6, [.ref q1, .ref q2, .ref q3, .null, .null, .null, .null, .null, .int (iz 0), .int (iz 0)])), (q1, ia E 0 108 z0), (q2, ia E 0 108 z0), (q3, ia E 0 108 z0)]) (dc D_cX6_init_0 13 rfl) hi fn_X6_18 ff_6_2 rfl ⟨rfl, rfl⟩ rfl rfl ?_
  refine n_aload (dc D_cX6_init_0 14 rfl) rfl rfl ?_
  refine n_bipush (dc D_cX6_init_0 15 rfl) (by decide +kernel) ?_
  refine n_newI (N := 108) (dc D_cX6_init_0 16 rfl) aw_int (by decide +kernel) rfl rfl rfl (fun q4 => ?_)
  refine n_sig (ws' := [(h0, .inr (6, [.ref q1, .ref q2, .ref q3, .null, .null, .null, .null, .null, .int (iz 0), .int (iz 0)])), (q1, ia E 0 108 z0), (q2, ia E 0 108 z0), (q3, ia E 0 108 z0), (q4, ia E 0 108 z0)]) rfl ?_
  refine n_cs (k' := 4) (n' := 432) rfl rfl ?_
  refine n_putF (q0 := 0) (ws' := [(h0, .inr (6, [.ref q1, .ref q2, .ref q3, .ref q4, .null, .null, .null, .null, .int (iz 0), .int (iz 0)])), (q1, ia E 0 108 z0), (q2, ia E 0 108 z0), (q3, ia E 0 108 z0), (q4, ia E 0 108 z0)]) (dc D_cX6_init_0 17 rfl) hi fn_X6_21 ff_6_3 rfl ⟨rfl, rfl⟩ rfl rfl ?_
  refine n_aload (dc D_cX6_init_0 18 rfl) rfl rfl ?_
  refine n_bipush (dc D_cX6_init_0 19 rfl) (by decide +kernel) ?_
  refine n_newI (N := 108) (dc D_cX6_init_0 20 rfl) aw_int (by decide +kernel) rfl rfl rfl (fun q5 => ?_)
  refine n_sig (ws' := [(h0, .inr (6, [.ref q1, .ref q2, .ref q3, .ref q4, .null, .null, .null, .null, .int (iz 0), .int (iz 0)])), (q1, ia E 0 108 z0), (q2, ia E 0 108 z0), (q3, ia E 0 108 z0), (q4, ia E 0 108 z0), (q5, ia E 0 108 z0)]) rfl ?_
  refine n_cs (k' := 5) (n' := 540) rfl rfl ?_
  refine n_putF (q0 := 0) (ws' := [(h0, .inr (6, [.ref q1, .ref q2, .ref q3, .ref q4, .ref q5, .null, .null, .null, .int (iz 0), .int (iz 0)])), (q1, ia E 0 108 z0), (q2, ia E 0 108 z0), (q3, ia E 0 108 z0), (q4, ia E 0 108 z0), (q5, ia E 0 108 z0)]) (dc D_cX6_init_0 21 rfl) hi fn_X6_24 ff_6_4 rfl ⟨rfl, rfl⟩ rfl rfl ?_
  refine n_aload (dc D_cX6_init_0 22 rfl) rfl rfl ?_
  refine n_sipush (dc D_cX6_init_0 23 rfl) (by decide +kernel) ?_
  refine n_newI (N := 672) (dc D_cX6_init_0 24 rfl) aw_int (by decide +kernel) rfl rfl rfl (fun q6 => ?_)
  refine n_sig (ws' := [(h0, .inr (6, [.ref q1, .ref q2, .ref q3, .ref q4, .ref q5, .null, .null, .null, .int (iz 0), .int (iz 0)])), (q1, ia E 0 108 z0), (q2, ia E 0 108 z0), (q3, ia E 0 108 z0), (q4, ia E 0 108 z0), (q5, ia E 0 108 z0), (q6, ia E 0 672 z0)]) rfl ?_
  refine n_cs (k' := 6) (n' := 1212) rfl rfl ?_
  refine n_putF (q0 := 0) (ws' := [(h0, .inr (6, [.ref q1, .ref q2, .ref q3, .ref q4, .ref q5, .ref q6, .null, .null, .int (iz 0), .int (iz 0)])), (q1, ia E 0 108 z0), (q2, ia E 0 108 z0), (q3, ia E 0 108 z0), (q4, ia E 0 108 z0), (q5, ia E 0 108 z0), (q6, ia E 0 672 z0)]) (dc D_cX6_init_0 25 rfl) hi fn_X6_27 ff_6_5 rfl ⟨rfl, rfl⟩ rfl rfl ?_
  refine n_aload (dc D_cX6_init_0 26 rfl) rfl rfl ?_
  refine n_sipush (dc D_cX6_init_0 27 rfl) (by decide +kernel) ?_
  refine n_newI (N := 672) (dc D_cX6_init_0 28 rfl) aw_int (by decide +kernel) rfl rfl rfl (fun q7 => ?_)
  refine n_sig (ws' := [(h0, .inr (6, [.ref q1, .ref q2, .ref q3, .ref q4, .ref q5, .ref q6, .null, .null, .int (iz 0), .int (iz 0)])), (q1, ia E 0 108 z0), (q2, ia E 0 108 z0), (q3, ia E 0 108 z0), (q4, ia E 0 108 z0), (q5, ia E 0 108 z0), (q6, ia E 0 672 z0), (q7, ia E 0 672 z0)]) rfl ?_
  refine n_cs (k' := 7) (n' := 1884) rfl rfl ?_
  refine n_putF (q0 := 0) (ws' := [(h0, .inr (6, [.ref q1, .ref q2, .ref q3, .ref q4, .ref q5, .ref q6, .ref q7, .null, .int (iz 0), .int (iz 0)])), (q1, ia E 0 108 z0), (q2, ia E 0 108 z0), (q3, ia E 0 108 z0), (q4, ia E 0 108 z0), (q5, ia E 0 108 z0), (q6, ia E 0 672 z0), (q7, ia E 0 672 z0)]) (dc D_cX6_init_0 29 rfl) hi fn_X6_30 ff_6_6 rfl ⟨rfl, rfl⟩ rfl rfl ?_
  refine n_aload (dc D_cX6_init_0 30 rfl) rfl rfl ?_
  refine n_sipush (dc D_cX6_init_0 31 rfl) (by decide +kernel) ?_
  refine n_newI (N := 672) (dc D_cX6_init_0 32 rfl) aw_int (by decide +kernel) rfl rfl rfl (fun q8 => ?_)
  refine n_sig (ws' := [(h0, .inr (6, [.ref q1, .ref q2, .ref q3, .ref q4, .ref q5, .ref q6, .ref q7, .null, .int (iz 0), .int (iz 0)])), (q1, ia E 0 108 z0), (q2, ia E 0 108 z0), (q3, ia E 0 108 z0), (q4, ia E 0 108 z0), (q5, ia E 0 108 z0), (q6, ia E 0 672 z0), (q7, ia E 0 672 z0), (q8, ia E 0 672 z0)]) rfl ?_
  refine n_cs (k' := 8) (n' := 2556) rfl rfl ?_
  refine n_putF (q0 := 0) (ws' := [(h0, .inr (6, [.ref q1, .ref q2, .ref q3, .ref q4, .ref q5, .ref q6, .ref q7, .ref q8, .int (iz 0), .int (iz 0)])), (q1, ia E 0 108 z0), (q2, ia E 0 108 z0), (q3, ia E 0 108 z0), (q4, ia E 0 108 z0), (q5, ia E 0 108 z0), (q6, ia E 0 672 z0), (q7, ia E 0 672 z0), (q8, ia E 0 672 z0)]) (dc D_cX6_init_0 33 rfl) hi fn_X6_33 ff_6_7 rfl ⟨rfl, rfl⟩ rfl rfl ?_
  exact n_ret (B := BX6 E h0) (dc D_cX6_init_0 34 rfl) hn rfl rfl [0, 1, 2, 3, 4, 5, 6, 7, 8] rfl rfl ⟨q1, q2, q3, q4, q5, q6, q7, q8, rfl⟩
def mi_X5_init : MI := (cX5_init, RX5, 1, 2, none, 0)
def BX5 (E : EV) (h0 : Nat) (ws : va_W) : Prop := ∃ q1 q2 q3 q4 q5 q6 q7 q8 q9 q10 q11 : Nat, ws = [(h0, .inr (5, [.ref q1, .ref q10, .ref q11])), (q1, .inr (6, [.ref q2, .ref q3, .ref q4, .ref q5, .ref q6, .ref q7, .ref q8, .ref q9, .int (iz 0), .int (iz 0)])), (q2, ia E 0 108 z0), (q3, ia E 0 108 z0), (q4, ia E 0 108 z0), (q5, ia E 0 108 z0), (q6, ia E 0 108 z0), (q7, ia E 0 672 z0), (q8, ia E 0 672 z0), (q9, ia E 0 672 z0), (q10, ia E 0 12 z0), (q11, ia E 0 21 z0)]
theorem ob_X5 : ∀ w ∈ ([.methodLink RX5 3 Lib.objectInit, .instanceMethod Lib.objectInit, .code Lib.objectInit ⟨#[0xb1]⟩ 1 none] : List Cond), w ∈ TB := tb_r [351, 124, 125] (by decide +kernel)
theorem nn_X5_9 : NN RX5 9 6 10 [.null, .null, .null, .null, .null, .null, .null, .null, .int (iz 0), .int (iz 0)] := ⟨RX6, TX6, tyX6, rfl, tyX6_ok, tb_r [352, 353, 103] (by decide +kernel), uw_6, fun j hj => by rcases (show j = 0 ∨ j = 1 ∨ j = 2 ∨ j = 3 ∨ j = 4 ∨ j = 5 ∨ j = 6 ∨ j = 7 ∨ j = 8 ∨ j = 9 by omega) with rfl | rfl | rfl | rfl | rfl | rfl | rfl | rfl | rfl | rfl <;> first | rfl | exact congrArg Value.int iz_0.symm⟩
theorem ci_X5_11 : CWJ RX5 11 yX6_init mi_X6_init := ⟨by decide +kernel, tb_r [355, 103, 356] (by decide +kernel), rfl, rfl, nm_X6_init⟩
theorem fn_X5_12 : FW RX5 12 5 0 := ⟨RX5, TX5, 3, rfl, by decide, rfl, tb_1 389 (by decide +kernel), uw_5⟩
theorem ff_5_0 : FF RX5 5 0 (.object "GateFlow$Net") := ⟨RX5, TX5, 3, tyX5, rfl, tyX5_ok, nmX5, rfl, rfl, by decide +kernel⟩
theorem fn_X5_18 : FW RX5 18 5 1 := ⟨RX5, TX5, 3, rfl, by decide, rfl, tb_1 390 (by decide +kernel), uw_5⟩
theorem ff_5_1 : FF RX5 5 1 (.array .int) := ⟨RX5, TX5, 3, tyX5, rfl, tyX5_ok, nmX5, rfl, rfl, by decide +kernel⟩
theorem fn_X5_22 : FW RX5 22 5 2 := ⟨RX5, TX5, 3, rfl, by decide, rfl, tb_1 391 (by decide +kernel), uw_5⟩
theorem ff_5_2 : FF RX5 5 2 (.array .int) := ⟨RX5, TX5, 3, tyX5, rfl, tyX5_ok, nmX5, rfl, rfl, by decide +kernel⟩
theorem nm_X5_init : ynm yX5_init 0 := ⟨⟨by decide +kernel, by decide +kernel⟩, by decide +kernel⟩
set_option maxHeartbeats 4000000 in
set_option maxRecDepth 100000 in
theorem nt_X5 (E : EV) : NCT E yX5_init mi_X5_init 11 2599 5 [.null, .null, .null] (BX5 E) := by
  refine nt_of (by decide +kernel) rfl rfl rfl rfl (fun h0 A x hi hn => ?_)
  refine n_aload (dc D_cX5_init_0 0 rfl) rfl rfl ?_
  refine n_obj (dc D_cX5_init_0 1 rfl) ob_X5 (by decide) ?_
  refine n_aload (dc D_cX5_init_0 2 rfl) rfl rfl ?_
  refine n_new (dc D_cX5_init_0 3 rfl) nn_X5_9 rfl rfl (fun q1 => ?_)
  refine n_sig (ws' := [(h0, .inr (5, [.null, .null, .null])), (q1, .inr (6, [.null, .null, .null, .null, .null, .null, .null, .null, .int (iz 0), .int (iz 0)]))]) rfl ?_
  refine n_cs (k' := 1) (n' := 10) rfl rfl ?_
  refine n_dup (dc D_cX5_init_0 4 rfl) rfl ?_
  refine n_init (i0 := 1) (wr := [(h0, .inr (5, [.null, .null, .null]))]) (dc D_cX5_init_0 5 rfl) (Or.inr ci_X5_11) (nt_X6 E) rfl [0] rfl rfl (by decide) rfl rfl rfl rfl (fun w1 hw => ?_)
  obtain ⟨q2, q3, q4, q5, q6, q7, q8, q9, rfl⟩ := hw
  refine n_sig (ws' := [(h0, .inr (5, [.null, .null, .null])), (q1, .inr (6, [.ref q2, .ref q3, .ref q4, .ref q5, .ref q6, .ref q7, .ref q8, .ref q9, .int (iz 0), .int (iz 0)])), (q2, ia E 0 108 z0), (q3, ia E 0 108 z0), (q4, ia E 0 108 z0), (q5, ia E 0 108 z0), (q6, ia E 0 108 z0), (q7, ia E 0 672 z0), (q8, ia E 0 672 z0), (q9, ia E 0 672 z0)]) rfl ?_
  refine n_cs (k' := 9) (n' := 2566) rfl rfl ?_
  refine n_putF (q0 := 0) (ws' := [(h0, .inr (5, [.ref q1, .null, .null])), (q1, .inr (6, [.ref q2, .ref q3, .ref q4, .ref q5, .ref q6, .ref q7, .ref q8, .ref q9, .int (iz 0), .int (iz 0)])), (q2, ia E 0 108 z0), (q3, ia E 0 108 z0), (q4, ia E 0 108 z0), (q5, ia E 0 108 z0), (q6, ia E 0 108 z0), (q7, ia E 0 672 z0), (q8, ia E 0 672 z0), (q9, ia E 0 672 z0)]) (dc D_cX5_init_0 6 rfl) hi fn_X5_12 ff_5_0 rfl ⟨rfl, rfl⟩ rfl rfl ?_
  refine n_aload (dc D_cX5_init_0 7 rfl) rfl rfl ?_
  refine n_bipush (dc D_cX5_init_0 8 rfl) (by decide +kernel) ?_
  refine n_newI (N := 12) (dc D_cX5_init_0 9 rfl) aw_int (by decide +kernel) rfl rfl rfl (fun q10 => ?_)
  refine n_sig (ws' := [(h0, .inr (5, [.ref q1, .null, .null])), (q1, .inr (6, [.ref q2, .ref q3, .ref q4, .ref q5, .ref q6, .ref q7, .ref q8, .ref q9, .int (iz 0), .int (iz 0)])), (q2, ia E 0 108 z0), (q3, ia E 0 108 z0), (q4, ia E 0 108 z0), (q5, ia E 0 108 z0), (q6, ia E 0 108 z0), (q7, ia E 0 672 z0), (q8, ia E 0 672 z0), (q9, ia E 0 672 z0), (q10, ia E 0 12 z0)]) rfl ?_
  refine n_cs (k' := 10) (n' := 2578) rfl rfl ?_
  refine n_putF (q0 := 0) (ws' := [(h0, .inr (5, [.ref q1, .ref q10, .null])), (q1, .inr (6, [.ref q2, .ref q3, .ref q4, .ref q5, .ref q6, .ref q7, .ref q8, .ref q9, .int (iz 0), .int (iz 0)])), (q2, ia E 0 108 z0), (q3, ia E 0 108 z0), (q4, ia E 0 108 z0), (q5, ia E 0 108 z0), (q6, ia E 0 108 z0), (q7, ia E 0 672 z0), (q8, ia E 0 672 z0), (q9, ia E 0 672 z0), (q10, ia E 0 12 z0)]) (dc D_cX5_init_0 10 rfl) hi fn_X5_18 ff_5_1 rfl ⟨rfl, rfl⟩ rfl rfl ?_
  refine n_aload (dc D_cX5_init_0 11 rfl) rfl rfl ?_
  refine n_bipush (dc D_cX5_init_0 12 rfl) (by decide +kernel) ?_
  refine n_newI (N := 21) (dc D_cX5_init_0 13 rfl) aw_int (by decide +kernel) rfl rfl rfl (fun q11 => ?_)
  refine n_sig (ws' := [(h0, .inr (5, [.ref q1, .ref q10, .null])), (q1, .inr (6, [.ref q2, .ref q3, .ref q4, .ref q5, .ref q6, .ref q7, .ref q8, .ref q9, .int (iz 0), .int (iz 0)])), (q2, ia E 0 108 z0), (q3, ia E 0 108 z0), (q4, ia E 0 108 z0), (q5, ia E 0 108 z0), (q6, ia E 0 108 z0), (q7, ia E 0 672 z0), (q8, ia E 0 672 z0), (q9, ia E 0 672 z0), (q10, ia E 0 12 z0), (q11, ia E 0 21 z0)]) rfl ?_
  refine n_cs (k' := 11) (n' := 2599) rfl rfl ?_
  refine n_putF (q0 := 0) (ws' := [(h0, .inr (5, [.ref q1, .ref q10, .ref q11])), (q1, .inr (6, [.ref q2, .ref q3, .ref q4, .ref q5, .ref q6, .ref q7, .ref q8, .ref q9, .int (iz 0), .int (iz 0)])), (q2, ia E 0 108 z0), (q3, ia E 0 108 z0), (q4, ia E 0 108 z0), (q5, ia E 0 108 z0), (q6, ia E 0 108 z0), (q7, ia E 0 672 z0), (q8, ia E 0 672 z0), (q9, ia E 0 672 z0), (q10, ia E 0 12 z0), (q11, ia E 0 21 z0)]) (dc D_cX5_init_0 14 rfl) hi fn_X5_22 ff_5_2 rfl ⟨rfl, rfl⟩ rfl rfl ?_
  exact n_ret (B := BX5 E h0) (dc D_cX5_init_0 15 rfl) hn rfl rfl [0, 1, 2, 3, 4, 5, 6, 7, 8, 9, 10, 11] rfl rfl ⟨q1, q2, q3, q4, q5, q6, q7, q8, q9, q10, q11, rfl⟩
def mi_X10_init : MI := (cX10_init, RX10, 1, 1, none, 0)
def BX10 (E : EV) (h0 : Nat) (ws : va_W) : Prop := ws = [(h0, .inr (10, [.int (iz 0), .int (iz 0), .int (iz 0), .int (iz 0)]))]
theorem ob_X10 : ∀ w ∈ ([.methodLink RX10 1 Lib.objectInit, .instanceMethod Lib.objectInit, .code Lib.objectInit ⟨#[0xb1]⟩ 1 none] : List Cond), w ∈ TB := tb_r [404, 124, 125] (by decide +kernel)
theorem nm_X10_init : ynm yX10_init 0 := ⟨⟨by decide +kernel, by decide +kernel⟩, by decide +kernel⟩
set_option maxHeartbeats 4000000 in
set_option maxRecDepth 100000 in
theorem nt_X10 (E : EV) : NCT E yX10_init mi_X10_init 0 0 10 [.int (iz 0), .int (iz 0), .int (iz 0), .int (iz 0)] (BX10 E) := by
  refine nt_of (by decide +kernel) rfl rfl rfl rfl (fun h0 A x hi hn => ?_)
  refine n_aload (dc D_cX10_init_0 0 rfl) rfl rfl ?_
  refine n_obj (dc D_cX10_init_0 1 rfl) ob_X10 (by decide) ?_
  exact n_ret (B := BX10 E h0) (dc D_cX10_init_0 2 rfl) hn rfl rfl [0] rfl rfl rfl
def mi_X9_init : MI := (cX9_init, RX9, 1, 1, none, 0)
def BX9 (E : EV) (h0 : Nat) (ws : va_W) : Prop := ∃ q1 : Nat, ws = [(h0, .inr (9, [.ref q1, .int (iz 0), .int (iz 0), .int (iz (-1))])), (q1, ia E 1 90 z0)]
theorem ob_X9 : ∀ w ∈ ([.methodLink RX9 3 Lib.objectInit, .instanceMethod Lib.objectInit, .code Lib.objectInit ⟨#[0xb1]⟩ 1 none] : List Cond), w ∈ TB := tb_r [427, 124, 125] (by decide +kernel)
theorem fn_X9_9 : FW RX9 9 9 0 := ⟨RX9, TX9, 4, rfl, by decide, rfl, tb_1 428 (by decide +kernel), uw_9⟩
theorem ff_9_0 : FF RX9 9 0 (.array .byte) := ⟨RX9, TX9, 4, tyX9, rfl, tyX9_ok, nmX9, rfl, rfl, by decide +kernel⟩
theorem fn_X9_15 : FW RX9 15 9 3 := ⟨RX9, TX9, 4, rfl, by decide, rfl, tb_1 434 (by decide +kernel), uw_9⟩
theorem fq_9_3 : FP 9 3 .int := ⟨RX9, TX9, 4, tyX9, rfl, tyX9_ok, nmX9, rfl, by decide +kernel⟩
theorem nm_X9_init : ynm yX9_init 0 := ⟨⟨by decide +kernel, by decide +kernel⟩, by decide +kernel⟩
set_option maxHeartbeats 4000000 in
set_option maxRecDepth 100000 in
theorem nt_X9 (E : EV) : NCT E yX9_init mi_X9_init 1 90 9 [.null, .int (iz 0), .int (iz 0), .int (iz 0)] (BX9 E) := by
  refine nt_of (by decide +kernel) rfl rfl rfl rfl (fun h0 A x hi hn => ?_)
  refine n_aload (dc D_cX9_init_0 0 rfl) rfl rfl ?_
  refine n_obj (dc D_cX9_init_0 1 rfl) ob_X9 (by decide) ?_
  refine n_aload (dc D_cX9_init_0 2 rfl) rfl rfl ?_
  refine n_bipush (dc D_cX9_init_0 3 rfl) (by decide +kernel) ?_
  refine n_newB (N := 90) (dc D_cX9_init_0 4 rfl) aw_byte (by decide +kernel) rfl rfl rfl (fun q1 => ?_)
  refine n_sig (ws' := [(h0, .inr (9, [.null, .int (iz 0), .int (iz 0), .int (iz 0)])), (q1, ia E 1 90 z0)]) rfl ?_
  refine n_cs (k' := 1) (n' := 90) rfl rfl ?_
  refine n_putF (q0 := 0) (ws' := [(h0, .inr (9, [.ref q1, .int (iz 0), .int (iz 0), .int (iz 0)])), (q1, ia E 1 90 z0)]) (dc D_cX9_init_0 5 rfl) hi fn_X9_9 ff_9_0 rfl ⟨rfl, rfl⟩ rfl rfl ?_
  refine n_aload (dc D_cX9_init_0 6 rfl) rfl rfl ?_
  refine n_iconst (dc D_cX9_init_0 7 rfl) ?_
  refine n_put (q0 := 0) (ws' := [(h0, .inr (9, [.ref q1, .int (iz 0), .int (iz 0), .int (iz (-1))])), (q1, ia E 1 90 z0)]) (dc D_cX9_init_0 8 rfl) fn_X9_15 fq_9_3 rfl ⟨rfl, rfl⟩ rfl rfl ?_
  exact n_ret (B := BX9 E h0) (dc D_cX9_init_0 9 rfl) hn rfl rfl [0, 1] rfl rfl ⟨q1, rfl⟩
def mi_X2_init : MI := (cX2_init, RX2, 1, 1, none, 0)
def BX2 (E : EV) (h0 : Nat) (ws : va_W) : Prop := ∃ q1 q2 q3 : Nat, ws = [(h0, .inr (2, [.ref q1, .ref q2, .ref q3, .int (iz 0)])), (q1, ia E 0 6 z0), (q2, ia E 0 6 z0), (q3, ia E 0 6 z0)]
theorem ob_X2 : ∀ w ∈ ([.methodLink RX2 3 Lib.objectInit, .instanceMethod Lib.objectInit, .code Lib.objectInit ⟨#[0xb1]⟩ 1 none] : List Cond), w ∈ TB := tb_r [452, 124, 125] (by decide +kernel)
theorem fn_X2_9 : FW RX2 9 2 0 := ⟨RX2, TX2, 4, rfl, by decide, rfl, tb_1 453 (by decide +kernel), uw_2⟩
theorem ff_2_0 : FF RX2 2 0 (.array .int) := ⟨RX2, TX2, 4, tyX2, rfl, tyX2_ok, nmX2, rfl, rfl, by decide +kernel⟩
theorem fn_X2_15 : FW RX2 15 2 1 := ⟨RX2, TX2, 4, rfl, by decide, rfl, tb_1 454 (by decide +kernel), uw_2⟩
theorem ff_2_1 : FF RX2 2 1 (.array .int) := ⟨RX2, TX2, 4, tyX2, rfl, tyX2_ok, nmX2, rfl, rfl, by decide +kernel⟩
theorem fn_X2_18 : FW RX2 18 2 2 := ⟨RX2, TX2, 4, rfl, by decide, rfl, tb_1 455 (by decide +kernel), uw_2⟩
theorem ff_2_2 : FF RX2 2 2 (.array .int) := ⟨RX2, TX2, 4, tyX2, rfl, tyX2_ok, nmX2, rfl, rfl, by decide +kernel⟩
theorem nm_X2_init : ynm yX2_init 0 := ⟨⟨by decide +kernel, by decide +kernel⟩, by decide +kernel⟩
set_option maxHeartbeats 4000000 in
set_option maxRecDepth 100000 in
theorem nt_X2 (E : EV) : NCT E yX2_init mi_X2_init 3 18 2 [.null, .null, .null, .int (iz 0)] (BX2 E) := by
  refine nt_of (by decide +kernel) rfl rfl rfl rfl (fun h0 A x hi hn => ?_)
  refine n_aload (dc D_cX2_init_0 0 rfl) rfl rfl ?_
  refine n_obj (dc D_cX2_init_0 1 rfl) ob_X2 (by decide) ?_
  refine n_aload (dc D_cX2_init_0 2 rfl) rfl rfl ?_
  refine n_bipush (dc D_cX2_init_0 3 rfl) (by decide +kernel) ?_
  refine n_newI (N := 6) (dc D_cX2_init_0 4 rfl) aw_int (by decide +kernel) rfl rfl rfl (fun q1 => ?_)
  refine n_sig (ws' := [(h0, .inr (2, [.null, .null, .null, .int (iz 0)])), (q1, ia E 0 6 z0)]) rfl ?_
  refine n_cs (k' := 1) (n' := 6) rfl rfl ?_
  refine n_putF (q0 := 0) (ws' := [(h0, .inr (2, [.ref q1, .null, .null, .int (iz 0)])), (q1, ia E 0 6 z0)]) (dc D_cX2_init_0 5 rfl) hi fn_X2_9 ff_2_0 rfl ⟨rfl, rfl⟩ rfl rfl ?_
  refine n_aload (dc D_cX2_init_0 6 rfl) rfl rfl ?_
  refine n_bipush (dc D_cX2_init_0 7 rfl) (by decide +kernel) ?_
  refine n_newI (N := 6) (dc D_cX2_init_0 8 rfl) aw_int (by decide +kernel) rfl rfl rfl (fun q2 => ?_)
  refine n_sig (ws' := [(h0, .inr (2, [.ref q1, .null, .null, .int (iz 0)])), (q1, ia E 0 6 z0), (q2, ia E 0 6 z0)]) rfl ?_
  refine n_cs (k' := 2) (n' := 12) rfl rfl ?_
  refine n_putF (q0 := 0) (ws' := [(h0, .inr (2, [.ref q1, .ref q2, .null, .int (iz 0)])), (q1, ia E 0 6 z0), (q2, ia E 0 6 z0)]) (dc D_cX2_init_0 9 rfl) hi fn_X2_15 ff_2_1 rfl ⟨rfl, rfl⟩ rfl rfl ?_
  refine n_aload (dc D_cX2_init_0 10 rfl) rfl rfl ?_
  refine n_bipush (dc D_cX2_init_0 11 rfl) (by decide +kernel) ?_
  refine n_newI (N := 6) (dc D_cX2_init_0 12 rfl) aw_int (by decide +kernel) rfl rfl rfl (fun q3 => ?_)
  refine n_sig (ws' := [(h0, .inr (2, [.ref q1, .ref q2, .null, .int (iz 0)])), (q1, ia E 0 6 z0), (q2, ia E 0 6 z0), (q3, ia E 0 6 z0)]) rfl ?_
  refine n_cs (k' := 3) (n' := 18) rfl rfl ?_
  refine n_putF (q0 := 0) (ws' := [(h0, .inr (2, [.ref q1, .ref q2, .ref q3, .int (iz 0)])), (q1, ia E 0 6 z0), (q2, ia E 0 6 z0), (q3, ia E 0 6 z0)]) (dc D_cX2_init_0 13 rfl) hi fn_X2_18 ff_2_2 rfl ⟨rfl, rfl⟩ rfl rfl ?_
  exact n_ret (B := BX2 E h0) (dc D_cX2_init_0 14 rfl) hn rfl rfl [0, 1, 2, 3] rfl rfl ⟨q1, q2, q3, rfl⟩
def mi_X7_init : MI := (cX7_init, RX7, 1, 1, none, 0)
def BX7 (E : EV) (h0 : Nat) (ws : va_W) : Prop := ∃ q1 : Nat, ws = [(h0, .inr (7, [.ref q1, .int (iz 0)])), (q1, ia E 1 510 z0)]
theorem ob_X7 : ∀ w ∈ ([.methodLink RX7 3 Lib.objectInit, .instanceMethod Lib.objectInit, .code Lib.objectInit ⟨#[0xb1]⟩ 1 none] : List Cond), w ∈ TB := tb_r [471, 124, 125] (by decide +kernel)
theorem fn_X7_9 : FW RX7 9 7 0 := ⟨RX7, TX7, 2, rfl, by decide, rfl, tb_1 472 (by decide +kernel), uw_7⟩
theorem ff_7_0 : FF RX7 7 0 (.array .byte) := ⟨RX7, TX7, 2, tyX7, rfl, tyX7_ok, nmX7, rfl, rfl, by decide +kernel⟩
theorem nm_X7_init : ynm yX7_init 0 := ⟨⟨by decide +kernel, by decide +kernel⟩, by decide +kernel⟩
set_option maxHeartbeats 4000000 in
set_option maxRecDepth 100000 in
theorem nt_X7 (E : EV) : NCT E yX7_init mi_X7_init 1 510 7 [.null, .int (iz 0)] (BX7 E) := by
  refine nt_of (by decide +kernel) rfl rfl rfl rfl (fun h0 A x hi hn => ?_)
  refine n_aload (dc D_cX7_init_0 0 rfl) rfl rfl ?_
  refine n_obj (dc D_cX7_init_0 1 rfl) ob_X7 (by decide) ?_
  refine n_aload (dc D_cX7_init_0 2 rfl) rfl rfl ?_
  refine n_sipush (dc D_cX7_init_0 3 rfl) (by decide +kernel) ?_
  refine n_newB (N := 510) (dc D_cX7_init_0 4 rfl) aw_byte (by decide +kernel) rfl rfl rfl (fun q1 => ?_)
  refine n_sig (ws' := [(h0, .inr (7, [.null, .int (iz 0)])), (q1, ia E 1 510 z0)]) rfl ?_
  refine n_cs (k' := 1) (n' := 510) rfl rfl ?_
  refine n_putF (q0 := 0) (ws' := [(h0, .inr (7, [.ref q1, .int (iz 0)])), (q1, ia E 1 510 z0)]) (dc D_cX7_init_0 5 rfl) hi fn_X7_9 ff_7_0 rfl ⟨rfl, rfl⟩ rfl rfl ?_
  exact n_ret (B := BX7 E h0) (dc D_cX7_init_0 6 rfl) hn rfl rfl [0, 1] rfl rfl ⟨q1, rfl⟩
def mi_X4_init : MI := (cX4_init, RX4, 1, 2, none, 0)
def BX4 (E : EV) (h0 : Nat) (ws : va_W) : Prop := ∃ q1 q2 : Nat, ws = [(h0, .inr (4, [.ref q1, .ref q2])), (q1, ia E 0 160 z0), (q2, ia E 0 4 (fun i => if 0 = 0 ∧ 0 ≤ i ∧ i < 4 then (-1) else z0 i))]
theorem ob_X4 : ∀ w ∈ ([.methodLink RX4 3 Lib.objectInit, .instanceMethod Lib.objectInit, .code Lib.objectInit ⟨#[0xb1]⟩ 1 none] : List Cond), w ∈ TB := tb_r [486, 124, 125] (by decide +kernel)
theorem fn_X4_9 : FW RX4 9 4 0 := ⟨RX4, TX4, 2, rfl, by decide, rfl, tb_1 490 (by decide +kernel), uw_4⟩
theorem ff_4_0 : FF RX4 4 0 (.array .int) := ⟨RX4, TX4, 2, tyX4, rfl, tyX4_ok, nmX4, rfl, rfl, by decide +kernel⟩
theorem fn_X4_15 : FW RX4 15 4 1 := ⟨RX4, TX4, 2, rfl, by decide, rfl, tb_1 491 (by decide +kernel), uw_4⟩
theorem ff_4_1 : FF RX4 4 1 (.array .int) := ⟨RX4, TX4, 2, tyX4, rfl, tyX4_ok, nmX4, rfl, rfl, by decide +kernel⟩
theorem cx_X4_18 : CWS RX4 18 yJ7_fill_53178 mi_fill := tb_r [487, 488, 109, 489] (by decide +kernel)
theorem nm_X4_init : ynm yX4_init 0 := ⟨⟨by decide +kernel, by decide +kernel⟩, by decide +kernel⟩
set_option maxHeartbeats 4000000 in
set_option maxRecDepth 100000 in
theorem nt_X4 (E : EV) : NCT E yX4_init mi_X4_init 2 164 4 [.null, .null] (BX4 E) := by
  refine nt_of (by decide +kernel) rfl rfl rfl rfl (fun h0 A x hi hn => ?_)
  refine n_aload (dc D_cX4_init_0 0 rfl) rfl rfl ?_
  refine n_obj (dc D_cX4_init_0 1 rfl) ob_X4 (by decide) ?_
  refine n_aload (dc D_cX4_init_0 2 rfl) rfl rfl ?_
  refine n_sipush (dc D_cX4_init_0 3 rfl) (by decide +kernel) ?_
  refine n_newI (N := 160) (dc D_cX4_init_0 4 rfl) aw_int (by decide +kernel) rfl rfl rfl (fun q1 => ?_)
  refine n_sig (ws' := [(h0, .inr (4, [.null, .null])), (q1, ia E 0 160 z0)]) rfl ?_
  refine n_cs (k' := 1) (n' := 160) rfl rfl ?_
  refine n_putF (q0 := 0) (ws' := [(h0, .inr (4, [.ref q1, .null])), (q1, ia E 0 160 z0)]) (dc D_cX4_init_0 5 rfl) hi fn_X4_9 ff_4_0 rfl ⟨rfl, rfl⟩ rfl rfl ?_
  refine n_aload (dc D_cX4_init_0 6 rfl) rfl rfl ?_
  refine n_iconst (dc D_cX4_init_0 7 rfl) ?_
  refine n_newI (N := 4) (dc D_cX4_init_0 8 rfl) aw_int (by decide +kernel) rfl rfl rfl (fun q2 => ?_)
  refine n_sig (ws' := [(h0, .inr (4, [.ref q1, .null])), (q1, ia E 0 160 z0), (q2, ia E 0 4 z0)]) rfl ?_
  refine n_cs (k' := 2) (n' := 164) rfl rfl ?_
  refine n_putF (q0 := 0) (ws' := [(h0, .inr (4, [.ref q1, .ref q2])), (q1, ia E 0 160 z0), (q2, ia E 0 4 z0)]) (dc D_cX4_init_0 9 rfl) hi fn_X4_15 ff_4_1 rfl ⟨rfl, rfl⟩ rfl rfl ?_
  refine n_aload (dc D_cX4_init_0 10 rfl) rfl rfl ?_
  refine n_get (q0 := 0) (dc D_cX4_init_0 11 rfl) fn_X4_15 rfl rfl ?_
  refine n_iconst (dc D_cX4_init_0 12 rfl) ?_
  refine n_fill (i0 := 2) (wr := [(h0, .inr (4, [.ref q1, .ref q2])), (q1, ia E 0 160 z0)]) (dc D_cX4_init_0 13 rfl) cx_X4_18 rfl rfl (by decide +kernel) (fun _ => Rg_0) [0, 1] rfl rfl (by decide) rfl ?_ rfl rfl
  refine n_sig (ws' := [(h0, .inr (4, [.ref q1, .ref q2])), (q1, ia E 0 160 z0), (q2, ia E 0 4 (fun i => if 0 = 0 ∧ 0 ≤ i ∧ i < 4 then (-1) else z0 i))]) rfl ?_
  exact n_ret (B := BX4 E h0) (dc D_cX4_init_0 14 rfl) hn rfl rfl [0, 1, 2] rfl rfl ⟨q1, q2, rfl⟩
