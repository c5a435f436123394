theorem tb_r {ws : List Cond} (ps : List Nat) (h : (decide (ws = ps.filterMap fun i => lw_tbl[i]?) && ws.all goodWord) = true) : ∀ w ∈ ws, w ∈ TB := by
  intro w hw
  rw [Bool.and_eq_true, decide_eq_true_eq] at h
  have hg := List.all_eq_true.mp h.2 w hw
  rw [h.1] at hw
  obtain ⟨i, -, hi⟩ := List.mem_filterMap.mp hw
  exact TB_in (List.mem_of_getElem? hi) hg
theorem tb_1 {w : Cond} (p : Nat) (h : (decide (lw_tbl[p]? = some w) && goodWord w) = true) : w ∈ TB := by
  rw [Bool.and_eq_true, decide_eq_true_eq] at h
  exact TB_in (List.mem_of_getElem? h.1) h.2
theorem Rl {n : Int} (h : (decide (-2147483648 ≤ n) && decide (n ≤ 2147483647)) = true) : Rg n := by
  rw [Bool.and_eq_true, decide_eq_true_eq, decide_eq_true_eq] at h
  exact h
theorem Rg_eq {a b : Int} (h : a = b) (r : Rg b) : Rg a := h ▸ r
theorem RS_eq {a b : PS} (h : a = b) (r : RS b) : RS a := h ▸ r
theorem Rg_div {a b : Int} (ha : Rg a) (h : 0 ≤ a) (hb : decide (0 < b) = true) : Rg (a / b) := by
  have hb := of_decide_eq_true hb
  have q0 : 0 ≤ a / b := Int.ediv_nonneg h (by omega)
  have q1 : a / b ≤ a := Int.ediv_le_self b h
  exact ⟨by omega, by omega⟩
theorem Rg_mod {a b : Int} (ha : Rg a) (h : 0 ≤ a) (hb : decide (0 < b) = true) : Rg (a % b) := by
  have hb := of_decide_eq_true hb
  have q0 : 0 ≤ a % b := Int.emod_nonneg a (by omega)
  have q1 : a % b ≤ a := by
    have q2 : 0 ≤ b * (a / b) := Int.mul_nonneg (by omega) (Int.ediv_nonneg h (by omega))
    rw [Int.emod_def]
    omega
  exact ⟨by omega, by omega⟩
theorem Rg_min {a b : Int} (ha : Rg a) (hb : Rg b) : Rg (min a b) := by
  rcases Int.le_total a b with h | h
  · rw [Int.min_eq_left h]; exact ha
  · rw [Int.min_eq_right h]; exact hb
theorem Rg_max {a b : Int} (ha : Rg a) (hb : Rg b) : Rg (max a b) := by
  rcases Int.le_total a b with h | h
  · rw [Int.max_eq_right h]; exact hb
  · rw [Int.max_eq_left h]; exact ha
/-- row k's places lo .. hi - 1 become v -/
def fl2 (σ : PS) (k lo hi : Nat) (v : Int) : PS := fun k' i => if k' = k ∧ lo ≤ i ∧ i < hi then v else σ k' i
theorem RS.fl {σ : PS} {k lo hi : Nat} {v : Int} (h : RS σ) (hv : Rg v) : RS (fl2 σ k lo hi v) := by
  intro k' i
  unfold fl2
  split
  · exact hv
  · exact h _ _
theorem fl2_0 {σ : PS} {k lo : Nat} {v : Int} : fl2 σ k lo lo v = σ := by
  funext k' i
  unfold fl2
  rw [if_neg (by omega)]
theorem fl2_s {σ : PS} {k lo hi : Nat} {v : Int} (h : lo ≤ hi) : up2 (fl2 σ k lo hi v) k hi v = fl2 σ k lo (hi + 1) v := by
  funext k' i
  unfold up2 fl2
  by_cases h1 : k' = k ∧ i = hi
  · rw [if_pos h1, if_pos (by omega)]
  · rw [if_neg h1]
    by_cases h2 : k' = k ∧ lo ≤ i ∧ i < hi
    · rw [if_pos h2, if_pos (by omega)]
    · rw [if_neg h2, if_neg (by omega)]
section Names
variable {lay : List LE} {E : EV} {M : MI} {Φ : Int → PS → Prop} {pc : Nat} {lv lv' : List (Option Value)} {st : List Value} {σ : PS} {x : CX}
theorem r_name {a : Int} (k : ∀ y : Int, y = a → RW lay E M Φ pc lv (.int (iz y) :: st) σ x) : RW lay E M Φ pc lv (.int (iz a) :: st) σ x := k a rfl
theorem r_sig (k : ∀ σ1 : PS, σ1 = σ → RW lay E M Φ pc lv st σ1 x) : RW lay E M Φ pc lv st σ x := k σ rfl
end Names
def layC : List LE := [.inr (11, [some 1, some 2, none, some 3, none, some 4, none, some 5, none, some 6, none, some 7, some 9, some 10, some 11, some 12]),
  .inr (3, [some 13, some 14, some 15, some 16, some 17, some 18, none, none, none]),
  .inr (3, [some 19, some 20, some 21, some 22, some 23, some 24, none, none, none]),
  .inr (1, [some 25, some 26, some 27, some 28, some 29, some 30, some 31, none, none, none, none]),
  .inr (0, [some 32, some 33, some 34, some 35, some 36, some 37, some 38, some 39, none, none, none]),
  .inr (8, [some 40, some 41, some 42, some 43, some 44, some 45, some 46, none, none]),
  .inr (10, [none, none, none, none]),
  .inr (5, [some 8, some 47, some 48]),
  .inr (6, [some 49, some 50, some 51, some 52, some 53, some 54, some 55, some 56, none, none]),
  .inr (9, [some 57, none, none, none]),
  .inr (2, [some 58, some 59, some 60, none]),
  .inr (7, [some 61, none]),
  .inr (4, [some 62, some 63]),
  .inl (0, 30),
  .inl (0, 30),
  .inl (0, 30),
  .inl (0, 30),
  .inl (0, 30),
  .inl (0, 30),
  .inl (0, 30),
  .inl (0, 30),
  .inl (0, 30),
  .inl (0, 30),
  .inl (0, 30),
  .inl (0, 30),
  .inl (0, 30),
  .inl (0, 360),
  .inl (0, 360),
  .inl (0, 4320),
  .inl (0, 30),
  .inl (0, 12),
  .inl (0, 12),
  .inl (0, 30),
  .inl (0, 12),
  .inl (0, 12),
  .inl (0, 12),
  .inl (0, 30),
  .inl (0, 12),
  .inl (0, 12),
  .inl (0, 12),
  .inl (0, 30),
  .inl (0, 30),
  .inl (0, 30),
  .inl (0, 360),
  .inl (0, 30),
  .inl (0, 12),
  .inl (0, 12),
  .inl (0, 12),
  .inl (0, 21),
  .inl (0, 108),
  .inl (0, 108),
  .inl (0, 108),
  .inl (0, 108),
  .inl (0, 108),
  .inl (0, 672),
  .inl (0, 672),
  .inl (0, 672),
  .inl (1, 90),
  .inl (0, 6),
  .inl (0, 6),
  .inl (0, 6),
  .inl (1, 510),
  .inl (0, 160),
  .inl (0, 4)]
theorem lC_0 : layC[0]? = some (.inr (11, [some 1, some 2, none, some 3, none, some 4, none, some 5, none, some 6, none, some 7, some 9, some 10, some 11, some 12])) := rfl
theorem lC_1 : layC[1]? = some (.inr (3, [some 13, some 14, some 15, some 16, some 17, some 18, none, none, none])) := rfl
theorem lC_2 : layC[2]? = some (.inr (3, [some 19, some 20, some 21, some 22, some 23, some 24, none, none, none])) := rfl
theorem lC_3 : layC[3]? = some (.inr (1, [some 25, some 26, some 27, some 28, some 29, some 30, some 31, none, none, none, none])) := rfl
theorem lC_4 : layC[4]? = some (.inr (0, [some 32, some 33, some 34, some 35, some 36, some 37, some 38, some 39, none, none, none])) := rfl
theorem lC_5 : layC[5]? = some (.inr (8, [some 40, some 41, some 42, some 43, some 44, some 45, some 46, none, none])) := rfl
theorem lC_6 : layC[6]? = some (.inr (10, [none, none, none, none])) := rfl
theorem lC_7 : layC[7]? = some (.inr (5, [some 8, some 47, some 48])) := rfl
theorem lC_8 : layC[8]? = some (.inr (6, [some 49, some 50, some 51, some 52, some 53, some 54, some 55, some 56, none, none])) := rfl
theorem lC_9 : layC[9]? = some (.inr (9, [some 57, none, none, none])) := rfl
theorem lC_10 : layC[10]? = some (.inr (2, [some 58, some 59, some 60, none])) := rfl
theorem lC_11 : layC[11]? = some (.inr (7, [some 61, none])) := rfl
theorem lC_12 : layC[12]? = some (.inr (4, [some 62, some 63])) := rfl
theorem lC_13 : layC[13]? = some (.inl (0, 30)) := rfl
theorem lC_14 : layC[14]? = some (.inl (0, 30)) := rfl
theorem lC_15 : layC[15]? = some (.inl (0, 30)) := rfl
theorem lC_16 : layC[16]? = some (.inl (0, 30)) := rfl
theorem lC_17 : layC[17]? = some (.inl (0, 30)) := rfl
theorem lC_18 : layC[18]? = some (.inl (0, 30)) := rfl
theorem lC_19 : layC[19]? = some (.inl (0, 30)) := rfl
theorem lC_20 : layC[20]? = some (.inl (0, 30)) := rfl
theorem lC_21 : layC[21]? = some (.inl (0, 30)) := rfl
theorem lC_22 : layC[22]? = some (.inl (0, 30)) := rfl
theorem lC_23 : layC[23]? = some (.inl (0, 30)) := rfl
theorem lC_24 : layC[24]? = some (.inl (0, 30)) := rfl
theorem lC_25 : layC[25]? = some (.inl (0, 30)) := rfl
theorem lC_26 : layC[26]? = some (.inl (0, 360)) := rfl
theorem lC_27 : layC[27]? = some (.inl (0, 360)) := rfl
theorem lC_28 : layC[28]? = some (.inl (0, 4320)) := rfl
theorem lC_29 : layC[29]? = some (.inl (0, 30)) := rfl
theorem lC_30 : layC[30]? = some (.inl (0, 12)) := rfl
theorem lC_31 : layC[31]? = some (.inl (0, 12)) := rfl
theorem lC_32 : layC[32]? = some (.inl (0, 30)) := rfl
theorem lC_33 : layC[33]? = some (.inl (0, 12)) := rfl
theorem lC_34 : layC[34]? = some (.inl (0, 12)) := rfl
theorem lC_35 : layC[35]? = some (.inl (0, 12)) := rfl
theorem lC_36 : layC[36]? = some (.inl (0, 30)) := rfl
theorem lC_37 : layC[37]? = some (.inl (0, 12)) := rfl
theorem lC_38 : layC[38]? = some (.inl (0, 12)) := rfl
theorem lC_39 : layC[39]? = some (.inl (0, 12)) := rfl
theorem lC_40 : layC[40]? = some (.inl (0, 30)) := rfl
theorem lC_41 : layC[41]? = some (.inl (0, 30)) := rfl
theorem lC_42 : layC[42]? = some (.inl (0, 30)) := rfl
theorem lC_43 : layC[43]? = some (.inl (0, 360)) := rfl
theorem lC_44 : layC[44]? = some (.inl (0, 30)) := rfl
theorem lC_45 : layC[45]? = some (.inl (0, 12)) := rfl
theorem lC_46 : layC[46]? = some (.inl (0, 12)) := rfl
theorem lC_47 : layC[47]? = some (.inl (0, 12)) := rfl
theorem lC_48 : layC[48]? = some (.inl (0, 21)) := rfl
theorem lC_49 : layC[49]? = some (.inl (0, 108)) := rfl
theorem lC_50 : layC[50]? = some (.inl (0, 108)) := rfl
theorem lC_51 : layC[51]? = some (.inl (0, 108)) := rfl
theorem lC_52 : layC[52]? = some (.inl (0, 108)) := rfl
theorem lC_53 : layC[53]? = some (.inl (0, 108)) := rfl
theorem lC_54 : layC[54]? = some (.inl (0, 672)) := rfl
theorem lC_55 : layC[55]? = some (.inl (0, 672)) := rfl
theorem lC_56 : layC[56]? = some (.inl (0, 672)) := rfl
theorem lC_57 : layC[57]? = some (.inl (1, 90)) := rfl
theorem lC_58 : layC[58]? = some (.inl (0, 6)) := rfl
theorem lC_59 : layC[59]? = some (.inl (0, 6)) := rfl
theorem lC_60 : layC[60]? = some (.inl (0, 6)) := rfl
theorem lC_61 : layC[61]? = some (.inl (1, 510)) := rfl
theorem lC_62 : layC[62]? = some (.inl (0, 160)) := rfl
theorem lC_63 : layC[63]? = some (.inl (0, 4)) := rfl
def layM : List LE := [.inr (12, [some 1, some 2, none, some 3, some 4, some 5, some 6, none, some 7, some 8, some 9, some 10, some 11, some 12, some 13, some 14, none, none, none, some 15, some 16, some 17, some 18, some 19, some 20, none, some 21, some 22, some 23, none, none, none, none, none, none, some 24, none, some 25, some 26]),
  .inl (0, 183),
  .inl (0, 183),
  .inl (0, 30),
  .inl (0, 30),
  .inl (0, 12),
  .inl (0, 108),
  .inl (0, 400),
  .inl (0, 400),
  .inl (0, 4800),
  .inl (0, 12),
  .inl (0, 12),
  .inl (0, 12),
  .inl (0, 12),
  .inl (0, 12),
  .inl (0, 30),
  .inl (0, 30),
  .inl (2, 30),
  .inl (0, 360),
  .inl (0, 30),
  .inl (0, 13),
  .inl (0, 11664),
  .inl (0, 108),
  .inl (1, 90),
  .inl (0, 600),
  .inl (0, 4),
  .inl (0, 160)]
theorem lM_0 : layM[0]? = some (.inr (12, [some 1, some 2, none, some 3, some 4, some 5, some 6, none, some 7, some 8, some 9, some 10, some 11, some 12, some 13, some 14, none, none, none, some 15, some 16, some 17, some 18, some 19, some 20, none, some 21, some 22, some 23, none, none, none, none, none, none, some 24, none, some 25, some 26])) := rfl
theorem lM_1 : layM[1]? = some (.inl (0, 183)) := rfl
theorem lM_2 : layM[2]? = some (.inl (0, 183)) := rfl
theorem lM_3 : layM[3]? = some (.inl (0, 30)) := rfl
theorem lM_4 : layM[4]? = some (.inl (0, 30)) := rfl
theorem lM_5 : layM[5]? = some (.inl (0, 12)) := rfl
theorem lM_6 : layM[6]? = some (.inl (0, 108)) := rfl
theorem lM_7 : layM[7]? = some (.inl (0, 400)) := rfl
theorem lM_8 : layM[8]? = some (.inl (0, 400)) := rfl
theorem lM_9 : layM[9]? = some (.inl (0, 4800)) := rfl
theorem lM_10 : layM[10]? = some (.inl (0, 12)) := rfl
theorem lM_11 : layM[11]? = some (.inl (0, 12)) := rfl
theorem lM_12 : layM[12]? = some (.inl (0, 12)) := rfl
theorem lM_13 : layM[13]? = some (.inl (0, 12)) := rfl
theorem lM_14 : layM[14]? = some (.inl (0, 12)) := rfl
theorem lM_15 : layM[15]? = some (.inl (0, 30)) := rfl
theorem lM_16 : layM[16]? = some (.inl (0, 30)) := rfl
theorem lM_17 : layM[17]? = some (.inl (2, 30)) := rfl
theorem lM_18 : layM[18]? = some (.inl (0, 360)) := rfl
theorem lM_19 : layM[19]? = some (.inl (0, 30)) := rfl
theorem lM_20 : layM[20]? = some (.inl (0, 13)) := rfl
theorem lM_21 : layM[21]? = some (.inl (0, 11664)) := rfl
theorem lM_22 : layM[22]? = some (.inl (0, 108)) := rfl
theorem lM_23 : layM[23]? = some (.inl (1, 90)) := rfl
theorem lM_24 : layM[24]? = some (.inl (0, 600)) := rfl
theorem lM_25 : layM[25]? = some (.inl (0, 4)) := rfl
theorem lM_26 : layM[26]? = some (.inl (0, 160)) := rfl
theorem uw_0 : ∀ w ∈ u_ws RX0 TX0 11, w ∈ TB := tb_r [283, 285, 287, 289, 291, 293, 295, 297, 299, 301, 303] (by decide +kernel)
theorem uw_1 : ∀ w ∈ u_ws RX1 TX1 11, w ∈ TB := tb_r [238, 240, 242, 244, 246, 248, 250, 252, 254, 256, 258] (by decide +kernel)
theorem uw_2 : ∀ w ∈ u_ws RX2 TX2 4, w ∈ TB := tb_r [457, 459, 461, 463] (by decide +kernel)
theorem uw_3 : ∀ w ∈ u_ws RX3 TX3 9, w ∈ TB := tb_r [191, 193, 195, 197, 199, 201, 203, 205, 207] (by decide +kernel)
theorem uw_4 : ∀ w ∈ u_ws RX4 TX4 2, w ∈ TB := tb_r [492, 494] (by decide +kernel)
theorem uw_5 : ∀ w ∈ u_ws RX5 TX5 3, w ∈ TB := tb_r [392, 394, 396] (by decide +kernel)
theorem uw_6 : ∀ w ∈ u_ws RX6 TX6 10, w ∈ TB := tb_r [368, 370, 372, 374, 376, 378, 380, 382, 384, 386] (by decide +kernel)
theorem uw_7 : ∀ w ∈ u_ws RX7 TX7 2, w ∈ TB := tb_r [476, 478] (by decide +kernel)
theorem uw_8 : ∀ w ∈ u_ws RX8 TX8 9, w ∈ TB := tb_r [327, 329, 331, 333, 335, 337, 339, 341, 343] (by decide +kernel)
theorem uw_9 : ∀ w ∈ u_ws RX9 TX9 4, w ∈ TB := tb_r [437, 439, 441, 443] (by decide +kernel)
theorem uw_10 : ∀ w ∈ u_ws RX10 TX10 4, w ∈ TB := tb_r [413, 415, 417, 419] (by decide +kernel)
theorem uw_11 : ∀ w ∈ u_ws RX11 TX11 16, w ∈ TB := tb_r [513, 515, 517, 519, 521, 523, 525, 527, 529, 531, 533, 535, 537, 539, 541, 543] (by decide +kernel)
theorem uw_12 : ∀ w ∈ u_ws RX12 TX12 39, w ∈ TB := tb_r [1258, 1260, 1262, 1264, 1266, 1268, 1270, 1272, 1274, 1276, 1278, 1280, 1282, 1284, 1286, 1288, 1290, 1292, 1294, 1296, 1298, 1300, 1302, 1304, 1306, 1308, 1310, 1312, 1314, 1316, 1318, 1320, 1322, 1324, 1326, 1328, 1330, 1332, 1334] (by decide +kernel)
