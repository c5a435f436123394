/-! THE START: what holds of two fresh objects -/
def dS0 : DS := ((0, 0, 11, fun _ _ => 0), none, (0, fun _ => 0), (0, fun _ => 0), (fun _ => -1), fun _ => 0)
theorem okD_0 : okD dS0 := by
  refine ⟨⟨by decide, by decide, by decide, by decide, fun e he => absurd he (Nat.not_lt_zero _)⟩, fun b h => (by cases h), ⟨by decide, fun i hi => absurd hi (Nat.not_lt_zero _)⟩, by decide, fun l _ => ?_⟩
  show (-1 : Int) ≤ -1 ∧ (-1 : Int) ≤ 40
  decide
theorem CR_0 : CR dS0 σC0 := by
  refine ⟨⟨rfl, rfl, rfl, fun e he => absurd he (Nat.not_lt_zero _)⟩, rfl, ⟨rfl, fun i hi => absurd hi (Nat.not_lt_zero _)⟩, ⟨rfl, fun i hi => absurd hi (Nat.not_lt_zero _)⟩, fun l hl => ⟨?_, fun i hi => ?_⟩, fun c => absurd rfl c, fun c => absurd rfl c, fun c => absurd rfl c, fun c => absurd rfl c⟩
  · have h4 : l = 0 ∨ l = 1 ∨ l = 2 ∨ l = 3 := by omega
    rcases h4 with rfl | rfl | rfl | rfl <;> rfl
  · have h : (i : Int) < -1 := hi
    omega
theorem MR_0 : MR dS0 σM0 := by
  refine ⟨⟨rfl, rfl, rfl, fun e he => absurd he (Nat.not_lt_zero _)⟩, rfl, ⟨rfl, fun i hi => absurd hi (Nat.not_lt_zero _)⟩, ⟨rfl, fun i hi => absurd hi (Nat.not_lt_zero _)⟩, fun l hl => ⟨?_, fun i hi => ?_⟩⟩
  · have h4 : l = 0 ∨ l = 1 ∨ l = 2 ∨ l = 3 := by omega
    rcases h4 with rfl | rfl | rfl | rfl <;> rfl
  · have h : (i : Int) < -1 := hi
    omega
theorem RS_C0 : RS σC0 := by
  intro k i
  by_cases h1 : k = 1 ∨ k = 2
  · have e : σC0 k i = if i = 8 then 11 else 0 := by simp only [σC0, if_pos h1]
    rw [e]
    split
    · exact ⟨by decide, by decide⟩
    · exact Rg_0
  · by_cases h2 : k = 9
    · have e : σC0 k i = if i = 3 then -1 else 0 := by simp only [σC0, if_neg h1, if_pos h2]
      rw [e]
      split
      · exact ⟨by decide, by decide⟩
      · exact Rg_0
    · by_cases h3 : k = 63
      · have e : σC0 k i = if 0 = 0 ∧ 0 ≤ i ∧ i < 4 then (-1) else z0 i := by simp only [σC0, if_neg h1, if_neg h2, if_pos h3]
        rw [e]
        split
        · exact ⟨by decide, by decide⟩
        · exact Rg_0
      · have e : σC0 k i = z0 i := by simp only [σC0, if_neg h1, if_neg h2, if_neg h3]
        rw [e]
        exact Rg_0
theorem RS_M0 : RS σM0 := by
  intro k i
  have h1 : Rg (-1) := ⟨by decide, by decide⟩
  by_cases h2 : k = 1
  · have e : σM0 k i = if i = (1 : Int).toNat then 11 else z0 i := by simp only [σM0, if_pos h2]
    rw [e]
    split
    · exact ⟨by decide, by decide⟩
    · exact Rg_0
  · by_cases h3 : k = 25
    · have e : σM0 k i = if i = (3 : Int).toNat then (-1) else (if i = (2 : Int).toNat then (-1) else (if i = (1 : Int).toNat then (-1) else (if i = (0 : Int).toNat then (-1) else z0 i))) := by simp only [σM0, if_neg h2, if_pos h3]
      rw [e]
      split
      · exact h1
      · split
        · exact h1
        · split
          · exact h1
          · split
            · exact h1
            · exact Rg_0
    · have e : σM0 k i = z0 i := by simp only [σM0, if_neg h2, if_neg h3]
      rw [e]
      exact Rg_0
/-! classes, arrays, strings -/
theorem in_0 : Cond.instantiable RX0 11 ∈ TB := tb_1 262 (by decide +kernel)
theorem in_1 : Cond.instantiable RX1 11 ∈ TB := tb_1 212 (by decide +kernel)
theorem in_2 : Cond.instantiable RX2 4 ∈ TB := tb_1 448 (by decide +kernel)
theorem in_3 : Cond.instantiable RX3 9 ∈ TB := tb_1 127 (by decide +kernel)
theorem in_4 : Cond.instantiable RX4 2 ∈ TB := tb_1 482 (by decide +kernel)
theorem in_5 : Cond.instantiable RX5 3 ∈ TB := tb_1 347 (by decide +kernel)
theorem in_6 : Cond.instantiable RX6 10 ∈ TB := tb_1 353 (by decide +kernel)
theorem in_7 : Cond.instantiable RX7 2 ∈ TB := tb_1 467 (by decide +kernel)
theorem in_8 : Cond.instantiable RX8 9 ∈ TB := tb_1 307 (by decide +kernel)
theorem in_9 : Cond.instantiable RX9 4 ∈ TB := tb_1 423 (by decide +kernel)
theorem in_10 : Cond.instantiable RX10 4 ∈ TB := tb_1 400 (by decide +kernel)
theorem in_11 : Cond.instantiable RX11 16 ∈ TB := tb_1 119 (by decide +kernel)
theorem in_12 : Cond.instantiable RX12 39 ∈ TB := tb_1 1214 (by decide +kernel)
theorem start_C {args : Array Value} {s : State} (hts : ∀ w ∈ TB, w.before args s = true) : ∃ (dC : Nat → ClassId) (dI : Nat → Nat → Nat), ∀ (k : Nat) (q : vw_C), vwCl[k]? = some q → u_Kn s q.1 q.2.1 q.2.2 (dC k) (dI k) := by
  have hall : ∀ q ∈ vwCl, ∃ (cC : ClassId) (iS : Nat → Nat), u_Kn s q.1 q.2.1 q.2.2 cC iS := List.forall_mem_cons.mpr ⟨u_known (n := 11) hts uw_0 (hts _ in_0), List.forall_mem_cons.mpr ⟨u_known (n := 11) hts uw_1 (hts _ in_1), List.forall_mem_cons.mpr ⟨u_known (n := 4) hts uw_2 (hts _ in_2), List.forall_mem_cons.mpr ⟨u_known (n := 9) hts uw_3 (hts _ in_3), List.forall_mem_cons.mpr ⟨u_known (n := 2) hts uw_4 (hts _ in_4), List.forall_mem_cons.mpr ⟨u_known (n := 3) hts uw_5 (hts _ in_5), List.forall_mem_cons.mpr ⟨u_known (n := 10) hts uw_6 (hts _ in_6), List.forall_mem_cons.mpr ⟨u_known (n := 2) hts uw_7 (hts _ in_7), List.forall_mem_cons.mpr ⟨u_known (n := 9) hts uw_8 (hts _ in_8), List.forall_mem_cons.mpr ⟨u_known (n := 4) hts uw_9 (hts _ in_9), List.forall_mem_cons.mpr ⟨u_known (n := 4) hts uw_10 (hts _ in_10), List.forall_mem_cons.mpr ⟨u_known (n := 16) hts uw_11 (hts _ in_11), List.forall_mem_cons.mpr ⟨u_known (n := 39) hts uw_12 (hts _ in_12), fun _ h => absurd h List.not_mem_nil⟩⟩⟩⟩⟩⟩⟩⟩⟩⟩⟩⟩⟩
  have h1 : ∀ k : Nat, ∃ z : ClassId × (Nat → Nat), ∀ q, vwCl[k]? = some q → u_Kn s q.1 q.2.1 q.2.2 z.1 z.2 := by
    intro k
    cases hq : vwCl[k]? with
    | none => exact ⟨(0, fun _ => 0), fun q h => by cases h⟩
    | some q =>
      obtain ⟨cC, iS, h⟩ := hall q (List.mem_of_getElem? hq)
      exact ⟨(cC, iS), fun q2 h2 => by cases h2; exact h⟩
  obtain ⟨f, hf⟩ := Classical.axiomOfChoice h1
  exact ⟨fun k => (f k).1, fun k => (f k).2, hf⟩
theorem start_A {args : Array Value} {s : State} {ty : FieldType} (h : (Cond.arrayClass ty).before args s = true) (hra : ∀ (U : State) (cA : ClassId), U.vm.findClass ("[" ++ ty.toString) = some cA → va_RA U cA ty) : ∃ cA : ClassId, ArrOfT s cA ty ∧ va_RA s cA ty := by
  obtain ⟨cA, kA, comp, h1, h2, h3⟩ := Cond.arrayClass_spec h
  exact ⟨cA, fun n z => ⟨fun k h => (by cases h), kA, h2, comp, h3⟩, hra s cA h1⟩
theorem start_K {args : Array Value} {s : State} (hts : ∀ w ∈ TB, w.before args s = true) : ∃ (dC : Nat → ClassId) (dI : Nat → Nat → Nat) (cA : Nat → ClassId), va_K (dC, dI) vwCl [(cA 0, .int), (cA 1, .byte), (cA 2, .boolean)] s := by
  obtain ⟨dC, dI, h⟩ := start_C hts
  obtain ⟨a0, h0⟩ := start_A (hts _ aw_int) (fun _ _ h => h)
  obtain ⟨a1, h1⟩ := start_A (hts _ aw_byte) (fun _ _ h => h)
  obtain ⟨a2, h2⟩ := start_A (hts _ aw_boolean) (fun _ _ h => h)
  refine ⟨dC, dI, fun k => [a0, a1, a2].getD k 0, h, fun k q hk => ?_⟩
  match k, hk with
  | 0, hk => cases hk; exact h0
  | 1, hk => cases hk; exact h1
  | 2, hk => cases hk; exact h2
  | k + 3, hk => simp at hk
def tmS : Nat → Term := fun i => ([.string "GateFlow$Condition" 116, .string "GateFlow$Condition" 118, .string "GateFlow$Condition" 120, .string "GateFlow$Condition" 122, .string "GateFlow$Condition" 124, .string "GateFlow$Condition" 126, .string "GateFlow$Condition" 128, .string "GateFlow$Condition" 130, .string "GateFlowModel" 303] : List Term).getD i (.int 0)
def flS : List Cond := flatC (Jvm.Cond.and given_1 narrow_1)
theorem sx_N : ∀ i : Nat, i < 9 → kLen.getD i 0 < 2 ^ 31 := by decide
theorem sx_ex : ∀ i : Nat, i < 9 → Cond.exactly (tmS i) "java/lang/String" ∈ flS := by decide +kernel
theorem sx_co : ∀ i : Nat, i < 9 → Cond.eq (.field (tmS i) "java/lang/String" "coder" "B") (.int 0) ∈ flS := by decide +kernel
theorem sx_ar : ∀ i : Nat, i < 9 → Cond.arrayOf (.field (tmS i) "java/lang/String" "value" "[B") .byte ∈ flS := by decide +kernel
theorem sx_le : ∀ i : Nat, i < 9 → Cond.eq (.length (.field (tmS i) "java/lang/String" "value" "[B")) (.int (Int32.ofNat (kLen.getD i 0))) ∈ flS := by decide +kernel
theorem sx_el : ∀ i : Nat, i < 9 → ∀ j : Nat, j < kLen.getD i 0 → Cond.eq (.elem (.field (tmS i) "java/lang/String" "value" "[B") (.int (Int32.ofNat j))) (.int ((kByt.getD i []).getD j 0)) ∈ flS := by decide +kernel
theorem sx_ne : ∀ i : Nat, i < 9 → ∀ j : Nat, j < 9 → i ≠ j → Cond.not (Cond.eq (tmS i) (tmS j)) ∈ flS ∨ Cond.not (Cond.eq (tmS j) (tmS i)) ∈ flS := by decide +kernel
theorem sx_cs : Cond.eq (.static "java/lang/String" "COMPACT_STRINGS" "Z") (.int 1) ∈ flS := by decide +kernel
theorem sx_fm : Cond.isRef (.static "jdk/internal/util/Preconditions" "SIOOBE_FORMATTER" "Ljava/util/function/BiFunction;") ∈ flS := by decide +kernel
theorem start_E {args : Array Value} {s : State} (hfl : ∀ w ∈ flS, w.before args s = true) (hts : ∀ w ∈ lw_tbl, w.before args s = true) : ∃ S V : Nat → Nat, ∀ E : EV, eS E = S → eV E = V → ENA (fun q => s.heap.size ≤ q) E s s.heap := by
  have hA : ∀ a : Nat, a < s.heap.size → ¬ (fun q : Nat => s.heap.size ≤ q) a := fun a h => Nat.not_le.mpr h
  obtain ⟨S, V, hS, hev⟩ := vk_Sof (tm := tmS) (len := kLen) (byt := kByt) (A := fun q => s.heap.size ≤ q) (args := args) sx_N (fun i hi => hfl _ (sx_ex i hi)) (fun i hi => hfl _ (sx_co i hi)) (fun i hi => hfl _ (sx_ar i hi)) (fun i hi => hfl _ (sx_le i hi)) (fun i hi j hj => hfl _ (sx_el i hi j hj)) (fun i j hi hj hij => (sx_ne i hi j hj hij).elim (fun h => Or.inl (hfl _ h)) (fun h => Or.inr (hfl _ h))) hA
  refine ⟨S, V, fun E h1 h2 => ?_⟩
  subst h1
  subst h2
  have hR : ∀ q ∈ kRef, vk_R q.1 q.2.1 q.2.2.1 (eS E q.2.2.2) s := List.forall_mem_cons.mpr ⟨vk_R.of (hts _ (List.mem_of_getElem? (i := 1009) (by decide +kernel))) (hev 0 (by decide)), List.forall_mem_cons.mpr ⟨vk_R.of (hts _ (List.mem_of_getElem? (i := 1010) (by decide +kernel))) (hev 1 (by decide)), List.forall_mem_cons.mpr ⟨vk_R.of (hts _ (List.mem_of_getElem? (i := 1011) (by decide +kernel))) (hev 2 (by decide)), List.forall_mem_cons.mpr ⟨vk_R.of (hts _ (List.mem_of_getElem? (i := 1012) (by decide +kernel))) (hev 3 (by decide)), List.forall_mem_cons.mpr ⟨vk_R.of (hts _ (List.mem_of_getElem? (i := 1013) (by decide +kernel))) (hev 4 (by decide)), List.forall_mem_cons.mpr ⟨vk_R.of (hts _ (List.mem_of_getElem? (i := 1014) (by decide +kernel))) (hev 5 (by decide)), List.forall_mem_cons.mpr ⟨vk_R.of (hts _ (List.mem_of_getElem? (i := 1015) (by decide +kernel))) (hev 6 (by decide)), List.forall_mem_cons.mpr ⟨vk_R.of (hts _ (List.mem_of_getElem? (i := 1016) (by decide +kernel))) (hev 7 (by decide)), List.forall_mem_cons.mpr ⟨vk_R.of (hts _ (List.mem_of_getElem? (i := 1666) (by decide +kernel))) (hev 8 (by decide)), fun _ h => absurd h List.not_mem_nil⟩⟩⟩⟩⟩⟩⟩⟩⟩
  have hN1 : ∀ q ∈ kNest, va_Nw (.methodLinkNest q.1 q.2.1 q.2.2 "GateFlow") s := List.forall_mem_cons.mpr ⟨va_Nw.of rfl (hts _ (List.mem_of_getElem? (i := 656) (by decide +kernel))), List.forall_mem_cons.mpr ⟨va_Nw.of rfl (hts _ (List.mem_of_getElem? (i := 753) (by decide +kernel))), List.forall_mem_cons.mpr ⟨va_Nw.of rfl (hts _ (List.mem_of_getElem? (i := 1152) (by decide +kernel))), fun _ h => absurd h List.not_mem_nil⟩⟩⟩
  have hN2 : ∀ q ∈ kNestI, va_Nw (.methodLinkNest q.1 q.2.1 q.2.2 "GateFlow") s := List.forall_mem_cons.mpr ⟨va_Nw.of rfl (hts _ (List.mem_of_getElem? (i := 128) (by decide +kernel))), List.forall_mem_cons.mpr ⟨va_Nw.of rfl (hts _ (List.mem_of_getElem? (i := 213) (by decide +kernel))), List.forall_mem_cons.mpr ⟨va_Nw.of rfl (hts _ (List.mem_of_getElem? (i := 263) (by decide +kernel))), List.forall_mem_cons.mpr ⟨va_Nw.of rfl (hts _ (List.mem_of_getElem? (i := 308) (by decide +kernel))), List.forall_mem_cons.mpr ⟨va_Nw.of rfl (hts _ (List.mem_of_getElem? (i := 348) (by decide +kernel))), List.forall_mem_cons.mpr ⟨va_Nw.of rfl (hts _ (List.mem_of_getElem? (i := 354) (by decide +kernel))), List.forall_mem_cons.mpr ⟨va_Nw.of rfl (hts _ (List.mem_of_getElem? (i := 401) (by decide +kernel))), List.forall_mem_cons.mpr ⟨va_Nw.of rfl (hts _ (List.mem_of_getElem? (i := 424) (by decide +kernel))), List.forall_mem_cons.mpr ⟨va_Nw.of rfl (hts _ (List.mem_of_getElem? (i := 449) (by decide +kernel))), List.forall_mem_cons.mpr ⟨va_Nw.of rfl (hts _ (List.mem_of_getElem? (i := 468) (by decide +kernel))), fun _ h => absurd h List.not_mem_nil⟩⟩⟩⟩⟩⟩⟩⟩⟩⟩
  exact ⟨hS, hR, fun q hq => (List.mem_append.mp hq).elim (hN1 q) (hN2 q), va_Zof (hts _ (List.mem_of_getElem? (i := 1029) (by decide +kernel))) (hts _ (List.mem_of_getElem? (i := 113) (by decide +kernel))) (va_eqt (hfl _ sx_cs)) hA, va_Zqof (hts _ (List.mem_of_getElem? (i := 1045) (by decide +kernel))) (hts _ (List.mem_of_getElem? (i := 115) (by decide +kernel))) (hfl _ sx_fm) hA⟩
