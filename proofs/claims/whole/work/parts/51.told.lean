section Told
variable {b : Bk} {σ : PS} {Φ : Int → PS → Prop}
theorem c_countOpen (hb : okB b) (hC : cB 1 13 b σ) (h : Φ (sm (fun e => bB b e 5) (bn b)) σ) : FX3_countOpen σ Φ := by
  have hn := hb.1
  refine ⟨bn b + 1, ?_⟩
  have r : ∀ e, e < bn b → 0 ≤ bB b e 5 ∧ bB b e 5 ≤ 1 := fun e he => by
    have := hb.2.2.2.2 e he
    unfold okG at this
    omega
  have loop : ∀ (f i : Nat), i ≤ bn b → bn b - i < f → LX3_countOpen_4 f (sm (fun e => bB b e 5) i) i σ Φ := by
    intro f
    induction f with
    | zero => intro i a1 a2; omega
    | succ f ih =>
      intro i hi hf
      have l1 : 0 ≤ sm (fun e => bB b e 5) i := sm_nn (fun e he => (r e (by omega)).1)
      have l2 : sm (fun e => bB b e 5) i ≤ i * 1 := sm_ub (fun e he => (r e (by omega)).2)
      unfold LX3_countOpen_4 BX3_countOpen_4
      rw [hC.1]
      refine ⟨fun c => ?_, fun c => ?_⟩
      · have e : i = bn b := by omega
        rw [e]; exact h
      · have hi2 : i < bn b := by omega
        have := r i hi2
        rw [show ((i : Nat) : Int).toNat = i by omega, show σ 18 i = bB b i 5 from hC.2.2.2 i hi2 5 (by omega)]
        refine ⟨⟨by omega, by omega⟩, ⟨by omega, by omega⟩, fun v4 g4 => ⟨⟨by omega, by omega⟩, ?_⟩⟩
        rw [g4]
        exact ih (i + 1) (by omega) (by omega)
  exact loop (bn b + 1) 0 (by omega) (by omega)
theorem m_openMany (hb : okB b) (hM : mB 1 b σ) (h : Φ (sm (fun e => bB b e 5) (bn b)) σ) : FX12_openMany σ Φ := by
  have hn := hb.1
  refine ⟨bn b + 1, ?_⟩
  have r : ∀ e, e < bn b → 0 ≤ bB b e 5 ∧ bB b e 5 ≤ 1 := fun e he => by
    have := hb.2.2.2.2 e he
    unfold okG at this
    omega
  have loop : ∀ (f i : Nat), i ≤ bn b → bn b - i < f → LX12_openMany_4 f (sm (fun e => bB b e 5) i) i σ Φ := by
    intro f
    induction f with
    | zero => intro i a1 a2; omega
    | succ f ih =>
      intro i hi hf
      have l1 : 0 ≤ sm (fun e => bB b e 5) i := sm_nn (fun e he => (r e (by omega)).1)
      have l2 : sm (fun e => bB b e 5) i ≤ i * 1 := sm_ub (fun e he => (r e (by omega)).2)
      unfold LX12_openMany_4 BX12_openMany_4
      rw [hM.1]
      refine ⟨fun c => ?_, fun c => ?_⟩
      · have e : i = bn b := by omega
        rw [e]; exact h
      · have hi2 : i < bn b := by omega
        have := r i hi2
        refine m_at rfl rfl hb hM hi2 (w := 5) (by omega) ⟨⟨by omega, by omega⟩, fun v4 g4 => ⟨⟨by omega, by omega⟩, ?_⟩⟩
        rw [g4]
        exact ih (i + 1) (by omega) (by omega)
  exact loop (bn b + 1) 0 (by omega) (by omega)
def cpf (b : Bk) (w : Nat) (k : Int) (e : Nat) : Int := if bB b e w = k then capB b e else 0
theorem cpf_bd {w : Nat} {k : Int} (hb : okB b) {i : Nat} (hi : i ≤ bn b) : 0 ≤ sm (cpf b w k) i ∧ sm (cpf b w k) i ≤ i * 999 := by
  have r : ∀ e, e < i → 0 ≤ cpf b w k e ∧ cpf b w k e ≤ 999 := fun e he => by
    have := capB_rng hb (show e < bn b by omega)
    unfold cpf
    split <;> omega
  exact ⟨sm_nn (fun e he => (r e he).1), sm_ub (fun e he => (r e he).2)⟩
theorem c_capFrom {k : Int} (hb : okB b) (hC : cB 1 13 b σ) (h : Φ (sm (cpf b 0 k) (bn b)) σ) : FX3_capacityFrom k σ Φ := by
  have hn := hb.1
  refine ⟨bn b + 1, ?_⟩
  have loop : ∀ (f i : Nat), i ≤ bn b → bn b - i < f → LX3_capacityFrom_4 f k (sm (cpf b 0 k) i) i σ Φ := by
    intro f
    induction f with
    | zero => intro i a1 a2; omega
    | succ f ih =>
      intro i hi hf
      have bd := cpf_bd (w := 0) (k := k) hb hi
      unfold LX3_capacityFrom_4 BX3_capacityFrom_4
      rw [hC.1]
      refine ⟨fun c => ?_, fun c => ⟨⟨by omega, by omega⟩, ?_⟩⟩
      · have e : i = bn b := by omega
        rw [e]; exact h
      · have hi2 : i < bn b := by omega
        have hr := capB_rng hb hi2
        have nx := ih (i + 1) (by omega) (by omega)
        rw [sm, cpf] at nx
        rw [show ((i : Nat) : Int).toNat = i by omega, show σ 13 i = bB b i 0 from hC.2.2.2 i hi2 0 (by omega)]
        refine ⟨fun c2 => ⟨⟨by omega, by omega⟩, fun v2 g2 => ⟨⟨by omega, by omega⟩, ?_⟩⟩, fun c2 => c_usable rfl (CN_TN (lim := capB b) hb hC) (CU_T0 hC) hn hi2 ?_⟩
        · rw [if_neg c2] at nx
          rw [g2]; exact nx
        · show LX3_capacityFrom_32 _ _ _ _ (capB b i) σ Φ
          rw [if_pos c2] at nx
          refine ⟨⟨by omega, by omega⟩, fun v2 g2 => ⟨⟨by omega, by omega⟩, ?_⟩⟩
          rw [g2]; exact nx
  exact loop (bn b + 1) 0 (by omega) (by omega)
theorem c_capTo {k : Int} (hb : okB b) (hC : cB 1 13 b σ) (h : Φ (sm (cpf b 1 k) (bn b)) σ) : FX3_capacityTo k σ Φ := by
  have hn := hb.1
  refine ⟨bn b + 1, ?_⟩
  have loop : ∀ (f i : Nat), i ≤ bn b → bn b - i < f → LX3_capacityTo_4 f k (sm (cpf b 1 k) i) i σ Φ := by
    intro f
    induction f with
    | zero => intro i a1 a2; omega
    | succ f ih =>
      intro i hi hf
      have bd := cpf_bd (w := 1) (k := k) hb hi
      unfold LX3_capacityTo_4 BX3_capacityTo_4
      rw [hC.1]
      refine ⟨fun c => ?_, fun c => ⟨⟨by omega, by omega⟩, ?_⟩⟩
      · have e : i = bn b := by omega
        rw [e]; exact h
      · have hi2 : i < bn b := by omega
        have hr := capB_rng hb hi2
        have nx := ih (i + 1) (by omega) (by omega)
        rw [sm, cpf] at nx
        rw [show ((i : Nat) : Int).toNat = i by omega, show σ 14 i = bB b i 1 from hC.2.2.2 i hi2 1 (by omega)]
        refine ⟨fun c2 => ⟨⟨by omega, by omega⟩, fun v2 g2 => ⟨⟨by omega, by omega⟩, ?_⟩⟩, fun c2 => c_usable rfl (CN_TN (lim := capB b) hb hC) (CU_T0 hC) hn hi2 ?_⟩
        · rw [if_neg c2] at nx
          rw [g2]; exact nx
        · show LX3_capacityTo_32 _ _ _ _ (capB b i) σ Φ
          rw [if_pos c2] at nx
          refine ⟨⟨by omega, by omega⟩, fun v2 g2 => ⟨⟨by omega, by omega⟩, ?_⟩⟩
          rw [g2]; exact nx
  exact loop (bn b + 1) 0 (by omega) (by omega)
theorem m_capacities {k q : Int} {w : Nat} (hq : q = w) (hw : w < 6) (hb : okB b) (hM : mB 1 b σ) (h : Φ (sm (cpf b w k) (bn b)) σ) : FX12_capacities k q σ Φ := by
  have hn := hb.1
  refine ⟨bn b + 1, ?_⟩
  have loop : ∀ (f i : Nat), i ≤ bn b → bn b - i < f → LX12_capacities_5 f k q (sm (cpf b w k) i) i σ Φ := by
    intro f
    induction f with
    | zero => intro i a1 a2; omega
    | succ f ih =>
      intro i hi hf
      have bd := cpf_bd (w := w) (k := k) hb hi
      unfold LX12_capacities_5 BX12_capacities_5
      rw [hM.1]
      refine ⟨fun c => ?_, fun c => ?_⟩
      · have e : i = bn b := by omega
        rw [e]; exact h
      · have hi2 : i < bn b := by omega
        have hr := capB_rng hb hi2
        have nx := ih (i + 1) (by omega) (by omega)
        rw [sm, cpf] at nx
        refine m_at rfl hq hb hM hi2 hw ⟨fun c2 => ⟨⟨by omega, by omega⟩, fun v2 g2 => ⟨⟨by omega, by omega⟩, ?_⟩⟩, fun c2 => m_capacity rfl hb hM hi2 ⟨⟨by omega, by omega⟩, fun v2 g2 => ⟨⟨by omega, by omega⟩, ?_⟩⟩⟩
        · rw [if_neg c2] at nx
          rw [g2]; exact nx
        · rw [if_pos c2] at nx
          rw [g2]; exact nx
  exact loop (bn b + 1) 0 (by omega) (by omega)
end Told
