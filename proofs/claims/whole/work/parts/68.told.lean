/-! told -/
section Told
variable {b : Bk} {d : DS} {σ : PS} {Φ : Int → PS → Prop}
theorem linesOf_l {n : Nat} {q : Int} {f : Nat → Int} (hn : n ≤ 30) (hq : q = 0 ∨ q = 1) (h0 : σ 0 18 = (n : Int)) (h : ∀ i, i < n → σ 17 i = f i ∧ (f i = 0 ∨ f i = 1)) (hΦ : Φ (if q = 1 then sm f n else (n : Int) - sm f n) σ) : ∃ k, LX12_linesOf_8 k q 0 0 σ Φ := by
  have loop : ∀ (g i : Nat) (v : Int), i ≤ n → n - i < g → v = (if q = 1 then sm f i else (i : Int) - sm f i) → (0 ≤ v ∧ v ≤ i) → LX12_linesOf_8 g q v i σ Φ := by
    intro g
    induction g with
    | zero => intro i v h1 h2; omega
    | succ g ih =>
      intro i v hi hg hv hb
      unfold LX12_linesOf_8 BX12_linesOf_8 LX12_linesOf_32
      rw [h0]
      refine ⟨fun c => ?_, fun c => ?_⟩
      · have e : i = n := by omega
        rw [e] at hv
        rw [hv]
        exact hΦ
      · have hi2 : i < n := by omega
        obtain ⟨a1, a2⟩ := h i hi2
        rw [show ((i : Nat) : Int).toNat = i by omega, a1]
        refine ⟨⟨by omega, by omega⟩, fun c1 => ⟨⟨by omega, by omega⟩, fun v2 g2 => ⟨⟨by omega, by omega⟩, ih (i + 1) v2 (by omega) (by omega) ?_ ⟨by omega, by omega⟩⟩⟩, fun c1 => ⟨⟨by omega, by omega⟩, fun v2 g2 => ⟨⟨by omega, by omega⟩, ih (i + 1) v2 (by omega) (by omega) ?_ ⟨by omega, by omega⟩⟩⟩⟩
        · rw [g2, hv, sm]
          rcases hq with q0 | q1
          · rw [if_neg (by omega), if_neg (by omega)]; omega
          · rw [if_pos q1, if_pos q1]; omega
        · rw [g2, hv, sm]
          rcases hq with q0 | q1
          · rw [if_neg (by omega), if_neg (by omega)]; omega
          · rw [if_pos q1, if_pos q1]; omega
  refine ⟨n + 1, loop (n + 1) 0 0 (by omega) (by omega) ?_ ⟨by omega, by omega⟩⟩
  split <;> rfl
theorem p_told (a1 : Int) : PT (FX11_told a1) (FX12_told a1) := by
  intro d σc σm hd hC hM
  have hn := hd.1.1
  have only : ∀ (k : Int) (P : Prop), a1 = k → (a1 = k → P) → (a1 = k → P) := fun _ _ _ h => h
  have hB := hC.1
  have hM1 := hM.1
  have same : ∀ r r2 : Int, r = r2 → r = r2 ∧ ∃ d', okD d' ∧ CR d' σc ∧ MR d' σm := fun r r2 e => ⟨e, d, hd, hC, hM⟩
  have wcell : ∀ (r : Int) (σc' : PS), (a1 = 9 ∨ a1 = 10) → CR d σc' → (∃ n r0 : Nat, n ≤ 30 ∧ r0 ≤ n ∧ r = (if a1 = 10 then (r0 : Int) else (n : Int) - r0) ∧ ∀ (σm : PS) (Ψ : Int → PS → Prop), mB 1 (dB d) σm → (∀ σm' : PS, MK σm σm' → mB 1 (dB d) σm' → σm' 0 18 = (n : Int) → (∀ i, i < n → σm' 15 i = σc' 40 i ∧ σm' 16 i = σc' 41 i ∧ σm' 17 i = σc' 42 i ∧ (σc' 42 i = 0 ∨ σc' 42 i = 1) ∧ ∀ j : Nat, (j : Int) < σc' 41 i → σm' 18 (12 * i + j) = σc' 43 (12 * i + j)) → (sm (fun i => σc' 42 i) n = (r0 : Int)) → Ψ 0 σm') → FX12_findLines σm Ψ) → FX12_told a1 σm (fun r2 σm' => r = r2 ∧ ∃ d', okD d' ∧ CR d' σc' ∧ MR d' σm') := by
    intro r σc' h910 hC' ⟨n, r0, n30, hr0, er, hw⟩
    have go : ∀ q : Int, (q = if a1 = 10 then 1 else 0) → FX12_linesOf q σm (fun z σ' => r = z ∧ ∃ d', okD d' ∧ CR d' σc' ∧ MR d' σ') := fun q hq => by
      unfold FX12_linesOf
      refine hw σm _ hM1 (fun σm' k1 k2 k3 k4 k5 => ?_)
      refine linesOf_l (f := fun i => σc' 42 i) n30 ?_ k3 (fun i hi => ⟨(k4 i hi).2.2.1, (k4 i hi).2.2.2.1⟩) ?_
      · rw [hq]; split
        · exact Or.inr rfl
        · exact Or.inl rfl
      · refine ⟨?_, d, hd, hC', hM.keep k1⟩
        rw [er, hq]
        by_cases y : a1 = 10
        · rw [if_pos y, if_pos y, if_pos rfl]; exact k5.symm
        · rw [if_neg y, if_neg y, if_neg (by omega)]
          have : sm (fun i => σc' 42 i) n = (r0 : Int) := k5
          rw [this]
    unfold FX12_told
    refine ⟨fun c => by omega, fun c => by omega, fun c => by omega, fun c => by omega, fun c => by omega, fun c => by omega, fun c => by omega, fun c => by omega, fun c => by omega, fun c => go 0 (by rw [if_neg (by omega)]), fun c => go 1 (by rw [if_pos c]), fun c => by omega⟩
  unfold FX11_told
  refine ⟨fun c => ?_, fun c => ?_, fun c => ?_, fun c => ?_, fun c => ?_, fun c => ?_, fun c => ?_, fun c => ?_, fun c => ?_, fun c => ?_, fun c => ?_, fun c => ?_⟩
  · unfold FX12_told
    refine ⟨fun _ => same _ _ ?_, fun c => by omega, fun c => by omega, fun c => by omega, fun c => by omega, fun c => by omega, fun c => by omega, fun c => by omega, fun c => by omega, fun c => by omega, fun c => by omega, fun c => by omega⟩
    rw [hB.1, hM1.1]
  · refine c_countOpen hd.1 hB ?_
    unfold FX12_told
    refine ⟨fun c => by omega, fun _ => m_openMany hd.1 hM1 (same _ _ rfl), fun c => by omega, fun c => by omega, fun c => by omega, fun c => by omega, fun c => by omega, fun c => by omega, fun c => by omega, fun c => by omega, fun c => by omega, fun c => by omega⟩
  · unfold FX12_told
    refine ⟨fun c => by omega, fun c => by omega, fun _ => same _ _ ?_, fun c => by omega, fun c => by omega, fun c => by omega, fun c => by omega, fun c => by omega, fun c => by omega, fun c => by omega, fun c => by omega, fun c => by omega⟩
    rw [hB.2.1, hM1.2.1]
  · unfold FX12_told
    refine ⟨fun c => by omega, fun c => by omega, fun c => by omega, fun _ => same _ _ ?_, fun c => by omega, fun c => by omega, fun c => by omega, fun c => by omega, fun c => by omega, fun c => by omega, fun c => by omega, fun c => by omega⟩
    rw [hB.2.2.1, hM1.2.2.1]
  · refine c_capFrom hd.1 hB ?_
    unfold FX12_told
    refine ⟨fun c => by omega, fun c => by omega, fun c => by omega, fun c => by omega, fun _ => m_capacities (w := 0) rfl (by omega) hd.1 hM1 (same _ _ ?_), fun c => by omega, fun c => by omega, fun c => by omega, fun c => by omega, fun c => by omega, fun c => by omega, fun c => by omega⟩
    rw [hB.2.1, hM1.2.1]
  · refine c_capTo hd.1 hB ?_
    unfold FX12_told
    refine ⟨fun c => by omega, fun c => by omega, fun c => by omega, fun c => by omega, fun c => by omega, fun _ => m_capacities (w := 1) rfl (by omega) hd.1 hM1 (same _ _ ?_), fun c => by omega, fun c => by omega, fun c => by omega, fun c => by omega, fun c => by omega, fun c => by omega⟩
    rw [hB.2.2.1, hM1.2.2.1]
  · unfold FX12_told
    refine ⟨fun c => by omega, fun c => by omega, fun c => by omega, fun c => by omega, fun c => by omega, fun c => by omega, fun _ => same _ _ ?_, fun c => by omega, fun c => by omega, fun c => by omega, fun c => by omega, fun c => by omega⟩
    rw [hC.2.2.1.1, hM.2.2.1.1]
  · unfold FX12_told
    refine ⟨fun c => by omega, fun c => by omega, fun c => by omega, fun c => by omega, fun c => by omega, fun c => by omega, fun c => by omega, fun _ => same _ _ ?_, fun c => by omega, fun c => by omega, fun c => by omega, fun c => by omega⟩
    rw [hC.2.2.2.1.1, hM.2.2.2.1.1]
  · refine c_freshWays hd hC (fun σc' hC' hw => ⟨rfl, ?_⟩)
    unfold FX12_told
    refine ⟨fun c => by omega, fun c => by omega, fun c => by omega, fun c => by omega, fun c => by omega, fun c => by omega, fun c => by omega, fun c => by omega, fun _ => ?_, fun c => by omega, fun c => by omega, fun c => by omega⟩
    unfold FX12_ways
    refine ⟨fun _ => m_flowsNow hd.1 hM1 (fun σm' k1 k2 k3 k4 k5 k6 k7 => ⟨fun c => by omega, fun _ => ⟨by rw [hw.1, k4], d, hd, hC', hM.keep k1⟩⟩), fun c => by omega⟩
  · refine c_freshStrands hd hC (fun σ1 hC1 hw1 n1 => ⟨rfl, ?_⟩)
    unfold FX11_freshStrands
    refine ⟨fun _ => ⟨rfl, ?_⟩, fun c2 => absurd c2 n1⟩
    obtain ⟨n, r, n30, hrn, e7, e8, e41, hw⟩ := hw1
    rw [e7, e8]
    exact ⟨⟨by omega, by omega⟩, wcell _ σ1 (Or.inl c) hC1 ⟨n, r, n30, hrn, by rw [if_neg (by omega)], hw⟩⟩
  · refine c_freshStrands hd hC (fun σ1 hC1 hw1 n1 => ⟨rfl, ?_⟩)
    obtain ⟨n, r, n30, hrn, e7, e8, e41, hw⟩ := hw1
    rw [e8]
    exact wcell _ σ1 (Or.inr c) hC1 ⟨n, r, n30, hrn, by rw [if_pos c], hw⟩
  · unfold FX12_told
    exact ⟨fun c => by omega, fun c => by omega, fun c => by omega, fun c => by omega, fun c => by omega, fun c => by omega, fun c => by omega, fun c => by omega, fun c => by omega, fun c => by omega, fun c => by omega, fun _ => same _ _ rfl⟩
end Told
