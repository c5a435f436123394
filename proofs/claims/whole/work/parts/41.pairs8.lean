section Pairs8
variable {d : DS} {b : Bk} {σ : PS} {Φ : Int → PS → Prop}
theorem okT_limD {a : Nat} {δ : Int} (hb : okB b) (h : 0 ≤ capB b a + δ ∧ capB b a + δ ≤ 2000) : okT (TN b (limD b a δ)) := okT_TN hb (fun e he => by
  have := capB_rng hb he
  show 0 ≤ (if e = a then _ else _) ∧ (if e = a then _ else _) ≤ (2000 : Int)
  by_cases q : e = a
  · rw [if_pos q]; exact h
  · rw [if_neg q]; omega)
theorem m_flowsWith {i δ : Int} {a : Nat} (hi : i = a) (hb : okB b) (hM : mB 1 b σ) (ha : a < bn b) (hδ : 0 ≤ capB b a + δ ∧ capB b a + δ ≤ 2000) (h : ∀ σ' : PS, MK σ σ' → mB 1 b σ' → Φ (mostT (TN b (limD b a δ))) σ') : FX12_flowsWith i δ σ Φ := by
  subst hi
  have hn := hb.1
  unfold FX12_flowsWith
  refine m_mayAll hb hM (fun σ2 o2 h2 => ?_)
  have ea : ((a : Nat) : Int).toNat = a := by omega
  rw [ea, h2 a ha]
  refine ⟨⟨by omega, by omega⟩, ⟨by omega, by omega⟩, ⟨by omega, by omega⟩, fun σ6 g6 => ?_⟩
  have o6 : Off [3] σ σ6 := by rw [g6]; exact o2.up (by simp)
  have hM6 : mB 1 b σ6 := hM.keep (o6 1 (by simp))
  refine s_flows (okT_limD hb hδ) (MN_TN hb hM6 (fun e he => ?_)) (fun σ' a1 a2 a3 => ?_)
  · show σ6 3 e = if e = a then _ else _
    rw [g6, up2_if]
    by_cases q : e = a
    · rw [if_pos q, if_pos q]
    · rw [if_neg q, if_neg q]; exact h2 e he
  · have k2 : MK σ6 σ' := MK.fi a1
    exact h σ' ((MK.off o6 (by simp) (by simp)).trans k2) (hM6.keep (k2.1 1 (by simp)))
theorem m_wide (hb : okB b) (hM : mB 1 b σ) (h : ∀ (σ' : PS) (z : Int), MK σ σ' → bP (bn b) z (fun e => bB b e 5 = 1 ∧ mostT (T0 b) < mostT (TN b (limD b e 1))) → Φ z σ') : FX12_wide σ Φ := by
  have hn := hb.1
  unfold FX12_wide
  refine m_flowsNow hb hM (fun σ2 k1 k2 _ _ _ _ _ => ⟨bn b + 1, ?_⟩)
  have loop : ∀ (f i : Nat) (z : Int) (σ3 : PS), i ≤ bn b → bn b - i < f → MK σ σ3 → mB 1 b σ3 → bP i z (fun e => bB b e 5 = 1 ∧ mostT (T0 b) < mostT (TN b (limD b e 1))) → LX12_wide_9 f (mostT (T0 b)) z i σ3 Φ := by
    intro f
    induction f with
    | zero => intro i z σ3 h1 h2; omega
    | succ f ih =>
      intro i z σ3 hi hf kk hM3 hz
      unfold LX12_wide_9 BX12_wide_9
      rw [hM3.1]
      refine ⟨fun c => ?_, fun c => ?_⟩
      · have e : i = bn b := by omega
        subst e
        exact h σ3 z kk hz
      · have hi2 : i < bn b := by omega
        have hc := capB_rng hb hi2
        unfold FX12_isOpen
        refine m_at rfl rfl hb hM3 hi2 (w := 5) (by omega) ⟨fun c2 => ⟨fun _ => ?_, fun c => absurd rfl c⟩, fun c2 => ⟨fun c => by omega, fun _ => ?_⟩⟩
        · intro v1 g1
          refine ⟨⟨by omega, by omega⟩, ?_⟩
          rw [g1, ior_0 hz.1]
          exact ih (i + 1) z σ3 (by omega) (by omega) kk hM3 (hz.no (fun y => c2 y.1))
        · refine m_flowsWith rfl hb hM3 hi2 (by omega) (fun σ4 k4 hM4 => ⟨fun c3 v1 g1 => ⟨⟨by omega, by omega⟩, ?_⟩, fun c3 v1 g1 => ⟨⟨by omega, by omega⟩, ?_⟩⟩)
          · rw [g1, ior_0 hz.1]
            exact ih (i + 1) z σ4 (by omega) (by omega) (kk.trans k4) hM4 (hz.no (fun y => by have := y.2; omega))
          · rw [g1]
            exact ih (i + 1) _ σ4 (by omega) (by omega) (kk.trans k4) hM4 (hz.put (by omega) ⟨c2, by omega⟩)
  exact loop (bn b + 1) 0 0 σ2 (by omega) (by omega) k1 k2 (bP.init _)
theorem p_wide : PT FX11_wide FX12_wide := by
  intro d σc σm hd hC hM
  have hn := hd.1.1
  unfold FX11_wide
  refine c_freshWays hd hC (fun σc' hC' hw => ⟨rfl, bn (dB d) + 1, ?_⟩)
  obtain ⟨D, hD⟩ := IsDist.ex 12 (fun v w => stT (T0 (dB d)) (xE (T0 (dB d))) w v) (bs (dB d))
  have hN := hw.2.2.2.2.2.1 D hD
  have hF := hw.2.2.2.2.2.2
  have hc1 := hC'.1
  have loop : ∀ (f i : Nat) (z : Int), i ≤ bn (dB d) → bn (dB d) - i < f → bP i z (fun e => bB (dB d) e 5 = 1 ∧ 0 ≤ D (bB (dB d) e 0).toNat ∧ 0 ≤ dT (T0 (dB d)) (xE (T0 (dB d))) (bB (dB d) e 1).toNat) → LX11_wide_9 f z i σc' (fun r σc' => FX12_wide σm (fun r2 σm' => r = r2 ∧ ∃ d', okD d' ∧ CR d' σc' ∧ MR d' σm')) := by
    intro f
    induction f with
    | zero => intro i z h1 h2; omega
    | succ f ih =>
      intro i z hi hf hz
      unfold LX11_wide_9 BX11_wide_9
      rw [hc1.1]
      refine ⟨fun c => ?_, fun c => ?_⟩
      · have e : i = bn (dB d) := by omega
        rw [e] at hz
        refine m_wide hd.1 hM.1 (fun σm' z2 k1 hz2 => ⟨?_, d, hd, hC', hM.keep k1⟩)
        refine hz.one (hz2.iff (fun e he => ?_))
        rw [wide_iff hd.1 he (okT_limD hd.1 (by have := capB_rng hd.1 he; omega)) hD]
      · have hi2 : i < bn (dB d) := by omega
        have hG := okG_n (hd.1.2.2.2.2 i hi2)
        have ei : ((i : Nat) : Int).toNat = i := by omega
        have e0 : σc' 13 i = ((bB (dB d) i 0).toNat : Int) := (hc1.2.2.2 i hi2 0 (by omega)).trans hG.1
        have e1 : σc' 14 i = ((bB (dB d) i 1).toNat : Int) := (hc1.2.2.2 i hi2 1 (by omega)).trans hG.2.2.1
        have e5 : σc' 18 i = bB (dB d) i 5 := hc1.2.2.2 i hi2 5 (by omega)
        rw [ei, e5]
        refine ⟨⟨by omega, by omega⟩, fun c2 => ⟨⟨by omega, by omega⟩, ih (i + 1) z (by omega) (by omega) (hz.no (fun y => c2 y.1))⟩, fun c2 => ⟨⟨by omega, by omega⟩, ?_⟩⟩
        refine c_bit e0 (by omega) (fun c3 => ⟨fun c => by omega, fun _ => ⟨⟨by omega, by omega⟩, ?_⟩⟩) (fun c3 => ⟨fun _ => ⟨⟨by omega, by omega⟩, ih (i + 1) z (by omega) (by omega) (hz.no (fun y => c3 ((hN.2 _).mpr ⟨hG.2.1, y.2.1⟩)))⟩, fun c => absurd rfl c⟩)
        refine c_bit e1 (by omega) (fun c4 => ⟨fun c => by omega, fun _ v12 g12 => ⟨⟨by omega, by omega⟩, ?_⟩⟩) (fun c4 => ⟨fun _ => ⟨⟨by omega, by omega⟩, ih (i + 1) z (by omega) (by omega) (hz.no (fun y => c4 ((hF.2 _).mpr ⟨hG.2.2.2.1, y.2.2⟩)))⟩, fun c => absurd rfl c⟩)
        rw [g12]
        exact ih (i + 1) _ (by omega) (by omega) (hz.put (by omega) ⟨c2, ((hN.2 _).mp c3).2, ((hF.2 _).mp c4).2⟩)
  exact loop (bn (dB d) + 1) 0 0 (by omega) (by omega) (bP.init _)
theorem m_narrow (hb : okB b) (hM : mB 1 b σ) (h : ∀ (σ' : PS) (z : Int), MK σ σ' → bP (bn b) z (fun e => 0 < capB b e ∧ mostT (TN b (limD b e (-1))) < mostT (T0 b)) → Φ z σ') : FX12_narrow σ Φ := by
  have hn := hb.1
  unfold FX12_narrow
  refine m_flowsNow hb hM (fun σ2 k1 k2 _ _ _ _ _ => ⟨bn b + 1, ?_⟩)
  have loop : ∀ (f i : Nat) (z : Int) (σ3 : PS), i ≤ bn b → bn b - i < f → MK σ σ3 → mB 1 b σ3 → bP i z (fun e => 0 < capB b e ∧ mostT (TN b (limD b e (-1))) < mostT (T0 b)) → LX12_narrow_9 f (mostT (T0 b)) z i σ3 Φ := by
    intro f
    induction f with
    | zero => intro i z σ3 h1 h2; omega
    | succ f ih =>
      intro i z σ3 hi hf kk hM3 hz
      unfold LX12_narrow_9 BX12_narrow_9
      rw [hM3.1]
      refine ⟨fun c => ?_, fun c => ?_⟩
      · have e : i = bn b := by omega
        subst e
        exact h σ3 z kk hz
      · have hi2 : i < bn b := by omega
        have hc := capB_rng hb hi2
        refine m_capacity rfl hb hM3 hi2 ⟨fun c2 => ?_, fun c2 => ?_⟩
        · intro v1 g1
          refine ⟨⟨by omega, by omega⟩, ?_⟩
          rw [g1, ior_0 hz.1]
          exact ih (i + 1) z σ3 (by omega) (by omega) kk hM3 (hz.no (fun y => by have := y.1; omega))
        · refine m_flowsWith rfl hb hM3 hi2 (by omega) (fun σ4 k4 hM4 => ⟨fun c3 v1 g1 => ⟨⟨by omega, by omega⟩, ?_⟩, fun c3 v1 g1 => ⟨⟨by omega, by omega⟩, ?_⟩⟩)
          · rw [g1, ior_0 hz.1]
            exact ih (i + 1) z σ4 (by omega) (by omega) (kk.trans k4) hM4 (hz.no (fun y => by have := y.2; omega))
          · rw [g1]
            exact ih (i + 1) _ σ4 (by omega) (by omega) (kk.trans k4) hM4 (hz.put (by omega) ⟨by omega, by omega⟩)
  exact loop (bn b + 1) 0 0 σ2 (by omega) (by omega) k1 k2 (bP.init _)
theorem p_narrow : PT FX11_narrow FX12_narrow := by
  intro d σc σm hd hC hM
  have hn := hd.1.1
  have hT := okT_T0 hd.1
  unfold FX11_narrow
  refine c_freshWays hd hC (fun σc' hC' hw => ⟨rfl, bn (dB d) + 1, ?_⟩)
  have hX := hw.2.2.2.1
  have hL := hw.2.2.2.2.1
  have hc1 := hC'.1
  have hCN : CN (T0 (dB d)) σc' := CN_TN hd.1 hc1
  have hq : ∀ e, ∃ D, IsDist 12 (fun v w => stT (T0 (dB d)) (xE (T0 (dB d))) w v) (bB (dB d) e 0).toNat D := fun e => IsDist.ex 12 _ _
  obtain ⟨D, hD⟩ := Classical.axiomOfChoice hq
  have loop : ∀ (f i : Nat) (z : Int), i ≤ bn (dB d) → bn (dB d) - i < f → bP i z (fun e => 0 < xE (T0 (dB d)) e ∧ xE (T0 (dB d)) e = capB (dB d) e ∧ ¬ 0 ≤ D e (bB (dB d) e 1).toNat) → LX11_narrow_9 f z i σc' (fun r σc' => FX12_narrow σm (fun r2 σm' => r = r2 ∧ ∃ d', okD d' ∧ CR d' σc' ∧ MR d' σm')) := by
    intro f
    induction f with
    | zero => intro i z h1 h2; omega
    | succ f ih =>
      intro i z hi hf hz
      unfold LX11_narrow_9 BX11_narrow_9
      rw [hc1.1]
      refine ⟨fun c => ?_, fun c => ?_⟩
      · have e : i = bn (dB d) := by omega
        rw [e] at hz
        refine m_narrow hd.1 hM.1 (fun σm' z2 k1 hz2 => ⟨?_, d, hd, hC', hM.keep k1⟩)
        refine hz.one (hz2.iff (fun e he => ?_))
        have hc := capB_rng hd.1 he
        by_cases q : 0 < capB (dB d) e
        · rw [narrow_iff hd.1 he (okT_limD hd.1 (by omega)) (hD e)]
          exact ⟨fun y => y.2, fun y => ⟨q, y⟩⟩
        · exact ⟨fun y => absurd y.1 q, fun y => by have := y.1; have := y.2.1; omega⟩
      · have hi2 : i < bn (dB d) := by omega
        have hG := okG_n (hd.1.2.2.2.2 i hi2)
        have ei : ((i : Nat) : Int).toNat = i := by omega
        have e0 : σc' 13 i = ((bB (dB d) i 0).toNat : Int) := (hc1.2.2.2 i hi2 0 (by omega)).trans hG.1
        have e1 : σc' 14 i = ((bB (dB d) i 1).toNat : Int) := (hc1.2.2.2 i hi2 1 (by omega)).trans hG.2.2.1
        have no : ¬ (0 < xE (T0 (dB d)) i ∧ xE (T0 (dB d)) i = capB (dB d) i ∧ ¬ 0 ≤ D i (bB (dB d) i 1).toNat) → LX11_narrow_96 (fun x2 x3 σ => LX11_narrow_9 f x2 x3 σ (fun r σc' => FX12_narrow σm (fun r2 σm' => r = r2 ∧ ∃ d', okD d' ∧ CR d' σc' ∧ MR d' σm'))) z i σc' (fun r σc' => FX12_narrow σm (fun r2 σm' => r = r2 ∧ ∃ d', okD d' ∧ CR d' σc' ∧ MR d' σm')) := fun y => ⟨⟨by omega, by omega⟩, ih (i + 1) z (by omega) (by omega) (hz.no y)⟩
        rw [ei, hX i hi2]
        refine ⟨⟨by omega, by omega⟩, fun c2 => ⟨fun _ => no (fun y => by have := y.1; omega), fun c => absurd rfl c⟩, fun c2 => ⟨⟨by omega, by omega⟩, ?_⟩⟩
        refine c_usable rfl hCN (CU_T0 hc1) hn hi2 ⟨fun c3 => ⟨fun _ => no (fun y => c3 y.2.1), fun c => absurd rfl c⟩, fun c3 => ⟨fun c => by omega, fun _ => ⟨⟨by omega, by omega⟩, ?_⟩⟩⟩
        rw [ei, e0]
        refine c_spread hT hCN hX hL hG.2.1 (fun bits hb => ⟨⟨by omega, by omega⟩, ?_⟩)
        have hbits := hb (D i) (hD i)
        refine c_bit e1 (by omega) (fun c4 => ⟨fun _ => no (fun y => y.2.2 ((hbits.2 _).mp c4).2), fun c => by omega⟩) (fun c4 => ⟨fun c => absurd rfl c, fun _ v9 g9 => ⟨⟨by omega, by omega⟩, ?_⟩⟩)
        rw [g9]
        exact ih (i + 1) _ (by omega) (by omega) (hz.put (by omega) ⟨by omega, c3, fun y => c4 ((hbits.2 _).mpr ⟨hG.2.2.2.1, y⟩)⟩)
  exact loop (bn (dB d) + 1) 0 0 (by omega) (by omega) (bP.init _)
end Pairs8
