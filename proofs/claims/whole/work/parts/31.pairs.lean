/-- class and reference answer alike, and go on alike -/
def PT (F G : PS → (Int → PS → Prop) → Prop) : Prop := ∀ (d : DS) (σc σm : PS), okD d → CR d σc → MR d σm → F σc (fun r σc' => G σm (fun r2 σm' => r = r2 ∧ ∃ d', okD d' ∧ CR d' σc' ∧ MR d' σm'))
theorem CWD.off {T : NT} {σ σ' : PS} {ks : List Nat} (h : CWD T σ) (ho : Off ks σ σ') (hk : ∀ k, k ∈ [3, 25, 26, 27, 28, 29] → k ∉ ks) : CWD T σ' := by
  obtain ⟨h1, h2, h3, h4, h5, h6, h7⟩ := h
  refine ⟨by rw [ho 3 (hk 3 (by simp))]; exact h1, by rw [ho 3 (hk 3 (by simp))]; exact h2, fun k hk' => ?_, h4.off ho (hk 25 (by simp)), h5.off ho (hk 29 (by simp)), by rw [ho 3 (hk 3 (by simp))]; exact h6, by rw [ho 3 (hk 3 (by simp))]; exact h7⟩
  rw [ho 26 (hk 26 (by simp)), ho 27 (hk 27 (by simp)), ho 28 (hk 28 (by simp))]
  exact h3 k hk'
theorem CHD.off {b : Bk} {σ σ' : PS} {ks : List Nat} (h : CHD b σ) (ho : Off ks σ σ') (hk : ∀ k, k ∈ [4, 32, 33, 34, 35] → k ∉ ks) : CHD b σ' := by
  unfold CHD
  rw [ho 4 (hk 4 (by simp)), ho 32 (hk 32 (by simp)), ho 33 (hk 33 (by simp)), ho 34 (hk 34 (by simp)), ho 35 (hk 35 (by simp))]
  exact h
theorem CSD.off {b : Bk} {σ σ' : PS} {ks : List Nat} (h : CSD b σ) (ho : Off ks σ σ') (hk : ∀ k, k ∈ [5, 40, 41, 42, 43] → k ∉ ks) : CSD b σ' := by
  unfold CSD
  rw [ho 5 (hk 5 (by simp)), ho 40 (hk 40 (by simp)), ho 41 (hk 41 (by simp)), ho 42 (hk 42 (by simp)), ho 43 (hk 43 (by simp))]
  exact h
theorem CWR.off {b : Bk} {σ σ' : PS} {ks : List Nat} (h : CWR b σ) (ho : Off ks σ σ') (hk : ∀ k, k ∈ [6] → k ∉ ks) : CWR b σ' := by
  unfold CWR
  rw [ho 6 (hk 6 (by simp))]
  exact h
theorem cImg.off {I : Option Bk} {σ σ' : PS} {ks : List Nat} (h : cImg I σ) (ho : Off ks σ σ') (h0 : σ' 0 2 = σ 0 2) (hk : ∀ k, k ∈ [2, 19, 20, 21, 22, 23, 24] → k ∉ ks) : cImg I σ' := by
  unfold cImg at h ⊢
  cases I with
  | none => simp only at h ⊢; rw [h0]; exact h
  | some b =>
    simp only at h ⊢
    refine ⟨by rw [h0]; exact h.1, h.2.off ho (hk 2 (by simp)) (fun w hw => hk (19 + w) ?_)⟩
    simp
    omega
/-- cells of the class that nobody asks for -/
theorem CR.off {d : DS} {σ σ' : PS} {ks : List Nat} (h : CR d σ) (ho : Off ks σ σ') (h0 : ∀ i, i ∈ [2, 4, 6, 8, 10] → σ' 0 i = σ 0 i) (h9 : σ' 9 1 = σ 9 1) (hk : ∀ k, k ∈ ks → k ∈ [0, 7, 8, 9, 10, 30, 31, 36, 37, 38, 39, 44, 45, 46, 47, 48, 49, 50, 51, 52, 53, 54, 55, 56, 58, 59, 60]) : CR d σ' := by
  obtain ⟨h1, h2, h3, h4, h5, h6, h7, h8, h10⟩ := h
  have nk : ∀ k, k ∉ [0, 7, 8, 9, 10, 30, 31, 36, 37, 38, 39, 44, 45, 46, 47, 48, 49, 50, 51, 52, 53, 54, 55, 56, 58, 59, 60] → k ∉ ks := fun k hn z => hn (hk k z)
  refine ⟨h1.off ho (nk 1 (by simp)) (fun w hw => nk _ (by simp; omega)), h2.off ho (h0 2 (by simp)) (fun k hk2 => nk k (by simp at hk2 ⊢; omega)), ?_, ?_, ?_, fun c => ?_, fun c => ?_, fun c => ?_, fun c => ?_⟩
  · rw [h9, ho 57 (nk 57 (by simp))]; exact h3
  · rw [ho 11 (nk 11 (by simp)), ho 61 (nk 61 (by simp))]; exact h4
  · rw [ho 62 (nk 62 (by simp)), ho 63 (nk 63 (by simp))]; exact h5
  · rw [h0 4 (by simp)] at c; exact (h6 c).off ho (fun k hk2 => nk k (by simp at hk2 ⊢; omega))
  · rw [h0 6 (by simp)] at c; exact (h7 c).off ho (fun k hk2 => nk k (by simp at hk2 ⊢; omega))
  · rw [h0 8 (by simp)] at c; exact (h8 c).off ho (fun k hk2 => nk k (by simp at hk2 ⊢; omega))
  · rw [h0 10 (by simp)] at c; exact (h10 c).off ho (fun k hk2 => nk k (by simp at hk2 ⊢; omega))
/-- the gates have changed, nothing is fresh -/
theorem CR.gates {d : DS} {b' : Bk} {σ σ' : PS} (h : CR d σ) (ho : Off [0, 1, 13, 14, 15, 16, 17, 18] σ σ') (h0 : σ' 0 2 = σ 0 2) (hf : σ' 0 4 = 0 ∧ σ' 0 6 = 0 ∧ σ' 0 8 = 0 ∧ σ' 0 10 = 0) (hb : cB 1 13 b' σ') : CR (b', d.2) σ' := by
  obtain ⟨h1, h2, h3, h4, h5, h6⟩ := h
  refine ⟨hb, h2.off ho h0 (by simp), ?_, ?_, ?_, fun c => absurd hf.1 c, fun c => absurd hf.2.1 c, fun c => absurd hf.2.2.1 c, fun c => absurd hf.2.2.2 c⟩
  · rw [ho 9 (by simp), ho 57 (by simp)]; exact h3
  · rw [ho 11 (by simp), ho 61 (by simp)]; exact h4
  · rw [ho 62 (by simp), ho 63 (by simp)]; exact h5
theorem MR.gates {d : DS} {b' : Bk} {σ σ' : PS} (h : MR d σ) (ho : Off [1] σ σ') (hb : mB 1 b' σ') : MR (b', d.2) σ' := by
  obtain ⟨h1, h2, h3, h4, h5⟩ := h
  refine ⟨hb, ?_, ?_, ?_, ?_⟩
  · unfold mImg at h2 ⊢
    show match dI d with | none => _ | some b => _
    cases hI : dI d with
    | none => rw [hI] at h2; simp only at h2 ⊢; rw [ho 0 (by simp)]; exact h2
    | some b => rw [hI] at h2; simp only at h2 ⊢; exact ⟨by rw [ho 0 (by simp)]; exact h2.1, h2.2.keep (ho 2 (by simp))⟩
  · rw [ho 0 (by simp), ho 23 (by simp)]; exact h3
  · rw [ho 0 (by simp), ho 24 (by simp)]; exact h4
  · rw [ho 25 (by simp), ho 26 (by simp)]; exact h5
theorem okD.gates {d : DS} {b' : Bk} (h : okD d) (hb : okB b') : okD (b', d.2) := ⟨hb, h.2⟩
section Pairs
variable {d : DS} {b : Bk} {σ : PS} {Φ : Int → PS → Prop}
theorem c_forget (h : ∀ σ' : PS, Off [0] σ σ' → σ' 0 2 = σ 0 2 → (σ' 0 4 = 0 ∧ σ' 0 6 = 0 ∧ σ' 0 8 = 0 ∧ σ' 0 10 = 0) → Φ 0 σ') : FX11_forget σ Φ := by
  intro σ1 g1 σ2 g2 σ3 g3 σ4 g4
  subst g1; subst g2; subst g3; subst g4
  refine h _ ((((Off.rf.up (by simp)).up (by simp)).up (by simp)).up (by simp)) ?_ ⟨?_, ?_, ?_, ?_⟩
  · simp [up2]
  · simp [up2]
  · simp [up2]
  · simp [up2]
  · simp [up2]
theorem c_freshWays (hd : okD d) (hR : CR d σ) (h : ∀ σ' : PS, CR d σ' → CWD (T0 (dB d)) σ' → Φ 3 σ') : FX11_freshWays σ Φ := by
  unfold FX11_freshWays
  obtain ⟨h1, h2, h3, h4, h5, h6, h7, h8, h10⟩ := id hR
  refine ⟨fun c => h σ hR (h6 c), fun c => ?_⟩
  refine c_run (okT_T0 hd.1) (CN_TN hd.1 h1) (CU_T0 h1) (fun σ3 a1 a2 σ4 g4 => ?_)
  obtain ⟨a3, a4, a5, a6⟩ := a1
  have o4 : Off [0] σ3 σ4 := by rw [g4]; exact Off.rf.up (by simp)
  have o : Off [0, 3, 25, 26, 27, 28, 29, 30, 31] σ σ4 := (a5.mono (by simp)).trans (o4.mono (by simp))
  have e0 : ∀ i, i ≠ 4 → σ4 0 i = σ 0 i := fun i hi => by rw [g4, up2_ni hi, a5 0 (by simp)]
  have w4 : CWD (T0 (dB d)) σ4 := a2.off o4 (by simp)
  refine h σ4 ⟨h1.off o (by simp) (fun w hw => by simp; omega), h2.off o (e0 2 (by omega)) (by simp), ?_, ?_, ?_, fun _ => w4, fun c2 => ?_, fun c2 => ?_, fun c2 => ?_⟩ w4
  · rw [o 9 (by simp), o 57 (by simp)]; exact h3
  · rw [o 11 (by simp), o 61 (by simp)]; exact h4
  · rw [o 62 (by simp), o 63 (by simp)]; exact h5
  · rw [e0 6 (by omega)] at c2; exact (h7 c2).off o (by simp)
  · rw [e0 8 (by omega)] at c2; exact (h8 c2).off o (by simp)
  · rw [e0 10 (by omega)] at c2; exact (h10 c2).off o (by simp)
theorem p_most : PT FX11_most FX12_most := by
  intro d σc σm hd hC hM
  unfold FX11_most
  refine c_freshWays hd hC (fun σc' hC' hw => ⟨rfl, ?_⟩)
  unfold FX12_most
  refine m_flowsNow hd.1 hM.1 (fun σm' k1 k2 k3 k4 k5 k6 k7 => ⟨hw.2.1, d, hd, hC', hM.keep k1⟩)
theorem p_water (a1 : Int) : PT (FX11_water a1) (FX12_water a1) := by
  intro d σc σm hd hC hM
  have hn := hd.1.1
  unfold FX11_water FX12_water
  refine c_isGate hC.1 (fun e he ha => ⟨fun c => by omega, fun _ => ?_⟩) (fun hno => ⟨fun _ => ?_, fun c => absurd rfl c⟩)
  · refine c_freshWays hd hC (fun σc' hC' hw => ⟨rfl, ⟨by omega, by omega⟩, ?_⟩)
    refine m_isGate hd.1 hM.1 (fun e2 he2 ha2 => ⟨fun _ => ?_, fun c => by omega⟩) (fun hno => by omega)
    refine m_flowsNow hd.1 hM.1 (fun σm' k1 k2 k3 k4 k5 k6 k7 => ⟨⟨by omega, by omega⟩, ?_, d, hd, hC', hM.keep k1⟩)
    rw [ha, show ((e : Nat) : Int).toNat = e by omega, hw.2.2.2.1 e he, k6 e he]
  · refine m_isGate hd.1 hM.1 (fun e2 he2 ha2 => by omega) (fun _ => ⟨fun c => absurd rfl c, fun _ => ⟨rfl, d, hd, hC, hM⟩⟩)
theorem p_ways (a1 a2 : Int) (ra1 : Rg a1) (ra2 : Rg a2) : PT (FX11_ways a1 a2) (FX12_ways a1 a2) := by
  intro d σc σm hd hC hM
  have hn := hd.1.1
  have hT := okT_T0 hd.1
  have hKT := (KT_spec hT).1
  unfold FX11_ways FX12_ways
  refine c_freshWays hd hC (fun σc' hC' hw => ⟨rfl, ?_⟩)
  obtain ⟨w1, w2, w3, -⟩ := hw
  rw [w1]
  have inn : ∀ r1 r2 : Int, r1 = r2 → ∀ σm' : PS, MK σm σm' → r1 = r2 ∧ ∃ d', okD d' ∧ CR d' σc' ∧ MR d' σm' := fun r1 r2 e σm' k => ⟨e, d, hd, hC', hM.keep k⟩
  refine ⟨fun c1 => ⟨fun c2 => ?_, fun c2 => ⟨fun c3 => ?_, fun c3 => ?_⟩⟩, fun c1 => ?_⟩
  · exact ⟨fun c => by omega, fun _ => inn _ _ rfl _ MK.rf⟩
  · obtain ⟨k, hk⟩ : ∃ k : Nat, a1 = k := ⟨a1.toNat, by omega⟩
    subst hk
    have hkT : k < KT (T0 (dB d)) := by omega
    obtain ⟨v1, v2, v3⟩ := w3 k hkT
    obtain ⟨z1, z2, z3, z4, z5⟩ := amK_le hT hkT
    have ek : ((k : Nat) : Int).toNat = k := by omega
    rw [ek, v1, v2]
    have fl : ∀ {P : PS → Prop}, (∀ σm' : PS, MK σm σm' → σm' 0 7 = (KT (T0 (dB d)) : Int) → MWay (T0 (dB d)) (KT (T0 (dB d))) σm' → P σm') → FX12_flowsNow σm (fun _ σ3 => P σ3) := fun hp => m_flowsNow hd.1 hM.1 (fun σm' k1 k2 k3 k4 k5 k6 k7 => hp σm' k1 k4 k5)
    refine ⟨fun c4 => ⟨fun c5 => ⟨fun c6 => ?_, fun c6 => ⟨⟨by omega, by omega⟩, ⟨by omega, by omega⟩, fun c7 => ?_, fun c7 => ?_⟩⟩, fun c5 => ⟨⟨by omega, by omega⟩, ?_⟩⟩, fun c4 => ⟨⟨by omega, by omega⟩, ?_⟩⟩
    · refine ⟨fun _ => fl (fun σm' k1 k4 k5 => ⟨fun _ => ?_, fun c => absurd c c1⟩), fun c => by omega⟩
      rw [k4]
      obtain ⟨u1, u2, u3⟩ := k5 k hkT
      rw [u1, u2]
      refine ⟨fun _ => ⟨fun c7 => ⟨⟨by omega, by omega⟩, ⟨by omega, by omega⟩, ?_⟩, fun c7 => ⟨fun c8 => ⟨fun c9 => inn _ _ rfl _ k1, fun c9 => by omega⟩, fun c8 => by omega⟩⟩, fun c => by omega⟩
      exact m_in (fun x y => ⟨fun c => by omega, fun _ => by omega⟩) (fun x => ⟨fun _ => inn _ _ rfl _ k1, fun c => absurd rfl c⟩)
    · refine ⟨fun _ => fl (fun σm' k1 k4 k5 => ⟨fun _ => ?_, fun c => absurd c c1⟩), fun c => by omega⟩
      rw [k4]
      obtain ⟨u1, u2, u3⟩ := k5 k hkT
      rw [u1, u2]
      refine ⟨fun _ => ⟨fun c8 => ⟨⟨by omega, by omega⟩, ⟨by omega, by omega⟩, ?_⟩, fun c8 => by omega⟩, fun c => by omega⟩
      exact m_in (fun x y => by omega) (fun x => ⟨fun _ => inn _ _ rfl _ k1, fun c => absurd rfl c⟩)
    · refine ⟨⟨by omega, by omega⟩, ⟨by omega, by omega⟩, ⟨by omega, by omega⟩, ⟨by omega, by omega⟩, ?_⟩
      refine ⟨fun _ => fl (fun σm' k1 k4 k5 => ⟨fun _ => ?_, fun c => absurd c c1⟩), fun c => by omega⟩
      rw [k4]
      obtain ⟨u1, u2, u3⟩ := k5 k hkT
      rw [u1, u2]
      refine ⟨fun _ => ⟨fun c8 => ⟨⟨by omega, by omega⟩, ⟨by omega, by omega⟩, ?_⟩, fun c8 => by omega⟩, fun c => by omega⟩
      refine m_in (fun x y => ⟨fun c => by omega, fun _ => ⟨⟨by omega, by omega⟩, ⟨by omega, by omega⟩, ⟨by omega, by omega⟩, ⟨by omega, by omega⟩, inn _ _ ?_ _ k1⟩⟩) (fun x => by omega)
      have e : ((k : Int) * 12 + a2 - 10).toNat = 12 * k + (a2 - 10).toNat := by omega
      rw [e, v3 _ (by omega), u3 _ (by omega)]
    · refine ⟨fun _ => fl (fun σm' k1 k4 k5 => ⟨fun _ => ?_, fun c => absurd c c1⟩), fun c => by omega⟩
      rw [k4]
      obtain ⟨u1, u2, u3⟩ := k5 k hkT
      rw [u1, u2]
      exact ⟨fun _ => ⟨fun c8 => by omega, fun _ => ⟨fun _ => ⟨fun c => absurd c5 c, fun _ => ⟨⟨by omega, by omega⟩, inn _ _ rfl _ k1⟩⟩, fun c => absurd c c4⟩⟩, fun c => by omega⟩
    · refine ⟨fun _ => fl (fun σm' k1 k4 k5 => ⟨fun _ => ?_, fun c => absurd c c1⟩), fun c => by omega⟩
      rw [k4]
      obtain ⟨u1, u2, u3⟩ := k5 k hkT
      rw [u1, u2]
      exact ⟨fun _ => ⟨fun c8 => by omega, fun _ => ⟨fun c => absurd c4 c, fun _ => ⟨⟨by omega, by omega⟩, inn _ _ rfl _ k1⟩⟩⟩, fun c => by omega⟩
  · refine ⟨fun _ => m_flowsNow hd.1 hM.1 (fun σm' k1 k2 k3 k4 k5 k6 k7 => ⟨fun _ => ⟨fun c => by omega, fun _ => inn _ _ rfl _ k1⟩, fun c => absurd c c1⟩), fun c => by omega⟩
  · refine ⟨fun _ => m_flowsNow hd.1 hM.1 (fun σm' k1 k2 k3 k4 k5 k6 k7 => ⟨fun c => absurd c1 c, fun _ => inn _ _ k4.symm _ k1⟩), fun c => by omega⟩
end Pairs
