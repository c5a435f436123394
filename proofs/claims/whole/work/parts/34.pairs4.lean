section Pairs4
variable {d : DS} {b : Bk} {σ : PS} {Φ : Int → PS → Prop}
theorem p_bind (a1 a2 : Int) : PT (FX11_bind a1 a2) (FX12_bind a1 a2) := by
  intro d σc σm hd hC hM
  have hn := hd.1.1
  unfold FX11_bind FX12_bind
  refine c_isGate hC.1 (fun e he ha => ⟨fun _ => ?_, fun c => by omega⟩) (fun hno => ⟨fun c => absurd rfl c, fun _ => ?_⟩)
  · subst ha
    have ee : ((e : Nat) : Int).toNat = e := by omega
    have hG := hd.1.2.2.2.2 e he
    have e15 : σc 15 e = bB (dB d) e 2 := hC.1.2.2.2 e he 2 (by omega)
    have e16 : σc 16 e = bB (dB d) e 3 := hC.1.2.2.2 e he 3 (by omega)
    have mm : ∀ {P : Int → PS → Prop}, (0 ≤ a2 → a2 ≤ bB (dB d) e 3 → FX12_becomes e 2 a2 σm (fun z9 σ10 => P z9 σ10)) → (¬ (0 ≤ a2 ∧ a2 ≤ bB (dB d) e 3) → P (-2) σm) → FX12_isGate e σm (fun z1 σ2 => (¬ z1 = 0 → FX12_at e 3 σ2 (fun z4 σ5 => FX12_in a2 0 z4 σ5 (fun z6 σ7 => (z6 = 0 → P (-2) σ7) ∧ (¬ z6 = 0 → FX12_becomes e 2 a2 σ7 (fun z9 σ10 => P z9 σ10))))) ∧ (z1 = 0 → P (-1) σ2)) := by
      intro P h1 h2
      refine m_isGate hd.1 hM.1 (fun e2 he2 ha2' => ⟨fun _ => ?_, fun c => by omega⟩) (fun c => by omega)
      exact m_at rfl rfl hd.1 hM.1 he (w := 3) (by omega) (m_in (fun x y => ⟨fun c => by omega, fun _ => h1 x y⟩) (fun x => ⟨fun _ => h2 x, fun c => absurd rfl c⟩))
    have out : ∀ r : Int, r = -2 → ¬ (0 ≤ a2 ∧ a2 ≤ bB (dB d) e 3) → _ := fun r hr hno => mm (P := fun r2 σm' => r = r2 ∧ ∃ d', okD d' ∧ CR d' σc ∧ MR d' σm') (fun x y => absurd ⟨x, y⟩ hno) (fun _ => ⟨hr, d, hd, hC, hM⟩)
    unfold okG at hG
    rw [ee, e15, e16]
    refine ⟨fun c => out _ rfl (by omega), fun c => ⟨⟨by omega, by omega⟩, fun c3 => ⟨⟨by omega, by omega⟩, fun v10 g10 => ⟨⟨by omega, by omega⟩, fun σ12 g12 => ?_⟩⟩, fun c3 => out _ rfl (by omega)⟩⟩
    rw [g12]
    refine c_becomes (w := 2) (by omega) hC (fun σc' hC' => ?_)
    refine mm (P := fun r2 σm' => v10 = r2 ∧ ∃ d', okD d' ∧ CR d' σc' ∧ MR d' σm') (fun x y => ?_) (fun z => by omega)
    refine m_becomes rfl rfl hd.1 hM.1 he (w := 2) (by omega) (fun σm' o1 hM' => ⟨g10, _, hd.gates (okB_set hd.1 ?_), hC', hM.gates o1 hM'⟩)
    unfold okG
    simp
    omega
  · exact m_isGate hd.1 hM.1 (fun e2 he2 ha2' => by omega) (fun c => ⟨fun c => absurd rfl c, fun _ => ⟨rfl, d, hd, hC, hM⟩⟩)
theorem p_turn (a1 a2 : Int) : PT (FX11_turn a1 a2) (FX12_turn a1 a2) := by
  intro d σc σm hd hC hM
  have hn := hd.1.1
  unfold FX11_turn FX12_turn
  refine c_isGate hC.1 (fun e he ha => ⟨fun c => by omega, fun _ => ?_⟩) (fun hno => ⟨fun _ => ?_, fun c => absurd rfl c⟩)
  · subst ha
    have ee : ((e : Nat) : Int).toNat = e := by omega
    have hG := hd.1.2.2.2.2 e he
    have e18 : σc 18 e = bB (dB d) e 5 := hC.1.2.2.2 e he 5 (by omega)
    unfold okG at hG
    refine c_isOne (fun h01 => ⟨fun _ => ⟨⟨by omega, by omega⟩, fun v8 g8 => ⟨⟨by omega, by omega⟩, fun σ10 g10 => ?_⟩⟩, fun c => by omega⟩) (fun h01 => ⟨fun c => absurd rfl c, fun _ => ?_⟩)
    · rw [ee] at g8 g10
      rw [g10]
      refine c_becomes (w := 5) (by omega) hC (fun σc' hC' => ?_)
      refine m_isGate hd.1 hM.1 (fun e2 he2 ha2' => ⟨fun c => by omega, fun _ => ?_⟩) (fun c => by omega)
      refine m_in (fun x y => ⟨fun c => by omega, fun _ => ?_⟩) (fun c => by omega)
      refine m_becomes rfl rfl hd.1 hM.1 he (w := 5) (by omega) (fun σm' o1 hM' => ⟨by rw [g8]; exact e18, _, hd.gates (okB_set hd.1 ?_), hC', hM.gates o1 hM'⟩)
      unfold okG
      simp
      omega
    · refine m_isGate hd.1 hM.1 (fun e2 he2 ha2' => ⟨fun c => by omega, fun _ => ?_⟩) (fun c => by omega)
      exact m_in (fun x y => by omega) (fun c => ⟨fun _ => ⟨rfl, d, hd, hC, hM⟩, fun c => absurd rfl c⟩)
  · exact m_isGate hd.1 hM.1 (fun e2 he2 ha2' => by omega) (fun c => ⟨fun _ => ⟨rfl, d, hd, hC, hM⟩, fun c => absurd rfl c⟩)
theorem p_drop : PT FX11_drop FX12_drop := by
  intro d σc σm hd hC hM
  have hn := hd.1.1
  unfold FX11_drop FX12_drop
  rw [hC.1.1, hM.1.1]
  obtain ⟨b1, b2, b3, b4, b5⟩ := hd.1
  refine ⟨fun c => ⟨⟨by omega, by omega⟩, fun σ3 g3 => ?_⟩, fun c => ⟨fun c2 => by omega, fun _ => ⟨rfl, d, hd, hC, hM⟩⟩⟩
  have o3 : Off [0, 1, 13, 14, 15, 16, 17, 18] σc σ3 := by rw [g3]; exact Off.rf.up (by simp)
  refine c_forget (fun σc' ho h2 hf => ⟨fun _ => ⟨⟨by omega, by omega⟩, fun σm' g => ?_⟩, fun c2 => by omega⟩)
  have h3 : σc' 1 = σ3 1 := ho 1 (by simp)
  obtain ⟨p1, p2, p3, p4⟩ := hC.1
  obtain ⟨q1, q2, q3, q4⟩ := hM.1
  have oM : Off [1] σm σm' := by rw [g]; exact Off.rf.up (by simp)
  refine ⟨?_, ((bn (dB d) - 1, bs (dB d), bz (dB d), bB (dB d)), d.2), hd.gates ⟨by show bn (dB d) - 1 ≤ 30; omega, b2, b3, b4, fun e he => b5 e (by have : e < bn (dB d) - 1 := he; omega)⟩, hC.gates (o3.trans (ho.mono (by simp))) (by rw [h2, g3, up2_nk (by omega)]) hf ⟨?_, ?_, ?_, fun e he w hw => ?_⟩, hM.gates oM ⟨?_, ?_, ?_, fun e he w hw => ?_⟩⟩
  · rw [h3, g3, up2_at, g, up2_at]
  · rw [h3, g3, up2_at]
    show _ = ((bn (dB d) - 1 : Nat) : Int)
    omega
  · rw [h3, g3, up2_ni (by omega)]; exact p2
  · rw [h3, g3, up2_ni (by omega)]; exact p3
  · have he' : e < bn (dB d) - 1 := he
    rw [ho (13 + w) (by simp), g3, up2_nk (by omega)]
    exact p4 e (by omega) w hw
  · rw [g, up2_at]
    show _ = ((bn (dB d) - 1 : Nat) : Int)
    omega
  · rw [g, up2_ni (by omega)]; exact q2
  · rw [g, up2_ni (by omega)]; exact q3
  · have he' : e < bn (dB d) - 1 := he
    rw [g, up2_ni (by omega)]
    exact q4 e (by omega) w hw
theorem p_ends (a1 a2 : Int) : PT (FX11_ends a1 a2) (FX12_ends a1 a2) := by
  intro d σc σm hd hC hM
  unfold FX11_ends FX12_ends
  obtain ⟨b1, b2, b3, b4, b5⟩ := hd.1
  refine c_isNode (fun x1 x2 => ⟨fun c => by omega, fun _ => ?_⟩) (fun hno => ⟨fun _ => ?_, fun c => absurd rfl c⟩)
  · refine c_isNode (fun y1 y2 => ⟨fun c => by omega, fun _ => ⟨fun ne σ8 g8 σ9 g9 => ?_, fun ne => ?_⟩⟩) (fun hno => ⟨fun _ => ?_, fun c => absurd rfl c⟩)
    · have o9 : Off [0, 1, 13, 14, 15, 16, 17, 18] σc σ9 := by rw [g9, g8]; exact (Off.rf.up (by simp)).up (by simp)
      refine c_forget (fun σc' ho h2 hf => ?_)
      refine m_isNode (fun _ _ => ⟨fun c => by omega, fun _ => m_isNode (fun _ _ => ⟨fun c => by omega, fun _ => ⟨fun _ σm8 gm8 σm9 gm9 => ?_, fun c => absurd c ne⟩⟩) (fun c => by omega)⟩) (fun c => by omega)
      have h3 : σc' 1 = σ9 1 := ho 1 (by simp)
      obtain ⟨p1, p2, p3, p4⟩ := hC.1
      obtain ⟨q1, q2, q3, q4⟩ := hM.1
      have oM : Off [1] σm σm9 := by rw [gm9, gm8]; exact (Off.rf.up (by simp)).up (by simp)
      refine ⟨rfl, ((bn (dB d), a1.toNat, a2.toNat, bB (dB d)), d.2), hd.gates ⟨b1, by show a1.toNat < 12; omega, by show a2.toNat < 12; omega, by show a1.toNat ≠ a2.toNat; omega, b5⟩, hC.gates (o9.trans (ho.mono (by simp))) (by rw [h2, g9, up2_nk (by omega), g8, up2_nk (by omega)]) hf ⟨?_, ?_, ?_, fun e he w hw => ?_⟩, hM.gates oM ⟨?_, ?_, ?_, fun e he w hw => ?_⟩⟩
      · rw [h3, g9, up2_ni (by omega), g8, up2_ni (by omega)]; exact p1
      · rw [h3, g9, up2_ni (by omega), g8, up2_at]
        show _ = ((a1.toNat : Nat) : Int)
        omega
      · rw [h3, g9, up2_at]
        show _ = ((a2.toNat : Nat) : Int)
        omega
      · rw [ho (13 + w) (by simp), g9, up2_nk (by omega), g8, up2_nk (by omega)]
        exact p4 e he w hw
      · rw [gm9, up2_ni (by omega), gm8, up2_ni (by omega)]; exact q1
      · rw [gm9, up2_ni (by omega), gm8, up2_at]
        show _ = ((a1.toNat : Nat) : Int)
        omega
      · rw [gm9, up2_at]
        show _ = ((a2.toNat : Nat) : Int)
        omega
      · rw [gm9, up2_ni (by omega), gm8, up2_ni (by omega)]
        exact q4 e he w hw
    · exact m_isNode (fun _ _ => ⟨fun c => by omega, fun _ => m_isNode (fun _ _ => ⟨fun c => by omega, fun _ => ⟨fun c => absurd ne c, fun _ => ⟨rfl, d, hd, hC, hM⟩⟩⟩) (fun c => by omega)⟩) (fun c => by omega)
    · exact m_isNode (fun _ _ => ⟨fun c => by omega, fun _ => m_isNode (fun _ _ => by omega) (fun c => ⟨fun _ => ⟨rfl, d, hd, hC, hM⟩, fun c => absurd rfl c⟩)⟩) (fun c => by omega)
  · exact m_isNode (fun _ _ => by omega) (fun c => ⟨fun _ => ⟨rfl, d, hd, hC, hM⟩, fun c => absurd rfl c⟩)
end Pairs4
