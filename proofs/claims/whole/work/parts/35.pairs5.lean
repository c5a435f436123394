theorem w6 {w : Nat} (h : w < 6) : w = 0 ∨ w = 1 ∨ w = 2 ∨ w = 3 ∨ w = 4 ∨ w = 5 := by omega
section Pairs5
variable {d : DS} {b : Bk} {σ : PS} {Φ : Int → PS → Prop}
theorem okB_put {g : Nat → Int} (hb : okB b) (h30 : bn b < 30) (hg : okG g) : okB (bput b g) := by
  obtain ⟨h1, h2, h3, h4, h5⟩ := hb
  refine ⟨by show bn b + 1 ≤ 30; omega, h2, h3, h4, fun e he => ?_⟩
  have he' : e < bn b + 1 := he
  by_cases q : e = bn b
  · have : bB (bput b g) e = g := by
      funext w
      show (if e = bn b then g w else bB b e w) = g w
      rw [if_pos q]
    rw [this]; exact hg
  · have : bB (bput b g) e = bB b e := by
      funext w
      show (if e = bn b then g w else bB b e w) = bB b e w
      rw [if_neg q]
    rw [this]; exact h5 e (by omega)
theorem c_add {a1 a2 a3 a4 a5 a6 : Int} (hC : cB 1 13 b σ) (h30 : bn b < 30) (h : ∀ σ' : PS, Off [1, 13, 14, 15, 16, 17, 18] σ σ' → cB 1 13 (bput b (g6 a1 a2 a3 a4 a5 a6)) σ' → Φ (bn b) σ') : FX3_add a1 a2 a3 a4 a5 a6 σ Φ := by
  obtain ⟨p1, p2, p3, p4⟩ := hC
  unfold FX3_add
  rw [p1]
  refine ⟨fun c => by omega, fun _ => ⟨fun _ => ⟨⟨by omega, by omega⟩, fun σ4 g4 => ?_⟩, fun c => by omega⟩⟩
  have e4 : σ4 1 6 = (bn b : Int) := by rw [g4, up2_nk (by omega), p1]
  rw [e4]
  refine ⟨⟨by omega, by omega⟩, fun σ6 q6 => ?_⟩
  have e6 : σ6 1 6 = (bn b : Int) := by rw [q6, up2_nk (by omega), e4]
  rw [e6]
  refine ⟨⟨by omega, by omega⟩, fun σ8 q8 => ?_⟩
  have e8 : σ8 1 6 = (bn b : Int) := by rw [q8, up2_nk (by omega), e6]
  rw [e8]
  refine ⟨⟨by omega, by omega⟩, fun σ10 q10 => ?_⟩
  have e10 : σ10 1 6 = (bn b : Int) := by rw [q10, up2_nk (by omega), e8]
  rw [e10]
  refine ⟨⟨by omega, by omega⟩, fun σ12 q12 => ?_⟩
  have e12 : σ12 1 6 = (bn b : Int) := by rw [q12, up2_nk (by omega), e10]
  rw [e12]
  refine ⟨⟨by omega, by omega⟩, fun σ14 q14 => ?_⟩
  have e14 : σ14 1 6 = (bn b : Int) := by rw [q14, up2_nk (by omega), e12]
  rw [e14]
  refine ⟨⟨by omega, by omega⟩, fun σ16 q16 => ?_⟩
  have e16 : σ16 1 6 = (bn b : Int) + 1 := by rw [q16, up2_at]
  rw [e16]
  have en : ((bn b : Nat) : Int).toNat = bn b := by omega
  rw [en] at g4 q6 q8 q10 q12 q14
  refine ⟨⟨by omega, by omega⟩, ?_⟩
  rw [show ((bn b : Int) + 1 - 1) = (bn b : Int) by omega]
  refine h σ16 ?_ ⟨?_, ?_, ?_, fun e he w hw => ?_⟩
  · rw [q16, q14, q12, q10, q8, q6, g4]
    exact ((((((Off.rf.up (by simp)).up (by simp)).up (by simp)).up (by simp)).up (by simp)).up (by simp)).up (by simp)
  · rw [e16]
    show _ = ((bn b + 1 : Nat) : Int)
    omega
  · rw [q16, up2_ni (by omega), q14, up2_nk (by omega), q12, up2_nk (by omega), q10, up2_nk (by omega), q8, up2_nk (by omega), q6, up2_nk (by omega), g4, up2_nk (by omega)]; exact p2
  · rw [q16, up2_ni (by omega), q14, up2_nk (by omega), q12, up2_nk (by omega), q10, up2_nk (by omega), q8, up2_nk (by omega), q6, up2_nk (by omega), g4, up2_nk (by omega)]; exact p3
  · have he' : e < bn b + 1 := he
    show _ = if e = bn b then g6 a1 a2 a3 a4 a5 a6 w else bB b e w
    by_cases q : e = bn b
    · rw [if_pos q, q16, q14, q12, q10, q8, q6, g4, q]
      rcases w6 hw with z | z | z | z | z | z <;> subst z <;> simp [up2, g6]
    · rw [if_neg q, ← p4 e (by omega) w hw, q16, up2_nk (by omega), q14, up2_ne (fun z => q z.2), q12, up2_ne (fun z => q z.2), q10, up2_ne (fun z => q z.2), q8, up2_ne (fun z => q z.2), q6, up2_ne (fun z => q z.2), g4, up2_ne (fun z => q z.2)]
theorem m_comes {a1 a2 a3 a4 a5 a6 : Int} (hM : mB 1 b σ) (h30 : bn b < 30) (h : ∀ σ' : PS, Off [1] σ σ' → mB 1 (bput b (g6 a1 a2 a3 a4 a5 a6)) σ' → Φ 0 σ') : FX12_comes a1 a2 a3 a4 a5 a6 σ Φ := by
  obtain ⟨p1, p2, p3, p4⟩ := hM
  unfold FX12_comes
  intro v1 g1
  rw [p1] at g1 ⊢
  refine ⟨⟨by omega, by omega⟩, fun σ3 g3 => ?_⟩
  refine m_sets (a := bn b) (w := 0) g1 rfl h30 (by omega) ?_
  refine m_sets (a := bn b) (w := 1) g1 rfl h30 (by omega) ?_
  refine m_sets (a := bn b) (w := 2) g1 rfl h30 (by omega) ?_
  refine m_sets (a := bn b) (w := 3) g1 rfl h30 (by omega) ?_
  refine m_sets (a := bn b) (w := 4) g1 rfl h30 (by omega) ?_
  refine m_sets (a := bn b) (w := 5) g1 rfl h30 (by omega) ?_
  rw [g3]
  refine h _ (((((((Off.rf.up (by simp)).up (by simp)).up (by simp)).up (by simp)).up (by simp)).up (by simp)).up (by simp)) ⟨?_, ?_, ?_, fun e he w hw => ?_⟩
  · rw [up2_ni (by omega), up2_ni (by omega), up2_ni (by omega), up2_ni (by omega), up2_ni (by omega), up2_ni (by omega), up2_at]
    show _ = ((bn b + 1 : Nat) : Int)
    omega
  · rw [up2_ni (by omega), up2_ni (by omega), up2_ni (by omega), up2_ni (by omega), up2_ni (by omega), up2_ni (by omega), up2_ni (by omega)]; exact p2
  · rw [up2_ni (by omega), up2_ni (by omega), up2_ni (by omega), up2_ni (by omega), up2_ni (by omega), up2_ni (by omega), up2_ni (by omega)]; exact p3
  · have he' : e < bn b + 1 := he
    show _ = if e = bn b then g6 a1 a2 a3 a4 a5 a6 w else bB b e w
    by_cases q : e = bn b
    · rw [if_pos q, q]
      simp only [up2_if]
      unfold g6
      rcases w6 hw with z | z | z | z | z | z <;> subst z
      · rw [if_neg (by omega), if_neg (by omega), if_neg (by omega), if_neg (by omega), if_neg (by omega), if_pos rfl, if_pos rfl]
      · rw [if_neg (by omega), if_neg (by omega), if_neg (by omega), if_neg (by omega), if_pos rfl, if_neg (by omega), if_pos rfl]
      · rw [if_neg (by omega), if_neg (by omega), if_neg (by omega), if_pos rfl, if_neg (by omega), if_neg (by omega), if_pos rfl]
      · rw [if_neg (by omega), if_neg (by omega), if_pos rfl, if_neg (by omega), if_neg (by omega), if_neg (by omega), if_pos rfl]
      · rw [if_neg (by omega), if_pos rfl, if_neg (by omega), if_neg (by omega), if_neg (by omega), if_neg (by omega), if_pos rfl]
      · rw [if_pos rfl, if_neg (by omega), if_neg (by omega), if_neg (by omega), if_neg (by omega), if_neg (by omega)]
    · rw [if_neg q, ← p4 e (by omega) w hw]
      rw [up2_ni (by omega), up2_ni (by omega), up2_ni (by omega), up2_ni (by omega), up2_ni (by omega), up2_ni (by omega), up2_ni (by omega)]
theorem okG_g6 {a1 a2 a3 a4 a5 a6 : Int} (h1 : 0 ≤ a1 ∧ a1 < 12) (h2 : 0 ≤ a2 ∧ a2 < 12) (hne : a1 ≠ a2) (h3 : 0 ≤ a3 ∧ a3 ≤ a4 ∧ a4 ≤ 999) (h5 : 1 ≤ a5 ∧ a5 ≤ 3) (h6 : a6 = 0 ∨ a6 = 1) : okG (g6 a1 a2 a3 a4 a5 a6) := by
  unfold okG g6
  simp
  omega
theorem p_gate (a1 a2 a3 a4 a5 : Int) : PT (FX11_gate a1 a2 a3 a4 a5) (FX12_gate a1 a2 a3 a4 a5) := by
  intro d σc σm hd hC hM
  have hn := hd.1.1
  unfold FX11_gate FX12_gate
  -- the reference, when nothing comes
  have R : ∀ {σc' : PS}, CR d σc' → ∀ r : Int, (¬ (0 ≤ a1 ∧ a1 < 12) ∨ ¬ (0 ≤ a2 ∧ a2 < 12) ∨ a1 = a2) → r = -1 → FX12_gate a1 a2 a3 a4 a5 σm (fun r2 σm' => r = r2 ∧ ∃ d', okD d' ∧ CR d' σc' ∧ MR d' σm') := fun hC' r hr hr1 => by
    unfold FX12_gate
    refine m_isNode (fun _ _ => ⟨fun c => by omega, fun _ => m_isNode (fun _ _ => ⟨fun c => by omega, fun _ => ⟨fun ne => by omega, fun _ => ⟨hr1, d, hd, hC', hM⟩⟩⟩) (fun _ => ⟨fun _ => ⟨hr1, d, hd, hC', hM⟩, fun c => absurd rfl c⟩)⟩) (fun _ => ⟨fun _ => ⟨hr1, d, hd, hC', hM⟩, fun c => absurd rfl c⟩)
  have R2 : ∀ {σc' : PS}, CR d σc' → ∀ r : Int, (0 ≤ a1 ∧ a1 < 12) → (0 ≤ a2 ∧ a2 < 12) → ¬ a1 = a2 → ((r = -2 ∧ ¬ (0 ≤ a4 ∧ a4 ≤ 999 ∧ 0 ≤ a3 ∧ a3 ≤ a4 ∧ 1 ≤ a5 ∧ a5 ≤ 3)) ∨ (r = -4 ∧ bn (dB d) = 30 ∧ (0 ≤ a4 ∧ a4 ≤ 999 ∧ 0 ≤ a3 ∧ a3 ≤ a4 ∧ 1 ≤ a5 ∧ a5 ≤ 3))) → FX12_gate a1 a2 a3 a4 a5 σm (fun r2 σm' => r = r2 ∧ ∃ d', okD d' ∧ CR d' σc' ∧ MR d' σm') := fun hC' r h1 h2 hne hr => by
    unfold FX12_gate
    refine m_isNode (fun _ _ => ⟨fun c => by omega, fun _ => m_isNode (fun _ _ => ⟨fun c => by omega, fun _ => ⟨fun _ => ?_, fun c => absurd c hne⟩⟩) (fun c => by omega)⟩) (fun c => by omega)
    refine m_in (fun x y => ⟨fun c => by omega, fun _ => ?_⟩) (fun x => ⟨fun _ => ⟨by omega, d, hd, hC', hM⟩, fun c => absurd rfl c⟩)
    refine m_in (fun x y => ⟨fun c => by omega, fun _ => ?_⟩) (fun x => ⟨fun _ => ⟨by omega, d, hd, hC', hM⟩, fun c => absurd rfl c⟩)
    refine m_in (fun x y => ⟨fun _ => ⟨fun c => ?_, fun c => ⟨by omega, d, hd, hC', hM⟩⟩, fun c => by omega⟩) (fun x => ⟨fun c => absurd rfl c, fun _ => ⟨by omega, d, hd, hC', hM⟩⟩)
    rw [hM.1.1] at c
    omega
  unfold FX12_gate at R R2
  refine c_isNode (fun x1 x2 => ⟨fun c => by omega, fun _ => ?_⟩) (fun hno => ⟨fun _ => R hC _ (Or.inl hno) rfl, fun c => absurd rfl c⟩)
  refine c_isNode (fun y1 y2 => ⟨fun c => by omega, fun _ => ⟨fun ne => ?_, fun e => R hC _ (Or.inr (Or.inr e)) rfl⟩⟩) (fun hno => ⟨fun _ => R hC _ (Or.inr (Or.inl hno)) rfl, fun c => absurd rfl c⟩)
  unfold FX11_isCapacity FX11_isDelay
  refine ⟨fun c => ⟨fun _ => R2 hC _ ⟨x1, x2⟩ ⟨y1, y2⟩ ne (Or.inl ⟨rfl, by omega⟩), fun c => absurd rfl c⟩, fun c1 => ⟨fun c => ⟨fun _ => R2 hC _ ⟨x1, x2⟩ ⟨y1, y2⟩ ne (Or.inl ⟨rfl, by omega⟩), fun c => absurd rfl c⟩, fun c2 => ⟨fun c => by omega, fun _ => ⟨fun c => R2 hC _ ⟨x1, x2⟩ ⟨y1, y2⟩ ne (Or.inl ⟨rfl, by omega⟩), fun c3 => ⟨fun c => R2 hC _ ⟨x1, x2⟩ ⟨y1, y2⟩ ne (Or.inl ⟨rfl, by omega⟩), fun c4 => ?_⟩⟩⟩⟩⟩
  refine ⟨fun c => ⟨fun c => absurd rfl c, fun _ => R2 hC _ ⟨x1, x2⟩ ⟨y1, y2⟩ ne (Or.inl ⟨rfl, by omega⟩)⟩, fun c5 => ⟨fun c => ⟨fun c => absurd rfl c, fun _ => R2 hC _ ⟨x1, x2⟩ ⟨y1, y2⟩ ne (Or.inl ⟨rfl, by omega⟩)⟩, fun c6 => ⟨fun _ => ?_, fun c => by omega⟩⟩⟩
  rw [hC.1.1]
  refine ⟨fun c7 => ?_, fun c7 => R2 hC _ ⟨x1, x2⟩ ⟨y1, y2⟩ ne (Or.inr ⟨rfl, by omega, by omega⟩)⟩
  refine c_forget (fun σ18 ho h2 hf => ?_)
  refine c_add (hC.1.off ho (by simp) (fun w hw => by simp)) (by omega) (fun σc' o2 hB => ?_)
  refine m_isNode (fun _ _ => ⟨fun c => by omega, fun _ => m_isNode (fun _ _ => ⟨fun c => by omega, fun _ => ⟨fun _ => ?_, fun c => absurd c ne⟩⟩) (fun c => by omega)⟩) (fun c => by omega)
  refine m_in (fun x y => ⟨fun c => by omega, fun _ => ?_⟩) (fun x => by omega)
  refine m_in (fun x y => ⟨fun c => by omega, fun _ => ?_⟩) (fun x => by omega)
  refine m_in (fun x y => ⟨fun _ => ?_, fun c => by omega⟩) (fun x => by omega)
  rw [hM.1.1]
  refine ⟨fun c8 => ?_, fun c => by omega⟩
  refine m_comes hM.1 (by omega) (fun σm' o3 hB' => ?_)
  rw [hB'.1]
  have e1 : ((bn (bput (dB d) (g6 a1 a2 a3 a4 a5 1)) : Nat) : Int) = (bn (dB d) : Int) + 1 := by
    show ((bn (dB d) + 1 : Nat) : Int) = _
    omega
  rw [e1]
  refine ⟨⟨by omega, by omega⟩, by omega, _, hd.gates (okB_put hd.1 (by omega) (okG_g6 ⟨x1, x2⟩ ⟨y1, y2⟩ ne ⟨by omega, by omega, by omega⟩ ⟨by omega, by omega⟩ (Or.inr rfl))), hC.gates ((ho.mono (by simp)).trans (o2.mono (by simp))) (by rw [o2 0 (by simp)]; exact h2) ?_ hB, hM.gates o3 hB'⟩
  rw [o2 0 (by simp)]
  exact hf
end Pairs5
