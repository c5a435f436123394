def bset (b : Bk) (e w : Nat) (v : Int) : Bk := (bn b, bs b, bz b, fun e' w' => if e' = e ∧ w' = w then v else bB b e' w')
def bput (b : Bk) (g : Nat → Int) : Bk := (bn b + 1, bs b, bz b, fun e' w' => if e' = bn b then g w' else bB b e' w')
def g6 (a1 a2 a3 a4 a5 a6 : Int) (w : Nat) : Int := if w = 0 then a1 else if w = 1 then a2 else if w = 2 then a3 else if w = 3 then a4 else if w = 4 then a5 else a6
section Pairs3
variable {d : DS} {b : Bk} {σ : PS} {Φ : Int → PS → Prop}
theorem okB_set {e w : Nat} {v : Int} (hb : okB b) (hg : okG (fun w' => if w' = w then v else bB b e w')) : okB (bset b e w v) := by
  obtain ⟨h1, h2, h3, h4, h5⟩ := hb
  refine ⟨h1, h2, h3, h4, fun e' he' => ?_⟩
  by_cases q : e' = e
  · subst q
    have : bB (bset b e' w v) e' = fun w' => if w' = w then v else bB b e' w' := by
      funext w'
      show (if e' = e' ∧ w' = w then v else bB b e' w') = _
      by_cases q : w' = w <;> simp [q]
    rw [this]
    exact hg
  · have : bB (bset b e w v) e' = bB b e' := by
      funext w'
      show (if e' = e ∧ w' = w then v else bB b e' w') = _
      rw [if_neg (fun z => q z.1)]
    rw [this]
    exact h5 e' he'
theorem cB_set {e w : Nat} {v : Int} (hC : cB 1 13 b σ) : cB 1 13 (bset b e w v) (up2 σ (13 + w) e v) := by
  obtain ⟨h1, h2, h3, h4⟩ := hC
  refine ⟨by rw [up2_nk (by omega)]; exact h1, by rw [up2_nk (by omega)]; exact h2, by rw [up2_nk (by omega)]; exact h3, fun e' he' w' hw' => ?_⟩
  show _ = if e' = e ∧ w' = w then v else bB b e' w'
  rw [← h4 e' he' w' hw']
  unfold up2
  by_cases q : e' = e ∧ w' = w
  · rw [if_pos q, if_pos (by omega)]
  · rw [if_neg q, if_neg (by omega)]
theorem mB_set {e w : Nat} {v : Int} (hM : mB 1 b σ) (hw : w < 6) : mB 1 (bset b e w v) (up2 σ 1 (3 + 6 * e + w) v) := by
  obtain ⟨h1, h2, h3, h4⟩ := hM
  refine ⟨by rw [up2_ni (by omega)]; exact h1, by rw [up2_ni (by omega)]; exact h2, by rw [up2_ni (by omega)]; exact h3, fun e' he' w' hw' => ?_⟩
  show _ = if e' = e ∧ w' = w then v else bB b e' w'
  rw [← h4 e' he' w' hw', up2_if]
  by_cases q : e' = e ∧ w' = w
  · rw [if_pos q, if_pos (by omega)]
  · rw [if_neg q, if_neg (by omega)]
theorem m_sets {i j v : Int} {a w : Nat} (hi : i = a) (hj : j = w) (ha : a < 30) (hw : w < 6) (h : Φ 0 (up2 σ 1 (3 + 6 * a + w) v)) : FX12_sets i j v σ Φ := by
  subst hi; subst hj
  have e : ((3 + ((a : Int) * 6)) + (w : Int)).toNat = 3 + 6 * a + w := by omega
  unfold FX12_sets
  rw [e]
  exact ⟨⟨by omega, by omega⟩, ⟨by omega, by omega⟩, ⟨by omega, by omega⟩, ⟨by omega, by omega⟩, fun σ5 g5 => by rw [g5]; exact h⟩
theorem m_becomes {i j v : Int} {a w : Nat} (hi : i = a) (hj : j = w) (hb : okB b) (hM : mB 1 b σ) (ha : a < bn b) (hw : w < 6) (h : ∀ σ' : PS, Off [1] σ σ' → mB 1 (bset b a w v) σ' → Φ (bB b a w) σ') : FX12_becomes i j v σ Φ := by
  have := hb.1
  unfold FX12_becomes
  refine m_at hi hj hb hM ha hw ?_
  exact m_sets hi hj (by omega) hw (h _ (Off.rf.up (by simp)) (mB_set hM hw))
/-- the class's gate changes, and all is forgotten -/
theorem c_becomes {e w : Nat} {v : Int} (hw : w < 6) (hR : CR d σ) (h : ∀ σ' : PS, CR (bset (dB d) e w v, d.2) σ' → Φ 0 σ') : FX11_forget (up2 σ (13 + w) e v) Φ := by
  refine c_forget (fun σ' ho h2 hf => h σ' (hR.gates ?_ ?_ hf ((cB_set hR.1).off ho (by simp) (fun w hw => by simp))))
  · have o1 : Off [0, 1, 13, 14, 15, 16, 17, 18] σ (up2 σ (13 + w) e v) := Off.rf.up (by simp; omega)
    exact o1.trans (ho.mono (by simp))
  · rw [h2, up2_nk (by omega)]
theorem p_of (a1 a2 : Int) : PT (FX11_of a1 a2) (FX12_of a1 a2) := by
  intro d σc σm hd hC hM
  have hn := hd.1.1
  unfold FX11_of FX12_of
  refine c_isGate hC.1 (fun e he ha => ⟨fun _ => ?_, fun c => by omega⟩) (fun hno => ⟨fun c => absurd rfl c, fun _ => ?_⟩)
  · subst ha
    have key : ∀ w : Nat, w < 6 → a2 = w → (0 ≤ (e : Int) ∧ (e : Int) < 30) ∧ FX12_isGate e σm (fun z1 σ2 => (z1 = 0 → (σc (13 + w) e = -1 ∧ ∃ d', okD d' ∧ CR d' σc ∧ MR d' σ2)) ∧ (¬ z1 = 0 → FX12_in a2 0 5 σ2 (fun z4 σ5 => (z4 = 0 → (σc (13 + w) e = -1 ∧ ∃ d', okD d' ∧ CR d' σc ∧ MR d' σ5)) ∧ (¬ z4 = 0 → FX12_at e a2 σ5 (fun z7 σ8 => (σc (13 + w) e = z7 ∧ ∃ d', okD d' ∧ CR d' σc ∧ MR d' σ8)))))) := by
      intro w hw ha2
      refine ⟨⟨by omega, by omega⟩, m_isGate hd.1 hM.1 (fun e2 he2 ha2' => ⟨fun c => by omega, fun _ => ?_⟩) (fun c => by omega)⟩
      refine m_in (fun _ _ => ⟨fun c => by omega, fun _ => ?_⟩) (fun c => by omega)
      refine m_at rfl ha2 hd.1 hM.1 he hw ⟨hC.1.2.2.2 e he w hw, d, hd, hC, hM⟩
    have ee : ((e : Nat) : Int).toNat = e := by omega
    rw [ee]
    refine ⟨fun c => key 0 (by omega) c, fun c => key 1 (by omega) c, fun c => key 2 (by omega) c, fun c => key 3 (by omega) c, fun c => key 4 (by omega) c, fun c => key 5 (by omega) c, fun c => ?_⟩
    refine m_isGate hd.1 hM.1 (fun e2 he2 ha2' => ⟨fun c => by omega, fun _ => ?_⟩) (fun c => by omega)
    exact m_in (fun _ _ => by omega) (fun _ => ⟨fun _ => ⟨rfl, d, hd, hC, hM⟩, fun c => absurd rfl c⟩)
  · exact m_isGate hd.1 hM.1 (fun e2 he2 ha2' => by omega) (fun c => ⟨fun _ => ⟨rfl, d, hd, hC, hM⟩, fun c => absurd rfl c⟩)
theorem p_widen (a1 a2 : Int) : PT (FX11_widen a1 a2) (FX12_widen a1 a2) := by
  intro d σc σm hd hC hM
  have hn := hd.1.1
  unfold FX11_widen FX12_widen
  refine c_isGate hC.1 (fun e he ha => ⟨fun _ => ?_, fun c => by omega⟩) (fun hno => ⟨fun c => absurd rfl c, fun _ => ?_⟩)
  · subst ha
    have ee : ((e : Nat) : Int).toNat = e := by omega
    have hG := hd.1.2.2.2.2 e he
    have e15 : σc 15 e = bB (dB d) e 2 := hC.1.2.2.2 e he 2 (by omega)
    have e16 : σc 16 e = bB (dB d) e 3 := hC.1.2.2.2 e he 3 (by omega)
    have mm : ∀ {P : Int → PS → Prop}, (bB (dB d) e 2 ≤ a2 → a2 ≤ 999 → FX12_becomes e 3 a2 σm (fun z9 σ10 => P z9 σ10)) → (¬ (bB (dB d) e 2 ≤ a2 ∧ a2 ≤ 999) → P (-2) σm) → FX12_isGate e σm (fun z1 σ2 => (¬ z1 = 0 → FX12_at e 2 σ2 (fun z4 σ5 => FX12_in a2 z4 999 σ5 (fun z6 σ7 => (z6 = 0 → P (-2) σ7) ∧ (¬ z6 = 0 → FX12_becomes e 3 a2 σ7 (fun z9 σ10 => P z9 σ10))))) ∧ (z1 = 0 → P (-1) σ2)) := by
      intro P h1 h2
      refine m_isGate hd.1 hM.1 (fun e2 he2 ha2' => ⟨fun _ => ?_, fun c => by omega⟩) (fun c => by omega)
      exact m_at rfl rfl hd.1 hM.1 he (w := 2) (by omega) (m_in (fun x y => ⟨fun c => by omega, fun _ => h1 x y⟩) (fun x => ⟨fun _ => h2 x, fun c => absurd rfl c⟩))
    have out : ∀ r : Int, r = -2 → ¬ (bB (dB d) e 2 ≤ a2 ∧ a2 ≤ 999) → _ := fun r hr hno => mm (P := fun r2 σm' => r = r2 ∧ ∃ d', okD d' ∧ CR d' σc ∧ MR d' σm') (fun x y => absurd ⟨x, y⟩ hno) (fun _ => ⟨hr, d, hd, hC, hM⟩)
    unfold okG at hG
    unfold FX11_isCapacity
    refine ⟨fun c => ⟨fun _ => out _ rfl (by omega), fun c2 => absurd rfl c2⟩, fun c => ⟨fun c2 => ⟨fun _ => out _ rfl (by omega), fun c2 => absurd rfl c2⟩, fun c2 => ⟨fun c3 => by omega, fun _ => ⟨⟨by omega, by omega⟩, ?_⟩⟩⟩⟩
    rw [ee, e15, e16]
    refine ⟨fun c3 => ⟨⟨by omega, by omega⟩, fun v10 g10 => ⟨⟨by omega, by omega⟩, fun σ12 g12 => ?_⟩⟩, fun c3 => out _ rfl (by omega)⟩
    rw [g12]
    refine c_becomes (w := 3) (by omega) hC (fun σc' hC' => ?_)
    refine mm (P := fun r2 σm' => v10 = r2 ∧ ∃ d', okD d' ∧ CR d' σc' ∧ MR d' σm') (fun x y => ?_) (fun z => by omega)
    refine m_becomes rfl rfl hd.1 hM.1 he (w := 3) (by omega) (fun σm' o1 hM' => ⟨g10, _, hd.gates (okB_set hd.1 ?_), hC', hM.gates o1 hM'⟩)
    unfold okG
    simp
    omega
  · exact m_isGate hd.1 hM.1 (fun e2 he2 ha2' => by omega) (fun c => ⟨fun c => absurd rfl c, fun _ => ⟨rfl, d, hd, hC, hM⟩⟩)
end Pairs3
