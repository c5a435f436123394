theorem xE_rg {b : Bk} (hb : okB b) : ∀ e, e < bn b → 0 ≤ xE (T0 b) e ∧ xE (T0 b) e ≤ 999 := fun e he => by
  have h1 : 0 ≤ xE (T0 b) e ∧ xE (T0 b) e ≤ capB b e := (mostT_go (okT_T0 hb)).1 e he
  have h2 := capB_rng hb he
  omega
section Cond9
variable {d : DS} {b : Bk} {n : Nat} {t : Nat → Int} {x : Nat → Int} {g : Int} {σ : PS} {Φ : Int → PS → Prop}
/-- what asking for a gate moves -/
def OK3 (σ σ' : PS) : Prop := Off [0] σ σ' ∧ ∀ i, i ≠ 30 → i ≠ 31 → i ≠ 33 → i ≠ 34 → σ' 0 i = σ 0 i
theorem OK3.trans {a c e : PS} (h : OK3 a c) (g : OK3 c e) : OK3 a e := ⟨h.1.trans g.1, fun i h1 h2 h3 h4 => (g.2 i h1 h2 h3 h4).trans (h.2 i h1 h2 h3 h4)⟩
theorem OK3.mk' {a c : PS} (h : OK3 a c) : MK a c := ⟨fun k hk => h.1 k (by simp at hk ⊢; omega), h.2 2 (by omega) (by omega) (by omega) (by omega), h.2 29 (by omega) (by omega) (by omega) (by omega), h.2 36 (by omega) (by omega) (by omega) (by omega)⟩
theorem OJ.k3 {a c : PS} (h : OJ a c) : OK3 a c := ⟨h.1, fun i h1 h2 _ h4 => h.2 i h1 h2 h4⟩
theorem m_isSo (hb : okB b) (hx : ∀ e, e < bn b → 0 ≤ x e ∧ x e ≤ 999) (ht : okt n t) (hT : σ 0 29 = (n : Int) ∧ ∀ i, i < n → σ 23 i = t i) (hg : g < 0 ∨ ∃ e : Nat, g = (e : Int) ∧ e < bn b ∧ mB 1 b σ ∧ σ 4 e = x e) (h1 : ∀ (v : Nat → Bool) (z : Int) (σ' : PS), cndP n t b x = .inr v → OK3 σ σ' → σ' 0 31 = -1 → vz g v z → Φ z σ') (h0 : ∀ (q : Nat) (z : Int) (σ' : PS), cndP n t b x = .inl q → OK3 σ σ' → σ' 0 31 = (q : Int) → Φ z σ') : FX12_isSo g σ Φ := by
  have hn90 := ht.1
  unfold FX12_isSo FX12_begins
  intro σ1 g1 σ2 g2 σ3 g3 σ4 g4
  have o4 : OK3 σ σ4 := ⟨by rw [g4, g3, g2, g1]; exact (((Off.rf.up (by simp)).up (by simp)).up (by simp)).up (by simp), fun i a1 a2 a3 a4 => by rw [g4, up2_ni a3, g3, up2_ni a4, g2, up2_ni a2, g1, up2_ni a1]⟩
  have S4 : TM n t 0 (-1) σ4 := by
    refine ⟨by rw [o4.2 29 (by omega) (by omega) (by omega) (by omega)]; exact hT.1, fun i hi => by rw [o4.1 23 (by simp)]; exact hT.2 i hi, ?_, ?_, by omega⟩
    · rw [g4, up2_ni (by omega), g3, up2_ni (by omega), g2, up2_ni (by omega), g1, up2_at]; rfl
    · rw [g4, up2_ni (by omega), g3, up2_ni (by omega), g2, up2_at]
  have G4 : GG b x g σ4 := by
    refine ⟨by rw [g4, up2_at], ?_⟩
    rcases hg with y | ⟨e, y1, y2, y3, y4⟩
    · exact Or.inl y
    · exact Or.inr ⟨e, y1, y2, y3.keep (o4.1 1 (by simp)), by rw [o4.1 4 (by simp)]; exact y4⟩
  refine m_par hb hx ht 400 0 0 0 σ4 _ (by omega) (by omega) (by omega) S4 (by rw [g4, up2_ni (by omega), g3, up2_at]; rfl) G4 (fun v p' z σ' e' o' S' _ hz => ?_) (fun q p' z σ' e' o' S' _ hz => ?_)
  · have ec : cndP n t b x = if n ≤ p' then .inr v else .inl p' := by unfold cndP; rw [e']; rfl
    rw [S'.1, S'.2.2.1]
    refine ⟨fun c => ?_, fun c => ?_⟩
    · rw [if_pos (by omega)] at ec
      exact ⟨hz.1, h1 v z σ' ec (o4.trans o'.k3) S'.2.2.2.1 hz⟩
    · rw [if_neg (by omega)] at ec
      exact m_wrong S' (fun y => by omega) (fun _ σ2 o2 S2 => ⟨hz.1, h0 p' z σ2 ec (o4.trans (o'.k3.trans o2.oj.k3)) S2.2.2.2.1⟩)
  · have ec : cndP n t b x = .inl q := by unfold cndP; rw [e']; rfl
    rw [S'.1, S'.2.2.1]
    exact ⟨fun c => ⟨hz, h0 q z σ' ec (o4.trans o'.k3) S'.2.2.2.1⟩, fun c => m_wrongB S' (fun σ2 o2 S2 => ⟨hz, h0 q z σ2 ec (o4.trans (o'.k3.trans o2.oj.k3)) S2.2.2.2.1⟩)⟩
theorem MR.emp (hM : MR d σ) {σ' : PS} (g : σ' = up2 σ 0 29 0) : MR (dE d) σ' := hM.tape (by rw [g]; exact Off.rf.up (by simp)) (by rw [g, up2_ni (by omega)]) (by rw [g, up2_ni (by omega)]) ⟨by rw [g, up2_at]; rfl, fun i hi => by omega⟩
theorem m_flowsNow2 (hb : okB b) (hM : mB 1 b σ) (h : ∀ σ' : PS, MK σ σ' → MX (T0 b) (xE (T0 b)) σ' → σ' 0 31 = σ 0 31 → Φ (mostT (T0 b)) σ') : FX12_flowsNow σ Φ := by
  unfold FX12_flowsNow
  refine m_mayAll hb hM (fun σ2 o2 h2 => ?_)
  have hM2 : mB 1 b σ2 := hM.keep (o2 1 (by simp))
  refine s_flows (okT_T0 hb) (MN_TN hb hM2 h2) (fun σ' a1 a2 a3 => ?_)
  have k1 : MK σ σ2 := MK.off o2 (by simp) (by simp)
  have k2 : MK σ2 σ' := MK.fi a1
  exact h σ' (k1.trans k2) a2 (by rw [a1.2.2.1 31 (by omega), o2 0 (by simp)])
theorem m_meant (hd : okD d) (hM : MR d σ) (h1 : ∀ (v : Nat → Bool) (z : Int) (σ' : PS), cnd d = .inr v → MR (dE d) σ' → σ' 0 31 = -1 → bP (bn (dB d)) z (fun e => v e = true) → Φ z σ') (h0 : ∀ (q : Nat) (σ' : PS), cnd d = .inl q → MR (dE d) σ' → σ' 0 31 = (q : Int) → Φ 0 σ') : FX12_meant σ Φ := by
  have hx := xE_rg hd.1
  have hn := hd.1.1
  unfold FX12_meant
  refine m_isSo (g := -1) hd.1 hx hd.2.2.1 hM.2.2.1 (Or.inl (by omega)) (fun v z σ2 e o2 c2 _ => ?_) (fun q z σ2 e o2 c2 => ?_)
  · have M2 : MR d σ2 := hM.keep o2.mk'
    rw [c2]
    refine ⟨fun c => by omega, fun _ => ?_⟩
    refine m_flowsNow2 hd.1 M2.1 (fun σ6 k6 X6 c6 => ⟨bn (dB d) + 1, ?_⟩)
    have M6 : MR d σ6 := M2.keep k6
    have loop : ∀ (f i : Nat) (z : Int) (σ' : PS), i ≤ bn (dB d) → bn (dB d) - i < f → OK3 σ6 σ' → σ' 0 31 = -1 → bP i z (fun e => v e = true) → LX12_meant_22 f z i σ' Φ := by
      intro f
      induction f with
      | zero => intro i z σ' h1 h2; omega
      | succ f ih =>
        intro i z σ' hi hf o' h31 hz
        have M' : MR d σ' := M6.keep o'.mk'
        unfold LX12_meant_22 BX12_meant_22
        rw [M'.1.1]
        refine ⟨fun c σ3 g3 => ?_, fun c => ?_⟩
        · have ei : i = bn (dB d) := by omega
          rw [ei] at hz
          exact h1 v z σ3 e (M'.emp g3) (by rw [g3, up2_ni (by omega)]; exact h31) hz
        · have hlt : i < bn (dB d) := by omega
          refine m_isSo (g := (i : Int)) hd.1 hx hd.2.2.1 M'.2.2.1 (Or.inr ⟨i, rfl, hlt, M'.1, by rw [o'.1 4 (by simp)]; exact X6 i hlt⟩) (fun v2 y σ4 e2 o4 c4 hy => ?_) (fun q y σ4 e2 _ _ => ?_)
          · have ev : v2 = v := Sum.inr.inj (e2.symm.trans e)
            subst ev
            have hyi := hy.2 i rfl
            have ei : (i : Int) + 1 = ((i + 1 : Nat) : Int) := by omega
            have go : ∀ z2 : Int, bP (i + 1) (ior z z2) (fun e => v2 e = true) → LX12_meant_48 (fun x1 x2 σ => LX12_meant_22 f x1 x2 σ Φ) i z z2 σ4 Φ := fun z2 hz2 => by
              unfold LX12_meant_48
              intro v1 g1
              rw [ei]
              exact ⟨⟨by omega, by omega⟩, ih (i + 1) v1 σ4 (by omega) (by omega) (o'.trans o4) c4 (by rw [g1]; exact hz2)⟩
            refine ⟨fun y0 => go 0 ?_, fun y0 => go _ ?_⟩
            · rw [ior_0 hz.1]
              refine hz.no (fun w => ?_)
              rw [if_pos w] at hyi
              omega
            · refine hz.put (by omega) ?_
              by_cases w : v2 i = true
              · exact w
              · rw [if_neg w] at hyi; exact absurd hyi y0
          · rw [e] at e2; cases e2
    exact loop (bn (dB d) + 1) 0 0 σ6 (by omega) (by omega) OM.rf.oj.k3 (by rw [c6]; exact c2) (bP.init _)
  · rw [c2]
    refine ⟨fun _ σ4 g4 => h0 q σ4 e ((hM.keep o2.mk').emp g4) (by rw [g4, up2_ni (by omega)]; exact c2), fun c => by omega⟩
end Cond9
