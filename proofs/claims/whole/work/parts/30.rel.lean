/-! what the document speaks of: books of gates, an image, a tape, a paper, lists -/
abbrev Bk : Type := Nat × Nat × Nat × (Nat → Nat → Int)
abbrev bn (b : Bk) : Nat := b.1
abbrev bs (b : Bk) : Nat := b.2.1
abbrev bz (b : Bk) : Nat := b.2.2.1
abbrev bB (b : Bk) : Nat → Nat → Int := b.2.2.2
def okG (B : Nat → Int) : Prop := 0 ≤ B 0 ∧ B 0 < 12 ∧ 0 ≤ B 1 ∧ B 1 < 12 ∧ B 0 ≠ B 1 ∧ 0 ≤ B 2 ∧ B 2 ≤ B 3 ∧ B 3 ≤ 999 ∧ 1 ≤ B 4 ∧ B 4 ≤ 3 ∧ (B 5 = 0 ∨ B 5 = 1)
def okB (b : Bk) : Prop := bn b ≤ 30 ∧ bs b < 12 ∧ bz b < 12 ∧ bs b ≠ bz b ∧ ∀ e, e < bn b → okG (bB b e)
def cB (k a : Nat) (b : Bk) (σ : PS) : Prop := σ k 6 = (bn b : Int) ∧ σ k 7 = (bs b : Int) ∧ σ k 8 = (bz b : Int) ∧ ∀ e, e < bn b → ∀ w, w < 6 → σ (a + w) e = bB b e w
def mB (k : Nat) (b : Bk) (σ : PS) : Prop := σ k 2 = (bn b : Int) ∧ σ k 0 = (bs b : Int) ∧ σ k 1 = (bz b : Int) ∧ ∀ e, e < bn b → ∀ w, w < 6 → σ k (3 + 6 * e + w) = bB b e w
def capB (b : Bk) (e : Nat) : Int := if bB b e 5 = 1 then bB b e 3 else 0
def TN (b : Bk) (lim : Nat → Int) : NT := (bn b, fun e => (bB b e 0).toNat, fun e => (bB b e 1).toNat, lim, bs b, bz b)
abbrev T0 (b : Bk) : NT := TN b (capB b)
/-- book, image, tape, paper, lists' sizes and items -/
abbrev DS : Type := Bk × Option Bk × (Nat × (Nat → Int)) × (Nat × (Nat → Int)) × (Nat → Int) × (Nat → Int)
abbrev dB (d : DS) : Bk := d.1
abbrev dI (d : DS) : Option Bk := d.2.1
abbrev dTn (d : DS) : Nat := d.2.2.1.1
abbrev dTb (d : DS) : Nat → Int := d.2.2.1.2
abbrev dPn (d : DS) : Nat := d.2.2.2.1.1
abbrev dPb (d : DS) : Nat → Int := d.2.2.2.1.2
abbrev dLn (d : DS) : Nat → Int := d.2.2.2.2.1
abbrev dLi (d : DS) : Nat → Int := d.2.2.2.2.2
def okD (d : DS) : Prop := okB (dB d) ∧ (∀ b, dI d = some b → okB b) ∧ (dTn d ≤ 90 ∧ ∀ i, i < dTn d → 1 ≤ dTb d i ∧ dTb d i ≤ 127) ∧ dPn d ≤ 510 ∧ ∀ l, l < 4 → -1 ≤ dLn d l ∧ dLn d l ≤ 40
/-- the reference's cells that the document speaks of, are as they were -/
def MK (σ σ' : PS) : Prop := (∀ k, k ∈ [1, 2, 23, 24, 25, 26] → σ' k = σ k) ∧ σ' 0 2 = σ 0 2 ∧ σ' 0 29 = σ 0 29 ∧ σ' 0 36 = σ 0 36
theorem MK.rf {σ : PS} : MK σ σ := ⟨fun _ _ => rfl, rfl, rfl, rfl⟩
theorem MK.trans {a b c : PS} (h : MK a b) (g : MK b c) : MK a c := ⟨fun k hk => (g.1 k hk).trans (h.1 k hk), g.2.1.trans h.2.1, g.2.2.1.trans h.2.2.1, g.2.2.2.trans h.2.2.2⟩
theorem MK.off {ks : List Nat} {a b : PS} (h : Off ks a b) (h0 : 0 ∉ ks) (hk : ∀ k, k ∈ [1, 2, 23, 24, 25, 26] → k ∉ ks) : MK a b := ⟨fun k z => h k (hk k z), by rw [h 0 h0], by rw [h 0 h0], by rw [h 0 h0]⟩
def mImg (I : Option Bk) (σ : PS) : Prop := match I with
  | none => σ 0 2 = 0
  | some b => ¬ σ 0 2 = 0 ∧ mB 2 b σ
def cImg (I : Option Bk) (σ : PS) : Prop := match I with
  | none => σ 0 2 = 0
  | some b => ¬ σ 0 2 = 0 ∧ cB 2 19 b σ
def MR (d : DS) (σ : PS) : Prop := mB 1 (dB d) σ ∧ mImg (dI d) σ ∧ (σ 0 29 = (dTn d : Int) ∧ ∀ i, i < dTn d → σ 23 i = dTb d i) ∧ (σ 0 36 = (dPn d : Int) ∧ ∀ i, i < dPn d → σ 24 i = dPb d i) ∧
  ∀ l, l < 4 → σ 25 l = dLn d l ∧ ∀ i : Nat, (i : Int) < dLn d l → σ 26 (40 * l + i) = dLi d (40 * l + i)
/-- the class's caches, told by what the reference does -/
def CHD (b : Bk) (σ : PS) : Prop := ∀ (σm : PS) (Φ : Int → PS → Prop), mB 1 b σm → (∀ σm' : PS, MK σm σm' → (∀ e, e < bn b → σm' 4 e = σ 32 e) → (∀ v, v < 12 → σm' 10 v = σ 33 v ∧ σm' 12 v = σ 34 v ∧ σm' 13 v = σ 35 v) → σm' 0 17 = σ 4 10 → Φ 0 σm') → FX12_flowsByHeights σm Φ
def CSD (b : Bk) (σ : PS) : Prop := ∃ n r : Nat, n ≤ 30 ∧ r ≤ n ∧ σ 5 7 = (n : Int) ∧ σ 5 8 = (r : Int) ∧ (∀ i, i < n → 0 ≤ σ 41 i ∧ σ 41 i ≤ 12) ∧ ∀ (σm : PS) (Φ : Int → PS → Prop), mB 1 b σm → (∀ σm' : PS, MK σm σm' → mB 1 b σm' → σm' 0 18 = (n : Int) → (∀ i, i < n → σm' 15 i = σ 40 i ∧ σm' 16 i = σ 41 i ∧ σm' 17 i = σ 42 i ∧ (σ 42 i = 0 ∨ σ 42 i = 1) ∧ ∀ j : Nat, (j : Int) < σ 41 i → σm' 18 (12 * i + j) = σ 43 (12 * i + j)) → (sm (fun i => σ 42 i) n = (r : Int)) → Φ 0 σm') → FX12_findLines σm Φ
def CWR (b : Bk) (σ : PS) : Prop := ∀ (what : Nat) (σm : PS) (Φ : Int → PS → Prop), what < 4 → (if what < 2 then 1 else 2) ≤ bn b → mB 1 b σm → (∀ σm' : PS, MK σm σm' → Φ (σ 6 what) σm') → FX12_worst what σm Φ
def CCa (b : Bk) (σ : PS) : Prop := (¬ σ 0 4 = 0 → CWD (T0 b) σ) ∧ (¬ σ 0 6 = 0 → CHD b σ) ∧ (¬ σ 0 8 = 0 → CSD b σ) ∧ (¬ σ 0 10 = 0 → CWR b σ)
def CR (d : DS) (σ : PS) : Prop := cB 1 13 (dB d) σ ∧ cImg (dI d) σ ∧ (σ 9 1 = (dTn d : Int) ∧ ∀ i, i < dTn d → σ 57 i = dTb d i) ∧ (σ 11 1 = (dPn d : Int) ∧ ∀ i, i < dPn d → σ 61 i = dPb d i) ∧
  (∀ l, l < 4 → σ 63 l = dLn d l ∧ ∀ i : Nat, (i : Int) < dLn d l → σ 62 (40 * l + i) = dLi d (40 * l + i)) ∧ CCa (dB d) σ
theorem mB.keep {k : Nat} {b : Bk} {σ σ' : PS} (h : mB k b σ) (e : σ' k = σ k) : mB k b σ' := by
  unfold mB
  rw [e]
  exact h
theorem MR.keep {d : DS} {σ σ' : PS} (h : MR d σ) (g : MK σ σ') : MR d σ' := by
  obtain ⟨h1, h2, h3, h4, h5⟩ := h
  obtain ⟨g1, g2, g3, g4⟩ := g
  refine ⟨h1.keep (g1 1 (by simp)), ?_, ?_, ?_, ?_⟩
  · unfold mImg at h2 ⊢
    cases hI : dI d with
    | none => rw [hI] at h2; simp only at h2 ⊢; rw [g2]; exact h2
    | some b => rw [hI] at h2; simp only at h2 ⊢; exact ⟨by rw [g2]; exact h2.1, h2.2.keep (g1 2 (by simp))⟩
  · rw [g3, g1 23 (by simp)]; exact h3
  · rw [g4, g1 24 (by simp)]; exact h4
  · rw [g1 25 (by simp), g1 26 (by simp)]; exact h5
theorem cB.off {k a : Nat} {b : Bk} {σ σ' : PS} {ks : List Nat} (h : cB k a b σ) (ho : Off ks σ σ') (hk : k ∉ ks) (ha : ∀ w, w < 6 → a + w ∉ ks) : cB k a b σ' := by
  obtain ⟨h1, h2, h3, h4⟩ := h
  refine ⟨by rw [ho k hk]; exact h1, by rw [ho k hk]; exact h2, by rw [ho k hk]; exact h3, fun e he w hw => ?_⟩
  rw [ho (a + w) (ha w hw)]
  exact h4 e he w hw
theorem okT_TN {b : Bk} {lim : Nat → Int} (h : okB b) (hl : ∀ e, e < bn b → 0 ≤ lim e ∧ lim e ≤ 2000) : okT (TN b lim) := by
  obtain ⟨h1, h2, h3, h4, h5⟩ := h
  refine ⟨h1, fun e he => ?_, hl, h2, h3, h4⟩
  have := h5 e he
  unfold okG at this
  show (bB b e 0).toNat < 12 ∧ (bB b e 1).toNat < 12 ∧ (bB b e 0).toNat ≠ (bB b e 1).toNat
  omega
theorem capB_rng {b : Bk} (h : okB b) {e : Nat} (he : e < bn b) : 0 ≤ capB b e ∧ capB b e ≤ 999 := by
  have := h.2.2.2.2 e he
  unfold okG at this
  unfold capB
  split <;> omega
theorem okT_T0 {b : Bk} (h : okB b) : okT (T0 b) := okT_TN h (fun e he => by have := capB_rng h he; omega)
theorem MN_TN {b : Bk} {lim : Nat → Int} {σ : PS} (h : okB b) (hM : mB 1 b σ) (hl : ∀ e, e < bn b → σ 3 e = lim e) : MN (TN b lim) σ := by
  obtain ⟨h1, h2, h3, h4⟩ := hM
  refine ⟨h1, h2, h3, fun e he => ?_, hl⟩
  have := h.2.2.2.2 e he
  unfold okG at this
  have a0 := h4 e he 0 (by omega)
  have a1 := h4 e he 1 (by omega)
  rw [Nat.add_zero] at a0
  rw [a0, a1]
  show bB b e 0 = ((bB b e 0).toNat : Int) ∧ bB b e 1 = ((bB b e 1).toNat : Int)
  omega
theorem CN_TN {b : Bk} {lim : Nat → Int} {σ : PS} (h : okB b) (hC : cB 1 13 b σ) : CN (TN b lim) σ := by
  obtain ⟨h1, h2, h3, h4⟩ := hC
  refine ⟨h1, h2, h3, fun e he => ?_⟩
  have := h.2.2.2.2 e he
  unfold okG at this
  have a0 := h4 e he 0 (by omega)
  have a1 := h4 e he 1 (by omega)
  rw [show 13 + 0 = 13 from rfl] at a0
  rw [show 13 + 1 = 14 from rfl] at a1
  rw [a0, a1]
  show bB b e 0 = ((bB b e 0).toNat : Int) ∧ bB b e 1 = ((bB b e 1).toNat : Int)
  omega
theorem CU_T0 {b : Bk} {σ : PS} (hC : cB 1 13 b σ) : CU (T0 b) σ := by
  intro e he
  have a3 := hC.2.2.2 e he 3 (by omega)
  have a5 := hC.2.2.2 e he 5 (by omega)
  rw [show 13 + 3 = 16 from rfl] at a3
  rw [show 13 + 5 = 18 from rfl] at a5
  rw [a3, a5]
  show (_ → _ = capB b e) ∧ (_ → capB b e = 0)
  unfold capB
  exact ⟨fun c => by rw [if_pos c], fun c => by rw [if_neg c]⟩
section Rel
variable {b : Bk} {σ : PS} {Φ : Int → PS → Prop}
theorem m_at {i j : Int} {a w : Nat} (hi : i = a) (hj : j = w) (hb : okB b) (hM : mB 1 b σ) (ha : a < bn b) (hw : w < 6) (h : Φ (bB b a w) σ) : FX12_at i j σ Φ := by
  have := hb.1
  refine s_at hi hj (by omega) hw ?_
  rw [hM.2.2.2 a ha w hw]
  exact h
theorem m_in {a l u : Int} {P : Int → PS → Prop} (h1 : l ≤ a → a ≤ u → P 1 σ) (h0 : ¬ (l ≤ a ∧ a ≤ u) → P 0 σ) : FX12_in a l u σ P := by
  unfold FX12_in
  exact ⟨fun c => h0 (by omega), fun c => ⟨fun c2 => h0 (by omega), fun c2 => h1 (by omega) (by omega)⟩⟩
theorem m_isNode {a : Int} {P : Int → PS → Prop} (h1 : 0 ≤ a → a < 12 → P 1 σ) (h0 : ¬ (0 ≤ a ∧ a < 12) → P 0 σ) : FX12_isNode a σ P := by
  unfold FX12_isNode
  exact m_in (fun x y => ⟨Or.inr rfl, h1 x (by omega)⟩) (fun x => ⟨Or.inl rfl, h0 (by omega)⟩)
theorem m_isGate {a : Int} {P : Int → PS → Prop} (hb : okB b) (hM : mB 1 b σ) (h1 : ∀ e : Nat, e < bn b → a = e → P 1 σ) (h0 : ¬ (0 ≤ a ∧ a < bn b) → P 0 σ) : FX12_isGate a σ P := by
  have := hb.1
  unfold FX12_isGate
  rw [hM.1]
  refine ⟨⟨by omega, by omega⟩, m_in (fun x y => ⟨Or.inr rfl, h1 a.toNat (by omega) (by omega)⟩) (fun x => ⟨Or.inl rfl, h0 (by omega)⟩)⟩
theorem c_isNode {a : Int} {P : Int → PS → Prop} (h1 : 0 ≤ a → a < 12 → P 1 σ) (h0 : ¬ (0 ≤ a ∧ a < 12) → P 0 σ) : FX11_isNode a σ P := by
  unfold FX11_isNode
  exact ⟨fun c => h0 (by omega), fun c => ⟨fun c2 => h0 (by omega), fun c2 => h1 (by omega) (by omega)⟩⟩
theorem c_isGate {a : Int} {P : Int → PS → Prop} (hC : cB 1 13 b σ) (h1 : ∀ e : Nat, e < bn b → a = e → P 1 σ) (h0 : ¬ (0 ≤ a ∧ a < bn b) → P 0 σ) : FX3_has a σ P := by
  unfold FX3_has
  rw [hC.1]
  exact ⟨fun c => h0 (by omega), fun c => ⟨fun c2 => h0 (by omega), fun c2 => h1 a.toNat (by omega) (by omega)⟩⟩
theorem m_capacity {i : Int} {e : Nat} (hi : i = e) (hb : okB b) (hM : mB 1 b σ) (he : e < bn b) (h : Φ (capB b e) σ) : FX12_capacity i σ Φ := by
  unfold FX12_capacity FX12_isOpen
  unfold capB at h
  refine m_at hi rfl hb hM he (w := 5) (by omega) ⟨fun c => ⟨fun _ => ?_, fun c2 => absurd rfl c2⟩, fun c => ⟨fun c2 => by omega, fun _ => ?_⟩⟩
  · rw [if_neg c] at h; exact h
  · rw [if_pos c] at h
    exact m_at hi rfl hb hM he (w := 3) (by omega) h
theorem m_mayAll (hb : okB b) (hM : mB 1 b σ) (h : ∀ σ' : PS, Off [3] σ σ' → (∀ e, e < bn b → σ' 3 e = capB b e) → Φ 0 σ') : FX12_mayAll σ Φ := by
  have hn := hb.1
  unfold FX12_mayAll
  refine ⟨bn b + 1, ?_⟩
  have loop : ∀ (f i : Nat) (σ1 : PS), i ≤ bn b → bn b - i < f → Off [3] σ σ1 → (∀ e, e < i → σ1 3 e = capB b e) → LX12_mayAll_2 f i σ1 Φ := by
    intro f
    induction f with
    | zero => intro i σ1 h1 h2; omega
    | succ f ih =>
      intro i σ1 hi hf ho hv
      unfold LX12_mayAll_2 BX12_mayAll_2
      have hM1 : mB 1 b σ1 := hM.keep (ho 1 (by simp))
      rw [hM1.1]
      refine ⟨fun c => h σ1 ho (fun e he => hv e (by omega)), fun c => ?_⟩
      refine m_capacity rfl hb hM1 (by omega) ⟨⟨by omega, by omega⟩, fun σ5 g5 => ⟨⟨by omega, by omega⟩, ?_⟩⟩
      refine ih (i + 1) σ5 (by omega) (by omega) (by rw [g5]; exact ho.up (by simp)) (fun e he => ?_)
      rw [g5, show ((i : Nat) : Int).toNat = i by omega, up2_if]
      by_cases q : e = i
      · rw [if_pos q, q]
      · rw [if_neg q]; exact hv e (by omega)
  exact loop (bn b + 1) 0 σ (by omega) (by omega) Off.rf (fun e he => by omega)
theorem MK.fi {T : NT} {σ σ' : PS} {k : Nat} (h : FI T σ σ' k) : MK σ σ' := by
  obtain ⟨-, h1, h2, -⟩ := h
  refine ⟨fun j hj => h1 j (by simp at hj ⊢; omega), h2 2 (by omega), h2 29 (by omega), h2 36 (by omega)⟩
theorem m_flowsNow (hb : okB b) (hM : mB 1 b σ) (h : ∀ σ' : PS, MK σ σ' → mB 1 b σ' → MN (T0 b) σ' → σ' 0 7 = (KT (T0 b) : Int) → MWay (T0 b) (KT (T0 b)) σ' → MX (T0 b) (xE (T0 b)) σ' → IsDist 12 (stT (T0 b) (xE (T0 b))) (tz (T0 b)) (fun v => σ' 5 v) → Φ (mostT (T0 b)) σ') : FX12_flowsNow σ Φ := by
  unfold FX12_flowsNow
  refine m_mayAll hb hM (fun σ2 o2 h2 => ?_)
  have hM2 : mB 1 b σ2 := hM.keep (o2 1 (by simp))
  refine s_flows (okT_T0 hb) (MN_TN hb hM2 h2) (fun σ' a1 a2 a3 => ?_)
  have k1 : MK σ σ2 := MK.off o2 (by simp) (by simp)
  have k2 : MK σ2 σ' := MK.fi a1
  exact h σ' (k1.trans k2) (hM2.keep (k2.1 1 (by simp))) a1.1 a1.2.2.2.1 a1.2.2.2.2 a2 a3
end Rel
