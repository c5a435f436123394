/-! pairs of nodes: two -/
def al (b : Bk) (e h : Nat) : Prop := bB b e 0 = bB b h 0 ∧ bB b e 1 = bB b h 1
def fst (b : Bk) (e : Nat) : Prop := ∀ h, h < e → ¬ al b e h
noncomputable def c1f (b : Bk) (P : Nat → Prop) (f : Nat → Int) (h : Nat) : Int := @ite _ (P h) (Classical.propDecidable _) (f h) 0
theorem c1f_y {b : Bk} {P : Nat → Prop} {f : Nat → Int} {h : Nat} (q : P h) : c1f b P f h = f h := by unfold c1f; rw [if_pos q]
theorem c1f_n {b : Bk} {P : Nat → Prop} {f : Nat → Int} {h : Nat} (q : ¬ P h) : c1f b P f h = 0 := by unfold c1f; rw [if_neg q]
theorem c1f_sm {b : Bk} {P : Nat → Prop} {f : Nat → Int} {u : Int} (hu : 0 ≤ u) {i : Nat} (h : ∀ e, e < i → 0 ≤ f e ∧ f e ≤ u) : 0 ≤ sm (c1f b P f) i ∧ sm (c1f b P f) i ≤ i * u := by
  have a : ∀ e, e < i → 0 ≤ c1f b P f e ∧ c1f b P f e ≤ u := fun e he => by
    have := h e he
    by_cases q : P e
    · rw [c1f_y q]; exact this
    · rw [c1f_n q]; omega
  exact ⟨sm_nn (fun e he => (a e he).1), sm_ub (fun e he => (a e he).2)⟩
noncomputable def twc (b : Bk) : Nat → Int := sm (c1f b (fst b) (fun _ => 1))
noncomputable def twt (b : Bk) (e : Nat) (w : Int) : Int := if w = 0 then bB b e 0 else if w = 1 then bB b e 1 else if w = 2 then sm (c1f b (al b e) (fun _ => 1)) (bn b) else if w = 3 then sm (c1f b (al b e) (capB b)) (bn b) else -1
/-- what two answers -/
def twR (b : Bk) (i w r : Int) : Prop := (∃ e, e < bn b ∧ fst b e ∧ twc b e = i ∧ (∀ h, h < e → fst b h → twc b h ≠ i) ∧ r = twt b e w) ∨ ((∀ h, h < bn b → fst b h → twc b h ≠ i) ∧ r = if i = -1 then twc b (bn b) else -1)
theorem twR.one {b : Bk} {i w r q : Int} (h : twR b i w r) (g : twR b i w q) : r = q := by
  rcases h with ⟨e, h1, h2, h3, h4, h5⟩ | ⟨h1, h2⟩ <;> rcases g with ⟨e', g1, g2, g3, g4, g5⟩ | ⟨g1, g2⟩
  · have : e = e' := by
      rcases Nat.lt_trichotomy e e' with z | z | z
      · exact absurd h3 (g4 e z h2)
      · exact z
      · exact absurd g3 (h4 e' z g2)
    rw [h5, g5, this]
  · exact absurd h3 (g1 e h1 h2)
  · exact absurd g3 (h1 e' g1 g2)
  · rw [h2, g2]
section Two
variable {d : DS} {b : Bk} {σ : PS} {Φ : Int → PS → Prop}
theorem c_same {e h : Nat} {x y : Int} {P : Int → PS → Prop} (hx : x = e) (hy : y = h) (hb : okB b) (hC : cB 1 13 b σ) (he : e < bn b) (hh : h < bn b) (h1 : al b e h → P 1 σ) (h0 : ¬ al b e h → P 0 σ) : FX3_isSameTwo x y σ P := by
  subst hx; subst hy
  have hn := hb.1
  unfold FX3_isSameTwo
  rw [show ((e : Nat) : Int).toNat = e by omega, show ((h : Nat) : Int).toNat = h by omega]
  rw [show σ 13 e = bB b e 0 from hC.2.2.2 e he 0 (by omega), show σ 13 h = bB b h 0 from hC.2.2.2 h hh 0 (by omega), show σ 14 e = bB b e 1 from hC.2.2.2 e he 1 (by omega), show σ 14 h = bB b h 1 from hC.2.2.2 h hh 1 (by omega)]
  exact ⟨⟨by omega, by omega⟩, ⟨by omega, by omega⟩, fun c => h0 (fun z => c z.1), fun c => ⟨⟨by omega, by omega⟩, ⟨by omega, by omega⟩, fun c2 => h0 (fun z => c2 z.2), fun c2 => h1 ⟨c, c2⟩⟩⟩
theorem m_alike {e h : Nat} {x y : Int} {P : Int → PS → Prop} (hx : x = e) (hy : y = h) (hb : okB b) (hM : mB 1 b σ) (he : e < bn b) (hh : h < bn b) (h1 : al b e h → P 1 σ) (h0 : ¬ al b e h → P 0 σ) : FX12_areAlike x y σ P := by
  unfold FX12_areAlike
  refine m_at hx rfl hb hM he (w := 0) (by omega) (m_at hy rfl hb hM hh (w := 0) (by omega) ⟨fun c => h0 (fun z => c z.1), fun c => ?_⟩)
  exact m_at hx rfl hb hM he (w := 1) (by omega) (m_at hy rfl hb hM hh (w := 1) (by omega) ⟨fun c2 => h0 (fun z => c2 z.2), fun c2 => h1 ⟨c, c2⟩⟩)
theorem c_first {e : Nat} {P : Int → PS → Prop} (hb : okB b) (hC : cB 1 13 b σ) (he : e < bn b) (h1 : fst b e → P 1 σ) (h0 : ¬ fst b e → P 0 σ) : FX3_isFirstOfTwo e σ P := by
  have hn := hb.1
  refine ⟨e + 1, ?_⟩
  have loop : ∀ (f i : Nat), i ≤ e → e - i < f → (∀ h, h < i → ¬ al b e h) → LX3_isFirstOfTwo_2 f e i σ P := by
    intro f
    induction f with
    | zero => intro i a1 a2; omega
    | succ f ih =>
      intro i hi hf hno
      unfold LX3_isFirstOfTwo_2 BX3_isFirstOfTwo_2
      refine ⟨fun c => h1 (fun h hh => hno h (by omega)), fun c => c_same rfl rfl hb hC he (by omega) (fun q => ⟨fun c => by omega, fun _ => h0 (fun z => z i (by omega) q)⟩) (fun q => ⟨fun _ => ⟨⟨by omega, by omega⟩, ?_⟩, fun c => absurd rfl c⟩)⟩
      exact ih (i + 1) (by omega) (by omega) (fun h hh => by
        by_cases z : h = i
        · rw [z]; exact q
        · exact hno h (by omega))
  exact loop (e + 1) 0 (by omega) (by omega) (fun h hh => by omega)
theorem m_first {e : Nat} {P : Int → PS → Prop} (hb : okB b) (hM : mB 1 b σ) (he : e < bn b) (h1 : fst b e → P 1 σ) (h0 : ¬ fst b e → P 0 σ) : FX12_isFirst e σ P := by
  have hn := hb.1
  refine ⟨e + 1, ?_⟩
  have loop : ∀ (f i : Nat), i ≤ e → e - i < f → (∀ h, h < i → ¬ al b e h) → LX12_isFirst_2 f e i σ P := by
    intro f
    induction f with
    | zero => intro i a1 a2; omega
    | succ f ih =>
      intro i hi hf hno
      unfold LX12_isFirst_2 BX12_isFirst_2
      refine ⟨fun c => h1 (fun h hh => hno h (by omega)), fun c => m_alike rfl rfl hb hM he (by omega) (fun q => ⟨fun c => by omega, fun _ => h0 (fun z => z i (by omega) q)⟩) (fun q => ⟨fun _ => ⟨⟨by omega, by omega⟩, ?_⟩, fun c => absurd rfl c⟩)⟩
      exact ih (i + 1) (by omega) (by omega) (fun h hh => by
        by_cases z : h = i
        · rw [z]; exact q
        · exact hno h (by omega))
  exact loop (e + 1) 0 (by omega) (by omega) (fun h hh => by omega)
theorem al_s {e h : Nat} : al b e h ↔ al b h e := ⟨fun q => ⟨q.1.symm, q.2.symm⟩, fun q => ⟨q.1.symm, q.2.symm⟩⟩
theorem c_countTwo {e : Nat} (hb : okB b) (hC : cB 1 13 b σ) (he : e < bn b) (h : Φ (sm (c1f b (al b e) (fun _ => 1)) (bn b)) σ) : FX3_countOfTwo e σ Φ := by
  have hn := hb.1
  refine ⟨bn b + 1, ?_⟩
  have loop : ∀ (f i : Nat), i ≤ bn b → bn b - i < f → LX3_countOfTwo_4 f e (sm (c1f b (al b e) (fun _ => 1)) i) i σ Φ := by
    intro f
    induction f with
    | zero => intro i a1 a2; omega
    | succ f ih =>
      intro i hi hf
      have bd := c1f_sm (b := b) (P := al b e) (f := fun _ => 1) (u := 1) (by omega) (i := i) (fun _ _ => by omega)
      unfold LX3_countOfTwo_4 BX3_countOfTwo_4
      rw [hC.1]
      refine ⟨fun c => ?_, fun c => c_same rfl rfl hb hC (by omega) he (fun q => ⟨fun c => by omega, fun _ => ⟨⟨by omega, by omega⟩, fun v2 g2 => ⟨⟨by omega, by omega⟩, ?_⟩⟩⟩) (fun q => ⟨fun _ => ⟨⟨by omega, by omega⟩, fun v2 g2 => ⟨⟨by omega, by omega⟩, ?_⟩⟩, fun c => absurd rfl c⟩)⟩
      · have e2 : i = bn b := by omega
        rw [e2]; exact h
      · have := ih (i + 1) (by omega) (by omega)
        rw [sm, c1f_y (al_s.mp q)] at this
        rw [g2]; exact this
      · have := ih (i + 1) (by omega) (by omega)
        rw [sm, c1f_n (fun z => q (al_s.mp z))] at this
        rw [g2]; exact this
  exact loop (bn b + 1) 0 (by omega) (by omega)
theorem c_capTwo {e : Nat} (hb : okB b) (hC : cB 1 13 b σ) (he : e < bn b) (h : Φ (sm (c1f b (al b e) (capB b)) (bn b)) σ) : FX3_capacityOfTwo e σ Φ := by
  have hn := hb.1
  refine ⟨bn b + 1, ?_⟩
  have loop : ∀ (f i : Nat), i ≤ bn b → bn b - i < f → LX3_capacityOfTwo_4 f e (sm (c1f b (al b e) (capB b)) i) i σ Φ := by
    intro f
    induction f with
    | zero => intro i a1 a2; omega
    | succ f ih =>
      intro i hi hf
      have bd := c1f_sm (b := b) (P := al b e) (f := capB b) (u := 999) (by omega) (i := i) (fun _ hz => capB_rng hb (by omega))
      unfold LX3_capacityOfTwo_4 BX3_capacityOfTwo_4
      rw [hC.1]
      refine ⟨fun c => ?_, fun c => c_same rfl rfl hb hC (by omega) he (fun q => ⟨fun c => by omega, fun _ => ?_⟩) (fun q => ⟨fun _ => ⟨⟨by omega, by omega⟩, fun v2 g2 => ⟨⟨by omega, by omega⟩, ?_⟩⟩, fun c => absurd rfl c⟩)⟩
      · have e2 : i = bn b := by omega
        rw [e2]; exact h
      · have hi2 : i < bn b := by omega
        have hr := capB_rng hb hi2
        refine c_usable rfl (CN_TN (lim := capB b) hb hC) (CU_T0 hC) hn hi2 ?_
        show LX3_capacityOfTwo_31 _ _ _ _ (capB b i) σ Φ
        refine ⟨⟨by omega, by omega⟩, fun v2 g2 => ⟨⟨by omega, by omega⟩, ?_⟩⟩
        have := ih (i + 1) (by omega) (by omega)
        rw [sm, c1f_y (al_s.mp q)] at this
        rw [g2]; exact this
      · have := ih (i + 1) (by omega) (by omega)
        rw [sm, c1f_n (fun z => q (al_s.mp z))] at this
        rw [g2]; exact this
  exact loop (bn b + 1) 0 (by omega) (by omega)
theorem m_tells {e : Nat} {w : Int} (hb : okB b) (hM : mB 1 b σ) (he : e < bn b) (hf : fst b e) (hw : 0 ≤ w ∧ w ≤ 3) (h : Φ (twt b e w) σ) : FX12_tellsTwo e w σ Φ := by
  have hn := hb.1
  refine ⟨bn b + 1, ?_⟩
  have z1 : ∀ f : Nat → Int, sm (c1f b (al b e) f) e = 0 := fun f => sm_0 (fun k hk => c1f_n (hf k hk))
  have loop : ∀ (f i : Nat), e ≤ i → i ≤ bn b → bn b - i < f → LX12_tellsTwo_8 f e w (sm (c1f b (al b e) (fun _ => 1)) i) (sm (c1f b (al b e) (capB b)) i) i σ Φ := by
    intro f
    induction f with
    | zero => intro i a0 a1 a2; omega
    | succ f ih =>
      intro i h0 hi hf
      have bd := c1f_sm (b := b) (P := al b e) (f := fun _ => 1) (u := 1) (by omega) (i := i) (fun _ _ => by omega)
      have bd2 := c1f_sm (b := b) (P := al b e) (f := capB b) (u := 999) (by omega) (i := i) (fun _ hz => capB_rng hb (by omega))
      unfold LX12_tellsTwo_8 BX12_tellsTwo_8
      rw [hM.1]
      refine ⟨fun c => ?_, fun c => ?_⟩
      · have e2 : i = bn b := by omega
        rw [e2]
        unfold twt at h
        refine ⟨fun c1 => ⟨fun c2 => ?_, fun c2 => ?_⟩, fun c1 => ?_⟩
        · rw [if_neg (by omega), if_neg (by omega), if_neg (by omega), if_pos (by omega)] at h; exact h
        · rw [if_neg (by omega), if_neg (by omega), if_pos (by omega)] at h; exact h
        · by_cases q : w = 0
          · rw [if_pos q] at h
            exact m_at rfl (w := 0) q hb hM he (by omega) h
          · rw [if_neg q, if_pos (by omega)] at h
            exact m_at rfl (w := 1) (by omega) hb hM he (by omega) h
      · have hi2 : i < bn b := by omega
        have hr := capB_rng hb hi2
        have nx := ih (i + 1) (by omega) (by omega) (by omega)
        refine m_alike rfl rfl hb hM he hi2 (fun q => ⟨fun c => by omega, fun _ => ⟨⟨by omega, by omega⟩, fun v2 g2 => ?_⟩⟩) (fun q => ⟨fun _ => ⟨⟨by omega, by omega⟩, fun v2 g2 => ?_⟩, fun c => absurd rfl c⟩)
        · refine m_alike rfl rfl hb hM he hi2 (fun q => ⟨fun c => by omega, fun _ => m_capacity rfl hb hM hi2 ⟨⟨by omega, by omega⟩, fun v3 g3 => ⟨⟨by omega, by omega⟩, ?_⟩⟩⟩) (fun q2 => absurd q q2)
          rw [sm, c1f_y q, sm, c1f_y q] at nx
          rw [g2, g3]; exact nx
        · refine m_alike rfl rfl hb hM he hi2 (fun q2 => absurd q2 q) (fun q2 => ⟨fun _ => ⟨⟨by omega, by omega⟩, fun v3 g3 => ⟨⟨by omega, by omega⟩, ?_⟩⟩, fun c => absurd rfl c⟩)
          rw [sm, c1f_n q, sm, c1f_n q] at nx
          rw [g2, g3]; exact nx
  have := loop (bn b + 1) e (Nat.le_refl _) (by omega) (by omega)
  rw [z1, z1] at this
  exact this
theorem twc_bd {i : Nat} : 0 ≤ twc b i ∧ twc b i ≤ i := by
  have := c1f_sm (b := b) (P := fst b) (f := fun _ => 1) (u := 1) (by omega) (i := i) (fun _ _ => by omega)
  unfold twc
  omega
theorem c_two {a1 a2 : Int} (hb : okB b) (hC : cB 1 13 b σ) (h : ∀ r, twR b a1 a2 r → Φ r σ) : FX11_two a1 a2 σ Φ := by
  have hn := hb.1
  refine ⟨bn b + 1, ?_⟩
  have loop : ∀ (f i : Nat), i ≤ bn b → bn b - i < f → (∀ e, e < i → fst b e → twc b e ≠ a1) → LX11_two_5 f a1 a2 (twc b i) i σ Φ := by
    intro f
    induction f with
    | zero => intro i h1 h2; omega
    | succ f ih =>
      intro i hi hf hno
      have bd := twc_bd (b := b) (i := i)
      unfold LX11_two_5 BX11_two_5
      rw [hC.1]
      refine ⟨fun c => ?_, fun c => ?_⟩
      · have e : i = bn b := by omega
        rw [e] at hno ⊢
        exact ⟨fun c1 => h _ (Or.inr ⟨hno, by rw [if_neg c1]⟩), fun c1 => h _ (Or.inr ⟨hno, by rw [if_pos c1]⟩)⟩
      · have hi2 : i < bn b := by omega
        refine c_first hb hC hi2 (fun q => ⟨fun c => by omega, fun _ => ⟨fun c2 => ⟨⟨by omega, by omega⟩, ⟨by omega, by omega⟩, ?_⟩, fun c2 => ?_⟩⟩) (fun q => ⟨fun _ => ⟨⟨by omega, by omega⟩, ?_⟩, fun c => absurd rfl c⟩)
        · have e : twc b (i + 1) = twc b i + 1 := by
            unfold twc
            rw [sm, c1f_y q]
          rw [← e]
          exact ih (i + 1) (by omega) (by omega) (fun e he hq => by
            by_cases z : e = i
            · rw [z]; exact c2
            · exact hno e (by omega) hq)
        · have ans : ∀ r, r = twt b i a2 → Φ r σ := fun r hr => h r (Or.inl ⟨i, hi2, q, c2, hno, hr⟩)
          unfold FX11_ofTwo
          rw [show ((i : Nat) : Int).toNat = i by omega, show σ 13 i = bB b i 0 from hC.2.2.2 i hi2 0 (by omega), show σ 14 i = bB b i 1 from hC.2.2.2 i hi2 1 (by omega)]
          refine ⟨fun z => ⟨⟨by omega, by omega⟩, ans _ ?_⟩, fun z => ⟨⟨by omega, by omega⟩, ans _ ?_⟩, fun z => c_countTwo hb hC hi2 (ans _ ?_), fun z => c_capTwo hb hC hi2 (ans _ ?_), fun z => ans _ ?_⟩
          · unfold twt; rw [if_pos z]
          · unfold twt; rw [if_neg (by omega), if_pos z]
          · unfold twt; rw [if_neg (by omega), if_neg (by omega), if_pos z]
          · unfold twt; rw [if_neg (by omega), if_neg (by omega), if_neg (by omega), if_pos z]
          · unfold twt; rw [if_neg (by omega), if_neg (by omega), if_neg (by omega), if_neg (by omega)]
        · have e : twc b (i + 1) = twc b i := by
            unfold twc
            rw [sm, c1f_n q]; omega
          rw [← e]
          exact ih (i + 1) (by omega) (by omega) (fun e he hq => by
            by_cases z : e = i
            · rw [z] at hq; exact absurd hq q
            · exact hno e (by omega) hq)
  exact loop (bn b + 1) 0 (by omega) (by omega) (fun e he => by omega)
theorem m_two {a1 a2 : Int} (hb : okB b) (hM : mB 1 b σ) (h : ∀ r, twR b a1 a2 r → Φ r σ) : FX12_two a1 a2 σ Φ := by
  have hn := hb.1
  refine ⟨bn b + 1, ?_⟩
  have loop : ∀ (f i : Nat), i ≤ bn b → bn b - i < f → (∀ e, e < i → fst b e → twc b e ≠ a1) → LX12_two_5 f a1 a2 (twc b i) i σ Φ := by
    intro f
    induction f with
    | zero => intro i h1 h2; omega
    | succ f ih =>
      intro i hi hf hno
      have bd := twc_bd (b := b) (i := i)
      unfold LX12_two_5 BX12_two_5
      rw [hM.1]
      refine ⟨fun c => ?_, fun c => ?_⟩
      · have e : i = bn b := by omega
        rw [e] at hno ⊢
        exact ⟨fun c1 => h _ (Or.inr ⟨hno, by rw [if_neg c1]⟩), fun c1 => h _ (Or.inr ⟨hno, by rw [if_pos c1]⟩)⟩
      · have hi2 : i < bn b := by omega
        refine m_first hb hM hi2 (fun q => ⟨fun c => by omega, fun _ => ⟨fun c2 => ⟨⟨by omega, by omega⟩, ⟨by omega, by omega⟩, ?_⟩, fun c2 => ?_⟩⟩) (fun q => ⟨fun _ => ⟨⟨by omega, by omega⟩, ?_⟩, fun c => absurd rfl c⟩)
        · have e : twc b (i + 1) = twc b i + 1 := by
            unfold twc
            rw [sm, c1f_y q]
          rw [← e]
          exact ih (i + 1) (by omega) (by omega) (fun e he hq => by
            by_cases z : e = i
            · rw [z]; exact c2
            · exact hno e (by omega) hq)
        · have ans : ∀ r, r = twt b i a2 → Φ r σ := fun r hr => h r (Or.inl ⟨i, hi2, q, c2, hno, hr⟩)
          refine m_in (fun x y => ⟨fun c => by omega, fun _ => m_tells hb hM hi2 q ⟨x, y⟩ (ans _ rfl)⟩) (fun x => ⟨fun _ => ans _ ?_, fun c => absurd rfl c⟩)
          unfold twt; rw [if_neg (by omega), if_neg (by omega), if_neg (by omega), if_neg (by omega)]
        · have e : twc b (i + 1) = twc b i := by
            unfold twc
            rw [sm, c1f_n q]; omega
          rw [← e]
          exact ih (i + 1) (by omega) (by omega) (fun e he hq => by
            by_cases z : e = i
            · rw [z] at hq; exact absurd hq q
            · exact hno e (by omega) hq)
  exact loop (bn b + 1) 0 (by omega) (by omega) (fun e he => by omega)
theorem p_two (a1 a2 : Int) : PT (FX11_two a1 a2) (FX12_two a1 a2) := by
  intro d σc σm hd hC hM
  exact c_two hd.1 hC.1 (fun r hr => m_two hd.1 hM.1 (fun r2 hr2 => ⟨hr.one hr2, d, hd, hC, hM⟩))
end Two
