theorem p_pick : PT FX11_pick FX12_pick := by
  intro d σc σm hd hC hM
  unfold FX11_pick
  refine c_take (xE_rg hd.1) hd hC (fun v z σc' e C' c3 hz => ?_) (fun q z σc' hq e C' c3 => ?_)
  · rw [c3]
    refine ⟨fun _ => ?_, fun c => by omega⟩
    unfold FX12_pick
    refine m_meant hd hM (fun v2 z2 σm' e2 M' c31 hz2 => ?_) (fun q σm' e2 _ _ => by rw [e] at e2; cases e2)
    have ev : v2 = v := Sum.inr.inj (e2.symm.trans e)
    subst ev
    rw [c31]
    exact ⟨fun _ => ⟨hz.one hz2, dE d, okD_E hd, C', M'⟩, fun c => by omega⟩
  · rw [c3]
    refine ⟨fun c => by omega, fun _ => ⟨⟨by omega, by omega⟩, ?_⟩⟩
    unfold FX12_pick
    refine m_meant hd hM (fun v2 z2 σm' e2 _ _ _ => by rw [e] at e2; cases e2) (fun q2 σm' e2 M' c31 => ?_)
    have eq2 : q2 = q := Sum.inl.inj (e2.symm.trans e)
    subst eq2
    rw [c31]
    exact ⟨fun c => by omega, fun _ => ⟨⟨by omega, by omega⟩, rfl, dE d, okD_E hd, C', M'⟩⟩
theorem p_many : PT FX11_many FX12_many := by
  intro d σc σm hd hC hM
  unfold FX11_many
  refine c_take (xE_rg hd.1) hd hC (fun v z σc' e C' c3 hz => ?_) (fun q z σc' hq e C' c3 => ?_)
  · rw [c3]
    refine ⟨fun _ => ?_, fun c => by omega⟩
    unfold FX12_many
    refine m_meant hd hM (fun v2 z2 σm' e2 M' c31 hz2 => ?_) (fun q σm' e2 _ _ => by rw [e] at e2; cases e2)
    have ev : v2 = v := Sum.inr.inj (e2.symm.trans e)
    subst ev
    rw [c31]
    exact ⟨fun _ => ⟨by rw [hz.one hz2], dE d, okD_E hd, C', M'⟩, fun c => by omega⟩
  · rw [c3]
    refine ⟨fun c => by omega, fun _ => ⟨⟨by omega, by omega⟩, ?_⟩⟩
    unfold FX12_many
    refine m_meant hd hM (fun v2 z2 σm' e2 _ _ _ => by rw [e] at e2; cases e2) (fun q2 σm' e2 M' c31 => ?_)
    have eq2 : q2 = q := Sum.inl.inj (e2.symm.trans e)
    subst eq2
    rw [c31]
    exact ⟨fun c => by omega, fun _ => ⟨⟨by omega, by omega⟩, rfl, dE d, okD_E hd, C', M'⟩⟩
/-! shutAll: the gates meant, one after the other -/
def stB (b : Bk) (a : Int) (v : Nat → Bool) : Nat → Bk
  | 0 => b
  | k + 1 => if v k = true ∧ ¬ bB (stB b a v k) k 5 = a then bset (stB b a v k) k 5 a else stB b a v k
def ctS (b : Bk) (a : Int) (v : Nat → Bool) : Nat → Int
  | 0 => 0
  | k + 1 => ctS b a v k + if v k = true ∧ ¬ bB (stB b a v k) k 5 = a then 1 else 0
section CondA
variable {b : Bk} {a : Int} {v : Nat → Bool} {z : Int} {σ : PS} {Φ : Int → PS → Prop}
theorem st_n : ∀ k, bn (stB b a v k) = bn b := by
  intro k
  induction k with
  | zero => rfl
  | succ k ih =>
    rw [stB]
    by_cases q : v k = true ∧ ¬ bB (stB b a v k) k 5 = a
    · rw [if_pos q]; exact ih
    · rw [if_neg q]; exact ih
theorem stb_ok (hb : okB b) (ha : a = 0 ∨ a = 1) : ∀ k, k ≤ bn b → okB (stB b a v k) := by
  intro k
  induction k with
  | zero => intro _; exact hb
  | succ k ih =>
    intro hk
    have h := ih (by omega)
    rw [stB]
    by_cases q : v k = true ∧ ¬ bB (stB b a v k) k 5 = a
    · rw [if_pos q]
      have g := h.2.2.2.2 k (by rw [st_n]; omega)
      refine okB_set h ?_
      exact ⟨g.1, g.2.1, g.2.2.1, g.2.2.2.1, g.2.2.2.2.1, g.2.2.2.2.2.1, g.2.2.2.2.2.2.1, g.2.2.2.2.2.2.2.1, g.2.2.2.2.2.2.2.2.1, g.2.2.2.2.2.2.2.2.2.1, ha⟩
    · rw [if_neg q]; exact h
theorem ct_rg : ∀ k : Nat, 0 ≤ ctS b a v k ∧ ctS b a v k ≤ (k : Int) := by
  intro k
  induction k with
  | zero => exact ⟨Int.le_refl _, Int.le_refl _⟩
  | succ k ih =>
    rw [ctS]
    split <;> omega
theorem c_hasB {i : Nat} (hi : i < 32) (h1 : tb z i = true → Φ 1 σ) (h0 : ¬ tb z i = true → Φ 0 σ) : FX11_hasBit z i σ Φ := by
  unfold FX11_hasBit
  exact ⟨fun c => h0 (fun y => c ((bit_is hi).mpr y)), fun c => h1 ((bit_is hi).mp c)⟩
theorem c_shut (hb : okB b) (hz : bP (bn b) z (fun e => v e = true)) (hC : cB 1 13 b σ) (h : ∀ σ' : PS, Off [0, 1, 13, 14, 15, 16, 17, 18] σ σ' → σ' 0 2 = σ 0 2 → (σ' 0 4 = 0 ∧ σ' 0 6 = 0 ∧ σ' 0 8 = 0 ∧ σ' 0 10 = 0) → cB 1 13 (stB b a v (bn b)) σ' → Φ (ctS b a v (bn b)) σ') : ∃ f, LX11_shutAll_40 f a z 0 0 σ Φ := by
  have hn := hb.1
  refine ⟨bn b + 1, ?_⟩
  have loop : ∀ (f i : Nat) (σ' : PS), i ≤ bn b → bn b - i < f → Off [18] σ σ' → cB 1 13 (stB b a v i) σ' → LX11_shutAll_40 f a z (ctS b a v i) i σ' Φ := by
    intro f
    induction f with
    | zero => intro i σ' h1 h2; omega
    | succ f ih =>
      intro i σ' hi hf o' hC'
      have c6 : σ' 1 6 = (bn b : Int) := by rw [hC'.1, st_n]
      have hct := ct_rg (b := b) (a := a) (v := v) i
      have ei : (i : Int) + 1 = ((i + 1 : Nat) : Int) := by omega
      unfold LX11_shutAll_40 BX11_shutAll_40
      rw [c6]
      refine ⟨fun c => ?_, fun c => ?_⟩
      · have e : i = bn b := by omega
        subst e
        exact c_forget (fun σ2 o2 h2 hf2 => h σ2 ((o'.mono (by simp)).trans (o2.mono (by simp))) (by rw [h2, o' 0 (by simp)]) hf2 (hC'.off o2 (by simp) (fun w hw => by simp)))
      · have hlt : i < bn b := by omega
        have c18 : σ' 18 i = bB (stB b a v i) i 5 := hC'.2.2.2 i (by rw [st_n]; exact hlt) 5 (by omega)
        have same : ¬ (v i = true ∧ ¬ bB (stB b a v i) i 5 = a) → LX11_shutAll_89 (fun x1 x2 x3 x4 σ => LX11_shutAll_40 f x1 x2 x3 x4 σ Φ) a z (ctS b a v i) i σ' Φ := fun q => by
          unfold LX11_shutAll_89
          rw [ei]
          refine ⟨⟨by omega, by omega⟩, ?_⟩
          have := ih (i + 1) σ' (by omega) (by omega) o' (by rw [stB, if_neg q]; exact hC')
          rw [ctS, if_neg q, Int.add_zero] at this
          exact this
        refine c_hasB (by omega) (fun y => ⟨fun c => by omega, fun _ => ?_⟩) (fun y => ⟨fun _ => same (fun q => y ((hz.2 i).mpr ⟨hlt, q.1⟩)), fun c => absurd rfl c⟩)
        have hv : v i = true := ((hz.2 i).mp y).2
        rw [show ((i : Nat) : Int).toNat = i by omega, c18]
        refine ⟨⟨by omega, by omega⟩, fun c => same (fun q => q.2 c), fun c => ⟨⟨by omega, by omega⟩, fun σ10 g10 => ⟨⟨by omega, by omega⟩, ?_⟩⟩⟩
        unfold LX11_shutAll_89
        rw [ei]
        refine ⟨⟨by omega, by omega⟩, ?_⟩
        have := ih (i + 1) σ10 (by omega) (by omega) (by rw [g10]; exact o'.up (by simp)) (by rw [stB, if_pos ⟨hv, c⟩, g10]; exact cB_set (w := 5) hC')
        rw [ctS, if_pos ⟨hv, c⟩] at this
        exact this
  exact loop (bn b + 1) 0 σ (by omega) (by omega) Off.rf hC
theorem m_shut (ha : a = 0 ∨ a = 1) (hb : okB b) (hz : bP (bn b) z (fun e => v e = true)) (hM : mB 1 b σ) (h : ∀ σ' : PS, Off [1] σ σ' → mB 1 (stB b a v (bn b)) σ' → Φ (ctS b a v (bn b)) σ') : ∃ f, LX12_shutAll_36 f a z 0 0 σ Φ := by
  have hn := hb.1
  refine ⟨bn b + 1, ?_⟩
  have loop : ∀ (f i : Nat) (σ' : PS), i ≤ bn b → bn b - i < f → Off [1] σ σ' → mB 1 (stB b a v i) σ' → LX12_shutAll_36 f a z (ctS b a v i) i σ' Φ := by
    intro f
    induction f with
    | zero => intro i σ' h1 h2; omega
    | succ f ih =>
      intro i σ' hi hf o' hM'
      have c2 : σ' 1 2 = (bn b : Int) := by rw [hM'.1, st_n]
      have hct := ct_rg (b := b) (a := a) (v := v) i
      have ei : (i : Int) + 1 = ((i + 1 : Nat) : Int) := by omega
      unfold LX12_shutAll_36 BX12_shutAll_36
      rw [c2]
      refine ⟨fun c => ?_, fun c => ?_⟩
      · have e : i = bn b := by omega
        subst e
        exact h σ' o' hM'
      · have hlt : i < bn b := by omega
        have hok := stb_ok (v := v) hb ha i hi
        refine ⟨fun c => ?_, fun c => ?_⟩
        · have q : ¬ (v i = true ∧ ¬ bB (stB b a v i) i 5 = a) := fun q => c ((bit_is (by omega)).mpr ((hz.2 i).mpr ⟨hlt, q.1⟩))
          unfold LX12_shutAll_77
          rw [ei]
          refine ⟨⟨by omega, by omega⟩, ?_⟩
          have := ih (i + 1) σ' (by omega) (by omega) o' (by rw [stB, if_neg q]; exact hM')
          rw [ctS, if_neg q, Int.add_zero] at this
          exact this
        · have hv : v i = true := ((hz.2 i).mp ((bit_is (by omega)).mp c)).2
          refine m_becomes (a := i) (w := 5) rfl rfl hok hM' (by rw [st_n]; exact hlt) (by omega) (fun σ4 o4 h4 => ⟨fun d1 => ?_, fun d1 => ?_⟩)
          · unfold LX12_shutAll_75
            refine ⟨⟨by omega, by omega⟩, fun v2 g2 => ?_⟩
            unfold LX12_shutAll_77
            rw [ei]
            refine ⟨⟨by omega, by omega⟩, ?_⟩
            have := ih (i + 1) σ4 (by omega) (by omega) (o'.trans o4) (by rw [stB, if_pos ⟨hv, d1⟩]; exact h4)
            rw [ctS, if_pos ⟨hv, d1⟩, ← g2] at this
            exact this
          · have q : ¬ (v i = true ∧ ¬ bB (stB b a v i) i 5 = a) := fun q => q.2 d1
            unfold LX12_shutAll_75
            refine ⟨⟨by omega, by omega⟩, fun v2 g2 => ?_⟩
            unfold LX12_shutAll_77
            rw [ei]
            refine ⟨⟨by omega, by omega⟩, ?_⟩
            have h5 : mB 1 (stB b a v i) σ4 := by
              refine ⟨h4.1, h4.2.1, h4.2.2.1, fun e he w hw => ?_⟩
              rw [h4.2.2.2 e he w hw]
              show (if e = i ∧ w = 5 then a else bB (stB b a v i) e w) = _
              by_cases y : e = i ∧ w = 5
              · rw [if_pos y, y.1, y.2, d1]
              · rw [if_neg y]
            have := ih (i + 1) σ4 (by omega) (by omega) (o'.trans o4) (by rw [stB, if_neg q]; exact h5)
            rw [ctS, if_neg q, ← g2] at this
            exact this
  exact loop (bn b + 1) 0 σ (by omega) (by omega) Off.rf hM
end CondA
theorem p_shutAll (a1 : Int) : PT (FX11_shutAll a1) (FX12_shutAll a1) := by
  intro d σc σm hd hC hM
  have hn := hd.1.1
  have body : a1 = 0 ∨ a1 = 1 → FX11_takeCondition σc (fun z4 σ5 => ((σ5 9 3 < 0 → ∃ n, LX11_shutAll_40 n a1 z4 0 0 σ5 (fun r σc' => FX12_shutAll a1 σm (fun r2 σm' => r = r2 ∧ ∃ d', okD d' ∧ CR d' σc' ∧ MR d' σm'))) ∧ (¬ σ5 9 3 < 0 → Rg ((-100) - (σ5 9 3)) ∧ FX12_shutAll a1 σm (fun r2 σm' => (-100) - (σ5 9 3) = r2 ∧ ∃ d', okD d' ∧ CR d' σ5 ∧ MR d' σm')))) := fun ha => by
    refine c_take (xE_rg hd.1) hd hC (fun v z σc' e C' c3 hz => ?_) (fun q z σc' hq e C' c3 => ?_)
    · rw [c3]
      refine ⟨fun _ => c_shut (v := v) (a := a1) hd.1 hz C'.1 (fun σc2 o2 h2 hf hB => ?_), fun c => by omega⟩
      unfold FX12_shutAll
      refine m_in (fun x y => ⟨fun _ => ?_, fun c => by omega⟩) (fun x => absurd (by omega) x)
      refine m_meant hd hM (fun v2 z2 σm' e2 M' c31 hz2 => ?_) (fun q σm' e2 _ _ => by rw [e] at e2; cases e2)
      have ev : v2 = v := Sum.inr.inj (e2.symm.trans e)
      subst ev
      rw [c31]
      refine ⟨fun _ => m_shut (v := v2) ha hd.1 hz2 M'.1 (fun σm2 o3 hB2 => ⟨rfl, _, (okD_E hd).gates (stb_ok hd.1 ha _ (Nat.le_refl _)), C'.gates o2 h2 hf hB, M'.gates o3 hB2⟩), fun c => by omega⟩
    · rw [c3]
      refine ⟨fun c => by omega, fun _ => ⟨⟨by omega, by omega⟩, ?_⟩⟩
      unfold FX12_shutAll
      refine m_in (fun x y => ⟨fun _ => ?_, fun c => by omega⟩) (fun x => absurd (by omega) x)
      refine m_meant hd hM (fun v2 z2 σm' e2 _ _ _ => by rw [e] at e2; cases e2) (fun q2 σm' e2 M' c31 => ?_)
      have eq2 : q2 = q := Sum.inl.inj (e2.symm.trans e)
      subst eq2
      rw [c31]
      exact ⟨fun c => by omega, fun _ => ⟨⟨by omega, by omega⟩, rfl, dE d, okD_E hd, C', M'⟩⟩
  unfold FX11_shutAll FX11_isOneOrZero
  refine ⟨fun c => ⟨fun _ => body (Or.inl c), fun y => by omega⟩, fun c => ⟨fun c1 => ⟨fun y => absurd rfl y, fun _ => ?_⟩, fun c1 => ⟨fun _ => body (Or.inr c1), fun y => by omega⟩⟩⟩
  unfold FX12_shutAll
  exact m_in (fun x y => by omega) (fun x => ⟨fun y => absurd rfl y, fun _ => ⟨rfl, d, hd, hC, hM⟩⟩)
