theorem le_cmp {n p : Nat} {t : Nat → Int} (ht : okt n t) (hp : p ≤ n) : LEr n (fun r : (Nat × Int × Int) × Nat => r.2) (cmpP n t p) := by
  refine le_bnd (pos := fun r : Nat × Nat => r.2) ?_ (fun w hw => le_bnd (pos := fun r : Int × Nat => r.2) ?_ (fun s hs => le_bnd (le_rng ht hs) (fun v hv => hv)))
  · unfold wrdP
    cases wrdS n t p (ltrP n t p) 8 0 with
    | none => exact hp
    | some w => exact (ltrP_is ht hp).1.2
  · unfold sgnP
    by_cases q : byT n t w.2 = 60 ∨ byT n t w.2 = 61 ∨ byT n t w.2 = 62
    · rw [if_pos q]; exact (by_rng ht w.2).2.2 (by omega)
    · rw [if_neg q]; exact hw
theorem le_tl {n : Nat} {t : Nat → Int} {c : Int} {op : Bool → Bool → Bool} {Q : Nat → Sum Nat ((Nat → Bool) × Nat)} (ht : okt n t) (hc : 0 < c) (hQ : ∀ p, p ≤ n → LEr n (fun r : (Nat → Bool) × Nat => r.2) (Q p)) : ∀ (f : Nat) (v : Nat → Bool) (p : Nat), p ≤ n → LEr n (fun r : (Nat → Bool) × Nat => r.2) (tlP n t c op Q f v p) := by
  intro f
  induction f with
  | zero => intro v p hp; exact hp
  | succ f ih =>
    intro v p hp
    rw [tlP]
    by_cases q : byT n t p = c
    · rw [if_pos q]
      exact le_bnd (hQ (p + 1) ((by_rng ht p).2.2 (by omega))) (fun a ha => ih _ _ ha)
    · rw [if_neg q]; exact hp
theorem le_parC {n : Nat} {t : Nat → Int} {b : Bk} {x : Nat → Int} (ht : okt n t) : ∀ (d k dep p : Nat), p ≤ n → LEr n (fun r : (Nat → Bool) × Nat => r.2) (parC n t b x d k dep p) := by
  intro d
  induction d with
  | zero => intro k dep p hp; exact hp
  | succ d ih =>
    intro k dep p hp
    match k with
    | 0 => exact le_bnd (ih 1 dep p hp) (fun a ha => le_tl ht (by omega) (fun p hp => ih 1 dep p hp) _ _ _ ha)
    | 1 => exact le_bnd (ih 2 dep p hp) (fun a ha => le_tl ht (by omega) (fun p hp => ih 2 dep p hp) _ _ _ ha)
    | k + 2 =>
      rw [parC]
      by_cases q : byT n t p = 33
      · rw [if_pos q]
        exact le_bnd (ih 2 dep (p + 1) ((by_rng ht p).2.2 (by omega))) (fun a ha => ha)
      · rw [if_neg q]
        by_cases q2 : byT n t p = 40 ∧ dep < 5
        · rw [if_pos q2]
          exact le_bnd (ih 0 (dep + 1) (p + 1) ((by_rng ht p).2.2 (by omega))) (fun a ha => le_bnd (le_exp ht (by omega) ha) (fun p2 h2 => h2))
        · rw [if_neg q2]
          exact le_bnd (le_cmp ht hp) (fun a ha => ha)
      all_goals omega
def cndP (n : Nat) (t : Nat → Int) (b : Bk) (x : Nat → Int) : Sum Nat (Nat → Bool) := bnd (parC n t b x 400 0 0 0) (fun r => if n ≤ r.2 then .inr r.1 else .inl r.2)
theorem cnd_le {n : Nat} {t : Nat → Int} {b : Bk} {x : Nat → Int} {q : Nat} (ht : okt n t) (h : cndP n t b x = .inl q) : q ≤ n := by
  have l := le_parC (b := b) (x := x) ht 400 0 0 0 (by omega)
  unfold cndP at h
  cases hp : parC n t b x 400 0 0 0 with
  | inl z =>
    rw [hp] at h l
    have h : (Sum.inl z : Sum Nat (Nat → Bool)) = Sum.inl q := h
    cases h
    exact l
  | inr r =>
    rw [hp] at h l
    have l : r.2 ≤ n := l
    have h : (if n ≤ r.2 then (Sum.inr r.1 : Sum Nat (Nat → Bool)) else .inl r.2) = .inl q := h
    by_cases c : n ≤ r.2
    · rw [if_pos c] at h; cases h
    · rw [if_neg c] at h; cases h; exact l
section Cond8
variable {d : DS} {b : Bk} {n : Nat} {t : Nat → Int} {x : Nat → Int} {g : Int} {σ : PS} {Φ : Int → PS → Prop}
theorem c_freshWays2 (hd : okD d) (hR : CR d σ) (h : ∀ σ' : PS, CR d σ' → CWD (T0 (dB d)) σ' → σ' 9 = σ 9 → Φ 3 σ') : FX11_freshWays σ Φ := by
  unfold FX11_freshWays
  obtain ⟨h1, h2, h3, h4, h5, h6, h7, h8, h10⟩ := id hR
  refine ⟨fun c => h σ hR (h6 c) rfl, fun c => ?_⟩
  refine c_run (okT_T0 hd.1) (CN_TN hd.1 h1) (CU_T0 h1) (fun σ3 a1 a2 σ4 g4 => ?_)
  obtain ⟨a3, a4, a5, a6⟩ := a1
  have o4 : Off [0] σ3 σ4 := by rw [g4]; exact Off.rf.up (by simp)
  have o : Off [0, 3, 25, 26, 27, 28, 29, 30, 31] σ σ4 := (a5.mono (by simp)).trans (o4.mono (by simp))
  have e0 : ∀ i, i ≠ 4 → σ4 0 i = σ 0 i := fun i hi => by rw [g4, up2_ni hi, a5 0 (by simp)]
  have w4 : CWD (T0 (dB d)) σ4 := a2.off o4 (by simp)
  refine h σ4 ⟨h1.off o (by simp) (fun w hw => by simp; omega), h2.off o (e0 2 (by omega)) (by simp), ?_, ?_, ?_, fun _ => w4, fun c2 => ?_, fun c2 => ?_, fun c2 => ?_⟩ w4 (o 9 (by simp))
  · rw [o 9 (by simp), o 57 (by simp)]; exact h3
  · rw [o 11 (by simp), o 61 (by simp)]; exact h4
  · rw [o 62 (by simp), o 63 (by simp)]; exact h5
  · rw [e0 6 (by omega)] at c2; exact (h7 c2).off o (by simp)
  · rw [e0 8 (by omega)] at c2; exact (h8 c2).off o (by simp)
  · rw [e0 10 (by omega)] at c2; exact (h10 c2).off o (by simp)
theorem msk_bit {c i : Nat} (hc : c ≤ 30) (hi : i < 32) : tb (ishl 1 (c : Int) - 1) i = decide (i < c) := by
  have h := all_bits c (by omega) i hi
  rw [bt_not hi] at h
  by_cases q : i < c
  · rw [decide_eq_true q]
    rw [decide_eq_false (by omega)] at h
    cases hb : tb (ishl 1 (c : Int) - 1) i
    · rw [hb] at h; cases h
    · rfl
  · rw [decide_eq_false q]
    rw [decide_eq_true (by omega)] at h
    cases hb : tb (ishl 1 (c : Int) - 1) i
    · rfl
    · rw [hb] at h; cases h
theorem c_holding (hb : okB b) (hx : ∀ e, e < bn b → 0 ≤ x e ∧ x e ≤ 999) (ht : okt n t) (hS : TC n t 0 (-1) σ) (hH : HB b x σ) (h1 : ∀ (v : Nat → Bool) (p' : Nat) (z : Int) (σ' : PS), cndP n t b x = .inr v → Off OC σ σ' → TC n t p' (-1) σ' → bP (bn b) z (fun e => v e = true) → Φ z σ') (h0 : ∀ (q p' : Nat) (z : Int) (σ' : PS), cndP n t b x = .inl q → Off OC σ σ' → TC n t p' q σ' → Φ z σ') : FX2_holding σ Φ := by
  have hn := hb.1
  have hn90 := ht.1
  have F : ∀ (q p' : Nat) (σ' : PS), cndP n t b x = .inl q → Off OC σ σ' → TC n t p' q σ' → LX2_holding_101 σ' Φ := fun q p' σ' e o' S' => by
    have hC' := (hH.off o').1
    have c6 : σ' 1 6 = (bn b : Int) := hC'.1
    unfold LX2_holding_101 FX3_allBits
    rw [c6]
    exact ⟨all_rg _ (by omega), h0 q p' _ σ' e o' S'⟩
  unfold FX2_holding
  refine c_begB (dep := 0) rfl (by omega) (fun σ1 o1 q10 _ q58 q59 q60 => ⟨92, ?_⟩)
  have o01 : Off OC σ σ1 := o1.mono (by simp)
  refine c_par hb hx ht 400 0 0 0 92 0 σ1 (by omega) (by omega) (by omega) (hS.off o1 (by simp) (by simp)) (hH.off o01) q10 ⟨Or.inl q60, fun _ => q60, fun _ e he => by rw [q59]; exact all_m1 (by omega)⟩ (by omega) (by omega) (fun v p' f' x5' σ' e' o' S' l' r' hx' hf' => ?_) (fun q p' σ' e' o' S' => ?_)
  · have hne := ne_0 (n := n) (t := t) (b := b) (x := x) 400 0 0
    rw [e'] at hne
    have hne : byT n t p' ≠ 38 ∧ byT n t p' ≠ 124 := hne
    have hp' := S'.2.2.2.2
    have ec : cndP n t b x = if n ≤ p' then .inr v else .inl p' := by unfold cndP; rw [e']; rfl
    refine c_due0 S' ht hx' hf' (fun c => ?_) (fun c f4 hf4 => ?_)
    · rw [if_pos (by omega)] at ec
      have hC' := (hH.off (o01.trans o')).1
      have c6 : σ' 1 6 = (bn b : Int) := hC'.1
      unfold LX2_holding_86
      rw [l'.1]
      refine ⟨fun _ => ?_, fun c => by omega⟩
      unfold LX2_holding_101 FX3_allBits
      rw [c6]
      refine ⟨all_rg _ (by omega), h1 v p' _ σ' ec (o01.trans o') S' ⟨rg_and _ _, fun i => ?_⟩⟩
      by_cases hi : i < 32
      · rw [bt_and, bt_or, msk_bit hn hi]
        by_cases q : i < bn b
        · have := r'.1 rfl i q
          rw [q58, bt_0, Bool.false_or] at this
          rw [this, decide_eq_true q, Bool.and_true]
          exact ⟨fun y => ⟨q, y⟩, fun y => y.2⟩
        · rw [decide_eq_false q, Bool.and_false]
          exact ⟨fun y => Bool.noConfusion y, fun y => absurd y.1 q⟩
      · rw [bt_big hi]
        exact ⟨fun y => Bool.noConfusion y, fun y => by omega⟩
    · rw [if_neg (by omega)] at ec
      exact c_jBad (dep := 0) S' ht hne.1 hne.2 l'.1 (Or.inl rfl) (fun σ2 o2 S2 => c_loopF (by omega) S2 (F p' p' σ2 ec (o01.trans (o'.trans (oc9 o2))) S2))
  · exact F q p' σ' (by unfold cndP; rw [e']; rfl) (o01.trans o') S'
abbrev dE (d : DS) : DS := (dB d, dI d, (0, dTb d), d.2.2.2)
noncomputable abbrev cnd (d : DS) : Sum Nat (Nat → Bool) := cndP (dTn d) (dTb d) (dB d) (xE (T0 (dB d)))
theorem okD_E (hd : okD d) : okD (dE d) := ⟨hd.1, hd.2.1, ⟨by show 0 ≤ 90; omega, fun i hi => absurd hi (by show ¬ i < 0; omega)⟩, hd.2.2.2⟩
theorem c_take (hx : ∀ e, e < bn (dB d) → 0 ≤ xE (T0 (dB d)) e ∧ xE (T0 (dB d)) e ≤ 999) (hd : okD d) (hR : CR d σ) (h1 : ∀ (v : Nat → Bool) (z : Int) (σ' : PS), cnd d = .inr v → CR (dE d) σ' → σ' 9 3 = -1 → bP (bn (dB d)) z (fun e => v e = true) → Φ z σ') (h0 : ∀ (q : Nat) (z : Int) (σ' : PS), q ≤ 90 → cnd d = .inl q → CR (dE d) σ' → σ' 9 3 = (q : Int) → Φ z σ') : FX11_takeCondition σ Φ := by
  have hn90 := hd.2.2.1.1
  unfold FX11_takeCondition FX9_begin
  intro σ1 g1 σ2 g2
  have o2 : Off [9] σ σ2 := by rw [g2, g1]; exact (Off.rf.up (by simp)).up (by simp)
  have e91 : σ2 9 1 = σ 9 1 := by rw [g2, up2_ni (by omega), g1, up2_ni (by omega)]
  have hR2 : CR d σ2 := hR.off o2 (fun i _ => by rw [o2 0 (by simp)]) e91 (by simp)
  refine c_freshWays2 hd hR2 (fun σ4 hR4 hw e9 => ⟨rfl, ?_⟩)
  have S4 : TC (dTn d) (dTb d) 0 (-1) σ4 := by
    refine ⟨hR4.2.2.1.1, hR4.2.2.1.2, ?_, ?_, by omega⟩
    · rw [e9, g2, up2_ni (by omega), g1, up2_at]; rfl
    · rw [e9, g2, up2_at]
  have fin : ∀ (p' : Nat) (f : Int) (σ6 σ7 : PS), Off OC σ4 σ6 → TC (dTn d) (dTb d) p' f σ6 → σ7 = up2 σ6 9 1 0 → CR (dE d) σ7 ∧ σ7 9 3 = f := fun p' f σ6 σ7 o6 S6 g7 => by
    have h6 : CR d σ6 := hR4.off o6 (fun i _ => by rw [o6 0 (by simp)]) (by rw [S6.1, S4.1]) (by simp)
    refine ⟨h6.tape (by rw [g7]; exact Off.rf.up (by simp)) ⟨by rw [g7, up2_at]; rfl, fun i hi => by omega⟩, by rw [g7, up2_ni (by omega)]; exact S6.2.2.2.1⟩
  refine c_holding hd.1 hx hd.2.2.1 S4 ⟨hR4.1, hw.2.2.2.1⟩ (fun v p' z σ6 e o6 S6 hz σ7 g7 => ?_) (fun q p' z σ6 e o6 S6 σ7 g7 => ?_)
  · obtain ⟨a1, a2⟩ := fin p' (-1) σ6 σ7 o6 S6 g7
    exact h1 v z σ7 e a1 a2 hz
  · obtain ⟨a1, a2⟩ := fin p' q σ6 σ7 o6 S6 g7
    exact h0 q z σ7 (Nat.le_trans (cnd_le hd.2.2.1 e) hn90) e a1 a2
end Cond8
