def gsf (b : Bk) (v : Nat → Int) (k : Int) (e : Nat) : Int := (if bB b e 0 = k then v e else 0) - (if bB b e 1 = k then v e else 0)
def gs (b : Bk) (v : Nat → Int) (k : Int) : Int := sm (gsf b v k) (bn b)
def bad (b : Bk) (v : Nat → Int) (e : Nat) : Prop := ¬ (0 ≤ v e ∧ v e ≤ capB b e)
def odd (b : Bk) (v : Nat → Int) (k : Nat) : Prop := k ≠ bs b ∧ k ≠ bz b ∧ gs b v k ≠ 0
def lea (n : Nat) (p : Nat → Prop) (k : Nat) : Prop := k < n ∧ p k ∧ ∀ h, h < k → ¬ p h
theorem lea.one {n : Nat} {p : Nat → Prop} {k h : Nat} (a : lea n p k) (c : lea n p h) : k = h := by
  rcases Nat.lt_trichotomy k h with z | z | z
  · exact absurd a.2.1 (c.2.2 k z)
  · exact z
  · exact absurd c.2.1 (a.2.2 h z)
def JD2 (b : Bk) (v : Nat → Int) (r : Int) : Prop := (∃ k : Nat, lea 12 (odd b v) k ∧ r = 100 + k) ∨ ((∀ k, k < 12 → ¬ odd b v k) ∧ r = 100000 + gs b v (bs b))
def JD (b : Bk) (v : Nat → Int) (r : Int) : Prop := (∃ e : Nat, lea (bn b) (bad b v) e ∧ r = e) ∨ ((∀ e, e < bn b → ¬ bad b v e) ∧ JD2 b v r)
theorem JD.one {b : Bk} {v : Nat → Int} {r q : Int} (h : JD b v r) (g : JD b v q) : r = q := by
  rcases h with ⟨e, h1, h2⟩ | ⟨h1, h2⟩ <;> rcases g with ⟨f, g1, g2⟩ | ⟨g1, g2⟩
  · rw [h2, g2, h1.one g1]
  · exact absurd h1.2.1 (g1 e h1.1)
  · exact absurd g1.2.1 (h1 f g1.1)
  · rcases h2 with ⟨k, a1, a2⟩ | ⟨a1, a2⟩ <;> rcases g2 with ⟨j, c1, c2⟩ | ⟨c1, c2⟩
    · rw [a2, c2, a1.one c1]
    · exact absurd a1.2.1 (c1 k a1.1)
    · exact absurd c1.2.1 (a1 j c1.1)
    · rw [a2, c2]
theorem gs_bd {b : Bk} {v : Nat → Int} {k : Int} (hb : okB b) (hv : ∀ e, e < bn b → ¬ bad b v e) {i : Nat} (hi : i ≤ bn b) : -(999 * (i : Int)) ≤ sm (gsf b v k) i ∧ sm (gsf b v k) i ≤ 999 * (i : Int) := by
  have h : ∀ e, e < i → -999 ≤ gsf b v k e ∧ gsf b v k e ≤ 999 := fun e he => by
    have h1 := hv e (by omega)
    have h2 := capB_rng hb (show e < bn b by omega)
    unfold bad at h1
    have h3 : 0 ≤ v e ∧ v e ≤ capB b e := Classical.byContradiction h1
    unfold gsf
    by_cases q : bB b e 0 = k <;> by_cases q2 : bB b e 1 = k <;> simp only [q, q2, if_true, if_false] <;> omega
  have h1 := sm_ub (f := gsf b v k) (b := 999) (n := i) (fun e he => (h e he).2)
  have h2 := sm_ub (f := fun e => -gsf b v k e) (b := 999) (n := i) (fun e he => by have := (h e he).1; show -gsf b v k e ≤ 999; omega)
  rw [sm_neg] at h2
  omega
section Judge
variable {d : DS} {b : Bk} {σ : PS} {Φ : Int → PS → Prop}
theorem c_value {l : Nat} {i : Int} {v : Nat → Int} {e : Nat} (hl : l < 4) (hR : CR d σ) (hL : okD d) (hi : 0 ≤ i ∧ i < dLn d l) (hv : dLi d (40 * l + i.toNat) = v e) (h : Φ (v e) σ) : FX4_value l i σ Φ := by
  have e1 := hR.2.2.2.2.1 l hl
  have b4 := hL.2.2.2.2 l hl
  unfold FX4_value
  refine c_hasPlace hl e1.1 (fun _ _ => ⟨fun c => by omega, fun _ => ⟨⟨by omega, by omega⟩, ⟨by omega, by omega⟩, ⟨by omega, by omega⟩, ?_⟩⟩) (fun c => absurd hi c)
  rw [show ((l : Int) * 40 + i).toNat = 40 * l + i.toNat by omega, e1.2 _ (by omega), hv]
  exact h
theorem c_goes {l j : Nat} {k : Int} {v : Nat → Int} (hl : l < 4) (hd : okD d) (hC : CR d σ) (hj : bn (dB d) = 0 ∨ (j : Int) + bn (dB d) ≤ dLn d l) (hj2 : j ≤ 2147483647) (hv : ∀ e, v e = dLi d (40 * l + (j + e))) (hok : ∀ e, e < bn (dB d) → ¬ bad (dB d) v e) (h : Φ (gs (dB d) v k) σ) : FX4_goesLessComes l j k σ Φ := by
  have hn := hd.1.1
  have b4 := hd.2.2.2.2 l hl
  refine ⟨bn (dB d) + 1, ?_⟩
  have loop : ∀ (f i : Nat), i ≤ bn (dB d) → bn (dB d) - i < f → LX4_goesLessComes_6 f l j k (sm (gsf (dB d) v k) i) i σ Φ := by
    intro f
    induction f with
    | zero => intro i h1 h2; omega
    | succ f ih =>
      intro i hi hf
      have bd := gs_bd (k := k) hd.1 hok hi
      unfold LX4_goesLessComes_6 BX4_goesLessComes_6
      rw [hC.1.1]
      refine ⟨fun c => ?_, fun c => ⟨⟨by omega, by omega⟩, ?_⟩⟩
      · have e : i = bn (dB d) := by omega
        rw [e]; exact h
      · have hi2 : i < bn (dB d) := by omega
        have h1 := hok i hi2
        have h2 := capB_rng hd.1 hi2
        unfold bad at h1
        have h3 : 0 ≤ v i ∧ v i ≤ capB (dB d) i := Classical.byContradiction h1
        have nx := ih (i + 1) (by omega) (by omega)
        refine c_value (v := v) (e := i) hl hC hd (by omega) (by rw [hv, show ((j : Int) + (i : Int)).toNat = j + i by omega]) ?_
        rw [show ((i : Nat) : Int).toNat = i by omega, show σ 13 i = bB (dB d) i 0 from hC.1.2.2.2 i hi2 0 (by omega)]
        have fin : ∀ z : Int, z = (if bB (dB d) i 0 = k then v i else 0) → LX4_goesLessComes_46 (fun x1 x2 x4 x5 x6 σ => LX4_goesLessComes_6 f x1 x2 x4 x5 x6 σ Φ) l j k i (v i) (sm (gsf (dB d) v k) i) z σ Φ := fun z hz => by
          have hz2 : 0 ≤ z ∧ z ≤ 999 := by
            rw [hz]; split <;> omega
          refine ⟨⟨by omega, by omega⟩, fun v2 g2 => ⟨⟨by omega, by omega⟩, ?_⟩⟩
          rw [show ((i : Nat) : Int).toNat = i by omega, show σ 14 i = bB (dB d) i 1 from hC.1.2.2.2 i hi2 1 (by omega)]
          rw [sm, gsf, ← hz] at nx
          refine ⟨fun c2 => ⟨⟨by omega, by omega⟩, fun v3 g3 => ⟨⟨by omega, by omega⟩, ?_⟩⟩, fun c2 => ⟨⟨by omega, by omega⟩, fun v3 g3 => ⟨⟨by omega, by omega⟩, ?_⟩⟩⟩
          · rw [if_neg c2] at nx
            rw [g3, g2, show sm (gsf (dB d) v k) i + z - 0 = sm (gsf (dB d) v k) i + (z - 0) by omega]; exact nx
          · rw [if_pos c2] at nx
            rw [g3, g2, show sm (gsf (dB d) v k) i + z - v i = sm (gsf (dB d) v k) i + (z - v i) by omega]; exact nx
        exact ⟨⟨by omega, by omega⟩, fun c2 => fin 0 (by rw [if_neg c2]), fun c2 => fin (v i) (by rw [if_pos c2])⟩
  exact loop (bn (dB d) + 1) 0 (by omega) (by omega)
theorem c_judged {l j : Nat} {v : Nat → Int} (hl : l < 4) (hd : okD d) (hC : CR d σ) (hj : bn (dB d) = 0 ∨ (j : Int) + bn (dB d) ≤ dLn d l) (hj2 : j ≤ 2147483647) (hv : ∀ e, v e = dLi d (40 * l + (j + e))) (h : ∀ r, JD (dB d) v r → Φ r σ) : LX4_judged_31 l j σ Φ := by
  have hn := hd.1.1
  have b4 := hd.2.2.2.2 l hl
  have nodes : (∀ e, e < bn (dB d) → ¬ bad (dB d) v e) → ∀ (f k : Nat), k ≤ 12 → 12 - k < f → (∀ i, i < k → ¬ odd (dB d) v i) → LX4_judged_82 f l j k σ Φ := fun hok f => by
    induction f with
    | zero => intro k h1 h2; omega
    | succ f ih =>
      intro k hk hf hno
      unfold LX4_judged_82 BX4_judged_82
      rw [hC.1.2.1, hC.1.2.2.1]
      have nx : ¬ odd (dB d) v k → ¬ 12 ≤ k → LX4_judged_125 (fun x1 x2 x4 σ => LX4_judged_82 f x1 x2 x4 σ Φ) l j k σ Φ := fun q c => ⟨⟨by omega, by omega⟩, ih (k + 1) (by omega) (by omega) (fun i hi => by
        by_cases z : i = k
        · rw [z]; exact q
        · exact hno i (by omega))⟩
      refine ⟨fun c => c_goes hl hd hC hj hj2 hv hok ?_, fun c => ⟨fun c2 => nx (fun z => z.1 (by omega)) (by omega), fun c2 => ⟨fun c3 => nx (fun z => z.2.1 (by omega)) (by omega), fun c3 => c_goes hl hd hC hj hj2 hv hok ⟨fun c4 => nx (fun z => z.2.2 c4) (by omega), fun c4 => ⟨⟨by omega, by omega⟩, h _ (Or.inr ⟨hok, Or.inl ⟨k, ⟨by omega, ⟨by omega, by omega, c4⟩, hno⟩, rfl⟩⟩)⟩⟩⟩⟩⟩
      have bd := gs_bd (k := (bs (dB d) : Int)) hd.1 hok (Nat.le_refl _)
      have e : gs (dB d) v (bs (dB d)) = sm (gsf (dB d) v (bs (dB d))) (bn (dB d)) := rfl
      exact ⟨⟨by omega, by omega⟩, h _ (Or.inr ⟨hok, Or.inr ⟨fun i hi => hno i (by omega), rfl⟩⟩)⟩
  refine ⟨bn (dB d) + 1, ?_⟩
  have loop : ∀ (f i : Nat), i ≤ bn (dB d) → bn (dB d) - i < f → (∀ e, e < i → ¬ bad (dB d) v e) → LX4_judged_34 f l j i σ Φ := by
    intro f
    induction f with
    | zero => intro i h1 h2; omega
    | succ f ih =>
      intro i hi hf hno
      unfold LX4_judged_34 BX4_judged_34
      rw [hC.1.1]
      refine ⟨fun c => ⟨13, nodes (fun e he => hno e (by omega)) 13 0 (by omega) (by omega) (fun i hi => by omega)⟩, fun c => ⟨⟨by omega, by omega⟩, ?_⟩⟩
      have hi2 : i < bn (dB d) := by omega
      have yes : bad (dB d) v i → Φ i σ := fun q => h _ (Or.inl ⟨i, ⟨hi2, q, hno⟩, rfl⟩)
      refine c_value (v := v) (e := i) hl hC hd (by omega) (by rw [hv, show ((j : Int) + (i : Int)).toNat = j + i by omega]) ⟨fun c2 => yes (fun z => by omega), fun c2 => c_usable rfl (CN_TN (lim := capB (dB d)) hd.1 hC.1) (CU_T0 hC.1) hn hi2 ⟨fun c3 => ⟨⟨by omega, by omega⟩, ?_⟩, fun c3 => yes (fun z => c3 z.2)⟩⟩
      exact ih (i + 1) (by omega) (by omega) (fun e he => by
        by_cases z : e = i
        · rw [z]; exact fun q => q ⟨by omega, c3⟩
        · exact hno e (by omega))
  exact loop (bn (dB d) + 1) 0 (by omega) (by omega) (fun e he => by omega)
theorem m_judged {l j : Nat} {v : Nat → Int} (hl : l < 4) (hd : okD d) (hM : MR d σ) (hj : bn (dB d) = 0 ∨ (j : Int) + bn (dB d) ≤ dLn d l) (hv : ∀ e, v e = dLi d (40 * l + (j + e))) (h : ∀ r, JD (dB d) v r → Φ r σ) : LX12_judge_57 l j σ Φ := by
  have hn := hd.1.1
  have b4 := hd.2.2.2.2 l hl
  have e26 := (hM.2.2.2.2 l hl).2
  refine ⟨⟨by omega, by omega⟩, fun v2 g2 => ⟨bn (dB d) + 1, ?_⟩⟩
  have rd : ∀ i, i < bn (dB d) → v2 = 40 * l + j ∧ σ 26 (v2 + (i : Int)).toNat = v i := fun i hi => by
    have e : v2 = 40 * l + j := by
      rw [g2]
      exact iwrap_id (by constructor <;> omega)
    refine ⟨e, ?_⟩
    rw [e, show (40 * (l : Int) + (j : Int) + (i : Int)).toNat = 40 * l + (j + i) by omega, hv]
    exact e26 (j + i) (by omega)
  have inner : (∀ e, e < bn (dB d) → ¬ bad (dB d) v e) → ∀ (K : Int → Int → Int → Int → PS → Prop) (x4 x5 : Int) (k : Nat), k < 12 → (K v2 (if (k : Int) = bs (dB d) then gs (dB d) v k else x4) (if odd' : (k ≠ bs (dB d) ∧ k ≠ bz (dB d) ∧ gs (dB d) v k ≠ 0) then (k : Int) else x5) ((k : Int) - 1) σ) → ∀ (f i : Nat), i ≤ bn (dB d) → bn (dB d) - i < f → LX12_judge_130 K f v2 x4 x5 k (sm (gsf (dB d) v k) i) i σ Φ := fun hok K x4 x5 k hk hK f => by
    induction f with
    | zero => intro i h1 h2; omega
    | succ f ih =>
      intro i hi hf
      have bd := gs_bd (k := (k : Int)) hd.1 hok hi
      unfold LX12_judge_130 BX12_judge_130
      rw [hM.1.1, hM.1.2.1]
      refine ⟨fun c => ?_, fun c => ?_⟩
      · have e : i = bn (dB d) := by omega
        have eg : sm (gsf (dB d) v k) i = gs (dB d) v k := by rw [e]; rfl
        rw [eg]
        have fin : ∀ z : Int, z = (if (k : Int) = bs (dB d) then gs (dB d) v k else x4) → LX12_judge_220 K v2 x5 k (gs (dB d) v k) z σ Φ := fun z hz => by
          unfold LX12_judge_220 LX12_judge_254 LX12_judge_256
          rw [hM.1.2.1, hM.1.2.2.1]
          rw [← hz] at hK
          have e1 : (k : Int) + -1 = (k : Int) - 1 := by omega
          rw [e1]
          refine ⟨fun c1 => ⟨⟨by omega, by omega⟩, ?_⟩, fun c1 => ⟨fun c2 => ⟨⟨by omega, by omega⟩, ?_⟩, fun c2 => ⟨fun c3 => ⟨⟨by omega, by omega⟩, ?_⟩, fun c3 => ⟨⟨by omega, by omega⟩, ?_⟩⟩⟩⟩
          · rw [dif_neg (fun q => q.1 (by omega))] at hK; exact hK
          · rw [dif_neg (fun q => q.2.1 (by omega))] at hK; exact hK
          · rw [dif_neg (fun q => q.2.2 c3)] at hK; exact hK
          · rw [dif_pos ⟨by omega, by omega, c3⟩] at hK; exact hK
        exact ⟨fun c1 => fin x4 (by rw [if_neg c1]), fun c1 => fin _ (by rw [if_pos c1])⟩
      · have hi2 : i < bn (dB d) := by omega
        have hG := okG_n (hd.1.2.2.2.2 i hi2)
        have h1 := hok i hi2
        have h2 := capB_rng hd.1 hi2
        unfold bad at h1
        have h3 : 0 ≤ v i ∧ v i ≤ capB (dB d) i := Classical.byContradiction h1
        have nx := ih (i + 1) (by omega) (by omega)
        obtain ⟨r1, r2⟩ := rd i hi2
        rw [sm, gsf] at nx
        refine m_at rfl rfl hd.1 hM.1 hi2 (w := 0) (by omega) ⟨fun c2 => m_at rfl rfl hd.1 hM.1 hi2 (w := 1) (by omega) ⟨fun c3 => ⟨⟨by omega, by omega⟩, fun v3 g3 => ⟨⟨by omega, by omega⟩, ?_⟩⟩, fun c3 => ⟨⟨by omega, by omega⟩, ⟨by omega, by omega⟩, ?_⟩⟩, fun c2 => ⟨⟨by omega, by omega⟩, ⟨by omega, by omega⟩, ?_⟩⟩
        · rw [if_neg c2, if_neg c3] at nx
          rw [g3]; exact nx
        · rw [r2]
          rw [if_neg c2, if_pos c3] at nx
          refine ⟨⟨by omega, by omega⟩, ⟨by omega, by omega⟩, fun v3 g3 => ⟨⟨by omega, by omega⟩, ?_⟩⟩
          rw [g3, show sm (gsf (dB d) v k) i + -v i = sm (gsf (dB d) v k) i + (0 - v i) by omega]; exact nx
        · rw [r2]
          rw [if_pos c2, if_neg (by omega)] at nx
          refine ⟨⟨by omega, by omega⟩, fun v3 g3 => ⟨⟨by omega, by omega⟩, ?_⟩⟩
          rw [g3, show sm (gsf (dB d) v k) i + v i = sm (gsf (dB d) v k) i + (v i - 0) by omega]; exact nx
  have nodes : (∀ e, e < bn (dB d) → ¬ bad (dB d) v e) → ∀ (f k : Nat) (x4 x5 : Int), k ≤ 12 → k < f → (bs (dB d) ≥ k → x4 = gs (dB d) v (bs (dB d))) → ((x5 = -1 ∧ ∀ i, k ≤ i → i < 12 → ¬ odd (dB d) v i) ∨ (∃ i : Nat, x5 = i ∧ k ≤ i ∧ i < 12 ∧ odd (dB d) v i ∧ ∀ h, k ≤ h → h < i → ¬ odd (dB d) v h)) → LX12_judge_119 f v2 x4 x5 ((k : Int) - 1) σ Φ := fun hok f => by
    induction f with
    | zero => intro k x4 x5 h1 h2; omega
    | succ f ih =>
      intro k x4 x5 hk hf hx4 hx5
      unfold LX12_judge_119 BX12_judge_119
      refine ⟨fun c => ?_, fun c => ?_⟩
      · have e : k = 0 := by omega
        subst e
        have bd := gs_bd (k := (bs (dB d) : Int)) hd.1 hok (Nat.le_refl _)
        have e : gs (dB d) v (bs (dB d)) = sm (gsf (dB d) v (bs (dB d))) (bn (dB d)) := rfl
        have h4 := hx4 (Nat.zero_le _)
        rcases hx5 with ⟨a1, a2⟩ | ⟨i, a1, a2, a3, a4, a5⟩
        · refine ⟨fun _ => ⟨⟨by omega, by omega⟩, h _ (Or.inr ⟨hok, Or.inr ⟨fun i hi => a2 i (by omega) hi, by rw [h4]⟩⟩)⟩, fun c => by omega⟩
        · refine ⟨fun c => by omega, fun _ => ⟨⟨by omega, by omega⟩, h _ (Or.inr ⟨hok, Or.inl ⟨i, ⟨a3, a4, fun h hh => a5 h (by omega) hh⟩, by rw [a1]⟩⟩)⟩⟩
      · obtain ⟨k', rfl⟩ : ∃ k', k = k' + 1 := ⟨k - 1, by omega⟩
        rw [show (((k' + 1 : Nat) : Int) - 1) = (k' : Int) by omega]
        refine ⟨bn (dB d) + 1, inner hok _ x4 x5 k' (by omega) ?_ (bn (dB d) + 1) 0 (by omega) (by omega)⟩
        refine ih k' _ _ (by omega) (by omega) (fun hge => ?_) ?_
        · by_cases q : (k' : Int) = bs (dB d)
          · rw [if_pos q, q]
          · rw [if_neg q]; exact hx4 (by omega)
        · by_cases q : k' ≠ bs (dB d) ∧ k' ≠ bz (dB d) ∧ gs (dB d) v k' ≠ 0
          · rw [dif_pos q]
            exact Or.inr ⟨k', rfl, Nat.le_refl _, by omega, q, fun h a b => by omega⟩
          · rw [dif_neg q]
            rcases hx5 with ⟨a1, a2⟩ | ⟨i, a1, a2, a3, a4, a5⟩
            · refine Or.inl ⟨a1, fun i hi hi2 => ?_⟩
              by_cases z : i = k'
              · rw [z]; exact q
              · exact a2 i (by omega) hi2
            · refine Or.inr ⟨i, a1, by omega, a3, a4, fun h x y => ?_⟩
              by_cases z : h = k'
              · rw [z]; exact q
              · exact a5 h (by omega) y
  have loop : ∀ (f i : Nat), i ≤ bn (dB d) → bn (dB d) - i < f → (∀ e, e < i → ¬ bad (dB d) v e) → LX12_judge_67 f v2 i σ Φ := by
    intro f
    induction f with
    | zero => intro i h1 h2; omega
    | succ f ih =>
      intro i hi hf hno
      unfold LX12_judge_67 BX12_judge_67
      rw [hM.1.1]
      refine ⟨fun c => ⟨13, ?_⟩, fun c => ?_⟩
      · have hok : ∀ e, e < bn (dB d) → ¬ bad (dB d) v e := fun e he => hno e (by omega)
        have := nodes hok 13 12 0 (-1) (by omega) (by omega) (fun c => by have := hd.1.2.1; omega) (Or.inl ⟨rfl, fun i a b => by omega⟩)
        exact this
      · have hi2 : i < bn (dB d) := by omega
        obtain ⟨r1, r2⟩ := rd i hi2
        refine ⟨⟨by omega, by omega⟩, ⟨by omega, by omega⟩, m_capacity rfl hd.1 hM.1 hi2 ?_⟩
        rw [r2]
        refine m_in (fun x y => ⟨fun _ => ⟨⟨by omega, by omega⟩, ?_⟩, fun c => by omega⟩) (fun x => ⟨fun c => absurd rfl c, fun _ => h _ (Or.inl ⟨i, ⟨hi2, x, hno⟩, rfl⟩)⟩)
        exact ih (i + 1) (by omega) (by omega) (fun e he => by
          by_cases z : e = i
          · rw [z]; exact fun q => q ⟨x, y⟩
          · exact hno e (by omega))
  exact loop (bn (dB d) + 1) 0 (by omega) (by omega) (fun e he => by omega)
theorem p_judge (a1 a2 : Int) (ra : Rg a2) : PT (FX11_judge a1 a2) (FX12_judge a1 a2) := by
  intro d σc σm hd hC hM
  have hn := hd.1.1
  unfold FX11_judge FX12_judge
  refine c_isList (fun l hl ha => ⟨fun _ => ?_, fun c => by omega⟩) (fun hno => ⟨fun c => absurd rfl c, fun _ => m_isList (fun _ _ _ => by omega) (fun _ => ⟨fun c => absurd rfl c, fun _ => ⟨rfl, d, hd, hC, hM⟩⟩)⟩)
  subst ha
  have b4 := hd.2.2.2.2 l hl
  have el : ((l : Nat) : Int).toNat = l := by omega
  have e2 := (hM.2.2.2.2 l hl).1
  have M : ∀ r : Int, ((dLn d l < 0 ∧ r = -11) ∨ (0 ≤ dLn d l ∧ a2 < 0 ∧ r = -13) ∨ (0 ≤ dLn d l ∧ 0 ≤ a2 ∧ 0 < bn (dB d) ∧ dLn d l - bn (dB d) < a2 ∧ r = -5)) → FX12_isList l σm (fun z1 σ2 => ((¬ z1 = 0 → (0 ≤ (l : Int) ∧ (l : Int) < 4) ∧ ((0 ≤ σ2 25 ((l : Nat) : Int).toNat → ((0 ≤ a2 → (0 ≤ (l : Int) ∧ (l : Int) < 4) ∧ Rg ((σ2 25 ((l : Nat) : Int).toNat) - (σ2 1 2)) ∧ ((a2 ≤ (σ2 25 ((l : Nat) : Int).toNat) - (σ2 1 2) → LX12_judge_57 l a2 σ2 (fun r2 σm' => r = r2 ∧ ∃ d', okD d' ∧ CR d' σc ∧ MR d' σm')) ∧ (¬ a2 ≤ (σ2 25 ((l : Nat) : Int).toNat) - (σ2 1 2) → ((σ2 1 2 ≤ 0 → LX12_judge_57 l a2 σ2 (fun r2 σm' => r = r2 ∧ ∃ d', okD d' ∧ CR d' σc ∧ MR d' σm')) ∧ (¬ σ2 1 2 ≤ 0 → (r = -5 ∧ ∃ d', okD d' ∧ CR d' σc ∧ MR d' σ2)))))) ∧ (¬ 0 ≤ a2 → (r = -13 ∧ ∃ d', okD d' ∧ CR d' σc ∧ MR d' σ2)))) ∧ (¬ 0 ≤ σ2 25 ((l : Nat) : Int).toNat → (r = -11 ∧ ∃ d', okD d' ∧ CR d' σc ∧ MR d' σ2)))) ∧ (z1 = 0 → (r = -1 ∧ ∃ d', okD d' ∧ CR d' σc ∧ MR d' σ2)))) := fun r hr => by
    refine m_isList (fun _ _ _ => ⟨fun _ => ⟨⟨by omega, by omega⟩, ?_⟩, fun c => by omega⟩) (fun c => by omega)
    rw [el, e2, hM.1.1]
    exact ⟨fun c1 => ⟨fun c2 => ⟨⟨by omega, by omega⟩, ⟨by omega, by omega⟩, fun c3 => by omega, fun c3 => ⟨fun c4 => by omega, fun c4 => ⟨by omega, d, hd, hC, hM⟩⟩⟩, fun c2 => ⟨by omega, d, hd, hC, hM⟩⟩, fun c1 => ⟨by omega, d, hd, hC, hM⟩⟩
  refine c_holds hl hC (fun h0 => ⟨fun _ => ⟨fun c1 => ?_, fun c1 => M _ (Or.inr (Or.inl ⟨h0, by omega, rfl⟩))⟩, fun c => by omega⟩) (fun h0 => ⟨fun c => absurd rfl c, fun _ => M _ (Or.inl ⟨h0, rfl⟩)⟩)
  obtain ⟨j, hj⟩ : ∃ j : Nat, a2 = j := ⟨a2.toNat, by omega⟩
  subst hj
  have both : (bn (dB d) = 0 ∨ (j : Int) + bn (dB d) ≤ dLn d l) → LX4_judged_31 l j σc (fun r σc' => FX12_judge l j σm (fun r2 σm' => r = r2 ∧ ∃ d', okD d' ∧ CR d' σc' ∧ MR d' σm')) := fun hh => by
    refine c_judged (v := fun e => dLi d (40 * l + (j + e))) hl hd hC hh (by omega) (fun e => rfl) (fun r hr => ?_)
    have mj : LX12_judge_57 l j σm (fun r2 σm' => r = r2 ∧ ∃ d', okD d' ∧ CR d' σc ∧ MR d' σm') := m_judged (v := fun e => dLi d (40 * l + (j + e))) hl hd hM hh (fun e => rfl) (fun r2 hr2 => ⟨hr.one hr2, d, hd, hC, hM⟩)
    unfold FX12_judge
    refine m_isList (fun _ _ _ => ⟨fun _ => ⟨⟨by omega, by omega⟩, ?_⟩, fun c => by omega⟩) (fun c => by omega)
    rw [el, e2, hM.1.1]
    exact ⟨fun _ => ⟨fun _ => ⟨⟨by omega, by omega⟩, ⟨by omega, by omega⟩, fun _ => mj, fun c3 => ⟨fun _ => mj, fun c4 => by omega⟩⟩, fun c2 => by omega⟩, fun c2 => by omega⟩
  unfold FX12_judge at both
  unfold FX4_judged
  rw [hC.1.1]
  refine ⟨fun c2 => both (Or.inl (by omega)), fun c2 => ⟨⟨by omega, by omega⟩, ⟨by omega, by omega⟩, ?_⟩⟩
  refine c_hasPlace hl (hC.2.2.2.2.1 l hl).1 (fun x y => ⟨fun _ => both (Or.inr (by omega)), fun c => by omega⟩) (fun x => ⟨fun c => absurd rfl c, fun _ => M _ (Or.inr (Or.inr ⟨h0, c1, by omega, by omega, rfl⟩))⟩)
end Judge
