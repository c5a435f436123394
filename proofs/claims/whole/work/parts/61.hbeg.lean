/-! heights: how it begins -/
noncomputable def beg (T : NT) : Nat → HS
  | 0 => (fun _ => 0, fun u => if u = ts T then 12 else 0, fun _ => 0, fun _ => 0, 0, [])
  | i + 1 => if tf T i = ts T ∧ 0 < tl T i then (psX (beg T i).1 i (tl T i), (beg T i).2.1, psE T (beg T i).2.2.1 i (tl T i), (beg T i).2.2.2.1, (beg T i).2.2.2.2.1 + 1, psW T (beg T i).2.2.2.2.2 (enT T i)) else beg T i
section HBeg
variable {T : NT} {σ : PS} {Φ : Int → PS → Prop}
theorem beg_y {i : Nat} (q : tf T i = ts T ∧ 0 < tl T i) : beg T (i + 1) = (psX (beg T i).1 i (tl T i), (beg T i).2.1, psE T (beg T i).2.2.1 i (tl T i), (beg T i).2.2.2.1, (beg T i).2.2.2.2.1 + 1, psW T (beg T i).2.2.2.2.2 (enT T i)) := by
  rw [beg, if_pos q]
theorem beg_n {i : Nat} (q : ¬ (tf T i = ts T ∧ 0 < tl T i)) : beg T (i + 1) = beg T i := by
  rw [beg, if_neg q]
theorem beg_is (hT : okT T) : ∀ i, i ≤ tn T → (∀ e, (beg T i).1 e = if e < i ∧ tf T e = ts T then tl T e else 0) ∧ (beg T i).2.1 = (fun u => if u = ts T then 12 else 0) ∧ (∀ u, (beg T i).2.2.1 u = -exG (tn T) (tf T) (tt T) (beg T i).1 u) ∧ (beg T i).2.2.2.1 = (fun _ => 0) ∧ okW T (beg T i).2.2.2.2.2 ∧ 0 ≤ (beg T i).2.2.2.2.1 ∧ (beg T i).2.2.2.2.1 ≤ i := by
  have hn := hT.1
  intro i
  induction i with
  | zero =>
    intro _
    refine ⟨fun e => ?_, rfl, fun u => ?_, rfl, ⟨fun j hj => by exact absurd hj (Nat.not_lt_zero _), fun j k _ hk => by exact absurd hk (Nat.not_lt_zero _)⟩, Int.le_refl _, by exact Int.le_refl _⟩
    · rw [if_neg (fun z => by omega)]; rfl
    · show (0 : Int) = -exG (tn T) (tf T) (tt T) (fun _ => 0) u
      have : exG (tn T) (tf T) (tt T) (fun _ => 0) u = 0 := sm_0 (fun e _ => by
        show ((if tf T e = u then (0 : Int) else 0) - if tt T e = u then 0 else 0) = 0
        split <;> split <;> omega)
      rw [this]; rfl
  | succ i ih =>
    intro hi
    obtain ⟨h1, h2, h3, h4, h5, h6, h7⟩ := ih (by omega)
    have hc : cOK T i := Or.inl ⟨by omega, by omega⟩
    have h12 := stOK_end hT.2.1 (cOK_st hc)
    have ev : vfr T i = tf T i := by unfold vfr; rw [if_pos (by omega)]
    have hN := hT.2.1 i (by omega)
    have ee : enT T i = tt T i := by unfold enT; rw [if_pos (by omega)]
    have hne : vfr T i ≠ enT T i := by rw [ev, ee]; exact hN.2.2
    have hl := (hT.2.2.1 i (by omega)).1
    by_cases q : tf T i = ts T ∧ 0 < tl T i
    · rw [beg_y q]
      refine ⟨fun e => ?_, h2, fun u => ?_, h4, h5.put h12.2, by show 0 ≤ (beg T i).2.2.2.2.1 + 1; omega, by show (beg T i).2.2.2.2.1 + 1 ≤ _; omega⟩
      · show psX _ i _ e = _
        unfold psX gof
        rw [if_pos (show i < 100 by omega)]
        by_cases z : e = i
        · rw [if_pos z, if_pos (show i < 100 by omega), h1, z, if_neg (fun y => by omega), if_pos ⟨by omega, q.1⟩]; omega
        · rw [if_neg z, h1]
          by_cases y : e < i ∧ tf T e = ts T
          · rw [if_pos y, if_pos ⟨by omega, y.2⟩]
          · rw [if_neg y, if_neg (fun w => y ⟨by omega, w.2⟩)]
      · show psE T _ i _ u = -exG _ _ _ (psX _ i _) u
        rw [psX_ex hT hc]
        have := h3 u
        unfold psE
        by_cases z : u = enT T i
        · rw [if_pos z, if_pos z, if_neg (fun y => hne (y.symm.trans z))]; omega
        · rw [if_neg z, if_neg z]
          by_cases z2 : u = vfr T i
          · rw [if_pos z2, if_pos z2]; omega
          · rw [if_neg z2, if_neg z2]; omega
    · rw [beg_n q]
      refine ⟨fun e => ?_, h2, h3, h4, h5, h6, by omega⟩
      rw [h1]
      by_cases y : e < i ∧ tf T e = ts T
      · rw [if_pos y, if_pos ⟨by omega, y.2⟩]
      · rw [if_neg y]
        by_cases w : e < i + 1 ∧ tf T e = ts T
        · rw [if_pos w]
          have e1 : e = i := by
            by_cases z : e < i
            · exact absurd ⟨z, w.2⟩ y
            · omega
          rw [e1] at w ⊢
          by_cases z : 0 < tl T i
          · exact absurd ⟨w.2, z⟩ q
          · omega
        · rw [if_neg w]
theorem beg_ok (hT : okT T) : okS T (beg T (tn T)) := by
  obtain ⟨h1, h2, h3, h4, h5, h6, h7⟩ := beg_is hT (tn T) (Nat.le_refl _)
  have hn := hT.1
  have hx : okX (tn T) (tl T) (beg T (tn T)).1 := fun e he => by
    have := (hT.2.2.1 e he).1
    rw [h1]
    split <;> omega
  have hS : ts T ≠ tz T := hT.2.2.2.2.2
  have hH : okH T (beg T (tn T)).1 (beg T (tn T)).2.1 (beg T (tn T)).2.2.1 := by
    refine ⟨hx, fun u hu hus => ⟨h3 u, ?_⟩, fun u w hu hw hst => ?_, by rw [h2]; exact if_pos rfl, by rw [h2]; exact if_neg (fun z => hS z.symm), fun u hu => ?_⟩
    · rw [h3 u]
      have : sm (fun e => (if tf T e = u then (beg T (tn T)).1 e else 0) - (if tt T e = u then (beg T (tn T)).1 e else 0)) (tn T) ≤ (tn T : Int) * 0 := sm_ub (fun e he => by
        have a := (hT.2.2.1 e he).1
        rw [h1]
        by_cases p : tf T e = u
        · have : ¬ (e < tn T ∧ tf T e = ts T) := fun z => hus (p.symm.trans z.2)
          rw [if_neg this]
          split <;> split <;> omega
        · rw [if_neg p]
          by_cases z : tt T e = u
          · rw [if_pos z]; split <;> omega
          · rw [if_neg z]; exact Int.le_refl _)
      unfold exG
      omega
    · obtain ⟨e, he, hs⟩ := hst
      rw [h2]
      show (if u = ts T then (12 : Int) else 0) ≤ (if w = ts T then 12 else 0) + 1
      rw [h1] at hs
      rcases hs with ⟨p1, p2, p3⟩ | ⟨p1, p2, p3⟩
      · have hu2 : u ≠ ts T := fun z => by
          rw [if_pos ⟨he, p1.trans z⟩] at p3
          omega
        rw [if_neg hu2]
        split <;> omega
      · by_cases z : e < tn T ∧ tf T e = ts T
        · rw [if_pos (show w = ts T from p2.symm.trans z.2)]
          split <;> omega
        · rw [if_neg z] at p3; omega
    · rw [h2]
      show 0 ≤ (if u = ts T then (12 : Int) else 0) ∧ (if u = ts T then (12 : Int) else 0) ≤ 23
      split <;> omega
  have hr := PP_rng hT hH
  refine ⟨hH, h3 _, fun u hu hus => ?_, h5, h6, by omega⟩
  rw [h4]
  have := hH.2.2.2.2.2 u hu
  exact ⟨Int.le_refl _, this.1⟩
theorem beg_bd (hT : okT T) {i : Nat} (hi : i ≤ tn T) : (∀ e, e < tn T → -100000 ≤ (beg T i).1 e ∧ (beg T i).1 e ≤ 100000) ∧ (∀ v, v < 12 → -1000000 ≤ (beg T i).2.2.1 v ∧ (beg T i).2.2.1 v ≤ 1000000) ∧ (0 ≤ (beg T i).2.2.2.2.1 ∧ (beg T i).2.2.2.2.1 ≤ 100000000) ∧ (beg T i).2.2.2.2.2.length < 12 := by
  obtain ⟨h1, h2, h3, h4, h5, h6, h7⟩ := beg_is hT i hi
  have hn := hT.1
  have hx : okX (tn T) (tl T) (beg T i).1 := fun e he => by
    have := (hT.2.2.1 e he).1
    rw [h1]
    split <;> omega
  refine ⟨fun e he => by have := hx e he; have := hT.2.2.1 e he; omega, fun v hv => by rw [h3]; have := ex_bd hT hx v; omega, by omega, h5.len hT⟩
theorem m_begin_l {σ0 : PS} {b : Bk} (hT : okT (T0 b)) (hb : okB b) (hM0 : mB 1 b σ0) (hK : ∀ σ' : PS, HO σ0 σ' → HMs (T0 b) (beg (T0 b) (tn (T0 b))) (fun _ => 0) σ' → ∃ n, LX12_flowsByHeights_149 n σ' Φ) : ∀ (f i : Nat) (σ : PS), i ≤ bn b → bn b - i < f → HO σ0 σ → HMs (T0 b) (beg (T0 b) i) (fun _ => 0) σ → LX12_flowsByHeights_98 f i σ Φ := by
  intro f
  induction f with
  | zero => intro i σ h1 h2; omega
  | succ f ih =>
    intro i σ hi hf ho hH
    have hn := hb.1
    have hM : mB 1 b σ := hM0.keep (ho.1 1 (by simp))
    unfold LX12_flowsByHeights_98 BX12_flowsByHeights_98
    rw [hM.1]
    refine ⟨fun c => ?_, fun c => ?_⟩
    · have e : i = bn b := by omega
      rw [e] at hH
      exact hK σ ho hH
    · have hi2 : i < bn b := by omega
      have hB := hb.2.2.2.2 i hi2
      have hf0 : bB b i 0 = (tf (T0 b) i : Int) := by
        show bB b i 0 = ((bB b i 0).toNat : Int)
        unfold okG at hB
        omega
      have e3 : σ 3 i = tl (T0 b) i := hH.1.2.2.2.2 i hi2
      have nx : ∀ σ' : PS, HO σ0 σ' → HMs (T0 b) (beg (T0 b) (i + 1)) (fun _ => 0) σ' → LX12_flowsByHeights_143 (fun x1 σ => LX12_flowsByHeights_98 f x1 σ Φ) i σ' Φ := fun σ' a1 a2 => by
        unfold LX12_flowsByHeights_143
        exact ⟨⟨by omega, by omega⟩, ih (i + 1) σ' (by omega) (by omega) a1 a2⟩
      have no : ¬ (tf (T0 b) i = ts (T0 b) ∧ 0 < tl (T0 b) i) → HMs (T0 b) (beg (T0 b) (i + 1)) (fun _ => 0) σ := fun z => by
        have e : beg (T0 b) (i + 1) = beg (T0 b) i := beg_n z
        rw [e]
        exact hH
      refine m_at (w := 0) rfl rfl hb hM hi2 (by omega) ?_
      rw [hM.2.1, hf0]
      refine ⟨fun c1 => nx σ ho (no (fun z => c1 (by rw [z.1]; rfl))), fun c1 => ?_⟩
      rw [show ((i : Nat) : Int).toNat = i by omega, e3]
      refine ⟨⟨by omega, by omega⟩, fun c2 => nx σ ho (no (fun z => by omega)), fun c2 => ⟨⟨by omega, by omega⟩, ?_⟩⟩
      have q : tf (T0 b) i = ts (T0 b) ∧ 0 < tl (T0 b) i := ⟨by show tf (T0 b) i = bs b; omega, by omega⟩
      have e := beg_y q
      obtain ⟨b1, b2, b3, b4⟩ := beg_bd hT (i := i) hi
      have hl := hT.2.2.1 i hi2
      refine m_pushes hT hH (Or.inl ⟨by omega, hi2⟩) hl b1 b2 b3 b4 (fun σ' o' hH' => nx σ' (ho.trans o') ?_)
      rw [e]
      exact hH'
theorem fl2_if {k lo hi i : Nat} {v : Int} : fl2 σ k lo hi v k i = if lo ≤ i ∧ i < hi then v else σ k i := by
  unfold fl2
  by_cases h : lo ≤ i ∧ i < hi
  · rw [if_pos ⟨rfl, h⟩, if_pos h]
  · rw [if_neg (fun z => h z.2), if_neg h]
theorem c_begin_l {σ0 : PS} (hT : okT T) (hK : ∀ σ' : PS, HCo σ0 σ' → HCs T (beg T (tn T)) (fun _ => 0) σ' → Φ 0 σ') : ∀ (f i : Nat) (σ : PS), i ≤ tn T → tn T - i < f → HCo σ0 σ → HCs T (beg T i) (fun _ => 0) σ → CL 36 T σ → LX0_begin_84 f i σ Φ := by
  intro f
  induction f with
  | zero => intro i σ h1 h2; omega
  | succ f ih =>
    intro i σ hi hf ho hH hL
    have hn := hT.1
    have hM := hH.1
    unfold LX0_begin_84 BX0_begin_84
    rw [hM.1, hM.2.1]
    refine ⟨fun c => ?_, fun c => ?_⟩
    · have e : i = tn T := by omega
      rw [e] at hH
      exact hK σ ho hH
    · have hi2 : i < tn T := by omega
      have nx : ∀ σ' : PS, HCo σ0 σ' → HCs T (beg T (i + 1)) (fun _ => 0) σ' → CL 36 T σ' → LX0_begin_126 (fun x1 σ => LX0_begin_84 f x1 σ Φ) i σ' Φ := fun σ' a1 a2 a3 => by
        unfold LX0_begin_126
        exact ⟨⟨by omega, by omega⟩, ih (i + 1) σ' (by omega) (by omega) a1 a2 a3⟩
      have no : ¬ (tf T i = ts T ∧ 0 < tl T i) → HCs T (beg T (i + 1)) (fun _ => 0) σ := fun z => by
        have e : beg T (i + 1) = beg T i := beg_n z
        rw [e]
        exact hH
      rw [show ((i : Nat) : Int).toNat = i by omega, (hM.2.2.2 i hi2).1, hL i hi2]
      refine ⟨⟨by omega, by omega⟩, fun c1 => nx σ ho (no (fun z => c1 (by rw [z.1]))) hL, fun c1 => ⟨⟨by omega, by omega⟩, fun c2 => nx σ ho (no (fun z => by omega)) hL, fun c2 => ⟨⟨by omega, by omega⟩, ?_⟩⟩⟩
      have q : tf T i = ts T ∧ 0 < tl T i := ⟨by omega, by omega⟩
      have e := beg_y q
      obtain ⟨b1, b2, b3, b4⟩ := beg_bd hT (i := i) hi
      have hl := hT.2.2.1 i hi2
      refine c_push hT hH (Or.inl ⟨by omega, hi2⟩) hl b1 b2 b3 b4 (fun σ' o' hH' => nx σ' (Off.trans ho (o'.mono (by simp))) ?_ (hL.off o' (by simp)))
      rw [e]
      exact hH'
end HBeg
