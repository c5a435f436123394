section Pairs7
variable {d : DS} {b : Bk} {σ σ' : PS} {Φ : Int → PS → Prop}
theorem CR.tape {n : Nat} {t : Nat → Int} (h : CR d σ) (ho : Off [9, 57] σ σ') (ht : σ' 9 1 = (n : Int) ∧ ∀ i, i < n → σ' 57 i = t i) : CR (dB d, dI d, (n, t), d.2.2.2) σ' := by
  obtain ⟨h1, h2, h3, h4, h5, h6⟩ := h
  refine ⟨h1.off ho (by simp) (fun w hw => by simp; omega), h2.off ho (by rw [ho 0 (by simp)]) (by simp), ht, ?_, ?_, h6.off ho (fun i _ => by rw [ho 0 (by simp)]) (by simp)⟩
  · rw [ho 11 (by simp), ho 61 (by simp)]; exact h4
  · rw [ho 62 (by simp), ho 63 (by simp)]; exact h5
theorem mImg.keep {I : Option Bk} (h : mImg I σ) (h0 : σ' 0 2 = σ 0 2) (h2 : σ' 2 = σ 2) : mImg I σ' := by
  unfold mImg at h ⊢
  cases I with
  | none => simp only at h ⊢; rw [h0]; exact h
  | some b => simp only at h ⊢; exact ⟨by rw [h0]; exact h.1, h.2.keep h2⟩
theorem MR.tape {n : Nat} {t : Nat → Int} (h : MR d σ) (ho : Off [0, 23] σ σ') (e2 : σ' 0 2 = σ 0 2) (e36 : σ' 0 36 = σ 0 36) (ht : σ' 0 29 = (n : Int) ∧ ∀ i, i < n → σ' 23 i = t i) : MR (dB d, dI d, (n, t), d.2.2.2) σ' := by
  obtain ⟨h1, h2, h3, h4, h5⟩ := h
  refine ⟨h1.keep (ho 1 (by simp)), h2.keep e2 (ho 2 (by simp)), ht, ?_, ?_⟩
  · rw [e36, ho 24 (by simp)]; exact h4
  · rw [ho 25 (by simp), ho 26 (by simp)]; exact h5
theorem okD.tape {n : Nat} {t : Nat → Int} (h : okD d) (hn : n ≤ 90) (ht : ∀ i, i < n → 1 ≤ t i ∧ t i ≤ 127) : okD (dB d, dI d, (n, t), d.2.2.2) := ⟨h.1, h.2.1, ⟨hn, ht⟩, h.2.2.2⟩
theorem p_feed (a1 : Int) : PT (FX11_feed a1) (FX12_feed a1) := by
  intro d σc σm hd hC hM
  have h3 := hC.2.2.1
  have i3 := hM.2.2.1
  obtain ⟨t1, t2⟩ := hd.2.2.1
  have out : ∀ r : Int, (r = -2 ∧ ¬ (1 ≤ a1 ∧ a1 ≤ 127)) ∨ (r = -4 ∧ 1 ≤ a1 ∧ a1 ≤ 127 ∧ dTn d = 90) → FX12_feed a1 σm (fun r2 σm' => r = r2 ∧ ∃ d', okD d' ∧ CR d' σc ∧ MR d' σm') := fun r hr => by
    unfold FX12_feed
    refine m_in (fun x y => ⟨fun _ => ⟨fun c => ?_, fun c => ⟨by omega, d, hd, hC, hM⟩⟩, fun c => by omega⟩) (fun x => ⟨fun c => absurd rfl c, fun _ => ⟨by omega, d, hd, hC, hM⟩⟩)
    rw [i3.1] at c
    omega
  unfold FX11_feed FX9_add
  rw [h3.1]
  refine ⟨fun c => out _ (Or.inl ⟨rfl, by omega⟩), fun c => ⟨fun c2 => ⟨fun c3 => by omega, fun _ => ⟨fun c3 => ⟨⟨by omega, by omega⟩, ⟨by omega, by omega⟩, ⟨by omega, by omega⟩, fun σ6 g6 => ?_⟩, fun c3 => ⟨fun _ => out _ (Or.inr ⟨rfl, by omega, by omega, by omega⟩), fun c => absurd rfl c⟩⟩⟩, fun c2 => out _ (Or.inl ⟨rfl, by omega⟩)⟩⟩
  have e6 : σ6 9 1 = (dTn d : Int) := by rw [g6, up2_nk (by omega)]; exact h3.1
  rw [e6]
  refine ⟨⟨by omega, by omega⟩, fun σ8 g8 => ⟨fun c => by omega, fun _ => ?_⟩⟩
  have en : ((dTn d : Nat) : Int).toNat = dTn d := by omega
  rw [en] at g6
  have o8 : Off [9, 57] σc σ8 := by rw [g8, g6]; exact (Off.rf.up (by simp)).up (by simp)
  unfold FX12_feed
  refine m_in (fun x y => ⟨fun _ => ?_, fun c => by omega⟩) (fun x => by omega)
  rw [i3.1]
  refine ⟨fun _ => ⟨⟨by omega, by omega⟩, ⟨by omega, by omega⟩, ⟨by omega, by omega⟩, fun σm8 gm8 => ?_⟩, fun c => by omega⟩
  have em : σm8 0 29 = (dTn d : Int) := by rw [gm8, up2_nk (by omega)]; exact i3.1
  rw [em]
  refine ⟨⟨by omega, by omega⟩, fun σm10 gm10 => ?_⟩
  rw [en] at gm8
  have oM : Off [0, 23] σm σm10 := by rw [gm10, gm8]; exact (Off.rf.up (by simp)).up (by simp)
  refine ⟨?_, _, hd.tape (n := dTn d + 1) (t := fun i => if i = dTn d then a1 else dTb d i) (by omega) (fun i hi => ?_), hC.tape o8 ⟨?_, fun i hi => ?_⟩, hM.tape oM ?_ ?_ ⟨?_, fun i hi => ?_⟩⟩
  · rw [g8, up2_at, gm10, up2_at]
  · show 1 ≤ (if i = dTn d then a1 else dTb d i) ∧ (if i = dTn d then a1 else dTb d i) ≤ 127
    by_cases q : i = dTn d
    · rw [if_pos q]; omega
    · rw [if_neg q]; exact t2 i (by omega)
  · rw [g8, up2_at]; omega
  · rw [g8, up2_nk (by omega), g6, up2_if]
    by_cases q : i = dTn d
    · rw [if_pos q, if_pos q]
    · rw [if_neg q, if_neg q]; exact h3.2 i (by omega)
  · rw [gm10, up2_ni (by omega), gm8, up2_nk (by omega)]
  · rw [gm10, up2_ni (by omega), gm8, up2_nk (by omega)]
  · rw [gm10, up2_at]; omega
  · rw [gm10, up2_nk (by omega), gm8, up2_if]
    by_cases q : i = dTn d
    · rw [if_pos q, if_pos q]
    · rw [if_neg q, if_neg q]; exact i3.2 i (by omega)
theorem p_clear : PT FX11_clear FX12_clear := by
  intro d σc σm hd hC hM
  intro v1 g1 σ2 g2 v2 gm1 σm2 gm2
  refine ⟨by rw [g1, gm1, hC.2.2.1.1, hM.2.2.1.1], _, hd.tape (n := 0) (t := dTb d) (by omega) (fun i hi => by omega), hC.tape (by rw [g2]; exact Off.rf.up (by simp)) ⟨by rw [g2, up2_at]; rfl, fun i hi => by omega⟩, hM.tape (by rw [gm2]; exact Off.rf.up (by simp)) (by rw [gm2, up2_ni (by omega)]) (by rw [gm2, up2_ni (by omega)]) ⟨by rw [gm2, up2_at]; rfl, fun i hi => by omega⟩⟩
theorem p_paper (a1 : Int) : PT (FX11_paper a1) (FX12_paper a1) := by
  intro d σc σm hd hC hM
  have h4 := hC.2.2.2.1
  have i4 := hM.2.2.2.1
  have p4 := hd.2.2.2.1
  have m : ∀ r : Int, (¬ (0 ≤ a1 ∧ a1 < dPn d) → r = -1) → (0 ≤ a1 → a1 < dPn d → r = dPb d a1.toNat) → FX12_paper a1 σm (fun r2 σm' => r = r2 ∧ ∃ d', okD d' ∧ CR d' σc ∧ MR d' σm') := fun r h0 h1 => by
    unfold FX12_paper
    rw [i4.1]
    refine ⟨⟨by omega, by omega⟩, m_in (fun x y => ⟨fun c => by omega, fun _ => ⟨⟨by omega, by omega⟩, ?_, d, hd, hC, hM⟩⟩) (fun x => ⟨fun _ => ⟨h0 (by omega), d, hd, hC, hM⟩, fun c => absurd rfl c⟩)⟩
    rw [i4.2 a1.toNat (by omega)]
    exact h1 (by omega) (by omega)
  unfold FX11_paper
  rw [h4.1]
  refine ⟨fun c => m _ (fun _ => rfl) (fun _ _ => by omega), fun c => ⟨fun c2 => m _ (fun _ => rfl) (fun _ _ => by omega), fun c2 => ⟨⟨by omega, by omega⟩, ?_⟩⟩⟩
  rw [h4.2 a1.toNat (by omega)]
  exact m _ (fun _ => by omega) (fun _ _ => rfl)
theorem CR.lists {ls li : Nat → Int} (h : CR d σ) (ho : Off [62, 63] σ σ') (hl : ∀ l, l < 4 → σ' 63 l = ls l ∧ ∀ i : Nat, (i : Int) < ls l → σ' 62 (40 * l + i) = li (40 * l + i)) : CR (dB d, dI d, d.2.2.1, d.2.2.2.1, ls, li) σ' := by
  obtain ⟨h1, h2, h3, h4, h5, h6⟩ := h
  refine ⟨h1.off ho (by simp) (fun w hw => by simp; omega), h2.off ho (by rw [ho 0 (by simp)]) (by simp), ?_, ?_, hl, h6.off ho (fun i _ => by rw [ho 0 (by simp)]) (by simp)⟩
  · rw [ho 9 (by simp), ho 57 (by simp)]; exact h3
  · rw [ho 11 (by simp), ho 61 (by simp)]; exact h4
theorem MR.lists {ls li : Nat → Int} (h : MR d σ) (ho : Off [25, 26] σ σ') (hl : ∀ l, l < 4 → σ' 25 l = ls l ∧ ∀ i : Nat, (i : Int) < ls l → σ' 26 (40 * l + i) = li (40 * l + i)) : MR (dB d, dI d, d.2.2.1, d.2.2.2.1, ls, li) σ' := by
  obtain ⟨h1, h2, h3, h4, h5⟩ := h
  refine ⟨h1.keep (ho 1 (by simp)), h2.keep (by rw [ho 0 (by simp)]) (ho 2 (by simp)), ?_, ?_, hl⟩
  · rw [ho 0 (by simp), ho 23 (by simp)]; exact h3
  · rw [ho 0 (by simp), ho 24 (by simp)]; exact h4
theorem okD.lists {ls li : Nat → Int} (h : okD d) (hl : ∀ l, l < 4 → -1 ≤ ls l ∧ ls l ≤ 40) : okD (dB d, dI d, d.2.2.1, d.2.2.2.1, ls, li) := ⟨h.1, h.2.1, h.2.2.1, h.2.2.2.1, hl⟩
theorem c_isList {a : Int} {P : Int → PS → Prop} (h1 : ∀ l : Nat, l < 4 → a = l → P 1 σ) (h0 : ¬ (0 ≤ a ∧ a < 4) → P 0 σ) : FX11_isList a σ P := by
  unfold FX11_isList
  exact ⟨fun c => h0 (by omega), fun c => ⟨fun c2 => h0 (by omega), fun c2 => h1 a.toNat (by omega) (by omega)⟩⟩
theorem m_isList {a : Int} {P : Int → PS → Prop} (h1 : ∀ l : Nat, l < 4 → a = l → P 1 σ) (h0 : ¬ (0 ≤ a ∧ a < 4) → P 0 σ) : FX12_isList a σ P := by
  unfold FX12_isList
  exact m_in (fun x y => ⟨Or.inr rfl, h1 a.toNat (by omega) (by omega)⟩) (fun x => ⟨Or.inl rfl, h0 (by omega)⟩)
theorem c_holds {l : Nat} {P : Int → PS → Prop} (hl : l < 4) (hR : CR d σ) (h1 : 0 ≤ dLn d l → P 1 σ) (h0 : dLn d l < 0 → P 0 σ) : FX4_holds l σ P := by
  unfold FX4_holds
  have e := (hR.2.2.2.2.1 l hl).1
  refine c_isList (fun l2 _ hl2 => ⟨fun c => by omega, fun _ => ⟨⟨by omega, by omega⟩, ?_⟩⟩) (fun c => by omega)
  rw [show ((l : Nat) : Int).toNat = l by omega, e]
  exact ⟨h0, fun c => h1 (by omega)⟩
theorem c_hasPlace {l : Nat} {i : Int} {P : Int → PS → Prop} (hl : l < 4) (hs : σ 63 l = dLn d l) (h1 : 0 ≤ i → i < dLn d l → P 1 σ) (h0 : ¬ (0 ≤ i ∧ i < dLn d l) → P 0 σ) : FX4_hasPlace l i σ P := by
  unfold FX4_hasPlace
  refine c_isList (fun l2 _ hl2 => ⟨fun c => by omega, fun _ => ⟨fun c => h0 (by omega), fun c => ⟨⟨by omega, by omega⟩, ?_⟩⟩⟩) (fun c => by omega)
  rw [show ((l : Nat) : Int).toNat = l by omega, hs]
  exact ⟨fun c2 => h0 (by omega), fun c2 => h1 (by omega) (by omega)⟩
theorem p_get (a1 a2 : Int) : PT (FX11_get a1 a2) (FX12_get a1 a2) := by
  intro d σc σm hd hC hM
  unfold FX11_get FX12_get
  refine c_isList (fun l hl ha => ⟨fun c => by omega, fun _ => ?_⟩) (fun hno => ⟨fun _ => m_isList (fun _ _ _ => by omega) (fun _ => ⟨fun _ => ⟨rfl, d, hd, hC, hM⟩, fun c => absurd rfl c⟩), fun c => absurd rfl c⟩)
  subst ha
  have e := hC.2.2.2.2.1 l hl
  have e2 := hM.2.2.2.2 l hl
  have el : ((l : Nat) : Int).toNat = l := by omega
  have b4 := hd.2.2.2.2 l hl
  refine c_hasPlace hl e.1 (fun x y => ⟨fun c => by omega, fun _ => ?_⟩) (fun hno => ⟨fun _ => ?_, fun c => absurd rfl c⟩)
  · unfold FX4_value
    refine c_hasPlace hl e.1 (fun _ _ => ⟨fun c => by omega, fun _ => ⟨⟨by omega, by omega⟩, ⟨by omega, by omega⟩, ⟨by omega, by omega⟩, ?_⟩⟩) (fun c => absurd ⟨x, y⟩ c)
    refine m_isList (fun _ _ _ => ⟨fun c => by omega, fun _ => ⟨⟨by omega, by omega⟩, ?_⟩⟩) (fun c => by omega)
    rw [el, e2.1]
    refine ⟨⟨by omega, by omega⟩, m_in (fun _ _ => ⟨fun c => by omega, fun _ => ⟨⟨by omega, by omega⟩, ⟨by omega, by omega⟩, ⟨by omega, by omega⟩, ?_, d, hd, hC, hM⟩⟩) (fun c => by omega)⟩
    rw [show ((l : Int) * 40 + a2).toNat = 40 * l + a2.toNat by omega, show (40 * (l : Int) + a2).toNat = 40 * l + a2.toNat by omega, e.2 _ (by omega), e2.2 _ (by omega)]
  · refine m_isList (fun _ _ _ => ⟨fun c => by omega, fun _ => ⟨⟨by omega, by omega⟩, ?_⟩⟩) (fun c => by omega)
    rw [el, e2.1]
    exact ⟨⟨by omega, by omega⟩, m_in (fun _ _ => by omega) (fun c => ⟨fun _ => ⟨rfl, d, hd, hC, hM⟩, fun c => absurd rfl c⟩)⟩
theorem p_set (a1 a2 a3 : Int) : PT (FX11_set a1 a2 a3) (FX12_set a1 a2 a3) := by
  intro d σc σm hd hC hM
  unfold FX11_set FX12_set
  refine c_isList (fun l hl ha => ⟨fun _ => ?_, fun c => by omega⟩) (fun hno => ⟨fun c => absurd rfl c, fun _ => m_isList (fun _ _ _ => by omega) (fun _ => ⟨fun c => absurd rfl c, fun _ => ⟨rfl, d, hd, hC, hM⟩⟩)⟩)
  subst ha
  have e := hC.2.2.2.2.1 l hl
  have e2 := hM.2.2.2.2 l hl
  have el : ((l : Nat) : Int).toNat = l := by omega
  have b4 := hd.2.2.2.2 l hl
  refine c_holds hl hC (fun h0 => ⟨fun _ => ?_, fun c => by omega⟩) (fun h0 => ⟨fun c => absurd rfl c, fun _ => ?_⟩)
  · refine c_hasPlace hl e.1 (fun x y => ⟨fun _ => ?_, fun c => by omega⟩) (fun hno => ⟨fun c => absurd rfl c, fun _ => ?_⟩)
    · unfold FX4_put
      refine c_hasPlace hl e.1 (fun _ _ => ⟨fun c => by omega, fun _ => ⟨⟨by omega, by omega⟩, ⟨by omega, by omega⟩, ⟨by omega, by omega⟩, fun σ7 g7 => ?_⟩⟩) (fun c => absurd ⟨x, y⟩ c)
      refine m_isList (fun _ _ _ => ⟨fun _ => ⟨⟨by omega, by omega⟩, ?_⟩, fun c => by omega⟩) (fun c => by omega)
      rw [el, e2.1]
      refine ⟨fun _ => ⟨⟨by omega, by omega⟩, ⟨by omega, by omega⟩, m_in (fun _ _ => ⟨fun _ => ⟨⟨by omega, by omega⟩, ⟨by omega, by omega⟩, ⟨by omega, by omega⟩, fun σm7 gm7 => ?_⟩, fun c => by omega⟩) (fun c => by omega)⟩, fun c => by omega⟩
      rw [show ((l : Int) * 40 + a2).toNat = 40 * l + a2.toNat by omega] at g7
      rw [show (40 * (l : Int) + a2).toNat = 40 * l + a2.toNat by omega] at gm7
      refine ⟨rfl, _, hd.lists (ls := dLn d) (li := fun j => if j = 40 * l + a2.toNat then a3 else dLi d j) hd.2.2.2.2, hC.lists (by rw [g7]; exact Off.rf.up (by simp)) (fun l' hl' => ⟨?_, fun i hi => ?_⟩), hM.lists (by rw [gm7]; exact Off.rf.up (by simp)) (fun l' hl' => ⟨?_, fun i hi => ?_⟩)⟩
      · rw [g7, up2_nk (by omega)]; exact (hC.2.2.2.2.1 l' hl').1
      · rw [g7, up2_if, (hC.2.2.2.2.1 l' hl').2 i hi]
      · rw [gm7, up2_nk (by omega)]; exact (hM.2.2.2.2 l' hl').1
      · rw [gm7, up2_if, (hM.2.2.2.2 l' hl').2 i hi]
    · refine m_isList (fun _ _ _ => ⟨fun _ => ⟨⟨by omega, by omega⟩, ?_⟩, fun c => by omega⟩) (fun c => by omega)
      rw [el, e2.1]
      refine ⟨fun _ => ⟨⟨by omega, by omega⟩, ⟨by omega, by omega⟩, m_in (fun _ _ => by omega) (fun _ => ⟨fun c => absurd rfl c, fun _ => ⟨rfl, d, hd, hC, hM⟩⟩)⟩, fun c => by omega⟩
  · refine m_isList (fun _ _ _ => ⟨fun _ => ⟨⟨by omega, by omega⟩, ?_⟩, fun c => by omega⟩) (fun c => by omega)
    rw [el, e2.1]
    exact ⟨fun c => by omega, fun _ => ⟨rfl, d, hd, hC, hM⟩⟩
theorem p_list (a1 a2 : Int) : PT (FX11_list a1 a2) (FX12_list a1 a2) := by
  intro d σc σm hd hC hM
  unfold FX11_list FX12_list
  refine c_isList (fun l hl ha => ⟨fun _ => ?_, fun c => by omega⟩) (fun hno => ⟨fun c => absurd rfl c, fun _ => m_isList (fun _ _ _ => by omega) (fun _ => ⟨fun c => absurd rfl c, fun _ => ⟨rfl, d, hd, hC, hM⟩⟩)⟩)
  subst ha
  have el : ((l : Nat) : Int).toNat = l := by omega
  refine ⟨fun c1 => ⟨fun c2 => ?_, fun c2 => m_isList (fun _ _ _ => ⟨fun _ => ⟨fun _ => ⟨fun c => absurd c c2, fun _ => ⟨rfl, d, hd, hC, hM⟩⟩, fun c => absurd c1 c⟩, fun c => by omega⟩) (fun c => by omega)⟩, fun c1 => m_isList (fun _ _ _ => ⟨fun _ => ⟨fun c => absurd c c1, fun _ => ⟨rfl, d, hd, hC, hM⟩⟩, fun c => by omega⟩) (fun c => by omega)⟩
  unfold FX4_become
  refine c_isList (fun _ _ _ => ⟨fun c => by omega, fun _ => ⟨fun c => by omega, fun _ => ⟨fun c => by omega, fun _ => ⟨⟨by omega, by omega⟩, fun σ7 g7 => ⟨⟨by omega, by omega⟩, ⟨by omega, by omega⟩, ⟨by omega, by omega⟩, ⟨by omega, by omega, by omega⟩, fun σ12 g12 => ?_⟩⟩⟩⟩⟩) (fun c => by omega)
  obtain ⟨n, hn⟩ : ∃ n : Nat, a2 = n := ⟨a2.toNat, by omega⟩
  subst hn
  rw [el] at g7
  rw [show ((l : Int) * 40).toNat = 40 * l by omega, show ((l : Int) * 40 + (n : Int)).toNat = 40 * l + n by omega] at g12
  refine m_isList (fun _ _ _ => ⟨fun _ => ⟨fun _ => ⟨fun _ => ⟨⟨by omega, by omega⟩, fun σm7 gm7 => ⟨n + 1, ?_⟩⟩, fun c => absurd c2 c⟩, fun c => absurd c1 c⟩, fun c => by omega⟩) (fun c => by omega)
  rw [el] at gm7
  let ls : Nat → Int := fun l' => if l' = l then (n : Int) else dLn d l'
  let li : Nat → Int := fun j => if 40 * l ≤ j ∧ j < 40 * l + n then 0 else dLi d j
  have hC' : CR (dB d, dI d, d.2.2.1, d.2.2.2.1, ls, li) σ12 := by
    refine hC.lists (by rw [g12, g7]; exact (Off.rf.up (by simp)).fl (by simp)) (fun l' hl' => ⟨?_, fun i hi => ?_⟩)
    · show _ = if l' = l then _ else _
      rw [g12]
      have : fl2 σ7 62 (40 * l) (40 * l + n) 0 63 l' = σ7 63 l' := by unfold fl2; rw [if_neg (by omega)]
      rw [this, g7, up2_if, (hC.2.2.2.2.1 l' hl').1]
    · show _ = if 40 * l ≤ 40 * l' + i ∧ 40 * l' + i < 40 * l + n then 0 else _
      have hi' : (i : Int) < if l' = l then (n : Int) else dLn d l' := hi
      rw [g12]
      unfold fl2
      by_cases q : 40 * l ≤ 40 * l' + i ∧ 40 * l' + i < 40 * l + n
      · rw [if_pos ⟨rfl, q.1, q.2⟩, if_pos q]
      · rw [if_neg (fun z => q z.2), if_neg q, g7, up2_nk (by omega)]
        by_cases q2 : l' = l
        · rw [if_pos q2] at hi'
          subst q2
          omega
        · rw [if_neg q2] at hi'
          exact (hC.2.2.2.2.1 l' hl').2 i hi'
  have loop : ∀ (f j : Nat) (σm1 : PS), j ≤ n → n - j < f → Off [26] σm7 σm1 → (∀ i, σm1 26 i = if 40 * l ≤ i ∧ i < 40 * l + j then 0 else σm 26 i) → LX12_list_34 f l n j σm1 (fun r2 σm' => (1 : Int) = r2 ∧ ∃ d', okD d' ∧ CR d' σ12 ∧ MR d' σm') := by
    intro f
    induction f with
    | zero => intro j σm1 h1 h2; omega
    | succ f ih =>
      intro j σm1 hj hf ho hv
      unfold LX12_list_34 BX12_list_34
      refine ⟨fun c => ?_, fun c => ⟨⟨by omega, by omega⟩, ⟨by omega, by omega⟩, ⟨by omega, by omega⟩, fun σ5 g5 => ⟨⟨by omega, by omega⟩, ?_⟩⟩⟩
      · have e : j = n := by omega
        subst e
        have o7 : Off [25, 26] σm σm1 := by
          have : Off [25, 26] σm σm7 := by rw [gm7]; exact Off.rf.up (by simp)
          exact this.trans (ho.mono (by simp))
        refine ⟨rfl, _, hd.lists (ls := ls) (li := li) (fun l' hl' => ?_), hC', hM.lists o7 (fun l' hl' => ⟨?_, fun i hi => ?_⟩)⟩
        · show -1 ≤ (if l' = l then _ else _) ∧ (if l' = l then _ else _) ≤ (40 : Int)
          have := hd.2.2.2.2 l' hl'
          by_cases q : l' = l
          · rw [if_pos q]; omega
          · rw [if_neg q]; exact this
        · show _ = if l' = l then _ else _
          rw [ho 25 (by simp), gm7, up2_if, (hM.2.2.2.2 l' hl').1]
        · show _ = if 40 * l ≤ 40 * l' + i ∧ 40 * l' + i < 40 * l + j then 0 else _
          have hi' : (i : Int) < if l' = l then (j : Int) else dLn d l' := hi
          rw [hv]
          by_cases q : 40 * l ≤ 40 * l' + i ∧ 40 * l' + i < 40 * l + j
          · rw [if_pos q, if_pos q]
          · rw [if_neg q, if_neg q]
            by_cases q2 : l' = l
            · rw [if_pos q2] at hi'
              subst q2
              omega
            · rw [if_neg q2] at hi'
              exact (hM.2.2.2.2 l' hl').2 i hi'
      · rw [show (40 * (l : Int) + (j : Int)).toNat = 40 * l + j by omega] at g5
        refine ih (j + 1) σ5 (by omega) (by omega) (by rw [g5]; exact ho.up (by simp)) (fun i => ?_)
        rw [g5, up2_if, hv]
        by_cases q : i = 40 * l + j
        · rw [if_pos q, if_pos (by omega)]
        · rw [if_neg q]
          by_cases q2 : 40 * l ≤ i ∧ i < 40 * l + j
          · rw [if_pos q2, if_pos (by omega)]
          · rw [if_neg q2, if_neg (by omega)]
  refine loop (n + 1) 0 σm7 (by omega) (by omega) Off.rf (fun i => ?_)
  rw [if_neg (by omega), gm7, up2_nk (by omega)]
end Pairs7
