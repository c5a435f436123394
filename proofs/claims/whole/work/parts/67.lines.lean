/-! lines: class and reference take the same ones -/
section Lines
variable {T : NT} {b : Bk} {d : DS} {x : Nat → Int} {σ : PS} {Φ : Int → PS → Prop}
theorem rg_01 {le : Nat → Int} : rgL T le = 0 ∨ rgL T le = 1 := by
  unfold rgL
  split
  · exact Or.inl rfl
  · exact Or.inr rfl
theorem rg_sum (K : Nat) : 0 ≤ sm (fun i => rgL T (lqT T x i)) K ∧ sm (fun i => rgL T (lqT T x i)) K ≤ K := by
  have h1 : 0 ≤ sm (fun i => rgL T (lqT T x i)) K := sm_nn (fun k _ => by have := @rg_01 T (lqT T x k); omega)
  have h2 : sm (fun i => rgL T (lqT T x i)) K ≤ (K : Int) * 1 := sm_ub (fun k _ => by have := @rg_01 T (lqT T x k); omega)
  omega
theorem c_run_l51 {σ0 : PS} (hT : okT T) (hx : okL T x) (hM : CN T σ0) (hΦ : ∀ σ' : PS, Off [5, 40, 41, 42, 43, 44, 45, 46] σ0 σ' → σ' 5 7 = (NLT T x : Int) → σ' 5 8 = sm (fun i => rgL T (lqT T x i)) (NLT T x) → SO T x (NLT T x) 40 41 42 43 σ' → Φ 0 σ') : ∀ (f K : Nat) (σ : PS), K ≤ NLT T x → NLT T x - K < f → Off [5, 40, 41, 42, 43, 44, 45, 46] σ0 σ → σ 5 7 = (K : Int) → σ 5 8 = sm (fun i => rgL T (lqT T x i)) K → LK 44 T (lqT T x K) σ → SO T x K 40 41 42 43 σ → LX8_run_51 f σ Φ := by
  obtain ⟨n1, n2, n3⟩ := NLT_is hT hx
  intro f
  induction f with
  | zero => intro K σ h1 h2; omega
  | succ f ih =>
    intro K σ hK hf ho h7 h8 hL hS
    have hr := @rg_sum T x K
    unfold LX8_run_51 BX8_run_51
    rw [h7]
    refine ⟨fun c => ?_, fun c => ?_⟩
    · have e : NLT T x = K := by omega
      rw [e] at hΦ
      exact hΦ σ ho h7 h8 hS
    · have hq := (lq_ok hT hx K (fun j hj => n2 j (by omega))).1
      refine c_walk hT hq (hM.off ho (by simp) (by simp) (by simp)) hL h7 (by omega) (by omega) (fun hno σ' o' => ⟨fun _ => ?_, fun c2 => absurd rfl c2⟩) (fun hy σ' o' a7 a8 ht => ⟨fun c2 => by omega, fun _ => ?_⟩)
      · have e : NLT T x = K := by
          by_cases q : K < NLT T x
          · exact absurd (n2 K q) hno
          · omega
        rw [e] at hΦ
        refine hΦ σ' (ho.trans (o'.mono (by simp))) (by rw [o' 5 (by simp)]; exact h7) (by rw [o' 5 (by simp)]; exact h8) ?_
        unfold SO
        rw [o' 40 (by simp), o' 41 (by simp), o' 42 (by simp), o' 43 (by simp)]
        exact hS
      · have hlt : K < NLT T x := by
          by_cases q : K = NLT T x
          · rw [q] at hy; exact absurd hy n3
          · omega
        rw [a7]
        refine ⟨⟨by omega, by omega⟩, fun σ6 g6 => ?_⟩
        have o6 : Off [5] σ' σ6 := by rw [g6]; exact Off.rf.up (by simp)
        refine ih (K + 1) σ6 (by omega) (by omega) ((ho.trans (o'.mono (by simp))).trans (o6.mono (by simp))) (by rw [g6, up2_at]; omega) ?_ ?_ ?_
        · rw [g6, up2_ni (by omega), a8, h8]
          rfl
        · exact LK.off (ht.1) o6 (by simp)
        · have h9 := SO.put hT hx hlt hS ht
          unfold SO at h9 ⊢
          rw [o6 40 (by simp), o6 41 (by simp), o6 42 (by simp), o6 43 (by simp)]
          exact h9
theorem c_runS (hT : okT T) (hx : okL T x) (hM : CN T σ) (hX : QX T x σ) (hΦ : ∀ σ' : PS, Off [5, 40, 41, 42, 43, 44, 45, 46] σ σ' → σ' 5 7 = (NLT T x : Int) → σ' 5 8 = sm (fun i => rgL T (lqT T x i)) (NLT T x) → SO T x (NLT T x) 40 41 42 43 σ' → Φ 0 σ') : FX8_run σ Φ := by
  have hn := hT.1
  unfold FX8_run
  intro σ1 g1 σ2 g2
  have o2 : Off [5] σ σ2 := by rw [g2, g1]; exact (Off.rf.up (by simp)).up (by simp)
  have loop : ∀ (f i : Nat) (σ3 : PS), i ≤ 30 → 30 - i < f → Off [44] σ2 σ3 → (∀ e, e < i → e < tn T → σ3 44 e = x e) → LX8_run_12 f i σ3 Φ := by
    intro f
    induction f with
    | zero => intro i σ3 h1 h2; omega
    | succ f ih =>
      intro i σ3 hi hf ho hv
      have oo : Off [5, 44] σ σ3 := (o2.mono (by simp)).trans (ho.mono (by simp))
      have hM3 := hM.off oo (by simp) (by simp) (by simp)
      unfold LX8_run_12 BX8_run_12 LX8_run_43 LX8_run_44
      rw [hM3.1]
      have nx : ∀ s2 : Int, (i < tn T → s2 = x i) → ((0 ≤ (i : Int) ∧ (i : Int) < 30) ∧ ∀ σ4 : PS, σ4 = up2 σ3 44 ((i : Nat) : Int).toNat s2 → Rg ((i : Int) + 1) ∧ LX8_run_12 f ((i : Int) + 1) σ4 Φ) ∨ 30 ≤ i := fun s2 hs2 => by
        by_cases q : 30 ≤ i
        · exact Or.inr q
        · refine Or.inl ⟨⟨by omega, by omega⟩, fun σ4 g4 => ⟨⟨by omega, by omega⟩, ih (i + 1) σ4 (by omega) (by omega) (by rw [g4]; exact ho.up (by simp)) (fun e he he2 => ?_)⟩⟩
          rw [g4, show ((i : Nat) : Int).toNat = i by omega, up2_if]
          by_cases q2 : e = i
          · rw [if_pos q2, q2]; exact hs2 (by omega)
          · rw [if_neg q2]; exact hv e (by omega) he2
      refine ⟨fun c => ⟨31, ?_⟩, fun c => ⟨fun c2 => ?_, fun c2 => ⟨fun c3 => by omega, fun c3 => ⟨⟨by omega, by omega⟩, ?_⟩⟩⟩⟩
      · obtain ⟨n1, n2, n3⟩ := NLT_is hT hx
        refine c_run_l51 hT hx hM hΦ 31 0 σ3 (by omega) (by omega) (oo.mono (by simp)) ?_ ?_ (fun e he => hv e (by omega) he) (fun j hj => absurd hj (Nat.not_lt_zero _))
        · rw [ho 5 (by simp), g2, up2_ni (by omega), g1, up2_at]; rfl
        · rw [ho 5 (by simp), g2, up2_at]; rfl
      · rcases nx 0 (fun z => by omega) with h | h
        · exact h
        · omega
      · have hx3 : σ3 25 ((i : Nat) : Int).toNat = x i := by
          rw [show ((i : Nat) : Int).toNat = i by omega, oo 25 (by simp)]
          exact hX i (by omega)
        rw [hx3]
        rcases nx (x i) (fun _ => rfl) with h | h
        · exact h
        · omega
  exact ⟨31, loop 31 0 σ2 (by omega) (by omega) Off.rf (fun e he => by omega)⟩
theorem m_find_l {σ0 : PS} (hb : okB b) (hx : okL (T0 b) x) (hM : mB 1 b σ0) (hΦ : ∀ σ' : PS, MK σ0 σ' → mB 1 b σ' → σ' 0 18 = (NLT (T0 b) x : Int) → SO (T0 b) x (NLT (T0 b) x) 15 16 17 18 σ' → Φ 0 σ') : ∀ (f K : Nat) (σ : PS), K ≤ NLT (T0 b) x → NLT (T0 b) x - K < f → MK σ0 σ → σ 0 18 = (K : Int) → LK 19 (T0 b) (lqT (T0 b) x K) σ → SO (T0 b) x K 15 16 17 18 σ → LX12_findLines_40 f σ Φ := by
  have hT := okT_T0 hb
  obtain ⟨n1, n2, n3⟩ := NLT_is hT hx
  intro f
  induction f with
  | zero => intro K σ h1 h2; omega
  | succ f ih =>
    intro K σ hK hf ho h7 hL hS
    have hMs : mB 1 b σ := hM.keep (ho.1 1 (by simp))
    have hq := (lq_ok hT hx K (fun j hj => n2 j (by omega))).1
    unfold LX12_findLines_40 BX12_findLines_40
    rw [hMs.2.1]
    refine m_watered hb hMs hL (fun hy => ⟨fun c => by omega, fun _ => ?_⟩) (fun hno => ⟨fun _ => ?_, fun c => by omega⟩)
    · have hlt : K < NLT (T0 b) x := by
        by_cases q : K = NLT (T0 b) x
        · rw [q] at hy; exact absurd hy n3
        · omega
      refine m_takes hb hq hMs hy hL h7 (by omega) (fun σ' o' k0 k18 ht => ?_)
      refine ih (K + 1) σ' (by omega) (by omega) (ho.trans ⟨fun k hk => o' k (by simp at hk ⊢; omega), k0 2 (by omega), k0 29 (by omega), k0 36 (by omega)⟩) (by rw [k18]; omega) ht.1 (SO.put hT hx hlt hS ht)
    · have e : NLT (T0 b) x = K := by
        by_cases q : K < NLT (T0 b) x
        · exact absurd (n2 K q) hno
        · omega
      rw [e] at hΦ
      exact hΦ σ ho hMs h7 hS
theorem okL_xE (hb : okB b) : okL (T0 b) (xE (T0 b)) := by
  have h := mostT_go (okT_T0 hb)
  exact ⟨h.1, h.2.1⟩
theorem m_findLines (hb : okB b) (hM : mB 1 b σ) (hΦ : ∀ σ' : PS, MK σ σ' → mB 1 b σ' → σ' 0 18 = (NLT (T0 b) (xE (T0 b)) : Int) → SO (T0 b) (xE (T0 b)) (NLT (T0 b) (xE (T0 b))) 15 16 17 18 σ' → Φ 0 σ') : FX12_findLines σ Φ := by
  have hn := hb.1
  unfold FX12_findLines
  refine m_flowsNow hb hM (fun σ2 k1 k2 k3 k4 k5 k6 k7 => ⟨bn b + 1, ?_⟩)
  have loop : ∀ (f i : Nat) (σ3 : PS), i ≤ bn b → bn b - i < f → Off [19] σ2 σ3 → (∀ e, e < i → σ3 19 e = xE (T0 b) e) → LX12_findLines_7 f i σ3 Φ := by
    intro f
    induction f with
    | zero => intro i σ3 h1 h2; omega
    | succ f ih =>
      intro i σ3 hi hf ho hv
      unfold LX12_findLines_7 BX12_findLines_7
      rw [ho 1 (by simp), k2.1]
      refine ⟨fun c σ4 g4 => ⟨31, ?_⟩, fun c => ⟨⟨by omega, by omega⟩, ⟨by omega, by omega⟩, fun σ5 g5 => ⟨⟨by omega, by omega⟩, ?_⟩⟩⟩
      · have o4 : Off [0, 19] σ2 σ4 := by rw [g4]; exact (ho.mono (by simp)).up (by simp)
        have z4 : ∀ i, i ≠ 18 → σ4 0 i = σ2 0 i := fun i hi => by rw [g4, up2_ni hi, ho 0 (by simp)]
        obtain ⟨n1, n2, n3⟩ := NLT_is (okT_T0 hb) (okL_xE hb)
        refine m_find_l hb (okL_xE hb) hM hΦ 31 0 σ4 (by omega) (by omega) (k1.trans ⟨fun k hk => o4 k (by simp at hk ⊢; omega), z4 2 (by omega), z4 29 (by omega), z4 36 (by omega)⟩) (by rw [g4, up2_at]; rfl) (fun e he => ?_) (fun j hj => absurd hj (Nat.not_lt_zero _))
        rw [g4, up2_nk (by omega)]
        exact hv e (by have : e < bn b := he; omega)
      · have e0 : ((i : Nat) : Int).toNat = i := by omega
        rw [e0, ho 4 (by simp), k6 i (by show i < bn b; omega)] at g5
        refine ih (i + 1) σ5 (by omega) (by omega) (by rw [g5]; exact ho.up (by simp)) (fun e he => ?_)
        rw [g5, up2_if]
        by_cases q : e = i
        · rw [if_pos q, q]
        · rw [if_neg q]; exact hv e (by omega)
  exact loop (bn b + 1) 0 σ2 (by omega) (by omega) Off.rf (fun e he => by omega)
theorem CSD_of (hb : okB b) (h7 : σ 5 7 = (NLT (T0 b) (xE (T0 b)) : Int)) (h8 : σ 5 8 = sm (fun i => rgL (T0 b) (lqT (T0 b) (xE (T0 b)) i)) (NLT (T0 b) (xE (T0 b)))) (hS : SO (T0 b) (xE (T0 b)) (NLT (T0 b) (xE (T0 b))) 40 41 42 43 σ) : CSD b σ := by
  have hT := okT_T0 hb
  have hx := okL_xE hb
  obtain ⟨n1, n2, n3⟩ := NLT_is hT hx
  have hr := @rg_sum (T0 b) (xE (T0 b)) (NLT (T0 b) (xE (T0 b)))
  refine ⟨NLT (T0 b) (xE (T0 b)), (sm (fun i => rgL (T0 b) (lqT (T0 b) (xE (T0 b)) i)) (NLT (T0 b) (xE (T0 b)))).toNat, n1, by omega, h7, by rw [h8]; omega, fun i hi => ?_, fun σm Φ hM hΦ => ?_⟩
  · obtain ⟨-, a, -, -⟩ := hS i hi
    have hl := (leL_is hT (lq_ok hT hx i (fun j hj => n2 j (by omega))).1 (n2 i (by omega))).2.1
    rw [a]
    omega
  · refine m_findLines hb hM (fun σm' k1 k2 k3 k4 => hΦ σm' k1 k2 k3 (fun i hi => ?_) ?_)
    · obtain ⟨a1, a2, a3, a4⟩ := hS i hi
      obtain ⟨c1, c2, c3, c4⟩ := k4 i hi
      refine ⟨by rw [a1, c1], by rw [a2, c2], by rw [a3, c3], by rw [a3]; exact rg_01, fun j hj => ?_⟩
      rw [a2] at hj
      rw [a4 j (by omega), c4 j (by omega)]
    · rw [sm_congr (fun i hi => (hS i hi).2.2.1)]
      omega
theorem c_freshStrands (hd : okD d) (hR : CR d σ) (h : ∀ σ' : PS, CR d σ' → CSD (dB d) σ' → ¬ σ' 0 8 = 0 → Φ 5 σ') : FX11_freshStrands σ Φ := by
  unfold FX11_freshStrands
  refine ⟨fun c => h σ hR (hR.2.2.2.2.2.2.2.1 c) c, fun c => ?_⟩
  refine c_freshWays hd hR (fun σ1 hR1 hw => ⟨rfl, ?_⟩)
  obtain ⟨h1, h2, h3, h4, h5, h6, h7, h8, h10⟩ := id hR1
  have hT := okT_T0 hd.1
  refine c_runS hT (okL_xE hd.1) (CN_TN hd.1 h1) hw.2.2.2.1 (fun σ3 o3 e7 e8 hS σ4 g4 => ?_)
  have o4 : Off [0] σ3 σ4 := by rw [g4]; exact Off.rf.up (by simp)
  have o : Off [0, 5, 40, 41, 42, 43, 44, 45, 46] σ1 σ4 := (o3.mono (by simp)).trans (o4.mono (by simp))
  have e0 : ∀ i, i ≠ 8 → σ4 0 i = σ1 0 i := fun i hi => by rw [g4, up2_ni hi, o3 0 (by simp)]
  have w4 : CSD (dB d) σ4 := (CSD_of hd.1 e7 e8 hS).off o4 (by simp)
  refine h σ4 ⟨h1.off o (by simp) (fun w hw => by simp; omega), h2.off o (e0 2 (by omega)) (by simp), ?_, ?_, ?_, fun c2 => ?_, fun c2 => ?_, fun _ => w4, fun c2 => ?_⟩ w4 (by rw [g4, up2_at]; omega)
  · rw [o 9 (by simp), o 57 (by simp)]; exact h3
  · rw [o 11 (by simp), o 61 (by simp)]; exact h4
  · rw [o 62 (by simp), o 63 (by simp)]; exact h5
  · rw [e0 4 (by omega)] at c2; exact (h6 c2).off o (by simp)
  · rw [e0 6 (by omega)] at c2; exact (h7 c2).off o (by simp)
  · rw [e0 10 (by omega)] at c2; exact (h10 c2).off o (by simp)
theorem p_lines (a1 a2 : Int) (ra1 : Rg a1) (ra2 : Rg a2) : PT (FX11_lines a1 a2) (FX12_lines a1 a2) := by
  intro d σc σm hd hC hM
  unfold FX11_lines FX12_lines
  refine c_freshStrands hd hC (fun σc' hC' hw _ => ⟨rfl, ?_⟩)
  obtain ⟨n, r, n30, hrn, e7, e8, e41, hw⟩ := hw
  have inn : ∀ r1 r2 : Int, r1 = r2 → ∀ σm' : PS, MK σm σm' → r1 = r2 ∧ ∃ d', okD d' ∧ CR d' σc' ∧ MR d' σm' := fun r1 r2 e σm' k => ⟨e, d, hd, hC', hM.keep k⟩
  rw [e7]
  refine ⟨fun c1 => ⟨fun c2 => ⟨fun c => by omega, fun _ => inn _ _ rfl _ MK.rf⟩, fun c2 => ?_⟩, fun c1 => ⟨fun _ => hw σm _ hM.1 (fun σm' k1 k2 k3 k4 k5 => ⟨fun c => absurd c1 c, fun _ => inn _ _ k3.symm _ k1⟩), fun c => by omega⟩⟩
  obtain ⟨k, hk⟩ : ∃ k : Nat, a1 = k := ⟨a1.toNat, by omega⟩
  subst hk
  have ek : ((k : Nat) : Int).toNat = k := by omega
  rw [ek]
  have fl : ∀ {P : PS → Prop}, (∀ σm' : PS, MK σm σm' → σm' 0 18 = (n : Int) → (∀ i, i < n → σm' 15 i = σc' 40 i ∧ σm' 16 i = σc' 41 i ∧ σm' 17 i = σc' 42 i ∧ (σc' 42 i = 0 ∨ σc' 42 i = 1) ∧ ∀ j : Nat, (j : Int) < σc' 41 i → σm' 18 (12 * i + j) = σc' 43 (12 * i + j)) → P σm') → FX12_findLines σm (fun _ σ3 => P σ3) := fun hp => hw σm _ hM.1 (fun σm' k1 k2 k3 k4 k5 => hp σm' k1 k3 k4)
  refine ⟨fun c3 => ⟨fun c4 => ?_, fun c4 => ?_, fun c4 => ?_, fun c4 => ?_⟩, fun c3 => ?_⟩
  · refine ⟨⟨by omega, by omega⟩, fun _ => fl (fun σm' k1 k3 k4 => ⟨fun _ => ?_, fun c => absurd c c1⟩), fun c => by omega⟩
    rw [k3, (k4 k (by omega)).1]
    exact ⟨fun _ => ⟨fun _ => ⟨⟨by omega, by omega⟩, inn _ _ rfl _ k1⟩, fun c => by omega, fun c => by omega, fun c => by omega⟩, fun c => absurd c3 c⟩
  · refine ⟨⟨by omega, by omega⟩, fun _ => fl (fun σm' k1 k3 k4 => ⟨fun _ => ?_, fun c => absurd c c1⟩), fun c => by omega⟩
    rw [k3, (k4 k (by omega)).2.1]
    exact ⟨fun _ => ⟨fun c => by omega, fun _ => ⟨⟨by omega, by omega⟩, inn _ _ rfl _ k1⟩, fun c => by omega, fun c => by omega⟩, fun c => absurd c3 c⟩
  · refine ⟨⟨by omega, by omega⟩, fun _ => fl (fun σm' k1 k3 k4 => ⟨fun _ => ?_, fun c => absurd c c1⟩), fun c => by omega⟩
    obtain ⟨-, -, y1, y2, -⟩ := k4 k (by omega)
    rw [k3, y1]
    exact ⟨fun _ => ⟨fun c => by omega, fun c => by omega, fun _ => ⟨⟨by omega, by omega⟩, fun c => inn _ _ (by omega) _ k1, fun c => inn _ _ (by omega) _ k1⟩, fun c => by omega⟩, fun c => absurd c3 c⟩
  · have b41 := e41 k (by omega)
    have r41 : Rg (9 + σc' 41 k) := ⟨by omega, by omega⟩
    refine ⟨fun c5 => ⟨fun _ => fl (fun σm' k1 k3 k4 => ⟨fun _ => ?_, fun c => absurd c c1⟩), fun c => by omega⟩, fun c5 => ⟨⟨by omega, by omega⟩, ⟨by omega, by omega⟩, fun c6 => ⟨fun _ => fl (fun σm' k1 k3 k4 => ⟨fun _ => ?_, fun c => absurd c c1⟩), fun c => by omega⟩, fun c6 => ⟨⟨by omega, by omega⟩, ⟨by omega, by omega⟩, ⟨by omega, by omega⟩, ⟨by omega, by omega⟩, fun _ => fl (fun σm' k1 k3 k4 => ⟨fun _ => ?_, fun c => absurd c c1⟩), fun c => by omega⟩⟩⟩
    · rw [k3, (k4 k (by omega)).2.1]
      exact ⟨fun _ => ⟨fun c => by omega, fun c => by omega, fun c => by omega, fun _ => ⟨⟨by omega, by omega⟩, r41, m_in (fun x y => by omega) (fun _ => ⟨fun _ => inn _ _ rfl _ k1, fun c => absurd rfl c⟩)⟩⟩, fun c => absurd c3 c⟩
    · rw [k3, (k4 k (by omega)).2.1]
      exact ⟨fun _ => ⟨fun c => by omega, fun c => by omega, fun c => by omega, fun _ => ⟨⟨by omega, by omega⟩, r41, m_in (fun x y => by omega) (fun _ => ⟨fun _ => inn _ _ rfl _ k1, fun c => absurd rfl c⟩)⟩⟩, fun c => absurd c3 c⟩
    · rw [k3, (k4 k (by omega)).2.1]
      refine ⟨fun _ => ⟨fun c => by omega, fun c => by omega, fun c => by omega, fun _ => ⟨⟨by omega, by omega⟩, r41, m_in (fun x y => ⟨fun c => by omega, fun _ => ⟨⟨by omega, by omega⟩, ⟨by omega, by omega⟩, ⟨by omega, by omega⟩, ⟨by omega, by omega⟩, inn _ _ ?_ _ k1⟩⟩) (fun x => by omega)⟩⟩, fun c => absurd c3 c⟩
      have e : ((k : Int) * 12 + a2 - 10).toNat = 12 * k + (a2 - 10).toNat := by omega
      rw [e, (k4 k (by omega)).2.2.2.2 _ (by omega)]
  · refine ⟨fun _ => fl (fun σm' k1 k3 k4 => ⟨fun _ => ?_, fun c => absurd c c1⟩), fun c => by omega⟩
    rw [k3]
    exact ⟨fun c => absurd c c3, fun _ => inn _ _ rfl _ k1⟩
end Lines
