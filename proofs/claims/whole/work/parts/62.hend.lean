/-! heights: the whole, and its pairs -/
def F0n : Nat := 300000
noncomputable def hF (T : NT) : HS × (Nat → Int) := hrun T F0n F0n (beg T (tn T)) (fun _ => 0)
section HEnd
variable {b : Bk} {d : DS} {σ : PS} {Φ : Int → PS → Prop}
theorem beg_mw {T : NT} (hT : okT T) : mw T (beg T (tn T)) ≤ F0n ∧ ∀ u : Nat, (0 : Int) ≤ (fun _ : Nat => (0 : Int)) u ∧ (fun _ : Nat => (0 : Int)) u + mw T (beg T (tn T)) ≤ 500000 := by
  have h := beg_ok hT
  have h1 := PP_rng hT h.1
  have h2 := h.2.2.2.1.len hT
  unfold mw F0n
  exact ⟨by omega, fun u => ⟨Int.le_refl _, by show (0 : Int) + _ ≤ _; omega⟩⟩
theorem m_flowsByHeights (hb : okB b) (hM : mB 1 b σ) (h : ∀ σ' : PS, MK σ σ' → HMs (T0 b) (hF (T0 b)).1 (hF (T0 b)).2 σ' → Φ 0 σ') : FX12_flowsByHeights σ Φ := by
  have hn := hb.1
  have hT := okT_T0 hb
  unfold FX12_flowsByHeights
  refine m_mayAll hb hM (fun σ2 o2 h2 => ?_)
  have hM2 : mB 1 b σ2 := hM.keep (o2 1 (by simp))
  have hN2 := MN_TN hb hM2 h2
  refine ⟨bn b + 1, ?_⟩
  -- what stands when all cells are fresh
  have go : ∀ σ3 : PS, HO σ2 σ3 → HMs (T0 b) (beg (T0 b) 0) (fun _ => 0) σ3 → ∃ n, LX12_flowsByHeights_98 n 0 σ3 Φ := fun σ3 o3 hH3 => by
    refine ⟨bn b + 1, m_begin_l hT hb hM2 (fun σ4 o4 hH4 => ?_) (bn b + 1) 0 σ3 (by omega) (by omega) o3 hH3⟩
    obtain ⟨w1, w2⟩ := beg_mw hT
    refine ⟨F0n + 1, m_run (n := F0n) (σ0 := σ2) hT (by unfold F0n; omega) F0n _ _ σ4 (beg_ok hT) w1 w2 o4 hH4 (fun σ5 o5 hH5 => h σ5 ?_ hH5)⟩
    refine (MK.off o2 (by simp) (by simp)).trans ⟨fun k hk => o5.1 k (by simp at hk ⊢; omega), ?_, ?_, ?_⟩
    · exact o5.2 2 (by omega) (by omega)
    · exact o5.2 29 (by omega) (by omega)
    · exact o5.2 36 (by omega) (by omega)
  have l31 : ∀ (f i : Nat) (σ1 : PS), i ≤ 12 → 12 - i < f → Off [4, 10, 11, 12, 13] σ2 σ1 → (∀ e, e < bn b → σ1 4 e = 0) → (∀ v, v < i → σ1 10 v = (if v = ts (T0 b) then (12 : Int) else 0) ∧ σ1 11 v = 0 ∧ σ1 12 v = 0 ∧ σ1 13 v = 0) → LX12_flowsByHeights_31 f i σ1 Φ := by
    intro f
    induction f with
    | zero => intro i σ1 h1 h2; omega
    | succ f ih =>
      intro i σ1 hi hf ho h4 hv
      unfold LX12_flowsByHeights_31 BX12_flowsByHeights_31
      refine ⟨fun c σ4 g4 σ5 g5 => ?_, fun c => ?_⟩
      · have o5 : Off [0] σ1 σ5 := by rw [g5, g4]; exact (Off.rf.up (by simp)).up (by simp)
        have oo : Off [0, 4, 10, 11, 12, 13, 14] σ2 σ5 := (ho.mono (by simp)).trans (o5.mono (by simp))
        refine go σ5 ⟨oo, fun i h16 h17 => ?_⟩ ⟨hN2.off oo (by simp) (by simp), fun e he => ?_, fun v hv2 => ?_, ⟨?_, fun j hj => absurd hj (Nat.not_lt_zero _)⟩, ?_⟩
        · rw [g5, up2_ni h17, g4, up2_ni h16, ho 0 (by simp)]
        · rw [o5 4 (by simp), h4 e he]; rfl
        · obtain ⟨a, b', c', d'⟩ := hv v (by omega)
          rw [o5 10 (by simp), o5 11 (by simp), o5 12 (by simp), o5 13 (by simp)]
          exact ⟨a, b', c', d'⟩
        · rw [g5, up2_ni (by omega), g4, up2_at]; rfl
        · rw [g5, up2_at]; rfl
      · have e0 : ((i : Nat) : Int).toNat = i := by omega
        have nx : ∀ s2 : Int, (s2 = if i = ts (T0 b) then (12 : Int) else 0) → LX12_flowsByHeights_58 (fun x1 σ => LX12_flowsByHeights_31 f x1 σ Φ) i i s2 σ1 Φ := fun s2 hs2 => by
          unfold LX12_flowsByHeights_58
          rw [e0]
          refine ⟨⟨by omega, by omega⟩, fun σ3 g3 => ⟨⟨by omega, by omega⟩, fun σ4 g4 => ⟨⟨by omega, by omega⟩, fun σ6 g6 => ⟨⟨by omega, by omega⟩, fun σ8 g8 => ⟨⟨by omega, by omega⟩, ?_⟩⟩⟩⟩⟩
          have o8 : Off [10, 11, 12, 13] σ1 σ8 := by rw [g8, g6, g4, g3]; exact (((Off.rf.up (by simp)).up (by simp)).up (by simp)).up (by simp)
          refine ih (i + 1) σ8 (by omega) (by omega) (ho.trans (o8.mono (by simp))) (fun e he => by rw [o8 4 (by simp)]; exact h4 e he) (fun v hv2 => ?_)
          have f10 : σ8 10 v = if v = i then s2 else σ1 10 v := by rw [g8, up2_nk (by omega), g6, up2_nk (by omega), g4, up2_nk (by omega), g3, up2_if]
          have f11 : σ8 11 v = if v = i then 0 else σ1 11 v := by rw [g8, up2_nk (by omega), g6, up2_nk (by omega), g4, up2_if, g3, up2_nk (by omega)]
          have f12 : σ8 12 v = if v = i then 0 else σ1 12 v := by rw [g8, up2_nk (by omega), g6, up2_if, g4, up2_nk (by omega), g3, up2_nk (by omega)]
          have f13 : σ8 13 v = if v = i then 0 else σ1 13 v := by rw [g8, up2_if, g6, up2_nk (by omega), g4, up2_nk (by omega), g3, up2_nk (by omega)]
          rw [f10, f11, f12, f13]
          by_cases q : v = i
          · rw [if_pos q, if_pos q, if_pos q, if_pos q, q]
            exact ⟨hs2, rfl, rfl, rfl⟩
          · rw [if_neg q, if_neg q, if_neg q, if_neg q]
            exact hv v (by omega)
        have e10 : σ1 1 0 = (ts (T0 b) : Int) := by rw [ho 1 (by simp)]; exact hN2.2.1
        rw [e10]
        refine ⟨fun c1 => nx 0 (by rw [if_neg (fun z => c1 (by rw [z]))]), fun c1 => nx 12 (by rw [if_pos (by omega)])⟩
  have l6 : ∀ (f i : Nat) (σ1 : PS), i ≤ bn b → bn b - i < f → Off [4] σ2 σ1 → (∀ e, e < i → σ1 4 e = 0) → LX12_flowsByHeights_6 f i σ1 Φ := by
    intro f
    induction f with
    | zero => intro i σ1 h1 h2; omega
    | succ f ih =>
      intro i σ1 hi hf ho h4
      unfold LX12_flowsByHeights_6 BX12_flowsByHeights_6
      rw [ho 1 (by simp), hM2.1]
      refine ⟨fun c => ⟨13, l31 13 0 σ1 (by omega) (by omega) (ho.mono (by simp)) (fun e he => h4 e (by omega)) (fun v hv => absurd hv (Nat.not_lt_zero _))⟩, fun c => ⟨⟨by omega, by omega⟩, fun σ3 g3 => ⟨⟨by omega, by omega⟩, ?_⟩⟩⟩
      refine ih (i + 1) σ3 (by omega) (by omega) (by rw [g3]; exact ho.up (by simp)) (fun e he => ?_)
      rw [g3, show ((i : Nat) : Int).toNat = i by omega, up2_if]
      by_cases q : e = i
      · rw [if_pos q]
      · rw [if_neg q]; exact h4 e (by omega)
  exact l6 (bn b + 1) 0 σ2 (by omega) (by omega) Off.rf (fun e he => absurd he (Nat.not_lt_zero _))
theorem c_runH {T : NT} (hT : okT T) (hM : CN T σ) (hU : CU T σ) (h : ∀ σ' : PS, Off [4, 32, 33, 34, 35, 36, 37, 38, 39] σ σ' → HCs T (hF T).1 (hF T).2 σ' → Φ 0 σ') : FX0_run σ Φ := by
  have hn := hT.1
  unfold FX0_run FX0_begin
  refine c_copyUsable_v2 hM hU hn (fun σ2 o2 hL2 σ3 g3 σ4 g4 σ5 g5 σ6 g6 σ7 g7 σ8 g8 σ9 g9 σ10 g10 σ11 g11 => ?_)
  have o11 : HCo σ2 σ11 := by
    rw [g11, g10, g9, g8, g7, g6, g5, g4, g3]
    exact ((((((((Off.rf.fl (by simp)).fl (by simp)).fl (by simp)).fl (by simp)).fl (by simp)).fl (by simp)).up (by simp)).up (by simp)).up (by simp)
  have hM2 := hM.off o2 (by simp) (by simp) (by simp)
  have hM11 : CN T σ11 := hM2.off o11 (by simp) (by simp) (by simp)
  have h12 := hT.2.2.2
  rw [hM11.2.1]
  refine ⟨⟨by omega, by omega⟩, fun σ13 g13 => ⟨tn T + 1, ?_⟩⟩
  rw [show ((ts T : Nat) : Int).toNat = ts T by omega] at g13
  have o13 : HCo σ2 σ13 := by rw [g13]; exact Off.up o11 (by simp)
  obtain ⟨w1, w2⟩ := beg_mw hT
  have key : ∀ σ14 : PS, HCo σ2 σ14 → HCs T (beg T (tn T)) (fun _ => 0) σ14 → ∃ n, LX0_run_7 n 0 σ14 Φ := fun σ14 o14 hH14 => ⟨F0n + 1, c_run_l (n := F0n) (σ0 := σ2) hT (by unfold F0n; omega) (by unfold F0n; omega) F0n _ _ σ14 0 (beg_ok hT) w1 (by unfold F0n; omega) w2 o14 hH14 (hL2.off o14 (by simp)) (fun σ15 o15 hH15 => h σ15 ((o2.mono (by simp)).trans (Off.mono o15 (by simp))) hH15)⟩
  refine c_begin_l (σ0 := σ2) hT key (tn T + 1) 0 σ13 (by omega) (by omega) o13 ?_ (hL2.off o13 (by simp))
  · refine ⟨hM2.off o13 (by simp) (by simp) (by simp), fun e he => ?_, fun v hv => ⟨?_, ?_, ?_, ?_⟩, ⟨0, by omega, ?_, ?_, fun i hi => absurd hi (Nat.not_lt_zero _)⟩, fun v hv => ⟨fun z => absurd z (by exact List.not_mem_nil), fun _ => ?_⟩, ?_⟩
    · rw [g13, up2_nk (by omega), g11, up2_nk (by omega), g10, up2_nk (by omega), g9, up2_nk (by omega), g8, show ∀ τ : PS, fl2 τ 39 0 12 0 32 = τ 32 from fun τ => by funext i; simp [fl2], g7, show ∀ τ : PS, fl2 τ 37 0 12 0 32 = τ 32 from fun τ => by funext i; simp [fl2], g6, show ∀ τ : PS, fl2 τ 35 0 12 0 32 = τ 32 from fun τ => by funext i; simp [fl2], g5, show ∀ τ : PS, fl2 τ 34 0 12 0 32 = τ 32 from fun τ => by funext i; simp [fl2], g4, show ∀ τ : PS, fl2 τ 33 0 12 0 32 = τ 32 from fun τ => by funext i; simp [fl2], g3, fl2_if, if_pos ⟨by omega, by omega⟩]
      rfl
    · rw [g13, up2_if]
      show _ = if v = ts T then (12 : Int) else 0
      by_cases q : v = ts T
      · rw [if_pos q, if_pos q]
      · rw [if_neg q, if_neg q, g11, up2_nk (by omega), g10, up2_nk (by omega), g9, up2_nk (by omega), g8, show ∀ τ : PS, fl2 τ 39 0 12 0 33 = τ 33 from fun τ => by funext i; simp [fl2], g7, show ∀ τ : PS, fl2 τ 37 0 12 0 33 = τ 33 from fun τ => by funext i; simp [fl2], g6, show ∀ τ : PS, fl2 τ 35 0 12 0 33 = τ 33 from fun τ => by funext i; simp [fl2], g5, show ∀ τ : PS, fl2 τ 34 0 12 0 33 = τ 33 from fun τ => by funext i; simp [fl2], g4, fl2_if, if_pos ⟨by omega, by omega⟩]
    · rw [g13, up2_nk (by omega), g11, up2_nk (by omega), g10, up2_nk (by omega), g9, up2_nk (by omega), g8, show ∀ τ : PS, fl2 τ 39 0 12 0 37 = τ 37 from fun τ => by funext i; simp [fl2], g7, fl2_if, if_pos ⟨by omega, by omega⟩]
      rfl
    · rw [g13, up2_nk (by omega), g11, up2_nk (by omega), g10, up2_nk (by omega), g9, up2_nk (by omega), g8, show ∀ τ : PS, fl2 τ 39 0 12 0 34 = τ 34 from fun τ => by funext i; simp [fl2], g7, show ∀ τ : PS, fl2 τ 37 0 12 0 34 = τ 34 from fun τ => by funext i; simp [fl2], g6, show ∀ τ : PS, fl2 τ 35 0 12 0 34 = τ 34 from fun τ => by funext i; simp [fl2], g5, fl2_if, if_pos ⟨by omega, by omega⟩]
      rfl
    · rw [g13, up2_nk (by omega), g11, up2_nk (by omega), g10, up2_nk (by omega), g9, up2_nk (by omega), g8, show ∀ τ : PS, fl2 τ 39 0 12 0 35 = τ 35 from fun τ => by funext i; simp [fl2], g7, show ∀ τ : PS, fl2 τ 37 0 12 0 35 = τ 35 from fun τ => by funext i; simp [fl2], g6, fl2_if, if_pos ⟨by omega, by omega⟩]
    · rw [g13, up2_nk (by omega), g11, up2_ni (by omega), g10, up2_ni (by omega), g9, up2_at]
      rfl
    · rw [g13, up2_nk (by omega), g11, up2_ni (by omega), g10, up2_at]
      rfl
    · rw [g13, up2_nk (by omega), g11, up2_nk (by omega), g10, up2_nk (by omega), g9, up2_nk (by omega), g8, fl2_if, if_pos ⟨by omega, by omega⟩]
    · rw [g13, up2_nk (by omega), g11, up2_at]
      rfl
/-- what the class holds of heights is what the reference finds -/
theorem CHD_of (hb : okB b) (hH : HCs (T0 b) (hF (T0 b)).1 (hF (T0 b)).2 σ) : CHD b σ := by
  intro σm Φ hM hΦ
  obtain ⟨-, hX, hV, -, -, hP⟩ := hH
  refine m_flowsByHeights hb hM (fun σm' k hm => ?_)
  obtain ⟨-, mX, mV, -, mP⟩ := hm
  refine hΦ σm' k (fun e he => by rw [mX e he, hX e he]) (fun v hv => ?_) (by rw [mP, hP])
  obtain ⟨a1, a2, a3, a4⟩ := hV v hv
  obtain ⟨b1, b2, b3, b4⟩ := mV v hv
  rw [a1, a3, a4, b1, b3, b4]
  exact ⟨rfl, rfl, rfl⟩
theorem c_freshHeights (hd : okD d) (hR : CR d σ) (h : ∀ σ' : PS, CR d σ' → CHD (dB d) σ' → Φ 4 σ') : FX11_freshHeights σ Φ := by
  unfold FX11_freshHeights
  obtain ⟨h1, h2, h3, h4, h5, h6, h7, h8, h10⟩ := id hR
  refine ⟨fun c => h σ hR (h7 c), fun c => ?_⟩
  refine c_runH (okT_T0 hd.1) (CN_TN hd.1 h1) (CU_T0 h1) (fun σ3 o3 a2 σ4 g4 => ?_)
  have o4 : Off [0] σ3 σ4 := by rw [g4]; exact Off.rf.up (by simp)
  have o : Off [0, 4, 32, 33, 34, 35, 36, 37, 38, 39] σ σ4 := (o3.mono (by simp)).trans (o4.mono (by simp))
  have e0 : ∀ i, i ≠ 6 → σ4 0 i = σ 0 i := fun i hi => by rw [g4, up2_ni hi, o3 0 (by simp)]
  have w4 : CHD (dB d) σ4 := (CHD_of hd.1 a2).off o4 (by simp)
  refine h σ4 ⟨h1.off o (by simp) (fun w hw => by simp; omega), h2.off o (e0 2 (by omega)) (by simp), ?_, ?_, ?_, fun c2 => ?_, fun _ => w4, fun c2 => ?_, fun c2 => ?_⟩ w4
  · rw [o 9 (by simp), o 57 (by simp)]; exact h3
  · rw [o 11 (by simp), o 61 (by simp)]; exact h4
  · rw [o 62 (by simp), o 63 (by simp)]; exact h5
  · rw [e0 4 (by omega)] at c2; exact (h6 c2).off o (by simp)
  · rw [e0 8 (by omega)] at c2; exact (h8 c2).off o (by simp)
  · rw [e0 10 (by omega)] at c2; exact (h10 c2).off o (by simp)
theorem p_byHeights (a1 : Int) : PT (FX11_byHeights a1) (FX12_byHeights a1) := by
  intro d σc σm hd hC hM
  have hn := hd.1.1
  unfold FX11_byHeights FX12_byHeights
  refine c_isGate hC.1 (fun e he ha => ⟨fun c => by omega, fun _ => ?_⟩) (fun hno => ⟨fun _ => ?_, fun c => absurd rfl c⟩)
  · refine c_freshHeights hd hC (fun σc' hC' hw => ⟨rfl, ⟨by omega, by omega⟩, ?_⟩)
    refine m_isGate hd.1 hM.1 (fun e2 he2 ha2 => ⟨fun _ => ?_, fun c => by omega⟩) (fun hno => by omega)
    refine hw σm _ hM.1 (fun σm' k k1 k2 k3 => ⟨⟨by omega, by omega⟩, ?_, d, hd, hC', hM.keep k⟩)
    rw [ha, show ((e : Nat) : Int).toNat = e by omega, k1 e he]
  · refine m_isGate hd.1 hM.1 (fun e2 he2 ha2 => by omega) (fun _ => ⟨fun c => absurd rfl c, fun _ => ⟨rfl, d, hd, hC, hM⟩⟩)
theorem p_heights (a1 a2 : Int) : PT (FX11_heights a1 a2) (FX12_heights a1 a2) := by
  intro d σc σm hd hC hM
  unfold FX11_heights FX12_heights LX12_heights_13 LX12_heights_14 LX12_heights_37
  by_cases q : a1 = -1
  · refine ⟨fun c => absurd q c, fun _ => ⟨fun c => ⟨fun c2 => absurd q c2, fun _ => ⟨fun _ => ⟨fun c3 => absurd rfl c3, fun _ => ?_⟩, fun c3 => absurd c3 c⟩⟩, fun c => ?_⟩⟩
    · exact m_isNode (fun x y => by omega) (fun _ => ⟨fun _ => ⟨rfl, d, hd, hC, hM⟩, fun c => absurd rfl c⟩)
    · refine c_freshHeights hd hC (fun σc' hC' hw => ⟨rfl, fun c2 => absurd q c2, fun _ => ⟨fun c3 => absurd c c3, fun _ => ⟨fun _ => ?_, fun c4 => by omega⟩⟩⟩)
      refine hw σm _ hM.1 (fun σm' k k1 k2 k3 => ⟨fun c4 => by omega, fun _ => ⟨k3.symm, d, hd, hC', hM.keep k⟩⟩)
  · refine ⟨fun _ => ?_, fun c => absurd c q⟩
    refine c_isNode (fun x y => ⟨fun _ => ⟨fun c => ?_, fun c => ?_, fun c => ?_, fun c => ?_⟩, fun c => by omega⟩) (fun hno => ⟨fun c => absurd rfl c, fun _ => ⟨fun _ => ⟨fun c => absurd rfl c, fun _ => ?_⟩, fun c => absurd c q⟩⟩)
    · refine c_freshHeights hd hC (fun σc' hC' hw => ⟨rfl, ⟨by omega, by omega⟩, fun _ => ⟨fun c => absurd rfl c, fun _ => ?_⟩, fun c => absurd c q⟩)
      refine m_isNode (fun _ _ => ⟨fun c => by omega, fun _ => ?_⟩) (fun hno => absurd ⟨x, y⟩ hno)
      refine m_in (fun _ _ => ⟨fun _ => ?_, fun c => by omega⟩) (fun hno => by omega)
      refine hw σm _ hM.1 (fun σm' k k1 k2 k3 => ⟨fun _ => ⟨fun c4 => by omega, fun _ => ⟨⟨by omega, by omega⟩, ?_, d, hd, hC', hM.keep k⟩⟩, fun c4 => absurd rfl c4⟩)
      rw [(k2 a1.toNat (by omega)).1]
    · refine c_freshHeights hd hC (fun σc' hC' hw => ⟨rfl, ⟨by omega, by omega⟩, fun _ => ⟨fun c => absurd rfl c, fun _ => ?_⟩, fun c => absurd c q⟩)
      refine m_isNode (fun _ _ => ⟨fun c => by omega, fun _ => ?_⟩) (fun hno => absurd ⟨x, y⟩ hno)
      refine m_in (fun _ _ => ⟨fun _ => ?_, fun c => by omega⟩) (fun hno => by omega)
      refine hw σm _ hM.1 (fun σm' k k1 k2 k3 => ⟨fun _ => ⟨fun _ => ⟨fun c5 => by omega, fun _ => ⟨⟨by omega, by omega⟩, ?_, d, hd, hC', hM.keep k⟩⟩, fun c4 => by omega⟩, fun c4 => absurd rfl c4⟩)
      rw [(k2 a1.toNat (by omega)).2.1]
    · refine c_freshHeights hd hC (fun σc' hC' hw => ⟨rfl, ⟨by omega, by omega⟩, fun _ => ⟨fun c => absurd rfl c, fun _ => ?_⟩, fun c => absurd c q⟩)
      refine m_isNode (fun _ _ => ⟨fun c => by omega, fun _ => ?_⟩) (fun hno => absurd ⟨x, y⟩ hno)
      refine m_in (fun _ _ => ⟨fun _ => ?_, fun c => by omega⟩) (fun hno => by omega)
      refine hw σm _ hM.1 (fun σm' k k1 k2 k3 => ⟨fun _ => ⟨fun _ => ⟨fun _ => ⟨⟨by omega, by omega⟩, ?_, d, hd, hC', hM.keep k⟩, fun c5 => by omega⟩, fun c4 => by omega⟩, fun c4 => absurd rfl c4⟩)
      rw [(k2 a1.toNat (by omega)).2.2]
    · refine ⟨fun _ => ⟨fun c2 => absurd rfl c2, fun _ => ?_⟩, fun c2 => absurd c2 q⟩
      refine m_isNode (fun _ _ => ⟨fun c => by omega, fun _ => ?_⟩) (fun hno => absurd ⟨x, y⟩ hno)
      exact m_in (fun u w => by omega) (fun hno => ⟨fun c => absurd rfl c, fun _ => ⟨rfl, d, hd, hC, hM⟩⟩)
    · exact m_isNode (fun x y => absurd ⟨x, y⟩ hno) (fun _ => ⟨fun _ => ⟨rfl, d, hd, hC, hM⟩, fun c => absurd rfl c⟩)
end HEnd
