/-! heights: turns, the whole run -/
noncomputable def hrun (T : NT) (n : Nat) : Nat → HS → (Nat → Int) → HS × (Nat → Int)
  | 0, s, sv => (s, sv)
  | m + 1, s, sv => if s.2.2.2.2.2.length = 0 then (s, sv) else hrun T n m (tlW (srv T (s.2.2.2.2.2.getD 0 0) n s)) (fun u => if u = s.2.2.2.2.2.getD 0 0 then sv u + 1 else sv u)
def mw (T : NT) (s : HS) : Int := PP T s.1 s.2.1 s.2.2.1 + (s.2.2.2.2.2.length : Int)
section HRun2
variable {T : NT} {s : HS} {σ : PS} {sv : Nat → Int} {Φ : Int → PS → Prop}
theorem getD_tail {W : List Nat} {i : Nat} : W.tail.getD i 0 = W.getD (i + 1) 0 := by
  cases W with
  | nil => simp
  | cons w L => rfl
theorem okW.tail {W : List Nat} (h : okW T W) : okW T W.tail := by
  refine ⟨fun i hi => ?_, fun i j hij hj => ?_⟩
  · rw [List.length_tail] at hi
    rw [getD_tail]
    exact h.1 (i + 1) (by omega)
  · rw [List.length_tail] at hj
    rw [getD_tail, getD_tail]
    exact h.2 (i + 1) (j + 1) (by omega) (by omega)
theorem okS.tl (h : okS T s) : okS T (tlW s) := by
  obtain ⟨h1, h2, h3, h4, h5, h6⟩ := h
  exact ⟨h1, h2, h3, h4.tail, h5, h6⟩
theorem trn_ok {n : Nat} (hT : okT T) (h : okS T s) (hl : s.2.2.2.2.2.length ≠ 0) : (s.2.2.2.2.2.getD 0 0 < 12 ∧ s.2.2.2.2.2.getD 0 0 ≠ ts T ∧ s.2.2.2.2.2.getD 0 0 ≠ tz T) ∧ okS T (srv T (s.2.2.2.2.2.getD 0 0) n s) ∧ (∃ L, (srv T (s.2.2.2.2.2.getD 0 0) n s).2.2.2.2.2 = s.2.2.2.2.2 ++ L) ∧ mw T (tlW (srv T (s.2.2.2.2.2.getD 0 0) n s)) + 1 ≤ mw T s := by
  have h0 := h.2.2.2.1.1 0 (by omega)
  obtain ⟨h1, h2, L, h3⟩ := srv_ok hT h0.1 h0.2.1 h0.2.2 n s h
  refine ⟨h0, h1, ⟨L, h3⟩, ?_⟩
  generalize srv T (s.2.2.2.2.2.getD 0 0) n s = w at h2 h3
  unfold mw tlW
  have : (w.2.2.2.2.2.tail.length : Int) + 1 = w.2.2.2.2.2.length := by
    rw [List.length_tail, h3, List.length_append]
    omega
  show PP T w.1 w.2.1 w.2.2.1 + ((w.2.2.2.2.2.tail.length : Nat) : Int) + 1 ≤ _
  omega
/-- those that wait move up -/
theorem m_shift {K : PS → Prop} {W : List Nat} {σ0 : PS} (hl : W.length < 12) : ∀ (f i : Nat) (σ : PS), i + 1 ≤ W.length → W.length - i < f → Off [14] σ0 σ → σ 0 16 = (W.length : Int) - 1 → (∀ j, j < W.length → σ 14 j = if j < i then (W.getD (j + 1) 0 : Nat) else (W.getD j 0 : Nat)) → (∀ σ' : PS, Off [14] σ0 σ' → (∀ j, j < W.tail.length → σ' 14 j = (W.tail.getD j 0 : Nat)) → K σ') → LX12_flowsByHeights_178 K f i σ Φ := by
  intro f
  induction f with
  | zero => intro i σ h1 h2; omega
  | succ f ih =>
    intro i σ hi hf ho h16 hv hK
    unfold LX12_flowsByHeights_178 BX12_flowsByHeights_178
    rw [h16]
    refine ⟨fun c => hK σ ho (fun j hj => ?_), fun c => ?_⟩
    · rw [List.length_tail] at hj
      rw [hv j (by omega), if_pos (by omega), getD_tail]
    · have e1 : ((i : Int) + 1).toNat = i + 1 := by omega
      have e0 : ((i : Nat) : Int).toNat = i := by omega
      refine ⟨⟨by omega, by omega⟩, ⟨by omega, by omega⟩, ⟨by omega, by omega⟩, fun σ5 g5 => ⟨⟨by omega, by omega⟩, ?_⟩⟩
      rw [e1, e0] at g5
      have o5 : Off [14] σ σ5 := by rw [g5]; exact Off.rf.up (by simp)
      refine ih (i + 1) σ5 (by omega) (by omega) (ho.trans o5) (by rw [o5 0 (by simp)]; exact h16) (fun j hj => ?_) hK
      rw [g5, up2_if]
      by_cases q : j = i
      · rw [if_pos q, hv (i + 1) (by omega), if_neg (by omega), if_pos (by omega), q]
      · rw [if_neg q, hv j hj]
        by_cases q2 : j < i
        · rw [if_pos q2, if_pos (by omega)]
        · rw [if_neg q2, if_neg (by omega)]
theorem m_run {n : Nat} {σ0 : PS} (hT : okT T) (hn : 200268 ≤ n) : ∀ (m : Nat) (s : HS) (sv : Nat → Int) (σ : PS), okS T s → mw T s ≤ m → (∀ u, 0 ≤ sv u ∧ sv u + mw T s ≤ 500000) → HO σ0 σ → HMs T s sv σ → (∀ σ' : PS, HO σ0 σ' → HMs T (hrun T n m s sv).1 (hrun T n m s sv).2 σ' → Φ 0 σ') → LX12_flowsByHeights_149 (m + 1) σ Φ := by
  intro m
  induction m with
  | zero =>
    intro s sv σ h hm hsv ho hH hΦ
    have hr := PP_rng hT h.1
    have e0 : s.2.2.2.2.2.length = 0 := by unfold mw at hm; omega
    unfold LX12_flowsByHeights_149 BX12_flowsByHeights_149
    rw [hH.2.2.2.1.1, e0]
    exact ⟨fun _ => hΦ σ ho hH, fun c => by omega⟩
  | succ m ih =>
    intro s sv σ h hm hsv ho hH hΦ
    have hr := PP_rng hT h.1
    unfold LX12_flowsByHeights_149 BX12_flowsByHeights_149
    obtain ⟨hM, hX, hV, hQ, hP⟩ := id hH
    rw [hQ.1]
    by_cases e0 : s.2.2.2.2.2.length = 0
    · refine ⟨fun _ => ?_, fun c => by omega⟩
      have e : hrun T n (m + 1) s sv = (s, sv) := by
        conv => lhs; unfold hrun
        rw [if_pos e0]
      rw [e] at hΦ
      exact hΦ σ ho hH
    · refine ⟨fun c => by omega, fun _ => ?_⟩
      have e : hrun T n (m + 1) s sv = hrun T n m (tlW (srv T (s.2.2.2.2.2.getD 0 0) n s)) (fun u => if u = s.2.2.2.2.2.getD 0 0 then sv u + 1 else sv u) := by
        conv => lhs; unfold hrun
        rw [if_neg e0]
      rw [e] at hΦ
      obtain ⟨⟨t1, t2, t3⟩, t4, ⟨L, t5⟩, t6⟩ := trn_ok (n := n) hT h e0
      have e14 := hQ.2 0 (by omega)
      rw [e14]
      have hsw := hsv (s.2.2.2.2.2.getD 0 0)
      have hmw : 0 ≤ mw T s := by unfold mw; omega
      refine m_serves (n := n) hT h t1 t2 t3 (by omega) hH (by omega) (fun σ3 o3 hH3 => ?_)
      obtain ⟨hM3, hX3, hV3, hQ3, hP3⟩ := hH3
      have hl3 : (srv T (s.2.2.2.2.2.getD 0 0) n s).2.2.2.2.2.length ≠ 0 := by rw [t5, List.length_append]; omega
      have hl12 := t4.2.2.2.1.len hT
      rw [hQ3.1]
      refine ⟨⟨by omega, by omega⟩, fun σ5 g5 => ?_⟩
      have o5 : Off [0] σ3 σ5 := by rw [g5]; exact Off.rf.up (by simp)
      have e5 : σ5 0 16 = ((srv T (s.2.2.2.2.2.getD 0 0) n s).2.2.2.2.2.length : Int) - 1 := by rw [g5, up2_at]
      refine ⟨_, m_shift (W := (srv T (s.2.2.2.2.2.getD 0 0) n s).2.2.2.2.2) (σ0 := σ5) hl12 ((srv T (s.2.2.2.2.2.getD 0 0) n s).2.2.2.2.2.length + 1) 0 σ5 (by omega) (by omega) Off.rf e5 (fun j hj => ?_) (fun σ6 o6 hw => ?_)⟩
      · rw [if_neg (by omega), o5 14 (by simp)]
        exact hQ3.2 j hj
      · have o36 : Off [0, 14] σ3 σ6 := (o5.mono (by simp)).trans (o6.mono (by simp))
        have k0 : ∀ i, i ≠ 16 → σ6 0 i = σ3 0 i := fun i hi => by rw [o6 0 (by simp), g5, up2_ni hi]
        refine ih _ _ σ6 t4.tl (by omega) (fun u => ?_) (ho.trans (o3.trans ⟨o36.mono (by simp), fun i hi _ => k0 i hi⟩)) ⟨hM3.off o36 (by simp) (by simp), hX3.off o36 (by simp), fun u hu => ?_, ⟨?_, hw⟩, ?_⟩ hΦ
        · have := hsv u
          by_cases q : u = s.2.2.2.2.2.getD 0 0
          · simp only [if_pos q]; omega
          · simp only [if_neg q]; omega
        · rw [o36 10 (by simp), o36 11 (by simp), o36 12 (by simp), o36 13 (by simp)]
          exact hV3 u hu
        · rw [o6 0 (by simp), e5]
          show _ = (((srv T (s.2.2.2.2.2.getD 0 0) n s).2.2.2.2.2.tail.length : Nat) : Int)
          rw [List.length_tail]
          omega
        · rw [k0 17 (by omega)]
          exact hP3
theorem c_run_l {n : Nat} {σ0 : PS} (hT : okT T) (hn : 200268 ≤ n) (hn9 : n ≤ 900000) : ∀ (m : Nat) (s : HS) (sv : Nat → Int) (σ : PS) (t : Nat), okS T s → mw T s ≤ m → t + m ≤ 900000 → (∀ u, 0 ≤ sv u ∧ sv u + mw T s ≤ 500000) → HCo σ0 σ → HCs T s sv σ → CL 36 T σ → (∀ σ' : PS, HCo σ0 σ' → HCs T (hrun T n m s sv).1 (hrun T n m s sv).2 σ' → Φ 0 σ') → LX0_run_7 (m + 1) t σ Φ := by
  intro m
  induction m with
  | zero =>
    intro s sv σ t h hm ht hsv ho hH hL hΦ
    have hr := PP_rng hT h.1
    have e0 : s.2.2.2.2.2.length = 0 := by unfold mw at hm; omega
    unfold LX0_run_7 BX0_run_7
    obtain ⟨fi, f1, f2, f3, f4⟩ := hH.2.2.2.1
    rw [f3, e0]
    exact ⟨fun c => by omega, fun _ => ⟨fun _ => hΦ σ ho hH, fun c => by omega⟩⟩
  | succ m ih =>
    intro s sv σ t h hm ht hsv ho hH hL hΦ
    have hr := PP_rng hT h.1
    unfold LX0_run_7 BX0_run_7
    obtain ⟨hM, hX, hV, ⟨fi, f1, f2, f3, f4⟩, hD, hP⟩ := id hH
    rw [f3]
    refine ⟨fun c => by omega, fun _ => ?_⟩
    by_cases e0 : s.2.2.2.2.2.length = 0
    · refine ⟨fun _ => ?_, fun c => by omega⟩
      have e : hrun T n (m + 1) s sv = (s, sv) := by
        conv => lhs; unfold hrun
        rw [if_pos e0]
      rw [e] at hΦ
      exact hΦ σ ho hH
    · refine ⟨fun c => by omega, fun _ => ?_⟩
      have e : hrun T n (m + 1) s sv = hrun T n m (tlW (srv T (s.2.2.2.2.2.getD 0 0) n s)) (fun u => if u = s.2.2.2.2.2.getD 0 0 then sv u + 1 else sv u) := by
        conv => lhs; unfold hrun
        rw [if_neg e0]
      rw [e] at hΦ
      obtain ⟨⟨t1, t2, t3⟩, t4, ⟨L, t5⟩, t6⟩ := trn_ok (n := n) hT h e0
      have e14 := f4 0 (by omega)
      rw [Nat.add_zero, show fi % 12 = fi by omega] at e14
      rw [f2, show ((fi : Nat) : Int).toNat = fi by omega, e14]
      have hsw := hsv (s.2.2.2.2.2.getD 0 0)
      have hmw : 0 ≤ mw T s := by unfold mw; omega
      refine ⟨⟨by omega, by omega⟩, fun v4 g4 => ?_⟩
      rw [g4]
      refine c_serve (n := n) hT h t1 t2 t3 (by omega) hn9 hH hL (by omega) (fun σ3 o3 hH3 => ?_)
      obtain ⟨hM3, hX3, hV3, ⟨gi, g1, g2, g3, g6⟩, hD3, hP3⟩ := hH3
      have hl3 : (srv T (s.2.2.2.2.2.getD 0 0) n s).2.2.2.2.2.length ≠ 0 := by rw [t5, List.length_append]; omega
      have hl12 := t4.2.2.2.1.len hT
      have hhd : (srv T (s.2.2.2.2.2.getD 0 0) n s).2.2.2.2.2.getD 0 0 = s.2.2.2.2.2.getD 0 0 := by rw [t5, getD_appN, if_pos (by omega)]
      rw [g2]
      refine ⟨⟨by omega, by omega⟩, by omega, fun σ9 q9 => ?_⟩
      have e9 : σ9 4 9 = ((srv T (s.2.2.2.2.2.getD 0 0) n s).2.2.2.2.2.length : Int) := by rw [q9, up2_ni (by omega)]; exact g3
      rw [e9]
      refine ⟨⟨by omega, by omega⟩, fun σ11 q11 => ⟨⟨by omega, by omega⟩, fun σ13 q13 => ⟨⟨by omega, by omega⟩, ?_⟩⟩⟩
      have o13 : Off [4, 39] σ3 σ13 := by rw [q13, q11, q9]; exact ((Off.rf.up (by simp)).up (by simp)).up (by simp)
      rw [show ((s.2.2.2.2.2.getD 0 0 : Nat) : Int).toNat = s.2.2.2.2.2.getD 0 0 by omega] at q13
      refine ih _ _ σ13 (t + 1) t4.tl (by omega) (by omega) (fun u => ?_) (Off.trans ho (Off.trans o3 (o13.mono (by simp)))) ⟨hM3.off o13 (by simp) (by simp) (by simp), hX3.off o13 (by simp), fun u hu => ?_, ⟨(gi + 1) % 12, by omega, ?_, ?_, fun i hi => ?_⟩, fun v hv => ?_, ?_⟩ ((hL.off o3 (by simp)).off o13 (by simp)) hΦ
      · have := hsv u
        by_cases q : u = s.2.2.2.2.2.getD 0 0
        · simp only [if_pos q]; omega
        · simp only [if_neg q]; omega
      · rw [o13 33 (by simp), o13 34 (by simp), o13 35 (by simp), o13 37 (by simp)]
        exact hV3 u hu
      · rw [q13, up2_nk (by omega), q11, up2_ni (by omega), q9, up2_at]
        omega
      · rw [q13, up2_nk (by omega), q11, up2_at]
        show _ = (((srv T (s.2.2.2.2.2.getD 0 0) n s).2.2.2.2.2.tail.length : Nat) : Int)
        rw [List.length_tail]
        omega
      · change i < (srv T (s.2.2.2.2.2.getD 0 0) n s).2.2.2.2.2.tail.length at hi
        show _ = (((srv T (s.2.2.2.2.2.getD 0 0) n s).2.2.2.2.2.tail.getD i 0 : Nat) : Int)
        rw [List.length_tail] at hi
        rw [getD_tail, o13 38 (by simp), ← g6 (i + 1) (by omega)]
        congr 1
        omega
      · show (v ∈ (srv T (s.2.2.2.2.2.getD 0 0) n s).2.2.2.2.2.tail → _) ∧ (v ∉ (srv T (s.2.2.2.2.2.getD 0 0) n s).2.2.2.2.2.tail → _)
        rw [q13, up2_if]
        have hne : ∀ i, i < (srv T (s.2.2.2.2.2.getD 0 0) n s).2.2.2.2.2.tail.length → (srv T (s.2.2.2.2.2.getD 0 0) n s).2.2.2.2.2.tail.getD i 0 ≠ s.2.2.2.2.2.getD 0 0 := fun i hi => by
          rw [List.length_tail] at hi
          rw [getD_tail]
          intro z
          exact t4.2.2.2.1.2 0 (i + 1) (by omega) (by omega) (hhd.trans z.symm)
        by_cases q : v = s.2.2.2.2.2.getD 0 0
        · rw [if_pos q]
          refine ⟨fun y => ?_, fun _ => rfl⟩
          obtain ⟨i, i1, i2⟩ := mem_getD.mp y
          exact absurd (i2.trans q) (hne i i1)
        · rw [if_neg q, q11, up2_nk (by omega), q9, up2_nk (by omega)]
          obtain ⟨d1, d2⟩ := hD3 v hv
          refine ⟨fun y => d1 (List.mem_of_mem_tail y), fun y => d2 (fun y2 => ?_)⟩
          obtain ⟨i, i1, i2⟩ := mem_getD.mp y2
          cases i with
          | zero => exact q (by rw [← i2, hhd])
          | succ i => exact y (mem_getD.mpr ⟨i, by rw [List.length_tail]; omega, by rw [getD_tail]; exact i2⟩)
      · rw [q13, up2_nk (by omega), q11, up2_ni (by omega), q9, up2_ni (by omega)]
        exact hP3
end HRun2
