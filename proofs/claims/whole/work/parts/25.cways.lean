section CWays
variable {T : NT} {σ : PS} {x : Nat → Int} {Φ : Int → PS → Prop}
theorem c_nextStep {v : Nat} (hT : okT T) (hM : CN T σ) (hX : QX T x σ) (hL : CL 29 T σ) (hx : okX (tn T) (tl T) x) (hd : IsDist 12 (stT T x) (tz T) (fun v => σ 30 v)) (hv : v < 12) (h0 : 0 < σ 30 v) (h : Φ (nxT T x (fun v => σ 30 v) v : Nat) σ) : FX1_nextStep v σ Φ := by
  have hn := hT.1
  have hlt : σ 30 v < 12 := hd.lt hT.2.2.2.2.1 hv
  unfold FX1_nextStep
  have ev : ((v : Nat) : Int).toNat = v := by omega
  have l2 : (∀ e, e < tn T → ¬ pF T x (fun v => σ 30 v) v e) → ∀ (f i : Nat), i ≤ tn T → tn T - i < f → (∀ e, e < i → ¬ pB T x (fun v => σ 30 v) v e) → LX1_nextStep_60 f v i σ Φ := by
    intro hnf f
    induction f with
    | zero => intro i h1 h2; omega
    | succ f ih =>
      intro i hi hf hno
      unfold LX1_nextStep_60 BX1_nextStep_60
      rw [hM.1]
      refine ⟨fun c => ?_, fun c => ?_⟩
      · obtain ⟨j, h1, h2⟩ := nxT_ex hn hd hv h0
        by_cases q : j < tn T
        · exact absurd ((pS_F hn q).mp h2) (hnf j q)
        · obtain ⟨k, rfl⟩ : ∃ k, j = tn T + k := ⟨j - tn T, by omega⟩
          exact absurd (pS_B.mp h2) (hno k (by omega))
      · have hi2 : i < tn T := by omega
        have hN := hT.2.1 i hi2
        have e0 : ((i : Nat) : Int).toNat = i := by omega
        have go : (¬ pB T x (fun v => σ 30 v) v i) → LX1_nextStep_113 (fun x2 x3 σ => LX1_nextStep_60 f x2 x3 σ Φ) v i σ Φ := fun hnp => by
          unfold LX1_nextStep_113
          refine ⟨⟨by omega, by omega⟩, ?_⟩
          exact ih (i + 1) (by omega) (by omega) (fun e he => by
            by_cases q : e = i
            · rw [q]; exact hnp
            · exact hno e (by omega))
        rw [e0, (hM.2.2.2 i hi2).2]
        refine ⟨⟨by omega, by omega⟩, fun c1 => go (fun z => c1 (by rw [z.1])), fun c1 => ?_⟩
        refine c_bwd rfl hn hX hi2 (fun c2 => ⟨fun _ => go (fun z => by have := z.2.1; omega), fun c => by omega⟩) (fun c2 => ⟨fun c => by omega, fun _ => ?_⟩)
        rw [ev, (hM.2.2.2 i hi2).1, show ((tf T i : Nat) : Int).toNat = tf T i by omega]
        refine ⟨⟨by omega, by omega⟩, ⟨by omega, by omega⟩, ⟨by omega, by omega⟩, ⟨by omega, by omega⟩, fun c3 => go (fun z => c3 z.2.2), fun c3 => ⟨⟨by omega, by omega⟩, ?_⟩⟩
        have hp : pB T x (fun v => σ 30 v) v i := ⟨by omega, c2, c3⟩
        have e2 : nxT T x (fun v => σ 30 v) v = 100 + i := by
          unfold nxT
          rw [ffn_none (fun k hk => hnf k hk), if_neg (Nat.lt_irrefl _), ffn_at hi2 hp hno]
        rw [e2] at h
        rw [show (100 + (i : Int)) = ((100 + i : Nat) : Int) by omega]
        exact h
  have l1 : ∀ (f i : Nat), i ≤ tn T → tn T - i < f → (∀ e, e < i → ¬ pF T x (fun v => σ 30 v) v e) → LX1_nextStep_2 f v i σ Φ := by
    intro f
    induction f with
    | zero => intro i h1 h2; omega
    | succ f ih =>
      intro i hi hf hno
      unfold LX1_nextStep_2 BX1_nextStep_2
      rw [hM.1]
      refine ⟨fun c => ⟨tn T + 1, l2 (fun e he => hno e (by omega)) (tn T + 1) 0 (by omega) (by omega) (fun e he => by omega)⟩, fun c => ?_⟩
      have hi2 : i < tn T := by omega
      have hN := hT.2.1 i hi2
      have e0 : ((i : Nat) : Int).toNat = i := by omega
      have go : (¬ pF T x (fun v => σ 30 v) v i) → LX1_nextStep_52 (fun x2 x3 σ => LX1_nextStep_2 f x2 x3 σ Φ) v i σ Φ := fun hnp => by
        unfold LX1_nextStep_52
        refine ⟨⟨by omega, by omega⟩, ?_⟩
        exact ih (i + 1) (by omega) (by omega) (fun e he => by
          by_cases q : e = i
          · rw [q]; exact hnp
          · exact hno e (by omega))
      rw [e0, (hM.2.2.2 i hi2).1]
      refine ⟨⟨by omega, by omega⟩, fun c1 => go (fun z => c1 (by rw [z.1])), fun c1 => ?_⟩
      refine c_fwd rfl hn hL hX hi2 (fun c2 => ⟨fun _ => go (fun z => by have := z.2.1; omega), fun c => by omega⟩) (fun c2 => ⟨fun c => by omega, fun _ => ?_⟩)
      rw [ev, (hM.2.2.2 i hi2).2, show ((tt T i : Nat) : Int).toNat = tt T i by omega]
      refine ⟨⟨by omega, by omega⟩, ⟨by omega, by omega⟩, ⟨by omega, by omega⟩, ⟨by omega, by omega⟩, fun c3 => go (fun z => c3 z.2.2), fun c3 => ?_⟩
      have hp : pF T x (fun v => σ 30 v) v i := ⟨by omega, c2, c3⟩
      have e2 : nxT T x (fun v => σ 30 v) v = i := by
        unfold nxT
        rw [ffn_at hi2 hp hno, if_pos hi2]
      rw [e2] at h
      exact h
  exact ⟨tn T + 1, l1 (tn T + 1) 0 (by omega) (by omega) (fun e he => by omega)⟩
theorem c_roomOf {c : Nat} (hT : okT T) (hX : QX T x σ) (hL : CL 29 T σ) (hx : okX (tn T) (tl T) x) (hc : cOK T c) (h : Φ (rmc (tl T) x c) σ) : FX1_roomOf c σ Φ := by
  have hn := hT.1
  unfold FX1_roomOf
  unfold rmc at h
  rcases hc with ⟨a, b⟩ | ⟨a, b⟩
  · have h1 := hx _ b
    have h2 := hT.2.2.1 _ b
    rw [show ((c : Nat) : Int).toNat = c by omega, hX _ b, hL _ b]
    rw [if_pos a] at h
    exact ⟨fun c => by omega, fun c => ⟨⟨by omega, by omega⟩, ⟨by omega, by omega⟩, ⟨by omega, by omega⟩, h⟩⟩
  · rw [if_neg (by omega)] at h
    rw [show ((c : Int) - 100).toNat = c - 100 by omega, hX _ b]
    exact ⟨fun c => ⟨⟨by omega, by omega⟩, ⟨by omega, by omega⟩, h⟩, fun c => by omega⟩
def CWay (T : NT) (K : Nat) (σ : PS) : Prop := ∀ k, k < K → σ 26 k = amK T k ∧ σ 27 k = dsT T k ∧ ∀ i, i < (dsT T k).toNat → σ 28 (12 * k + i) = (psK T k i : Int)
/-- cells of ByWays, and its count and value -/
def CI (T : NT) (σ0 σ : PS) : Prop := CN T σ ∧ CL 29 T σ ∧ Off [3, 25, 26, 27, 28, 29, 30, 31] σ0 σ ∧ (∀ i, ¬ (7 ≤ i ∧ i ≤ 10) → σ 3 i = σ0 3 i)
theorem CI.more {σ0 σ' : PS} (h : CI T σ0 σ) (ho : Off [25, 26, 27, 28, 30, 31] σ σ') : CI T σ0 σ' :=
  ⟨h.1.off ho (by simp) (by simp) (by simp), h.2.1.off ho (by simp), h.2.2.1.trans (ho.mono (by simp)), fun i hi => by rw [ho 3 (by simp)]; exact h.2.2.2 i hi⟩
theorem CI.up3 {σ0 : PS} {i : Nat} {v : Int} (h : CI T σ0 σ) (hi : 7 ≤ i ∧ i ≤ 10) : CI T σ0 (up2 σ 3 i v) := by
  have o1 : Off [3] σ (up2 σ 3 i v) := Off.rf.up (by simp)
  refine ⟨h.1.off o1 (by simp) (by simp) (by simp), h.2.1.off o1 (by simp), h.2.2.1.trans (o1.mono (by simp)), fun j hj => ?_⟩
  rw [up2_ni (by omega)]
  exact h.2.2.2 j hj
theorem c_pour {σ0 : PS} {k L : Nat} (hT : okT T) (hk : k < KT T) (hL : L = (dsT T k).toNat)
    (hK : ∀ σ' : PS, CI T σ0 σ' → Off [25] σ σ' → QX T (xT T (k + 1)) σ' → Φ 0 σ') :
    ∀ (f j : Nat) (σ1 : PS), j ≤ L → L - j < f → CI T σ0 σ1 → Off [25] σ σ1 → (∀ i, i < L → σ1 28 (12 * k + i) = (psK T k i : Int)) → (∀ e, e < tn T → σ1 25 e = aX (xT T k) (psK T k) (amK T k) j e) → LX1_pour_3 f ((12 * k : Nat) : Int) L (amK T k) j σ1 Φ := by
  obtain ⟨am0, am1, hxk, ds1, ds0⟩ := amK_le hT hk
  have hw := amK_pos hT hxk ds0
  have hKT := (KT_spec hT).1
  have hn := hT.1
  intro f
  induction f with
  | zero => intro j σ h1 h2; omega
  | succ f ih =>
    intro j σ1 hj hf hI ho h9 h4
    unfold LX1_pour_3 BX1_pour_3
    refine ⟨fun c => ?_, fun c => ?_⟩
    · have e : j = L := by omega
      subst e
      exact hK σ1 hI ho (fun e he => by rw [h4 e he, hL]; rfl)
    · have hjL : j < L := by omega
      have hst := (hw.2.2.1 j (by omega)).1
      have hc := stOK_cOK hst
      have m2 := (gof_c hc hn).2
      have hr := aX_rng (j := j) hT hk (by omega) m2
      rw [show (((12 * k : Nat) : Int) + (j : Int)).toNat = 12 * k + j by omega]
      refine ⟨⟨by omega, by omega⟩, ⟨by omega, by omega⟩, fun v4 g4 => ?_⟩
      rw [h9 j hjL] at g4
      subst g4
      have nx : ∀ z : Int, z = (if psK T k j < 100 then σ1 25 (gof (psK T k j)) + amK T k else σ1 25 (gof (psK T k j)) - amK T k) → LX1_pour_55 (fun x1 x2 x3 x4 σ => LX1_pour_3 f x1 x2 x3 x4 σ Φ) ((12 * k : Nat) : Int) L (amK T k) j (up2 σ1 25 (gof (psK T k j)) z) Φ := by
        intro z hz
        unfold LX1_pour_55
        refine ⟨⟨by omega, by omega⟩, ?_⟩
        have o1 : Off [25] σ1 (up2 σ1 25 (gof (psK T k j)) z) := Off.rf.up (by simp)
        have := ih (j + 1) (up2 σ1 25 (gof (psK T k j)) z) (by omega) (by omega) (hI.more (o1.mono (by simp))) (ho.trans o1) (fun i hi => by rw [o1 28 (by simp)]; exact h9 i hi) (fun e he => by
          rw [up2_if, aX]
          by_cases q : e = gof (psK T k j)
          · rw [if_pos q, if_pos q, hz, h4 _ m2, q]
          · rw [if_neg q, if_neg q]
            exact h4 e he)
        exact this
      rw [← h4 _ m2] at hr
      rcases hc with ⟨a, b⟩ | ⟨a, b⟩
      · have eg : gof (psK T k j) = psK T k j := by unfold gof; rw [if_pos a]
        rw [eg] at nx hr
        rw [show ((psK T k j : Nat) : Int).toNat = psK T k j by omega]
        refine ⟨fun c => by omega, fun c => ⟨⟨by omega, by omega⟩, ⟨by omega, by omega⟩, ⟨by omega, by omega⟩, fun σ14 g14 => ?_⟩⟩
        rw [g14]
        exact nx _ (by rw [if_pos a])
      · have eg : gof (psK T k j) = psK T k j - 100 := by unfold gof; rw [if_neg (by omega)]
        rw [eg] at nx hr
        rw [show ((psK T k j : Int) - 100).toNat = psK T k j - 100 by omega]
        refine ⟨fun c => ⟨⟨by omega, by omega⟩, ⟨by omega, by omega⟩, ⟨by omega, by omega⟩, ⟨by omega, by omega⟩, fun σ14 g14 => ?_⟩, fun c => by omega⟩
        rw [g14]
        exact nx _ (by rw [if_neg (by omega)])
theorem c_take_walk {σ0 : PS} {k L : Nat} (hT : okT T) (hk : k < KT T) (hL : L = (dsT T k).toNat)
    (hK : ∀ σ' : PS, CI T σ0 σ' → σ' 3 7 = (k : Int) → σ' 3 8 = sm (amK T) (k + 1) → CWay T (k + 1) σ' → QX T (xT T (k + 1)) σ' → Φ 0 σ') :
    ∀ (f j : Nat) (σ : PS), j ≤ L → L - j < f → CI T σ0 σ → σ 3 7 = (k : Int) → σ 3 8 = sm (amK T) k → CWay T k σ → QX T (xT T k) σ → IsDist 12 (stT T (xT T k)) (tz T) (fun v => σ 30 v) → (∀ i, i < j → σ 28 (12 * k + i) = (psK T k i : Int)) → LX1_takeWay_36 f ((12 * k : Nat) : Int) L (pnK T k j : Nat) (mns 1000000000 (fun i => rmc (tl T) (xT T k) (psK T k i)) j) j σ Φ := by
  obtain ⟨am0, am1, hxk, ds1, ds0⟩ := amK_le hT hk
  have hw := amK_pos hT hxk ds0
  have hKT := (KT_spec hT).1
  have hn := hT.1
  intro f
  induction f with
  | zero => intro j σ h1 h2; omega
  | succ f ih =>
    intro j σ hj hf hI h37 h38 hW hX hd h9
    have hdd : ∀ v, v < 12 → σ 30 v = dT T (xT T k) v := fun v hv => hd.one (dT_is T _) hv
    have hpn := hw.2.1 j (by omega)
    unfold LX1_takeWay_36 BX1_takeWay_36
    refine ⟨fun c => ?_, fun c => ?_⟩
    · have e : j = L := by omega
      subst e
      have ea : mns 1000000000 (fun i => rmc (tl T) (xT T k) (psK T k i)) j = amK T k := by
        refine mns_one (by omega) (fun i hi => ?_) (fun i hi => (hw.2.2.1 i (by omega)).2) ?_
        · have := rmc_le hT hxk (hw.2.2.1 i (by omega)).1
          omega
        · obtain ⟨i, hi, e⟩ := hw.2.2.2.2
          exact ⟨i, by omega, e⟩
      rw [ea]
      have hb := run_bd hT (show k + 1 ≤ KT T by omega)
      have hb0 := run_bd hT (show k ≤ KT T by omega)
      have es : sm (amK T) (k + 1) = sm (amK T) k + amK T k := rfl
      unfold LX1_takeWay_118
      have ek : ((k : Nat) : Int).toNat = k := by omega
      rw [h37, ek]
      refine ⟨⟨by omega, by omega⟩, fun σ2 g2 => ?_⟩
      have a2 : σ2 3 7 = (k : Int) := by rw [g2, up2_nk (by omega), h37]
      rw [a2, ek]
      refine ⟨⟨by omega, by omega⟩, fun σ4 g4 => ?_⟩
      have a4 : σ4 3 8 = sm (amK T) k := by rw [g4, up2_nk (by omega), g2, up2_nk (by omega), h38]
      have b4 : σ4 3 7 = (k : Int) := by rw [g4, up2_nk (by omega), a2]
      rw [a4]
      refine ⟨⟨by omega, by omega⟩, fun σ6 g6 => ?_⟩
      have o24 : Off [26, 27] σ σ4 := by rw [g4, g2]; exact (Off.rf.up (by simp)).up (by simp)
      have o6 : Off [3, 26, 27] σ σ6 := by rw [g6]; exact (o24.mono (by simp)).up (by simp)
      have hI6 : CI T σ0 σ6 := by rw [g6]; exact (hI.more (o24.mono (by simp))).up3 (by omega)
      refine ⟨j + 1, ?_⟩
      have hp := c_pour (Φ := fun z7 σ8 => Φ 0 σ8) (σ := σ6) (σ0 := σ0) hT hk hL (fun σ' i1 i2 i3 => hK σ' i1 ?_ ?_ ?_ i3) (j + 1) 0 σ6 (by omega) (by omega) hI6 Off.rf (fun i hi => by rw [o6 28 (by simp)]; exact h9 i hi) (fun e he => by rw [o6 25 (by simp)]; exact hX e he)
      · exact hp
      · rw [i2 3 (by simp), g6, up2_ni (by omega), b4]
      · rw [i2 3 (by simp), g6, up2_at, es]
      · intro i hi
        have e26 : ∀ z, σ' 26 z = if z = k then amK T k else σ 26 z := fun z => by rw [i2 26 (by simp), g6, up2_nk (by omega), g4, up2_nk (by omega), g2, up2_if]
        have e27 : ∀ z, σ' 27 z = if z = k then (j : Int) else σ 27 z := fun z => by rw [i2 27 (by simp), g6, up2_nk (by omega), g4, up2_if, g2, up2_nk (by omega)]
        have e28 : σ' 28 = σ 28 := by rw [i2 28 (by simp), o6 28 (by simp)]
        rw [e26, e27, e28]
        by_cases q : i = k
        · subst q
          rw [if_pos rfl, if_pos rfl]
          exact ⟨rfl, by omega, fun z hz => h9 z (by omega)⟩
        · rw [if_neg q, if_neg q]
          exact hW i (by omega)
    · have hjL : j < L := by omega
      have hst := (hw.2.2.1 j (by omega)).1
      have hc := stOK_cOK hst
      have hps : nxT T (xT T k) (fun v => σ 30 v) (pnK T k j) = psK T k j := nxT_congr hT.2.1 hpn.1 (fun _ _ => rfl) (fun w hw' => hdd w hw')
      have hrm := rmc_le hT hxk hst
      have hend : enT T (psK T k j) = pnK T k (j + 1) := rfl
      refine c_nextStep hT hI.1 hX hI.2.1 hxk hd hpn.1 (by rw [hdd _ hpn.1]; omega) ?_
      rw [hps]
      refine ⟨fun _ => ?_, fun c => by omega⟩
      rw [show (((12 * k : Nat) : Int) + (j : Int)).toNat = 12 * k + j by omega]
      refine ⟨⟨by omega, by omega⟩, ⟨by omega, by omega⟩, fun σ7 g7 => ?_⟩
      have o1 : Off [28] σ σ7 := by rw [g7]; exact Off.rf.up (by simp)
      have hI7 := hI.more (o1.mono (by simp))
      refine c_roomOf hT (hX.off o1 (by simp)) hI7.2.1 hxk hc (fun v10 g10 => ?_)
      have fin : LX1_takeWay_110 (fun x2 x3 x4 x5 x6 σ => LX1_takeWay_36 f x2 x3 x4 x5 x6 σ Φ) ((12 * k : Nat) : Int) L v10 j (enT T (psK T k j) : Nat) σ7 Φ := by
        unfold LX1_takeWay_110
        refine ⟨⟨by omega, by omega⟩, ?_⟩
        rw [hend, g10]
        have := ih (j + 1) σ7 (by omega) (by omega) hI7 (by rw [o1 3 (by simp)]; exact h37) (by rw [o1 3 (by simp)]; exact h38) (fun i hi => ?_) (hX.off o1 (by simp)) (by
          have e : (fun v => σ7 30 v) = fun v => σ 30 v := by rw [o1 30 (by simp)]
          rw [e]
          exact hd) (fun i hi => ?_)
        · exact this
        · rw [o1 26 (by simp), o1 27 (by simp)]
          obtain ⟨w1, w2, w3⟩ := hW i hi
          have hds := (amK_le hT (show i < KT T by omega)).2.2.2
          exact ⟨w1, w2, fun z hz => by rw [g7, up2_ni (by omega)]; exact w3 z hz⟩
        · rw [g7, up2_if]
          by_cases q : i = j
          · subst q; rw [if_pos rfl]
          · rw [if_neg (by omega)]; exact h9 i (by omega)
      unfold enT at fin
      rcases hc with ⟨a, b⟩ | ⟨a, b⟩
      · rw [if_pos a] at fin
        refine ⟨fun c => by omega, fun c => ⟨⟨by omega, by omega⟩, ?_⟩⟩
        rw [show ((psK T k j : Nat) : Int).toNat = psK T k j by omega, (hI7.1.2.2.2 _ b).2]
        exact fin
      · rw [if_neg (by omega)] at fin
        refine ⟨fun c => ⟨⟨by omega, by omega⟩, ⟨by omega, by omega⟩, ?_⟩, fun c => by omega⟩
        rw [show ((psK T k j : Int) - 100).toNat = psK T k j - 100 by omega, (hI7.1.2.2.2 _ b).1]
        exact fin
theorem c_takeWay {σ0 : PS} {k : Nat} (hT : okT T) (hk : k < KT T) (hI : CI T σ0 σ) (h37 : σ 3 7 = (k : Int)) (h38 : σ 3 8 = sm (amK T) k) (hW : CWay T k σ) (hX : QX T (xT T k) σ) (hd : IsDist 12 (stT T (xT T k)) (tz T) (fun v => σ 30 v))
    (hK : ∀ σ' : PS, CI T σ0 σ' → σ' 3 7 = (k : Int) → σ' 3 8 = sm (amK T) (k + 1) → CWay T (k + 1) σ' → QX T (xT T (k + 1)) σ' → Φ 0 σ') : FX1_takeWay σ Φ := by
  obtain ⟨am0, am1, hxk, ds1, ds0⟩ := amK_le hT hk
  have hKT := (KT_spec hT).1
  have hs := hT.2.2.2.1
  unfold FX1_takeWay
  rw [h37, hI.1.2.1, show ((ts T : Nat) : Int).toNat = ts T by omega]
  have e1 : σ 30 (ts T) = dsT T k := hd.one (dT_is T _) hs
  rw [e1]
  refine ⟨⟨by omega, by omega⟩, fun v2 g2 => ⟨⟨by omega, by omega⟩, fun v4 g4 v5 g5 => ⟨(dsT T k).toNat + 1, ?_⟩⟩⟩
  have e4 : v4 = (((dsT T k).toNat : Nat) : Int) := by omega
  have e2 : v2 = ((12 * k : Nat) : Int) := by omega
  rw [e2, e4, g5]
  exact c_take_walk (Φ := Φ) hT hk rfl hK _ 0 σ (by omega) (by omega) hI h37 h38 hW hX hd (fun i hi => by omega)
/-- the bits of the nodes to which one comes -/
def bRe (T : NT) (x : Nat → Int) (a : Nat) (b : Int) : Prop := ∀ D : Nat → Int, IsDist 12 (fun v w => stT T x w v) a D → bP 12 b (fun v => 0 ≤ D v)
theorem c_hasBit {b : Int} {v : Nat} {P : Int → PS → Prop} (hv : v < 32) (h1 : tb b v = true → P 1 σ) (h0 : ¬ tb b v = true → P 0 σ) : FX11_hasBit b v σ P := by
  unfold FX11_hasBit
  exact ⟨fun c => h0 (fun z => c ((bit_is hv).mpr z)), fun c => h1 ((bit_is hv).mp c)⟩
theorem c_spread {a : Nat} (hT : okT T) (hM : CN T σ) (hX : QX T x σ) (hL : CL 29 T σ) (ha : a < 12) (h : ∀ b : Int, bRe T x a b → Φ b σ) : FX1_spreadAlong a σ Φ := by
  have hn := hT.1
  unfold FX1_spreadAlong
  obtain ⟨D, hD⟩ := IsDist.ex 12 (fun v w => stT T x w v) a
  have hlt : ∀ v, v < 12 → D v < 12 := fun v hv => hD.lt ha hv
  -- so far so good
  let snd : Int → Prop := fun b => Rg b ∧ ∀ i, tb b i = true → i < 12 ∧ 0 ≤ D i
  have all : ∀ b : Int, snd b → (∀ v, v < 12 → 0 ≤ D v → tb b v = true) → Φ b σ := fun b h1 h2 => h b (fun D' hD' => by
    refine ⟨h1.1, fun i => ⟨fun z => ?_, fun ⟨z1, z2⟩ => ?_⟩⟩
    · have := h1.2 i z
      rw [hD.one hD' this.1] at this
      exact this
    · have z3 : 0 ≤ D' i := z2
      rw [← hD.one hD' z1] at z3
      exact h2 i z1 z3)
  have put : ∀ (b : Int) (v w : Nat), snd b → v < 12 → w < 12 → tb b v = true → stT T x v w → snd (ior b (ishl 1 w)) := fun b v w h1 hv hw hb hs => by
    refine ⟨rg_or _ _, fun i hi => ?_⟩
    rw [bt_put (by omega), Bool.or_eq_true, decide_eq_true_eq] at hi
    rcases hi with hi | hi
    · exact h1.2 i hi
    · rw [hi]; exact ⟨hw, (hD.2.2.2 w v hw hv hs (h1.2 v hb).2).1⟩
  have keep : ∀ (b : Int) (w i : Nat), w < 12 → tb b i = true → tb (ior b (ishl 1 w)) i = true := fun b w i hw hb => by
    rw [bt_put (by omega), hb]; rfl
  have got : ∀ (b : Int) (w : Nat), w < 12 → tb (ior b (ishl 1 w)) w = true := fun b w hw => by
    rw [bt_put (by omega)]; simp
  have outer : ∀ (f r : Nat) (b : Int), r ≤ 12 → 12 - r < f → snd b → (∀ v, v < 12 → 0 ≤ D v → D v ≤ r → tb b v = true) → LX1_spreadAlong_7 f b r σ Φ := by
    intro f
    induction f with
    | zero => intro r b h1 h2; omega
    | succ f ihf =>
      intro r b hr hf hs hb
      unfold LX1_spreadAlong_7 BX1_spreadAlong_7
      refine ⟨fun c => all b hs (fun v hv h0 => hb v hv h0 (by have := hlt v hv; omega)), fun c => ⟨tn T + 1, ?_⟩⟩
      have inner : ∀ (g i : Nat) (b' : Int), i ≤ tn T → tn T - i < g → snd b' → (∀ v, tb b v = true → tb b' v = true) → (∀ e, e < i → ∀ v w, ((tf T e = v ∧ tt T e = w ∧ x e < tl T e) ∨ (tt T e = v ∧ tf T e = w ∧ 0 < x e)) → tb b v = true → tb b' w = true) → LX1_spreadAlong_20 (fun x3 x4 σ => LX1_spreadAlong_7 f x3 x4 σ Φ) g b' r b i σ Φ := by
        intro g
        induction g with
        | zero => intro i b' h1 h2; omega
        | succ g ihg =>
          intro i b' hi hg hs' hb' hcl
          unfold LX1_spreadAlong_20 BX1_spreadAlong_20
          rw [hM.1]
          have reach : tn T ≤ i → ∀ v w, v < 12 → w < 12 → stT T x v w → tb b v = true → tb b' w = true := fun hge v w hv hw ⟨e, he, hst⟩ hbv => hcl e (by omega) v w hst hbv
          refine ⟨fun c1 => ⟨fun c2 => ⟨⟨by omega, by omega⟩, ?_⟩, fun c2 => ?_⟩, fun c1 => ?_⟩
          · refine ihf (r + 1) b' (by omega) (by omega) hs' (fun v hv h0 h1 => ?_)
            by_cases q : D v ≤ r
            · exact hb' v (hb v hv h0 q)
            · by_cases e : v = a
              · have := hD.1
                rw [← e] at this
                omega
              · obtain ⟨u, hu, hst, g1, g2⟩ := hD.2.2.1 v hv e (by omega)
                exact reach (by omega) u v hu hv hst (hb u hu (by omega) (by omega))
          · refine all b' hs' (fun v hv h0 => ?_)
            have : ∀ (m v : Nat), v < 12 → D v = m → tb b' v = true := by
              intro m
              induction m with
              | zero =>
                intro v hv e
                exact hb' v (hb v hv (by omega) (by omega))
              | succ m ihm =>
                intro v hv e
                by_cases ea : v = a
                · have := hD.1
                  rw [← ea] at this
                  omega
                · obtain ⟨u, hu, hst, g1, g2⟩ := hD.2.2.1 v hv ea (by omega)
                  have := ihm u hu (by omega)
                  rw [c2] at this
                  exact reach (by omega) u v hu hv hst this
            exact this (D v).toNat v hv (by omega)
          · have hi2 : i < tn T := by omega
            have hN := hT.2.1 i hi2
            have e0 : ((i : Nat) : Int).toNat = i := by omega
            rw [e0, (hM.2.2.2 i hi2).1]
            -- the last part
            have go : ∀ b2 : Int, snd b2 → (∀ v, tb b' v = true → tb b2 v = true) → (tb b (tf T i) = true → x i < tl T i → tb b2 (tt T i) = true) → (tb b (tt T i) = true → 0 < x i → tb b2 (tf T i) = true) → LX1_spreadAlong_99 (fun x3 x4 σ => LX1_spreadAlong_7 f x3 x4 σ Φ) (fun x3 x4 x5 x6 σ => LX1_spreadAlong_20 (fun x3 x4 σ => LX1_spreadAlong_7 f x3 x4 σ Φ) g x3 x4 x5 x6 σ Φ) b2 r b i σ Φ := fun b2 a1 a2 a3 a4 => by
              unfold LX1_spreadAlong_99
              refine ⟨⟨by omega, by omega⟩, ?_⟩
              refine ihg (i + 1) b2 (by omega) (by omega) a1 (fun v hv => a2 v (hb' v hv)) (fun e he v w hst hbv => ?_)
              by_cases q : e = i
              · subst q
                rcases hst with ⟨p1, p2, p3⟩ | ⟨p1, p2, p3⟩
                · rw [← p2]; exact a3 (by rw [p1]; exact hbv) p3
                · rw [← p2]; exact a4 (by rw [p1]; exact hbv) p3
              · exact a2 w (hcl e (by omega) v w hst hbv)
            have mid : ∀ b2 : Int, snd b2 → (∀ v, tb b' v = true → tb b2 v = true) → (tb b (tf T i) = true → x i < tl T i → tb b2 (tt T i) = true) → LX1_spreadAlong_64 (fun x3 x4 σ => LX1_spreadAlong_7 f x3 x4 σ Φ) (fun x3 x4 x5 x6 σ => LX1_spreadAlong_20 (fun x3 x4 σ => LX1_spreadAlong_7 f x3 x4 σ Φ) g x3 x4 x5 x6 σ Φ) b2 r b i σ Φ := fun b2 a1 a2 a3 => by
              unfold LX1_spreadAlong_64
              rw [e0, (hM.2.2.2 i hi2).2]
              refine ⟨⟨by omega, by omega⟩, ?_⟩
              refine c_hasBit (by omega) (fun c2 => ⟨fun c => by omega, fun _ => ?_⟩) (fun c2 => ⟨fun _ => go b2 a1 a2 a3 (fun z => absurd (a2 _ (hb' _ z)) c2), fun c => absurd rfl c⟩)
              refine c_bwd rfl hn hX hi2 (fun c3 => ⟨fun _ => go b2 a1 a2 a3 (fun _ z => by omega), fun c => by omega⟩) (fun c3 => ⟨fun c => by omega, fun _ => ⟨⟨by omega, by omega⟩, fun v9 g9 => ?_⟩⟩)
              rw [g9, (hM.2.2.2 i hi2).1]
              exact go _ (put b2 (tt T i) (tf T i) a1 hN.2.1 hN.1 c2 ⟨i, hi2, Or.inr ⟨rfl, rfl, c3⟩⟩) (fun v hv => keep _ _ _ hN.1 (a2 v hv)) (fun z1 z2 => keep _ _ _ hN.1 (a3 z1 z2)) (fun _ _ => got _ _ hN.1)
            refine ⟨⟨by omega, by omega⟩, ?_⟩
            refine c_hasBit (by omega) (fun c2 => ⟨fun c => by omega, fun _ => ?_⟩) (fun c2 => ⟨fun _ => mid b' hs' (fun v hv => hv) (fun z => absurd (hb' _ z) c2), fun c => absurd rfl c⟩)
            refine c_fwd rfl hn hL hX hi2 (fun c3 => ⟨fun _ => mid b' hs' (fun v hv => hv) (fun _ z => by omega), fun c => by omega⟩) (fun c3 => ⟨fun c => by omega, fun _ => ⟨⟨by omega, by omega⟩, fun v12 g12 => ?_⟩⟩)
            rw [g12, (hM.2.2.2 i hi2).2]
            exact mid _ (put b' (tf T i) (tt T i) hs' hN.1 hN.2.1 c2 ⟨i, hi2, Or.inl ⟨rfl, rfl, c3⟩⟩) (fun v hv => keep _ _ _ hN.2.1 hv) (fun _ _ => got _ _ hN.2.1)
      exact inner (tn T + 1) 0 b (by omega) (by omega) hs (fun v hv => hv) (fun e he => by omega)
  intro v1 g1
  refine ⟨14, ?_⟩
  rw [g1]
  refine outer 14 0 _ (by omega) (by omega) ⟨rg_shl _ _, fun i hi => ?_⟩ (fun v hv h0 h1 => ?_)
  · rw [bt_shl (by omega), decide_eq_true_eq] at hi
    rw [hi, hD.1]
    exact ⟨ha, by omega⟩
  · have := hD.zero hv (by omega)
    rw [bt_shl (by omega), decide_eq_true_eq]
    exact this
end CWays
