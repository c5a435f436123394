section MFlows2
variable {T : NT} {σ : PS} {x : Nat → Int} {Φ : Int → PS → Prop}
/-- within flows: k ways are taken since σ0 -/
def FI (T : NT) (σ0 σ : PS) (k : Nat) : Prop := MN T σ ∧ Off [0, 4, 5, 6, 7, 8, 9] σ0 σ ∧ (∀ i, i ≠ 7 → σ 0 i = σ0 0 i) ∧ σ 0 7 = (k : Int) ∧ MWay T k σ
theorem stD_1 {b : Int} (hb : b = 1) : stD T x b = stT T x := by
  funext v w
  unfold stD
  rw [if_neg (by omega)]
theorem gof_c {c : Nat} (hc : cOK T c) (hn : tn T ≤ 30) : ((c : Int) % 100) = (gof c : Int) ∧ gof c < tn T := by
  unfold gof
  rcases hc with ⟨a, b⟩ | ⟨a, b⟩
  · rw [if_pos a]; exact ⟨by omega, b⟩
  · rw [if_neg (by omega)]; exact ⟨by omega, b⟩
theorem stOK_cOK {c v w : Nat} (h : stOK (tn T) (tf T) (tt T) c v w) : cOK T c := by
  rcases h with ⟨a, b, -⟩ | ⟨a, b, -⟩
  · exact Or.inl ⟨a, b⟩
  · exact Or.inr ⟨a, b⟩
theorem fl_pour {K43 : Int → PS → Prop} {σ0 : PS} {x1 : Int} {k L : Nat} (hT : okT T) (hk : k < KT T) (hL : L = (dsT T k).toNat) (hx1 : 0 ≤ x1 ∧ x1 ≤ 60000)
    (hK : ∀ σ' : PS, FI T σ0 σ' (k + 1) → MX T (xT T (k + 1)) σ' → IsDist 12 (stT T (xT T (k + 1))) (tz T) (fun v => σ' 5 v) → K43 (x1 + amK T k) σ') :
    ∀ (f j : Nat) (σ : PS), j ≤ L → L - j < f → FI T σ0 σ k → (∀ i, i < L → σ 9 (12 * k + i) = (psK T k i : Int)) → (∀ e, e < tn T → σ 4 e = aX (xT T k) (psK T k) (amK T k) j e) → LX12_flows_147 K43 f x1 (amK T k) L j σ Φ := by
  obtain ⟨am0, am1, hxk, ds1, ds0⟩ := amK_le hT hk
  have hw := amK_pos hT hxk ds0
  have hKT := (KT_spec hT).1
  have hn := hT.1
  intro f
  induction f with
  | zero => intro j σ h1 h2; omega
  | succ f ih =>
    intro j σ hj hf hFI h9 h4
    obtain ⟨hM, ho, h0, h07, hW⟩ := hFI
    unfold LX12_flows_147 BX12_flows_147
    rw [h07]
    refine ⟨fun c => ?_, fun c => ?_⟩
    · have e : j = L := by omega
      subst e
      refine ⟨⟨by omega, by omega⟩, fun σ3 g3 => ?_⟩
      have a3 : σ3 0 7 = (k : Int) := by rw [g3, up2_nk (by omega), h07]
      rw [a3]
      refine ⟨⟨by omega, by omega⟩, fun σ5 g5 => ?_⟩
      have a5 : σ5 0 7 = (k : Int) := by rw [g5, up2_nk (by omega), a3]
      rw [a5]
      refine ⟨⟨by omega, by omega⟩, fun σ7 g7 => ⟨⟨by omega, by omega⟩, fun v9 g9 => ?_⟩⟩
      rw [show ((k : Nat) : Int).toNat = k by omega] at g3 g5
      have o1 : Off [0, 7, 8] σ σ7 := by rw [g7, g5, g3]; exact ((Off.rf.up (by simp)).up (by simp)).up (by simp)
      have hM7 := hM.off o1 (by simp) (by simp)
      have hX7 : MX T (xT T (k + 1)) σ7 := fun e he => by
        rw [o1 4 (by simp), h4 e he, hL]
        rfl
      rw [hM7.2.2.1]
      refine s_measures (x := xT T (k + 1)) hT ?_ hM7 hX7 hT.2.2.2.2.1 (fun σ' oo hd => ?_)
      · exact (xT_run hT (k + 1) (fun i hi => (KT_spec hT).2.1 i (by omega))).1.1
      · rw [stD_1 rfl] at hd
        rw [g9]
        refine hK σ' ⟨hM7.off oo (by simp) (by simp), ?_, fun i hi => ?_, ?_, fun i hi => ?_⟩ (hX7.off oo (by simp)) hd
        · refine ho.trans ((o1.mono (by simp)).trans (oo.mono (by simp)))
        · rw [oo 0 (by simp), g7, up2_ni hi, g5, up2_nk (by omega), g3, up2_nk (by omega)]
          exact h0 i hi
        · rw [oo 0 (by simp), g7, up2_at]; omega
        · have e7 : ∀ z, σ' 7 z = if z = k then amK T k else σ 7 z := fun z => by rw [oo 7 (by simp), g7, up2_nk (by omega), g5, up2_if, g3, up2_nk (by omega)]
          have e8 : ∀ z, σ' 8 z = if z = k then (j : Int) else σ 8 z := fun z => by rw [oo 8 (by simp), g7, up2_nk (by omega), g5, up2_nk (by omega), g3, up2_if]
          have e9 : σ' 9 = σ 9 := by rw [oo 9 (by simp), o1 9 (by simp)]
          rw [e7, e8, e9]
          by_cases q : i = k
          · subst q
            rw [if_pos rfl, if_pos rfl]
            exact ⟨rfl, by omega, fun z hz => h9 z (by omega)⟩
          · rw [if_neg q, if_neg q]
            exact hW i (by omega)
    · have hjL : j < L := by omega
      have hst := (hw.2.2.1 j (by omega)).1
      have hc := stOK_cOK hst
      obtain ⟨m1, m2⟩ := gof_c hc hn
      have e1 : ((k : Int) * 12 + (j : Int)).toNat = 12 * k + j := by omega
      rw [e1]
      refine ⟨⟨by omega, by omega⟩, ⟨by omega, by omega⟩, ⟨by omega, by omega⟩, fun v15 g15 => ?_⟩
      rw [h9 j hjL] at g15
      subst g15
      rw [m1]
      have nx : ∀ z : Int, z = (if psK T k j < 100 then amK T k else -amK T k) → LX12_flows_194 K43 (fun x1 x2 x3 x4 σ => LX12_flows_147 K43 f x1 x2 x3 x4 σ Φ) x1 (amK T k) L j (gof (psK T k j) : Nat) (σ 4 ((gof (psK T k j) : Nat) : Int).toNat) z σ Φ := by
        intro z hz
        unfold LX12_flows_194
        rw [show ((gof (psK T k j) : Nat) : Int).toNat = gof (psK T k j) by omega, h4 _ m2]
        have hr := aX_rng (j := j) hT hk (by omega) m2
        have hz2 : -2000 ≤ z ∧ z ≤ 2000 := by
          rw [hz]
          split <;> omega
        refine ⟨⟨by omega, by omega⟩, ⟨by omega, by omega⟩, fun σ3 g3 => ⟨⟨by omega, by omega⟩, ?_⟩⟩
        have o1 : Off [4] σ σ3 := by rw [g3]; exact Off.rf.up (by simp)
        have := ih (j + 1) σ3 (by omega) (by omega) ⟨hM.off o1 (by simp) (by simp), ho.trans (o1.mono (by simp)), fun i hi => by rw [o1 0 (by simp)]; exact h0 i hi, by rw [o1 0 (by simp)]; exact h07, fun i hi => by rw [o1 7 (by simp), o1 8 (by simp), o1 9 (by simp)]; exact hW i hi⟩ (fun i hi => by rw [o1 9 (by simp)]; exact h9 i hi) (fun e he => by
          rw [g3, up2_if, aX]
          by_cases q : e = gof (psK T k j)
          · rw [if_pos q, if_pos q, hz, q]
            split <;> omega
          · rw [if_neg q, if_neg q]
            exact h4 e he)
        exact this
      refine ⟨by omega, ⟨by omega, by omega⟩, fun c1 => ⟨⟨by omega, by omega⟩, nx _ ?_⟩, fun c1 => nx _ ?_⟩
      · rw [if_neg (by omega)]
      · rw [if_pos (by omega)]
theorem fl_walk {K43 : Int → PS → Prop} {σ0 : PS} {x1 : Int} {k L : Nat} (hT : okT T) (hk : k < KT T) (hL : L = (dsT T k).toNat) (hx1 : 0 ≤ x1 ∧ x1 ≤ 60000)
    (hK : ∀ σ' : PS, FI T σ0 σ' (k + 1) → MX T (xT T (k + 1)) σ' → IsDist 12 (stT T (xT T (k + 1))) (tz T) (fun v => σ' 5 v) → K43 (x1 + amK T k) σ') :
    ∀ (f j : Nat) (σ : PS), j ≤ L → L - j < f → FI T σ0 σ k → MX T (xT T k) σ → IsDist 12 (stT T (xT T k)) (tz T) (fun v => σ 5 v) → (∀ i, i < j → σ 9 (12 * k + i) = (psK T k i : Int)) → LX12_flows_70 K43 f x1 (mns 100000000 (fun i => rmc (tl T) (xT T k) (psK T k i)) j) j (pnK T k j : Nat) σ Φ := by
  obtain ⟨am0, am1, hxk, ds1, ds0⟩ := amK_le hT hk
  have hw := amK_pos hT hxk ds0
  have hKT := (KT_spec hT).1
  have hn := hT.1
  intro f
  induction f with
  | zero => intro j σ h1 h2; omega
  | succ f ih =>
    intro j σ hj hf hFI hX hd h9
    obtain ⟨hM, ho, h0, h07, hW⟩ := id hFI
    have hdd : ∀ v, v < 12 → σ 5 v = dT T (xT T k) v := fun v hv => hd.one (dT_is T _) hv
    have hpn := hw.2.1 j (by omega)
    unfold LX12_flows_70 BX12_flows_70
    rw [hM.2.2.1]
    refine ⟨fun c => ?_, fun c => ?_⟩
    · have hz : pnK T k j = tz T := by omega
      have hdz : dT T (xT T k) (pnK T k j) = 0 := by rw [hz]; exact (dT_is T _).1
      have e : j = L := by omega
      subst e
      refine ⟨j + 1, ?_⟩
      have := fl_pour (Φ := Φ) hT hk hL hx1 hK (j + 1) 0 σ (by omega) (by omega) hFI h9 (fun e he => hX e he)
      have ea : amK T k = mns 100000000 (fun i => rmc (tl T) (xT T k) (psK T k i)) j := by rw [hL]; rfl
      rw [ea] at this
      exact this
    · have hjL : j < L := by
        by_cases q : j < L
        · exact q
        · have : dT T (xT T k) (pnK T k j) = 0 := by omega
          have := (dT_is T (xT T k)).zero hpn.1 this
          exact absurd (by rw [this]) c
      have hst := (hw.2.2.1 j (by omega)).1
      have hc := stOK_cOK hst
      have hps : nxT T (xT T k) (fun v => σ 5 v) (pnK T k j) = psK T k j := nxT_congr hT.2.1 hpn.1 (fun _ _ => rfl) (fun w hw' => hdd w hw')
      have hrm := rmc_le hT hxk hst
      have hrm0 : 0 < rmc (tl T) (xT T k) (psK T k j) := by have := (hw.2.2.1 j (by omega)).2; omega
      have hend : enT T (psK T k j) = pnK T k (j + 1) := rfl
      refine s_stepOn rfl hT hxk hM hX hd hpn.1 (by rw [hdd _ hpn.1]; omega) ?_
      rw [hps, h07]
      have e1 : ((k : Int) * 12 + (j : Int)).toNat = 12 * k + j := by omega
      rw [e1]
      refine ⟨⟨by omega, by omega⟩, ⟨by omega, by omega⟩, ⟨by omega, by omega⟩, fun σ7 g7 => ⟨⟨by omega, by omega⟩, ?_⟩⟩
      have o1 : Off [9] σ σ7 := by rw [g7]; exact Off.rf.up (by simp)
      have hM7 := hM.off o1 (by simp) (by simp)
      have hX7 := hX.off o1 (by simp)
      refine s_room rfl hM7 hX7 hT hxk hc ?_
      intro v11 g11
      rw [o1 0 (by simp), h07]
      have e2 : ((k : Int) * 12 + ((j : Int) + 1) - 1).toNat = 12 * k + j := by omega
      rw [e2]
      refine ⟨⟨by omega, by omega⟩, ⟨by omega, by omega⟩, ⟨by omega, by omega⟩, ⟨by omega, by omega⟩, ?_⟩
      rw [g7, up2_at, ← g7]
      refine s_stepTo rfl hM7 hn hc ?_
      rw [hend, g11]
      refine ih (j + 1) σ7 (by omega) (by omega) ⟨hM7, ho.trans (o1.mono (by simp)), fun i hi => by rw [o1 0 (by simp)]; exact h0 i hi, by rw [o1 0 (by simp)]; exact h07, fun i hi => ?_⟩ hX7 (by
        have : (fun v => σ7 5 v) = fun v => σ 5 v := by rw [o1 5 (by simp)]
        rw [this]
        exact hd) (fun i hi => ?_)
      · rw [o1 7 (by simp), o1 8 (by simp)]
        obtain ⟨w1, w2, w3⟩ := hW i hi
        have hds := (amK_le hT (show i < KT T by omega)).2.2.2
        exact ⟨w1, w2, fun z hz => by rw [g7, up2_ni (by omega)]; exact w3 z hz⟩
      · rw [g7, up2_if]
        by_cases q : i = j
        · subst q; rw [if_pos rfl]
        · rw [if_neg (by omega)]; exact h9 i (by omega)
theorem fl_main {σ0 : PS} (hT : okT T) (h : ∀ σ' : PS, FI T σ0 σ' (KT T) → MX T (xE T) σ' → IsDist 12 (stT T (xE T)) (tz T) (fun v => σ' 5 v) → Φ (mostT T) σ') :
    ∀ (f k : Nat) (σ : PS), k ≤ KT T → KT T - k < f → FI T σ0 σ k → MX T (xT T k) σ → IsDist 12 (stT T (xT T k)) (tz T) (fun v => σ 5 v) → LX12_flows_43 f (sm (amK T) k) σ Φ := by
  have hKT := KT_spec hT
  have hn := hT.1
  intro f
  induction f with
  | zero => intro k σ h1 h2; omega
  | succ f ih =>
    intro k σ hk hf hFI hX hd
    obtain ⟨hM, ho, h0, h07, hW⟩ := id hFI
    unfold LX12_flows_43 BX12_flows_43
    rw [hM.2.1]
    have hs := hT.2.2.2.1
    have e0 : ((ts T : Nat) : Int).toNat = ts T := by omega
    have e1 : σ 5 (ts T) = dsT T k := hd.one (dT_is T _) hs
    rw [e0, e1]
    refine ⟨⟨by omega, by omega⟩, fun c => ?_, fun c => ?_⟩
    · have e : k = KT T := by
        by_cases q : k < KT T
        · have := hKT.2.1 k q; omega
        · omega
      rw [e] at hFI hX hd ⊢
      exact h σ hFI hX hd
    · have hlt : k < KT T := by
        by_cases q : k < KT T
        · exact q
        · have e : k = KT T := by omega
          rw [e] at c
          exact absurd (by omega) hKT.2.2
      intro v3 g3
      refine ⟨(dsT T k).toNat + 1, ?_⟩
      rw [g3]
      have hb := run_bd hT (show k ≤ KT T by omega)
      exact fl_walk (Φ := Φ) hT hlt rfl hb (fun σ' a1 a2 a3 => ih (k + 1) σ' (by omega) (by omega) a1 a2 a3) _ 0 σ (by omega) (by omega) hFI hX hd (fun i hi => by omega)
theorem s_flows (hT : okT T) (hM : MN T σ) (h : ∀ σ' : PS, FI T σ σ' (KT T) → MX T (xE T) σ' → IsDist 12 (stT T (xE T)) (tz T) (fun v => σ' 5 v) → Φ (mostT T) σ') : FX12_flows σ Φ := by
  have hn := hT.1
  unfold FX12_flows
  refine ⟨tn T + 1, ?_⟩
  have loop : ∀ (f i : Nat) (σ1 : PS), i ≤ tn T → tn T - i < f → MN T σ1 → Off [4] σ σ1 → (∀ e, e < i → σ1 4 e = 0) → LX12_flows_2 f i σ1 Φ := by
    intro f
    induction f with
    | zero => intro i σ1 h1 h2; omega
    | succ f ih =>
      intro i σ1 hi hf hM1 ho hv
      unfold LX12_flows_2 BX12_flows_2
      rw [hM1.1]
      refine ⟨fun c σ2 g2 => ?_, fun c => ⟨⟨by omega, by omega⟩, fun σ6 g6 => ⟨⟨by omega, by omega⟩, ?_⟩⟩⟩
      · have o1 : Off [0] σ1 σ2 := by rw [g2]; exact Off.rf.up (by simp)
        have hM2 := hM1.off o1 (by simp) (by simp)
        have hX2 : MX T (xT T 0) σ2 := fun e he => by rw [o1 4 (by simp)]; exact hv e (by omega)
        rw [hM2.2.2.1]
        refine s_measures (x := xT T 0) hT (fun e he => ⟨Int.le_refl _, (hT.2.2.1 e he).1⟩) hM2 hX2 hT.2.2.2.2.1 (fun σ' oo hd => ?_)
        rw [stD_1 rfl] at hd
        refine ⟨KT T + 1, ?_⟩
        exact fl_main (σ0 := σ) hT h (KT T + 1) 0 σ' (by omega) (by omega) ⟨hM2.off oo (by simp) (by simp), (ho.mono (by simp)).trans ((o1.mono (by simp)).trans (oo.mono (by simp))), fun j hj => by rw [oo 0 (by simp), g2, up2_ni hj, ho 0 (by simp)], by rw [oo 0 (by simp), g2, up2_at]; rfl, fun j hj => by omega⟩ (hX2.off oo (by simp)) hd
      · rw [show ((i : Nat) : Int).toNat = i by omega] at g6
        have o1 : Off [4] σ1 σ6 := by rw [g6]; exact Off.rf.up (by simp)
        refine ih (i + 1) σ6 (by omega) (by omega) (hM1.off o1 (by simp) (by simp)) (ho.trans o1) (fun e he => ?_)
        rw [g6, up2_if]
        by_cases q : e = i
        · rw [if_pos q]
        · rw [if_neg q]; exact hv e (by omega)
  exact loop (tn T + 1) 0 σ (by omega) (by omega) hM Off.rf (fun e he => by omega)
end MFlows2
