/-! loss, worst -/
def lsI (b : Bk) (set : Int) (e : Nat) : Int := if tb set e = true then 0 else capB b e
section Loss
variable {b : Bk} {d : DS} {σ : PS} {Φ : Int → PS → Prop}
theorem okT_lsI {set : Int} (hb : okB b) : okT (TN b (lsI b set)) := okT_TN hb (fun e he => by
  have := capB_rng hb he
  unfold lsI
  split <;> omega)
theorem lmI_ls {set : Int} (hb : okB b) : mostT (TN b (lmI b set (-1) 0)) = mostT (TN b (lsI b set)) := mostT_cong hb (okT_lmI hb ⟨by omega, by omega⟩) (fun e he => by
  unfold lmI lsI
  split
  · rfl
  · rw [if_neg (by omega)]; omega)
theorem m_lossOf {most set : Int} (hb : okB b) (hM : mB 1 b σ) (hm : 0 ≤ most ∧ most ≤ 1000000) (h : ∀ σ' : PS, MK σ σ' → mB 1 b σ' → Φ (most - mostT (TN b (lsI b set))) σ') : FX12_lossOf most set σ Φ := by
  have hn := hb.1
  have hT := okT_lsI (set := set) hb
  have hr := mostT_rng hT
  unfold FX12_lossOf
  refine m_mayAll hb hM (fun σ2 o2 h2 => ⟨bn b + 1, ?_⟩)
  have loop : ∀ (f i : Nat) (σ1 : PS), i ≤ bn b → bn b - i < f → Off [3] σ σ1 → (∀ e, e < bn b → σ1 3 e = if e < i then lsI b set e else capB b e) → LX12_lossOf_6 f most set i σ1 Φ := by
    intro f
    induction f with
    | zero => intro i σ1 h1 h2; omega
    | succ f ih =>
      intro i σ1 hi hf ho hv
      have hM1 : mB 1 b σ1 := hM.keep (ho 1 (by simp))
      unfold LX12_lossOf_6 BX12_lossOf_6 LX12_lossOf_40
      rw [hM1.1]
      refine ⟨fun c => ?_, fun c => ?_⟩
      · refine s_flows hT (MN_TN hb hM1 (fun e he => by rw [hv e he, if_pos (by omega)])) (fun σ' a1 a2 a3 => ⟨⟨by omega, by omega⟩, ?_⟩)
        have k2 : MK σ1 σ' := MK.fi a1
        exact h σ' ((MK.off ho (by simp) (by simp)).trans k2) (hM1.keep (k2.1 1 (by simp)))
      · have hi2 : i < bn b := by omega
        have ei : ((i : Nat) : Int).toNat = i := by omega
        have nx : ∀ s2 : Int, s2 = lsI b set i → ((0 ≤ ((i : Nat) : Int) ∧ ((i : Nat) : Int) < 30) ∧ ∀ σ3 : PS, σ3 = up2 σ1 3 ((i : Nat) : Int).toNat s2 → Rg ((i : Int) + 1) ∧ LX12_lossOf_6 f most set ((i : Int) + 1) σ3 Φ) := fun s2 hs2 => ⟨⟨by omega, by omega⟩, fun σ3 g3 => ⟨⟨by omega, by omega⟩, ih (i + 1) σ3 (by omega) (by omega) (by rw [g3]; exact ho.up (by simp)) (fun e he => by
            rw [g3, ei, up2_if]
            by_cases q : e = i
            · rw [if_pos q, if_pos (by omega), q, hs2]
            · rw [if_neg q, hv e he]
              by_cases q2 : e < i
              · rw [if_pos q2, if_pos (by omega)]
              · rw [if_neg q2, if_neg (by omega)])⟩⟩
        refine ⟨fun c1 => ⟨⟨by omega, by omega⟩, nx _ ?_⟩, fun c1 => nx 0 ?_⟩
        · rw [ei, hv i hi2, if_neg (by omega)]
          unfold lsI
          rw [if_neg (fun z => c1 ((bit_is (by omega)).mpr z))]
        · unfold lsI
          rw [if_pos ((bit_is (by omega)).mp c1)]
  exact loop (bn b + 1) 0 σ2 (by omega) (by omega) o2 (fun e he => by rw [h2 e he, if_neg (by omega)])
theorem bt_shrn {a : Int} {v i : Nat} (hv : v < 32) (h31 : tb a 31 = false) : tb (ishr a v) i = tb a (v + i) := by
  unfold ishr
  rw [iz_tb, Int32.toBitVec_shiftRight, sh_31 v hv, BitVec.sshiftRight_eq', BitVec.toNat_ofNat, Nat.mod_eq_of_lt (by omega), BitVec.getLsbD_sshiftRight]
  unfold tb at h31 ⊢
  have hm : (iz a).toBitVec.msb = false := by rw [BitVec.msb_eq_getLsbD_last]; exact h31
  by_cases q : 32 ≤ i
  · rw [BitVec.getLsbD_of_ge _ _ (show 32 ≤ v + i by omega)]
    simp [q]
  · by_cases q2 : v + i < 32
    · simp [q, q2]
    · rw [BitVec.getLsbD_of_ge _ _ (show 32 ≤ v + i by omega)]
      simp [q2, hm]
theorem bt_31 {a : Int} (h : 0 ≤ a) (hr : Rg a) : tb a 31 = false := by
  have h1 : (iz a).toBitVec.msb = false := by
    rw [BitVec.msb_eq_toInt]
    have : (iz a).toBitVec.toInt = a := iz_toInt hr
    rw [this]
    simpa using h
  rw [BitVec.msb_eq_getLsbD_last] at h1
  exact h1
theorem all_bits : ∀ c : Nat, c < 31 → ∀ i : Nat, i < 32 → tb (ixor (ishl 1 c - 1) (-1)) i = decide (c ≤ i) := by decide +kernel
theorem all_rg : ∀ c : Nat, c < 31 → -2147483648 ≤ ishl 1 (c : Int) - 1 ∧ ishl 1 (c : Int) - 1 ≤ 2147483647 := by decide +kernel
theorem set_ok {a : Int} {c : Nat} (hc : c < 31) (h : 0 ≤ a) (hr : Rg a) : iand a (ixor (ishl 1 c - 1) (-1)) = 0 ↔ ishr a c = 0 := by
  have h31 := bt_31 h hr
  constructor
  · intro hz
    refine bt_ext (rg_shr _ _) (by omega) (fun i hi => ?_)
    rw [bt_shrn (by omega) h31, bt_0]
    by_cases q : c + i < 32
    · have : tb (iand a (ixor (ishl 1 c - 1) (-1))) (c + i) = false := by rw [hz, bt_0]
      rw [bt_and, all_bits c hc _ q, decide_eq_true (by omega)] at this
      simpa using this
    · exact bt_big q
  · intro hz
    refine bt_ext (rg_and _ _) (by omega) (fun i hi => ?_)
    rw [bt_and, all_bits c hc i hi, bt_0]
    by_cases q : c ≤ i
    · have : tb (ishr a c) (i - c) = false := by rw [hz, bt_0]
      rw [bt_shrn (by omega) h31, show c + (i - c) = i by omega] at this
      rw [this]; rfl
    · rw [decide_eq_false q]; simp
theorem p_loss (a1 : Int) (r1 : Rg a1) : PT (FX11_loss a1) (FX12_loss a1) := by
  intro d σc σm hd hC hM
  have hn := hd.1.1
  have same : ∀ r r2 : Int, r = r2 → r = r2 ∧ ∃ d', okD d' ∧ CR d' σc ∧ MR d' σm := fun r r2 e => ⟨e, d, hd, hC, hM⟩
  unfold FX11_loss FX3_allBits
  rw [hC.1.1]
  refine ⟨fun c => ?_, fun c => ⟨all_rg _ (by omega), fun c2 => ?_, fun c2 => ?_⟩⟩
  · unfold FX12_loss
    exact ⟨fun _ => same _ _ rfl, fun c2 => absurd c c2⟩
  · refine c_freshWays hd hC (fun σ2 hC2 hw => ⟨rfl, ?_⟩)
    refine c_mostIf hd.1 hC2.1 ⟨by omega, by omega⟩ (fun σ3 o3 => ?_)
    have hC3 : CR d σ3 := hC2.off o3 (fun i _ => by rw [o3 0 (by simp)]) (by rw [o3 9 (by simp)]) (fun k hk => by simp at hk ⊢; omega)
    have z1 : 0 ≤ mostT (T0 (dB d)) ∧ mostT (T0 (dB d)) ≤ 1000000 := mostT_rng (okT_T0 hd.1)
    have z2 := mostT_rng (okT_lsI (set := a1) hd.1)
    rw [hw.2.1, lmI_ls hd.1]
    refine ⟨⟨by omega, by omega⟩, ?_⟩
    unfold FX12_loss
    rw [hM.1.1]
    refine ⟨fun c3 => absurd c3 c, fun _ => ⟨fun _ => ?_, fun c3 => absurd ((set_ok (by omega) (by omega) r1).mp c2) c3⟩⟩
    exact m_flowsNow hd.1 hM.1 (fun σm1 k1 hM1 _ _ _ _ _ => m_lossOf hd.1 hM1 z1 (fun σm2 k2 _ => ⟨rfl, d, hd, hC3, hM.keep (k1.trans k2)⟩))
  · unfold FX12_loss
    rw [hM.1.1]
    exact ⟨fun c3 => absurd c3 c, fun _ => ⟨fun c3 => absurd ((set_ok (by omega) (by omega) r1).mpr c3) c2, fun _ => same _ _ rfl⟩⟩
/-- no more is lost than flows in the gates that are shut -/
theorem loss_le {S : Nat → Bool} {set : Int} (hb : okB b) (hS : S (bs b) = true) (hZ : S (bz b) = false) : mostT (T0 b) ≤ cutc 12 (cG (bn b) (tf (T0 b)) (tt (T0 b)) (lsI b set)) S + sm (fun e => if tb set e = true then xE (T0 b) e else 0) (bn b) := by
  have hT := okT_T0 hb
  have hg := mostT_go hT
  have h1 : mostT (T0 b) = cutc 12 (fun u w => cG (bn b) (tf (T0 b)) (tt (T0 b)) (capB b) u w - rG (bn b) (tf (T0 b)) (tt (T0 b)) (capB b) (xE (T0 b)) u w) S := by
    have hf := (hg.ro hT.2.1).flow
    have := cut_val hf.1 hT.2.2.2.1 hS hZ hf.2.2.1
    rw [hf.2.2.2] at this
    exact this
  -- what flows over a cut, gate by gate
  have h2 : cutc 12 (fun u w => cG (bn b) (tf (T0 b)) (tt (T0 b)) (capB b) u w - rG (bn b) (tf (T0 b)) (tt (T0 b)) (capB b) (xE (T0 b)) u w) S ≤ cutc 12 (cG (bn b) (tf (T0 b)) (tt (T0 b)) (fun e => lsI b set e + (if tb set e = true then xE (T0 b) e else 0))) S := cutc_le (fun u w _ _ _ _ => by
    show cG (bn b) (tf (T0 b)) (tt (T0 b)) (capB b) u w - rG (bn b) (tf (T0 b)) (tt (T0 b)) (capB b) (xE (T0 b)) u w ≤ _
    unfold cG rG
    rw [← sm_sub]
    refine sm_le (fun e he => ?_)
    have hx : 0 ≤ xE (T0 b) e ∧ xE (T0 b) e ≤ capB b e := hg.1 e he
    unfold lsI
    by_cases p : tf (T0 b) e = u ∧ tt (T0 b) e = w
    · rw [if_pos p, if_pos p, if_pos p]
      show _ ≤ (if tb set e = true then 0 else capB b e) + (if tb set e = true then xE (T0 b) e else 0)
      split <;> split <;> omega
    · rw [if_neg p, if_neg p, if_neg p]
      split <;> omega)
  have h3 : cutc 12 (cG (bn b) (tf (T0 b)) (tt (T0 b)) (fun e => lsI b set e + (if tb set e = true then xE (T0 b) e else 0))) S ≤ cutc 12 (cG (bn b) (tf (T0 b)) (tt (T0 b)) (lsI b set)) S + sm (fun e => if tb set e = true then xE (T0 b) e else 0) (bn b) := by
    have e1 : cG (bn b) (tf (T0 b)) (tt (T0 b)) (fun e => lsI b set e + (if tb set e = true then xE (T0 b) e else 0)) = fun u w => cG (bn b) (tf (T0 b)) (tt (T0 b)) (lsI b set) u w + cG (bn b) (tf (T0 b)) (tt (T0 b)) (fun e => if tb set e = true then xE (T0 b) e else 0) u w := by
      funext u w
      unfold cG
      rw [← sm_add]
      refine sm_congr (fun e _ => ?_)
      by_cases p : tf (T0 b) e = u ∧ tt (T0 b) e = w
      · rw [if_pos p, if_pos p, if_pos p]
      · rw [if_neg p, if_neg p, if_neg p]; omega
    rw [e1, cutc_add]
    have h4 : ∀ n, n ≤ bn b → cutc 12 (cG n (tf (T0 b)) (tt (T0 b)) (fun e => if tb set e = true then xE (T0 b) e else 0)) S ≤ sm (fun e => if tb set e = true then xE (T0 b) e else 0) n := by
      intro n
      induction n with
      | zero =>
        intro _
        have : cutc 12 (cG 0 (tf (T0 b)) (tt (T0 b)) (fun e => if tb set e = true then xE (T0 b) e else 0)) S = 0 := sm_0 (fun u _ => sm_0 (fun w _ => by split <;> rfl))
        rw [this]
        exact Int.le_refl _
      | succ n ih =>
        intro hn
        have hN := hT.2.1 n hn
        have hx : 0 ≤ xE (T0 b) n := (hg.1 n hn).1
        have e2 : cG (n + 1) (tf (T0 b)) (tt (T0 b)) (fun e => if tb set e = true then xE (T0 b) e else 0) = fun u w => cG n (tf (T0 b)) (tt (T0 b)) (fun e => if tb set e = true then xE (T0 b) e else 0) u w + (if tf (T0 b) n = u ∧ tt (T0 b) n = w then (if tb set n = true then xE (T0 b) n else 0) else 0) := by
          funext u w
          rfl
        rw [e2, cutc_add, cutc_one (N := 12) (v := if tb set n = true then xE (T0 b) n else 0) hN.1 hN.2.1, sm]
        have := ih (by omega)
        split <;> split <;> omega
    have := h4 (bn b) (Nat.le_refl _)
    omega
  omega
theorem loss_bd (set : Int) (hb : okB b) : mostT (T0 b) - mostT (TN b (lsI b set)) ≤ sm (fun e => if tb set e = true then xE (T0 b) e else 0) (bn b) ∧ mostT (T0 b) - mostT (TN b (lsI b set)) ≤ mostT (T0 b) := by
  have h0 := (mostT_rng (okT_lsI (set := set) hb)).1
  obtain ⟨f, S, h1, h2, h3, h4⟩ := mostT_mf (okT_lsI (set := set) hb)
  have h5 := loss_le (set := set) hb h2 h3
  have h6 : mostT (TN b (lsI b set)) = cutc 12 (cG (bn b) (tf (T0 b)) (tt (T0 b)) (lsI b set)) S := h4
  omega
end Loss
