/-! the net is made: begin, join -/
def SV (N K : Nat) (fr to : Nat → Nat) (lim x : Nat → Int) (σ : PS) : Prop := σ 8 8 = (N : Int) ∧ σ 8 9 = (K : Int) ∧ (∀ e, e < K → σ 55 e = (tgN fr to e : Int) ∧ σ 56 e = rmN lim x e ∧ σ 54 e = pvN fr to (srN fr to e) e) ∧ ∀ v, v < N → σ 49 v = pvN fr to v K
section Join
variable {N K n : Nat} {fr to fr' to' : Nat → Nat} {lim x lim' x' : Nat → Int} {σ : PS} {Φ : Int → PS → Prop}
theorem pv_cong {v : Nat} : ∀ {k : Nat}, (∀ e, e < k → srN fr to e = srN fr' to' e) → pvN fr to v k = pvN fr' to' v k
  | 0, _ => rfl
  | k + 1, h => by rw [pvN, pvN, h k (by omega), pv_cong (fun e he => h e (by omega))]
theorem SV.cong (h : SV N (2 * n) fr to lim x σ) (hf : ∀ g, g < n → fr' g = fr g ∧ to' g = to g ∧ lim' g = lim g ∧ x' g = x g) : SV N (2 * n) fr' to' lim' x' σ := by
  have e1 : ∀ e, e < 2 * n → srN fr to e = srN fr' to' e := fun e he => by
    have := hf (e / 2) (by omega)
    unfold srN
    rw [this.1, this.2.1]
  have e2 : ∀ e, e < 2 * n → tgN fr to e = tgN fr' to' e := fun e he => by
    have := hf (e / 2) (by omega)
    unfold tgN
    rw [this.1, this.2.1]
  have e3 : ∀ e, e < 2 * n → rmN lim x e = rmN lim' x' e := fun e he => by
    have := hf (e / 2) (by omega)
    unfold rmN
    rw [this.2.2.1, this.2.2.2]
  obtain ⟨a, b, c, d⟩ := h
  refine ⟨a, b, fun e he => ?_, fun v hv => ?_⟩
  · obtain ⟨c1, c2, c3⟩ := c e he
    rw [← e1 e he, ← e2 e he, ← e3 e he, ← pv_cong (fun j hj => e1 j (by omega))]
    exact ⟨c1, c2, c3⟩
  · rw [← pv_cong (fun j hj => e1 j hj)]
    exact d v hv
theorem c_addSide {a b : Nat} {c : Int} (hV : SV N K fr to lim x σ) (hK : K < 672) (hN : N ≤ 108) (ha : a < N) (h1 : srN fr to K = a) (h2 : tgN fr to K = b) (h3 : rmN lim x K = c) (hΦ : ∀ σ' : PS, Off [8, 49, 54, 55, 56] σ σ' → SV N (K + 1) fr to lim x σ' → Φ 0 σ') : FX6_addSide a b c σ Φ := by
  obtain ⟨v1, v2, v3, v4⟩ := hV
  unfold FX6_addSide
  rw [v2, show ((K : Nat) : Int).toNat = K by omega, show ((a : Nat) : Int).toNat = a by omega]
  refine ⟨⟨by omega, by omega⟩, fun σ2 g2 => ?_⟩
  have e2 : σ2 8 9 = (K : Int) := by rw [g2, up2_nk (by omega)]; exact v2
  rw [e2, show ((K : Nat) : Int).toNat = K by omega]
  refine ⟨⟨by omega, by omega⟩, fun σ4 g4 => ?_⟩
  have e4 : σ4 8 9 = (K : Int) := by rw [g4, up2_nk (by omega)]; exact e2
  rw [e4, show ((K : Nat) : Int).toNat = K by omega]
  refine ⟨⟨by omega, by omega⟩, ⟨by omega, by omega⟩, fun σ7 g7 => ?_⟩
  have e7 : σ7 8 9 = (K : Int) := by rw [g7, up2_nk (by omega)]; exact e4
  have h49 : σ4 49 a = pvN fr to a K := by rw [g4, up2_nk (by omega), g2, up2_nk (by omega)]; exact v4 a ha
  rw [e7]
  refine ⟨⟨by omega, by omega⟩, fun σ9 g9 => ?_⟩
  have e9 : σ9 8 9 = (K : Int) := by rw [g9, up2_nk (by omega)]; exact e7
  rw [e9]
  refine ⟨⟨by omega, by omega⟩, fun σ11 g11 => ?_⟩
  rw [h49] at g7
  refine hΦ σ11 (by rw [g11, g9, g7, g4, g2]; exact ((((Off.rf.up (by simp)).up (by simp)).up (by simp)).up (by simp)).up (by simp)) ⟨?_, ?_, fun e he => ⟨?_, ?_, ?_⟩, fun v hv => ?_⟩
  · rw [g11, up2_ni (by omega), g9, up2_nk (by omega), g7, up2_nk (by omega), g4, up2_nk (by omega), g2, up2_nk (by omega)]; exact v1
  · rw [g11, up2_at]; omega
  · rw [g11, up2_nk (by omega), g9, up2_nk (by omega), g7, up2_nk (by omega), g4, up2_nk (by omega), g2, up2_if]
    by_cases q : e = K
    · rw [if_pos q, q, h2]
    · rw [if_neg q]; exact (v3 e (by omega)).1
  · rw [g11, up2_nk (by omega), g9, up2_nk (by omega), g7, up2_nk (by omega), g4, up2_if]
    by_cases q : e = K
    · rw [if_pos q, q, h3]
    · rw [if_neg q, g2, up2_nk (by omega)]; exact (v3 e (by omega)).2.1
  · rw [g11, up2_nk (by omega), g9, up2_nk (by omega), g7, up2_if]
    by_cases q : e = K
    · rw [if_pos q, q, h1]
    · rw [if_neg q, g4, up2_nk (by omega), g2, up2_nk (by omega)]; exact (v3 e (by omega)).2.2
  · rw [g11, up2_nk (by omega), g9, up2_if, pvN, h1]
    by_cases q : v = a
    · rw [if_pos q, if_pos q.symm]
    · rw [if_neg q, if_neg (fun z => q z.symm), g7, up2_nk (by omega), g4, up2_nk (by omega), g2, up2_nk (by omega)]; exact v4 v hv
theorem c_join {a b : Nat} {c : Int} (hV : NV N n fr to lim x σ) (hn : n + 1 ≤ 336) (hN : N ≤ 108) (ha : a < N) (hb : b < N) (hΦ : ∀ σ' : PS, Off [8, 49, 54, 55, 56] σ σ' → NV N (n + 1) (fun g => if g = n then a else fr g) (fun g => if g = n then b else to g) (fun g => if g = n then c else lim g) (fun g => if g = n then 0 else x g) σ' → Φ ((2 * n : Nat) : Int) σ') : FX6_join a b c σ Φ := by
  have hS : SV N (2 * n) (fun g => if g = n then a else fr g) (fun g => if g = n then b else to g) (fun g => if g = n then c else lim g) (fun g => if g = n then 0 else x g) σ := SV.cong (fr := fr) (to := to) (lim := lim) (x := x) hV (fun g hg => by
    have : ¬ g = n := by omega
    simp only [if_neg this]
    exact ⟨trivial, trivial, trivial, trivial⟩)
  have p0 : ∀ (f h : Nat → Nat), srN f h (2 * n) = f n ∧ tgN f h (2 * n) = h n ∧ srN f h (2 * n + 1) = h n ∧ tgN f h (2 * n + 1) = f n := fun f h => by
    unfold srN tgN
    rw [if_pos (show 2 * n % 2 = 0 by omega), if_pos (show 2 * n % 2 = 0 by omega), if_neg (show ¬ (2 * n + 1) % 2 = 0 by omega), if_neg (show ¬ (2 * n + 1) % 2 = 0 by omega), show 2 * n / 2 = n by omega, show (2 * n + 1) / 2 = n by omega]
    exact ⟨rfl, rfl, rfl, rfl⟩
  have p1 : ∀ (l y : Nat → Int), rmN l y (2 * n) = l n - y n ∧ rmN l y (2 * n + 1) = y n := fun l y => by
    unfold rmN
    rw [if_pos (show 2 * n % 2 = 0 by omega), if_neg (show ¬ (2 * n + 1) % 2 = 0 by omega), show 2 * n / 2 = n by omega, show (2 * n + 1) / 2 = n by omega]
    exact ⟨rfl, rfl⟩
  unfold FX6_join
  refine c_isInNet hV.1 ha ⟨fun c => by omega, fun _ => c_isInNet hV.1 hb ⟨fun c => by omega, fun _ => ?_⟩⟩
  rw [hV.2.1]
  refine ⟨⟨by omega, by omega⟩, fun _ => ?_, fun c => by omega⟩
  refine c_addSide hS (by omega) hN ha (by rw [(p0 _ _).1]; simp only [if_true]) (by rw [(p0 _ _).2.1]; simp only [if_true]) (by rw [(p1 _ _).1]; simp only [if_true]; omega) (fun σ1 o1 h1 => ?_)
  refine c_addSide h1 (by omega) hN hb (by rw [(p0 _ _).2.2.1]; simp only [if_true]) (by rw [(p0 _ _).2.2.2]; simp only [if_true]) (by rw [(p1 _ _).2]; simp only [if_true]) (fun σ2 o2 h2 => ?_)
  rw [h2.2.1]
  refine ⟨⟨by omega, by omega⟩, ?_⟩
  rw [show (((2 * n + 1 + 1 : Nat) : Int) - 2) = ((2 * n : Nat) : Int) by omega]
  exact hΦ σ2 (o1.trans o2) h2
theorem c_begin {N : Nat} (hN : N ≤ 108) (hΦ : ∀ σ' : PS, Off [8, 49] σ σ' → NV N 0 fr to lim x σ' → Φ 0 σ') : FX6_begin N σ Φ := by
  unfold FX6_begin
  intro σ1 g1 σ2 g2 σ3 g3
  refine hΦ σ3 (by rw [g3, g2, g1]; exact ((Off.rf.up (by simp)).up (by simp)).fl (by simp)) ⟨?_, ?_, fun e he => absurd he (Nat.not_lt_zero _), fun v hv => ?_⟩
  · rw [g3, show ∀ τ : PS, fl2 τ 49 0 108 (-1) 8 = τ 8 from fun τ => by funext i; simp [fl2], g2, up2_ni (by omega), g1, up2_at]
    omega
  · rw [g3, show ∀ τ : PS, fl2 τ 49 0 108 (-1) 8 = τ 8 from fun τ => by funext i; simp [fl2], g2, up2_at]; rfl
  · rw [g3, fl2_if, if_pos ⟨by omega, by omega⟩]; rfl
theorem cG_s {u w : Nat} : cG (n + 1) fr to lim u w = cG n fr to lim u w + (if fr n = u ∧ to n = w then lim n else 0) := rfl
/-- one arc more -/
theorem cG_put {a b : Nat} {c : Int} (u w : Nat) : cG (n + 1) (fun g => if g = n then a else fr g) (fun g => if g = n then b else to g) (fun g => if g = n then c else lim g) u w = cG n fr to lim u w + (if a = u ∧ b = w then c else 0) := by
  rw [cG_s]
  simp only [if_true]
  congr 1
  unfold cG
  refine sm_congr (fun g hg => ?_)
  have : ¬ g = n := by omega
  simp only [if_neg this]
theorem rG_0 (u w : Nat) : rG n fr to lim (fun _ => 0) u w = cG n fr to lim u w := by
  unfold rG cG
  refine sm_congr (fun g _ => ?_)
  show (if fr g = u ∧ to g = w then lim g - 0 else 0) + (if fr g = w ∧ to g = u then 0 else 0) = (if fr g = u ∧ to g = w then lim g else 0)
  split <;> split <;> omega
theorem okN_put {a b : Nat} (h : okN N n fr to) (ha : a < N) (hb : b < N) (hab : a ≠ b) : okN N (n + 1) (fun g => if g = n then a else fr g) (fun g => if g = n then b else to g) := fun g hg => by
  by_cases q : g = n
  · simp only [if_pos q]; exact ⟨ha, hb, hab⟩
  · simp only [if_neg q]; exact h g (by omega)
end Join
def lmI (b : Bk) (shut w by_ : Int) (e : Nat) : Int := if tb shut e = true then 0 else capB b e + (if (e : Int) = w then by_ else 0)
section MostIf
variable {b : Bk} {d : DS} {σ : PS} {Φ : Int → PS → Prop}
theorem lmI_rng {shut w by_ : Int} (hb : okB b) (h : 0 ≤ by_ ∧ by_ ≤ 999) {e : Nat} (he : e < bn b) : 0 ≤ lmI b shut w by_ e ∧ lmI b shut w by_ e ≤ 2000 := by
  have := capB_rng hb he
  unfold lmI
  split
  · omega
  · split <;> omega
theorem okT_lmI {shut w by_ : Int} (hb : okB b) (h : 0 ≤ by_ ∧ by_ ≤ 999) : okT (TN b (lmI b shut w by_)) := okT_TN hb (fun e he => lmI_rng hb h he)
theorem c_mostIf {shut w by_ : Int} (hb : okB b) (hC : cB 1 13 b σ) (h : 0 ≤ by_ ∧ by_ ≤ 999) (hΦ : ∀ σ' : PS, Off [8, 49, 50, 51, 52, 53, 54, 55, 56] σ σ' → Φ (mostT (TN b (lmI b shut w by_))) σ') : FX5_mostIf shut w by_ σ Φ := by
  have hn := hb.1
  have hs := hb.2.1
  have hz := hb.2.2.1
  unfold FX5_mostIf
  refine c_begin (N := 12) (fr := fun _ => 0) (to := fun _ => 0) (lim := fun _ => 0) (x := fun _ => 0) (by omega) (fun σ2 o2 hV2 => ⟨bn b + 1, ?_⟩)
  have loop : ∀ (f i m : Nat) (fr to : Nat → Nat) (lim : Nat → Int) (σ1 : PS), i ≤ bn b → bn b - i < f → m ≤ i → Off [8, 49, 50, 51, 52, 53, 54, 55, 56] σ σ1 → NV 12 m fr to lim (fun _ => 0) σ1 → okN 12 m fr to → (∀ g, g < m → 0 ≤ lim g ∧ lim g ≤ 2000) → (∀ u v, cG m fr to lim u v = cG i (tf (T0 b)) (tt (T0 b)) (lmI b shut w by_) u v) → LX5_mostIf_12 f shut w by_ i σ1 Φ := by
    intro f
    induction f with
    | zero => intro i m fr to lim σ1 h1 h2; omega
    | succ f ih =>
      intro i m fr to lim σ1 hi hf hm ho hV hN hl hc
      have hC1 : cB 1 13 b σ1 := hC.off ho (by simp) (fun w hw => by simp; omega)
      unfold LX5_mostIf_12 BX5_mostIf_12
      rw [hC1.1]
      refine ⟨fun c => ?_, fun c => ?_⟩
      · have ei : i = bn b := by omega
        rw [ei] at hc
        rw [hC1.2.1, hC1.2.2.1]
        have hA : okA 12 m fr to lim := ⟨by omega, by omega, hN, fun g hg => by have := hl g hg; omega⟩
        have hx : okX m lim (fun _ => 0) := fun g hg => ⟨Int.le_refl _, (hl g hg).1⟩
        have hr : rG m fr to lim (fun _ => 0) = cG (bn b) (tf (T0 b)) (tt (T0 b)) (lmI b shut w by_) := by
          funext u v
          rw [rG_0, hc]
        have hout : outf 12 (rG m fr to lim (fun _ => 0)) (bs b) ≤ 1000000 := by
          have h1 : outf 12 (rG m fr to lim (fun _ => 0)) (bs b) ≤ (12 : Nat) * 60000 := sm_ub (fun u _ => by
            rw [rG_0]
            have : cG m fr to lim (bs b) u ≤ (m : Int) * 2000 := sm_ub (fun g hg => by
              have := hl g hg
              split <;> omega)
            omega)
          omega
        refine c_pass hA hs hz hb.2.2.2.1 hV hx (fun y hy => by have := hy.le_out hN hs; omega) (fun σ' x o' _ hM hF _ => ?_)
        rw [hr] at hF
        have hT := okT_lmI (shut := shut) (w := w) hb h
        have e := IsMF.one hs hF (mostT_mf hT)
        rw [e]
        exact hΦ σ' (ho.trans (o'.mono (by simp)))
      · have hi2 : i < bn b := by omega
        have hB := hb.2.2.2.2 i hi2
        have hfr := (okT_T0 hb).2.1 i hi2
        have hcap := capB_rng hb hi2
        have ei : ((i : Nat) : Int).toNat = i := by omega
        have nx : ∀ (m' : Nat) (fr' to' : Nat → Nat) (lim' : Nat → Int) (σ' : PS), m' ≤ i + 1 → Off [8, 49, 50, 51, 52, 53, 54, 55, 56] σ σ' → NV 12 m' fr' to' lim' (fun _ => 0) σ' → okN 12 m' fr' to' → (∀ g, g < m' → 0 ≤ lim' g ∧ lim' g ≤ 2000) → (∀ u v, cG m' fr' to' lim' u v = cG (i + 1) (tf (T0 b)) (tt (T0 b)) (lmI b shut w by_) u v) → LX5_mostIf_80 (fun x2 x3 x4 x5 σ => LX5_mostIf_12 f x2 x3 x4 x5 σ Φ) shut w by_ i σ' Φ := fun m' fr' to' lim' σ' a0 a1 a2 a3 a4 a5 => by
          unfold LX5_mostIf_80
          exact ⟨⟨by omega, by omega⟩, ih (i + 1) m' fr' to' lim' σ' (by omega) (by omega) a0 a1 a2 a3 a4 a5⟩
        have none_ : lmI b shut w by_ i = 0 → LX5_mostIf_80 (fun x2 x3 x4 x5 σ => LX5_mostIf_12 f x2 x3 x4 x5 σ Φ) shut w by_ i σ1 Φ := fun hz0 => by
          refine nx m fr to lim σ1 (by omega) ho hV hN hl (fun u v => ?_)
          rw [cG_s, hz0, hc]
          split <;> omega
        have go : ∀ s1 : Int, s1 = (if (i : Int) = w then by_ else 0) → LX5_mostIf_39 (fun x2 x3 x4 x5 σ => LX5_mostIf_12 f x2 x3 x4 x5 σ Φ) shut w by_ i (capB b i) s1 σ1 Φ := fun s1 hs1 => by
          have hs1b : 0 ≤ s1 ∧ s1 ≤ 999 := by rw [hs1]; split <;> omega
          unfold LX5_mostIf_39
          refine ⟨⟨by omega, by omega⟩, fun v2 g2 => ⟨fun c1 => none_ ?_, fun c1 => c_hasBit (by omega) (fun t1 => ⟨fun _ => none_ ?_, fun c => by omega⟩) (fun t0 => ⟨fun c => absurd rfl c, fun _ => ⟨⟨by omega, by omega⟩, ⟨by omega, by omega⟩, ?_⟩⟩)⟩⟩
          · unfold lmI
            rw [← hs1]
            split <;> omega
          · unfold lmI
            rw [if_pos t1]
          · have eL : lmI b shut w by_ i = v2 := by unfold lmI; rw [if_neg t0, ← hs1]; exact g2.symm
            have hCN := CN_TN (lim := capB b) hb hC1
            rw [ei, (hCN.2.2.2 i hi2).1, (hCN.2.2.2 i hi2).2]
            refine c_join hV (by omega) (by omega) hfr.1 hfr.2.1 (fun σ' o' hV' => ?_)
            have e0 : (fun g => if g = m then 0 else (fun _ : Nat => (0 : Int)) g) = fun _ => 0 := by
              funext g
              split <;> rfl
            rw [e0] at hV'
            refine nx (m + 1) _ _ _ σ' (by omega) (ho.trans (o'.mono (by simp))) hV' (okN_put hN hfr.1 hfr.2.1 hfr.2.2) (fun g hg => ?_) (fun u v => ?_)
            · by_cases q : g = m
              · simp only [if_pos q]; omega
              · simp only [if_neg q]; exact hl g (by omega)
            · rw [cG_put, cG_s, hc, eL]
        refine c_usable rfl (CN_TN (lim := capB b) hb hC1) (CU_T0 hC1) hn hi2 ?_
        exact ⟨fun c1 => go 0 (by rw [if_neg c1]), fun c1 => go by_ (by rw [if_pos c1])⟩
  exact loop (bn b + 1) 0 0 _ _ _ σ2 (by omega) (by omega) (Nat.le_refl _) (o2.mono (by simp)) hV2 (fun g hg => absurd hg (Nat.not_lt_zero _)) (fun g hg => absurd hg (Nat.not_lt_zero _)) (fun _ _ => rfl)
theorem mostT_cong {l l' : Nat → Int} (hb : okB b) (hT : okT (TN b l)) (h : ∀ e, e < bn b → l e = l' e) : mostT (TN b l) = mostT (TN b l') := by
  have hT' : okT (TN b l') := ⟨hT.1, hT.2.1, fun e he => by rw [show tl (TN b l') e = l e from (h e he).symm]; exact hT.2.2.1 e he, hT.2.2.2⟩
  refine IsMF.one hb.2.1 (mostT_mf hT) ?_
  have e : cG (tn (TN b l)) (tf (TN b l)) (tt (TN b l)) (tl (TN b l)) = cG (tn (TN b l')) (tf (TN b l')) (tt (TN b l')) (tl (TN b l')) := by
    funext u v
    exact sm_congr (fun e he => by
      show (if tf (T0 b) e = u ∧ tt (T0 b) e = v then l e else 0) = (if tf (T0 b) e = u ∧ tt (T0 b) e = v then l' e else 0)
      rw [h e he])
  rw [e]
  exact mostT_mf hT'
theorem mostT_rng {l : Nat → Int} (hT : okT (TN b l)) : 0 ≤ mostT (TN b l) ∧ mostT (TN b l) ≤ 1000000 := by
  have hn := hT.1
  constructor
  · obtain ⟨k1, k2, k3⟩ := KT_spec hT
    exact sm_nn (fun k hk => Int.le_of_lt (amK_le hT hk).1)
  · have e : mostT (TN b l) ≤ outf 12 (cG (tn (TN b l)) (tf (TN b l)) (tt (TN b l)) (tl (TN b l))) (ts (TN b l)) := ((mostT_go hT).ro hT.2.1).le hT.2.2.2.1
    have c : outf 12 (cG (tn (TN b l)) (tf (TN b l)) (tt (TN b l)) (tl (TN b l))) (ts (TN b l)) ≤ (12 : Nat) * 60000 := sm_ub (fun w _ => by
        have : cG (tn (TN b l)) (tf (TN b l)) (tt (TN b l)) (tl (TN b l)) (ts (TN b l)) w ≤ (tn (TN b l) : Int) * 2000 := sm_ub (fun g hg => by
          have := hT.2.2.1 g hg
          split <;> omega)
        omega)
    omega
theorem p_more (a1 a2 : Int) : PT (FX11_more a1 a2) (FX12_more a1 a2) := by
  intro d σc σm hd hC hM
  have hn := hd.1.1
  have same : ∀ r r2 : Int, r = r2 → r = r2 ∧ ∃ d', okD d' ∧ CR d' σc ∧ MR d' σm := fun r r2 e => ⟨e, d, hd, hC, hM⟩
  unfold FX11_more FX12_more
  refine c_isGate hC.1 (fun e he ha => ⟨fun _ => ?_, fun c => by omega⟩) (fun hno => ⟨fun c => absurd rfl c, fun _ => m_isGate hd.1 hM.1 (fun e2 he2 ha2 => by omega) (fun _ => ⟨fun c => absurd rfl c, fun _ => same _ _ rfl⟩)⟩)
  subst ha
  have ee : ((e : Nat) : Int).toNat = e := by omega
  have h18 : σc 18 e = bB (dB d) e 5 := hC.1.2.2.2 e he 5 (by omega)
  have no2 : ¬ (0 ≤ a2 ∧ a2 ≤ 999) → FX12_more e a2 σm (fun r2 σm' => -2 = r2 ∧ ∃ d', okD d' ∧ CR d' σc ∧ MR d' σm') := fun hno => by
    unfold FX12_more
    exact m_isGate hd.1 hM.1 (fun e2 he2 ha2 => ⟨fun _ => m_in (fun x y => absurd ⟨x, y⟩ hno) (fun _ => ⟨fun c => absurd rfl c, fun _ => same _ _ rfl⟩), fun c => by omega⟩) (fun hno => by omega)
  unfold FX12_more at no2
  refine ⟨fun c => no2 (by omega), fun c => ⟨fun c2 => ⟨⟨by omega, by omega⟩, ?_⟩, fun c2 => no2 (by omega)⟩⟩
  rw [ee, h18]
  have hop := hd.1.2.2.2.2 e he
  refine ⟨fun c3 => ?_, fun c3 => ?_⟩
  · refine c_mostIf hd.1 hC.1 ⟨by omega, by omega⟩ (fun σ1 o1 => ?_)
    have hC1 : CR d σ1 := hC.off o1 (fun i _ => by rw [o1 0 (by simp)]) (by rw [o1 9 (by simp)]) (fun k hk => by simp at hk ⊢; omega)
    refine c_freshWays hd hC1 (fun σ2 hC2 hw => ⟨rfl, ?_⟩)
    have e0 : mostT (TN (dB d) (lmI (dB d) 0 e a2)) = mostT (TN (dB d) (limD (dB d) e a2)) := mostT_cong hd.1 (okT_lmI hd.1 ⟨by omega, by omega⟩) (fun g hg => by
      unfold lmI limD
      rw [bt_0, if_neg Bool.noConfusion]
      by_cases q : g = e
      · rw [if_pos (by rw [q]), if_pos q, q]
      · rw [if_neg (by omega), if_neg q]; omega)
    have r1 := mostT_rng (okT_lmI (shut := 0) (w := (e : Int)) (by_ := a2) hd.1 ⟨by omega, by omega⟩)
    have r2 : 0 ≤ mostT (T0 (dB d)) ∧ mostT (T0 (dB d)) ≤ 1000000 := mostT_rng (okT_T0 hd.1)
    rw [hw.2.1, e0]
    rw [e0] at r1
    refine ⟨⟨by omega, by omega⟩, ?_⟩
    refine m_isGate hd.1 hM.1 (fun e2 he2 ha2 => ⟨fun _ => m_in (fun x y => ⟨fun _ => ?_, fun c => by omega⟩) (fun hno => by omega), fun c => by omega⟩) (fun hno => by omega)
    unfold FX12_isOpen
    refine m_at (a := e) (w := 5) rfl rfl hd.1 hM.1 he (by omega) ?_
    have h1 : bB (dB d) e 5 = 1 := by unfold okG at hop; omega
    refine ⟨fun c => absurd h1 c, fun _ => ⟨fun c => by omega, fun _ => ?_⟩⟩
    have hc := capB_rng hd.1 he
    refine m_flowsWith rfl hd.1 hM.1 he (by omega) (fun σm1 k1 hM1 => m_flowsNow hd.1 hM1 (fun σm2 k2 _ _ _ _ _ _ => ⟨⟨by omega, by omega⟩, rfl, d, hd, hC2, hM.keep (k1.trans k2)⟩))
  · refine m_isGate hd.1 hM.1 (fun e2 he2 ha2 => ⟨fun _ => m_in (fun x y => ⟨fun _ => ?_, fun c => by omega⟩) (fun hno => by omega), fun c => by omega⟩) (fun hno => by omega)
    unfold FX12_isOpen
    refine m_at (a := e) (w := 5) rfl rfl hd.1 hM.1 he (by omega) ?_
    exact ⟨fun c => ⟨fun _ => same _ _ rfl, fun c => absurd rfl c⟩, fun c => by omega⟩
end MostIf
