/-! a pass through the layers, on the machine -/
section Dfs2
variable {N n s t : Nat} {fr to : Nat → Nat} {lim x0 xp : Nat → Int} {σ : PS} {Φ : Int → PS → Prop}
theorem c_deeperSide {v k : Nat} {x cl : Nat → Int} (hA : okA N n fr to lim) (hV : NV N n fr to lim x σ) (hv : v < N) (hk : k ≤ 2 * n) (hc : ∀ w, w < N → σ 51 w = cl w) (hb : ∀ w, w < N → -1 ≤ cl w ∧ cl w ≤ 200) (h50 : σ 50 v = pvN fr to v k)
    (h1 : ∀ e, e < k → srN fr to e = v → 0 < rmN lim x e → cl (tgN fr to e) = cl v + 1 → (∀ j, e + 1 ≤ j → j < k → srN fr to j = v → rmN lim x j ≤ 0 ∨ cl (tgN fr to j) ≠ cl v + 1) → Φ e (up2 σ 50 v e)) (h0 : (∀ j, j < k → srN fr to j = v → rmN lim x j ≤ 0 ∨ cl (tgN fr to j) ≠ cl v + 1) → Φ (-1) (up2 σ 50 v (-1))) : FX6_deeperSide v σ Φ := by
  obtain ⟨hN1, hn1, hN, hl⟩ := hA
  have ev : ((v : Nat) : Int).toNat = v := by omega
  have hbv := hb v hv
  have loop : ∀ (f i kk : Nat), kk < f → i + kk ≤ 2 * n → kk ≤ k → (∀ j, kk ≤ j → j < k → srN fr to j = v → rmN lim x j ≤ 0 ∨ cl (tgN fr to j) ≠ cl v + 1) → LX6_deeperSide_9 f v (pvN fr to v kk) i σ Φ := by
    intro f
    induction f with
    | zero => intro i kk h; omega
    | succ f ih =>
      intro i kk hf hi hkk hno
      unfold LX6_deeperSide_9 BX6_deeperSide_9 LX6_deeperSide_67 LX6_deeperSide_54
      rw [ev]
      rcases pv_is (fr := fr) (to := to) v kk with ⟨p1, p2⟩ | ⟨e, p1, p2, p3, p4⟩
      · rw [p1]
        have fin : ∀ σ2 : PS, σ2 = up2 σ 50 v (-1) → Φ (-1) σ2 := fun σ2 g2 => by
          rw [g2]
          refine h0 (fun j hj hs => ?_)
          by_cases z : j < kk
          · exact absurd hs (p2 j z)
          · exact hno j (by omega) hj hs
        exact ⟨fun _ => ⟨⟨by omega, by omega⟩, fin⟩, fun _ => ⟨fun _ => ⟨⟨by omega, by omega⟩, fin⟩, fun c => by omega⟩⟩
      · have he : e < 2 * n := by omega
        obtain ⟨v1, v2, v3⟩ := hV.2.2.1 e he
        obtain ⟨s1, s2, s3⟩ := side_N hN he
        have hbt := hb _ s2
        rw [p2, show ((e : Nat) : Int).toNat = e by omega, v1, v2, v3, p3, show ((tgN fr to e : Nat) : Int).toNat = tgN fr to e by omega, hc _ s2, hc v hv]
        have more : (rmN lim x e ≤ 0 ∨ cl (tgN fr to e) ≠ cl v + 1) → ∀ j, e ≤ j → j < k → srN fr to j = v → rmN lim x j ≤ 0 ∨ cl (tgN fr to j) ≠ cl v + 1 := fun hu j j1 j2 j3 => by
          by_cases z : j = e
          · rw [z]; exact hu
          · by_cases z2 : j < kk
            · exact absurd j3 (p4 j (by omega) z2)
            · exact hno j (by omega) j2 j3
        have nx : (rmN lim x e ≤ 0 ∨ cl (tgN fr to e) ≠ cl v + 1) → ((0 ≤ ((e : Nat) : Int) ∧ ((e : Nat) : Int) < 672) ∧ ∀ w : Int, w = pvN fr to v e → Rg ((i : Int) + 1) ∧ LX6_deeperSide_9 f v w ((i : Int) + 1) σ Φ) := fun hu => by
          refine ⟨⟨by omega, by omega⟩, fun w hw => ⟨⟨by omega, by omega⟩, ?_⟩⟩
          rw [hw]
          exact ih (i + 1) e (by omega) (by omega) (by omega) (more hu)
        refine ⟨fun c => by omega, fun _ => ⟨fun c => by omega, fun _ => ⟨⟨by omega, by omega⟩, fun c => nx (Or.inl c), fun c => ⟨⟨by omega, by omega⟩, ⟨by omega, by omega⟩, ⟨by omega, by omega⟩, ⟨by omega, by omega⟩, fun c2 => nx (Or.inr c2), fun c2 => ⟨⟨by omega, by omega⟩, fun σ2 g2 => ?_⟩⟩⟩⟩⟩
        rw [g2]
        refine h1 e (by omega) p3 (by omega) c2 (fun j j1 j2 j3 => ?_)
        by_cases z2 : j < kk
        · exact absurd j3 (p4 j (by omega) z2)
        · exact hno j (by omega) j2 j3
  unfold FX6_deeperSide
  rw [ev, h50]
  refine ⟨⟨by omega, by omega⟩, fun v2 g2 => ⟨2 * n + 1, ?_⟩⟩
  rw [g2]
  exact loop (2 * n + 1) 0 k (by omega) (by omega) (Nat.le_refl _) (fun j j1 j2 => by omega)
theorem c_passPath {lv x cl : Nat → Int} {ck pth : Nat → Nat} {dp : Nat} (hA : okA N n fr to lim) (hs : s < N) (h0 : lv s = 0) (hD : DI N n fr to lim x0 s t lv x cl ck pth dp) (hdp : 0 < dp) (h53 : ∀ i, i < dp → σ 53 i = (pth i : Int)) (h56 : ∀ e, e < 2 * n → σ 56 e = rmN lim x e) (hΦ : ∀ (a : Int) (σ' : PS), 0 < a → (∀ j, j < dp → a ≤ rmN lim x (pth j)) → (∃ j, j < dp ∧ rmN lim x (pth j) = a) → Off [56] σ σ' → (∀ e, e < 2 * n → σ' 56 e = rmN lim (aSN x pth a dp) e) → Φ a σ') : FX6_passPath dp σ Φ := by
  obtain ⟨hN1, hn1, hN, hl⟩ := id hA
  have hdN := hD.dp_lt hA hs h0
  have hp : ∀ i, i < dp → pth i < 2 * n ∧ 0 < rmN lim x (pth i) ∧ rmN lim x (pth i) ≤ 1000000000 := fun i hi => by
    obtain ⟨a, -, c, -⟩ := hD.2.2.2.2.2 i hi
    have := (rm_nn hD.1 a).2.1
    have := hl (pth i / 2) (by omega)
    exact ⟨a, c, by omega⟩
  have hm := fun j (hj : j < dp) => mns_le2 (S := 1000000000) (f := fun i => rmN lim x (pth i)) hj
  have hex : ∃ j, j < dp ∧ rmN lim x (pth j) = mns 1000000000 (fun i => rmN lim x (pth i)) dp := by
    rcases mns_at (S := 1000000000) (f := fun i => rmN lim x (pth i)) (k := dp) with z | ⟨j, j1, j2⟩
    · have a := hm 0 hdp
      have b := (hp 0 hdp).2.2
      rw [z] at a
      have a : (1000000000 : Int) ≤ rmN lim x (pth 0) := a
      exact ⟨0, hdp, by rw [z]; omega⟩
    · exact ⟨j, j1, j2.symm⟩
  have ha : 0 < mns 1000000000 (fun i => rmN lim x (pth i)) dp := by
    obtain ⟨j, j1, j2⟩ := hex
    have := (hp j j1).2.1
    omega
  have hm' : ∀ j, j < dp → mns 1000000000 (fun i => rmN lim x (pth i)) dp ≤ rmN lim x (pth j) := hm
  have ha9 : mns 1000000000 (fun i => rmN lim x (pth i)) dp ≤ 1000000000 := by
    obtain ⟨j, j1, j2⟩ := hex
    have := (hp j j1).2.2
    omega
  have l1 : ∀ (f i : Nat), i ≤ dp → dp - i < f → LX6_passPath_5 f dp (mns 1000000000 (fun i => rmN lim x (pth i)) i) i σ Φ := by
    intro f
    induction f with
    | zero => intro i h1 h2; omega
    | succ f ih =>
      intro i hi hf
      unfold LX6_passPath_5 BX6_passPath_5
      refine ⟨fun c => ?_, fun c => ?_⟩
      · have e : i = dp := by omega
        rw [e]
        generalize hg : mns 1000000000 (fun i => rmN lim x (pth i)) dp = a at *
        have l2 : ∀ (f i : Nat) (σ1 : PS), i ≤ dp → dp - i < f → Off [56] σ σ1 → (∀ e, e < 2 * n → σ1 56 e = rmN lim (aSN x pth a i) e) → LX6_passPath_34 f dp a i σ1 Φ := by
          intro f
          induction f with
          | zero => intro i σ1 h1 h2; omega
          | succ f ih =>
            intro i σ1 hi hf ho hv
            unfold LX6_passPath_34 BX6_passPath_34
            refine ⟨fun c => ?_, fun c => ?_⟩
            · have e : i = dp := by omega
              rw [e] at hv
              exact hΦ a σ1 ha hm' hex ho hv
            · have hi2 : i < dp := by omega
              obtain ⟨q1, q2, q3⟩ := hp i hi2
              have ok0 := aS_ok hA hs h0 hD (Int.le_of_lt ha) hm' (show i ≤ dp by omega)
              have ok1 := aS_ok hA hs h0 hD (Int.le_of_lt ha) hm' (show i + 1 ≤ dp by omega)
              have bnd : ∀ y : Nat → Int, okX n lim y → ∀ e, e < 2 * n → 0 ≤ rmN lim y e ∧ rmN lim y e ≤ 1000000000 := fun y hy e he => by
                have a1 := rm_nn hy he
                have a2 := hl (e / 2) (by omega)
                omega
              have r1 := rv_lt q1
              have b1 := bnd _ ok0 _ q1
              have b2 := bnd _ ok0 _ r1
              have b3 := bnd _ ok1 _ q1
              have b4 := bnd _ ok1 _ r1
              rw [rm_aS, if_pos rfl] at b3
              rw [rm_aS, if_neg (rv_sr (fr := fr) (to := to) (pth i)).2.2.2, if_pos rfl] at b4
              have hr : ((rvN (pth i) : Nat) : Int).toNat = rvN (pth i) := by omega
              rw [show ((i : Nat) : Int).toNat = i by omega, ho 53 (by simp), h53 i hi2, show ((pth i : Nat) : Int).toNat = pth i by omega, hv _ q1]
              refine ⟨⟨by omega, by omega⟩, ⟨by omega, by omega⟩, ⟨by omega, by omega⟩, ⟨by omega, by omega⟩, fun σ6 g6 => ?_⟩
              have o6 : Off [56] σ σ6 := by rw [g6]; exact ho.up (by simp)
              have e6 : σ6 56 (rvN (pth i)) = rmN lim (aSN x pth a i) (rvN (pth i)) := by
                rw [g6, up2_ni (rv_sr (fr := fr) (to := to) (pth i)).2.2.2]
                exact hv _ r1
              rw [o6 53 (by simp), h53 i hi2, xor_1 _ (by omega), hr, e6]
              refine ⟨⟨by omega, by omega⟩, ⟨by omega, by omega⟩, ⟨by omega, by omega⟩, ⟨by omega, by omega⟩, fun σ11 g11 => ⟨⟨by omega, by omega⟩, ?_⟩⟩
              refine ih (i + 1) σ11 (by omega) (by omega) (by rw [g11]; exact o6.up (by simp)) (fun e he => ?_)
              rw [rm_aS, g11, up2_if, g6, up2_if]
              by_cases y : e = pth i
              · rw [if_neg (fun z => (rv_sr (fr := fr) (to := to) (pth i)).2.2.2 (z.symm.trans y)), if_pos y, if_pos y, y]
              · rw [if_neg y, if_neg y]
                by_cases y2 : e = rvN (pth i)
                · rw [if_pos y2, if_pos y2, y2]
                · rw [if_neg y2, if_neg y2]; exact hv e he
        exact ⟨dp + 1, l2 (dp + 1) 0 σ (by omega) (by omega) Off.rf (fun e he => h56 e he)⟩
      · have hi2 : i < dp := by omega
        obtain ⟨q1, q2, q3⟩ := hp i hi2
        rw [show ((i : Nat) : Int).toNat = i by omega, h53 i hi2, show ((pth i : Nat) : Int).toNat = pth i by omega, h56 _ q1]
        refine ⟨⟨by omega, by omega⟩, ⟨by omega, by omega⟩, fun v4 g4 => ⟨⟨by omega, by omega⟩, ?_⟩⟩
        have := ih (i + 1) (by omega) (by omega)
        rw [mns] at this
        rw [g4]
        exact this
  exact ⟨dp + 1, l1 (dp + 1) 0 (by omega) (by omega)⟩
/-- all that a pass through the layers holds in cells -/
def DM (N n : Nat) (fr to : Nat → Nat) (lim x cl : Nat → Int) (ck pth : Nat → Nat) (dp : Nat) (σ : PS) : Prop := NV N n fr to lim x σ ∧ (∀ v, v < N → σ 51 v = cl v ∧ σ 50 v = pvN fr to v (ck v)) ∧ ∀ i, i < dp → σ 53 i = (pth i : Int)
theorem NV.room {x y : Nat → Int} {σ' : PS} (h : NV N n fr to lim x σ) (ho : Off [56] σ σ') (h56 : ∀ e, e < 2 * n → σ' 56 e = rmN lim y e) : NV N n fr to lim y σ' := by
  obtain ⟨a, b, c, d⟩ := h
  refine ⟨by rw [ho 8 (by simp)]; exact a, by rw [ho 8 (by simp)]; exact b, fun e he => ?_, by rw [ho 49 (by simp)]; exact d⟩
  rw [ho 55 (by simp), ho 54 (by simp)]
  exact ⟨(c e he).1, h56 e he, (c e he).2.2⟩
theorem c_layer_l {lv : Nat → Int} {σ0 : PS} (hA : okA N n fr to lim) (hs : s < N) (ht : t < N) (hst : s ≠ t) (h0 : lv s = 0) (hlv : ∀ v, v < N → -1 ≤ lv v ∧ lv v < N)
    (hB : ∀ y, okX n lim y → (∀ v, v < N → v ≠ s → v ≠ t → exG n fr to y v = exG n fr to xp v) → exG n fr to y s - exG n fr to xp s ≤ 1000000000)
    (hΦ : ∀ (σ' : PS) (x : Nat → Int), Off [50, 51, 53, 56] σ0 σ' → NV N n fr to lim x σ' → PE N n fr to lim x0 s t lv x → (∀ v, v < N → v ≠ s → v ≠ t → exG n fr to x v = exG n fr to xp v) → 0 ≤ exG n fr to x s - exG n fr to xp s → Φ (exG n fr to x s - exG n fr to xp s) σ') :
    ∀ (f : Nat) (σ : PS) (x cl : Nat → Int) (ck pth : Nat → Nat) (dp turn : Nat), (WN N n fr to lim lv x cl dp + 108).toNat < f → turn + (WN N n fr to lim lv x cl dp + 108) ≤ 200000 → Off [50, 51, 53, 56] σ0 σ → DM N n fr to lim x cl ck pth dp σ → DI N n fr to lim x0 s t lv x cl ck pth dp → (∀ v, v < N → v ≠ s → v ≠ t → exG n fr to x v = exG n fr to xp v) → 0 ≤ exG n fr to x s - exG n fr to xp s → LX6_passLayered_28 f s t (exG n fr to x s - exG n fr to xp s) dp (pdN fr to s pth dp : Nat) turn σ Φ := by
  obtain ⟨hN1, hn1, hN, hl⟩ := id hA
  intro f
  induction f with
  | zero => intro σ x cl ck pth dp turn h1; omega
  | succ f ih =>
    intro σ x cl ck pth dp turn hf hturn ho hM hD hC hv0
    have hdN := hD.dp_lt hA hs h0
    have hW := W_rng (fr := fr) (to := to) (lim := lim) (lv := lv) (x := x) (cl := cl) hA hdN
    have hlev := hD.lev hA hs h0 (Nat.le_refl dp)
    have hvB := hB x hD.1 hC
    have hclb : ∀ w, w < N → -1 ≤ cl w ∧ cl w ≤ 200 := fun w hw => by
      have := hlv w hw
      rcases hD.2.1 w hw with z | z <;> omega
    unfold LX6_passLayered_28 BX6_passLayered_28
    refine ⟨fun c => by omega, fun _ => ⟨fun c => ?_, fun c => ?_⟩⟩
    · -- on, or back
      have hnt : pdN fr to s pth dp ≠ t := fun z => c (by rw [z])
      obtain ⟨hV, h51, h53⟩ := hM
      have hck := hD.2.2.1 _ hlev.1
      refine c_deeperSide hA hV hlev.1 hck.1 (fun w hw => (h51 w hw).1) hclb (h51 _ hlev.1).2 (fun e e1 e2 e3 e4 e5 => ?_) (fun hno => ?_)
      · -- on
        have he : e < 2 * n := by omega
        refine ⟨fun c2 => by omega, fun _ => ⟨fun c2 => by omega, fun _ => ⟨⟨by omega, by omega⟩, fun σ8 g8 => ⟨⟨by omega, by omega⟩, ⟨by omega, by omega⟩, fun v11 g11 => ?_⟩⟩⟩⟩
        rw [show ((dp : Nat) : Int).toNat = dp by omega] at g8
        have o8 : Off [50, 53] σ σ8 := by rw [g8]; exact (Off.rf.up (by simp)).up (by simp)
        have hV8 := hV.off o8 (by simp) (by simp) (by simp) (by simp) (by simp)
        rw [show ((e : Nat) : Int).toNat = e by omega, (hV8.2.2.1 e he).1] at g11
        have hD2 := hD.adv hA hs h0 he e2 e3 e4 (fun j j1 j2 j3 => by
          by_cases z : j < ck (pdN fr to s pth dp)
          · have := e5 j j1 z j3
            unfold usN
            rw [j3, hlev.2.2, ← hlev.2.1]
            exact this
          · exact hck.2 j (by omega) j2 j3)
        have eW : WN N n fr to lim lv x cl (dp + 1) + 1 = WN N n fr to lim lv x cl dp := by unfold WN; omega
        have hdN2 := hD2.dp_lt hA hs h0
        have hW2 := W_rng (fr := fr) (to := to) (lim := lim) (lv := lv) (x := x) (cl := cl) hA hdN2
        have ep : pdN fr to s (fun i => if i = dp then e else pth i) (dp + 1) = tgN fr to e := by
          show tgN fr to (if dp = dp then e else pth dp) = _
          rw [if_pos rfl]
        unfold LX6_passLayered_135
        refine ⟨⟨by omega, by omega⟩, ?_⟩
        have := ih σ8 x cl _ _ (dp + 1) (turn + 1) (by omega) (by omega) (ho.trans (o8.mono (by simp))) ⟨hV8, fun v hv => ⟨?_, ?_⟩, fun i hi => ?_⟩ hD2 hC hv0
        · rw [ep] at this
          rw [g11]
          exact this
        · rw [o8 51 (by simp)]; exact (h51 v hv).1
        · rw [g8, up2_nk (by omega), up2_if]
          by_cases z : v = pdN fr to s pth dp
          · rw [if_pos z, if_pos z, z, pv_suc e2]
          · rw [if_neg z, if_neg z]; exact (h51 v hv).2
        · rw [g8, up2_if]
          by_cases z : i = dp
          · rw [if_pos z, if_pos z]
          · rw [if_neg z, if_neg z, up2_nk (by omega)]; exact h53 i (by omega)
      · -- back
        have hall : ∀ j, j < 2 * n → srN fr to j = pdN fr to s pth dp → usN fr to lim x cl lv j := fun j j1 j2 => by
          by_cases z : j < ck (pdN fr to s pth dp)
          · have := hno j z j2
            unfold usN
            rw [j2, hlev.2.2, ← hlev.2.1]
            exact this
          · exact hck.2 j (by omega) j1 j2
        refine ⟨fun _ => ?_, fun c2 => by omega⟩
        have o1 : Off [50] σ (up2 σ 50 (pdN fr to s pth dp) (-1)) := Off.rf.up (by simp)
        unfold LX6_passLayered_103
        refine ⟨fun c2 => ?_, fun c2 => ?_⟩
        · have e0 : dp = 0 := by omega
          subst e0
          refine hΦ _ x (ho.trans (o1.mono (by simp))) (hV.off o1 (by simp) (by simp) (by simp) (by simp) (by simp)) (hD.fin ht hall) hC hv0
        · obtain ⟨d, rfl⟩ : ∃ d, dp = d + 1 := ⟨dp - 1, by omega⟩
          obtain ⟨hD2, hWd⟩ := hD.ret hA hs h0 (fun v hv => (hlv v hv).1) hnt hall
          have hdN2 := hD2.dp_lt hA hs h0
          have hW2 := W_rng (fr := fr) (to := to) (lim := lim) (lv := lv) (x := x) (cl := fun v => if v = pdN fr to s pth (d + 1) then -1 else cl v) hA hdN2
          have hpd := hD.2.2.2.2.2 d (by omega)
          rw [show (((d + 1 : Nat) : Int) + (-1)) = (d : Int) by omega]
          refine ⟨⟨by omega, by omega⟩, fun σ3 g3 => ⟨⟨by omega, by omega⟩, ⟨by omega, by omega⟩, ?_⟩⟩
          rw [show ((pdN fr to s pth (d + 1) : Nat) : Int).toNat = pdN fr to s pth (d + 1) by omega] at g3
          have o3 : Off [50, 51] σ σ3 := by rw [g3]; exact (o1.mono (by simp)).up (by simp)
          have hV3 := hV.off o3 (by simp) (by simp) (by simp) (by simp) (by simp)
          have hr := rv_lt hpd.1
          rw [o3 53 (by simp), show ((d : Nat) : Int).toNat = d by omega, h53 d (by omega), xor_1 _ (by omega), show ((rvN (pth d) : Nat) : Int).toNat = rvN (pth d) by omega, (hV3.2.2.1 _ hr).1, (rv_sr (pth d)).2.1, hpd.2.1]
          refine ⟨⟨by omega, by omega⟩, fun v7 g7 => ?_⟩
          rw [g7]
          unfold LX6_passLayered_135
          refine ⟨⟨by omega, by omega⟩, ih σ3 x _ _ pth d (turn + 1) (by omega) (by omega) (ho.trans (o3.mono (by simp))) ⟨hV3, fun v hv => ⟨?_, ?_⟩, fun i hi => ?_⟩ hD2 hC hv0⟩
          · rw [g3, up2_if]
            by_cases z : v = pdN fr to s pth (d + 1)
            · rw [if_pos z, if_pos z]
            · rw [if_neg z, if_neg z, up2_nk (by omega)]; exact (h51 v hv).1
          · rw [g3, up2_nk (by omega), up2_if]
            by_cases z : v = pdN fr to s pth (d + 1)
            · rw [if_pos z, if_pos z]; rfl
            · rw [if_neg z, if_neg z]; exact (h51 v hv).2
          · rw [o3 53 (by simp)]; exact h53 i (by omega)
    · -- a path is whole
      have hz : pdN fr to s pth dp = t := by omega
      have hdp : 0 < dp := by
        cases dp with
        | zero => exact absurd hz hst
        | succ d => omega
      obtain ⟨hV, h51, h53⟩ := hM
      refine c_passPath hA hs h0 hD hdp h53 (fun e he => (hV.2.2.1 e he).2.1) (fun a σ' ha hm hex o' h56 => ?_)
      obtain ⟨hD2, hWd⟩ := hD.path hA hs h0 ha hm hex
      have hex2 : ∀ y, exG n fr to (aSN x pth a dp) y = exG n fr to x y + (if y = s then a else 0) - (if y = t then a else 0) := fun y => by
        have := aS_ex (s := s) (a := a) (x := x) y (k := dp) (fun i hi => ⟨(hD.2.2.2.2.2 i hi).1, (hD.2.2.2.2.2 i hi).2.1⟩)
        rw [hz] at this
        exact this
      have hC2 : ∀ v, v < N → v ≠ s → v ≠ t → exG n fr to (aSN x pth a dp) v = exG n fr to xp v := fun v hv h1 h2 => by
        rw [hex2, if_neg h1, if_neg h2, hC v hv h1 h2]; omega
      have es := hex2 s
      rw [if_pos rfl, if_neg hst] at es
      have hvB2 := hB _ hD2.1 hC2
      have hW2 := W_rng (fr := fr) (to := to) (lim := lim) (lv := lv) (x := aSN x pth a dp) (cl := cl) hA (show 0 < N by omega)
      refine ⟨⟨by omega, by omega⟩, fun v15 g15 => ?_⟩
      have e15 : v15 = exG n fr to (aSN x pth a dp) s - exG n fr to xp s := by omega
      rw [e15]
      unfold LX6_passLayered_135
      refine ⟨⟨by omega, by omega⟩, ih σ' (aSN x pth a dp) cl ck pth 0 (turn + 1) (by omega) (by omega) (ho.trans (o'.mono (by simp))) ⟨hV.room o' h56, fun v hv => ?_, fun i hi => by omega⟩ hD2 hC2 (by omega)⟩
      rw [o' 51 (by simp), o' 50 (by simp)]
      exact h51 v hv
end Dfs2
