/-! strands: what the machine holds of them -/
def LK (k : Nat) (T : NT) (le : Nat → Int) (σ : PS) : Prop := ∀ e, e < tn T → σ k e = le e
def TK (T : NT) (le : Nat → Int) (K ca cl cr cg ck : Nat) (σ σ' : PS) : Prop := LK ck T (stL T le (leL T le - bgL T le)) σ' ∧ (∀ i, σ' ca i = if i = K then amL T le else σ ca i) ∧ (∀ i, σ' cl i = if i = K then ((leL T le - bgL T le : Nat) : Int) else σ cl i) ∧ (∀ i, σ' cr i = if i = K then rgL T le else σ cr i) ∧ (∀ p, σ' cg p = if 12 * K ≤ p ∧ p < 12 * K + (leL T le - bgL T le) then (gaL T le (bgL T le + (p - 12 * K)) : Int) else σ cg p)
def SO (T : NT) (x : Nat → Int) (K ca cl cr cg : Nat) (σ : PS) : Prop := ∀ i, i < K → σ ca i = amL T (lqT T x i) ∧ σ cl i = ((leL T (lqT T x i) - bgL T (lqT T x i) : Nat) : Int) ∧ σ cr i = rgL T (lqT T x i) ∧ ∀ k, k < leL T (lqT T x i) - bgL T (lqT T x i) → σ cg (12 * i + k) = (gaL T (lqT T x i) (bgL T (lqT T x i) + k) : Int)
section Strand2
variable {T : NT} {le x : Nat → Int} {σ : PS} {Φ : Int → PS → Prop}
theorem SO.put {K ca cl cr cg ck : Nat} {σ' : PS} (hT : okT T) (hx : okL T x) (hK : K < NLT T x) (h : SO T x K ca cl cr cg σ) (ht : TK T (lqT T x K) K ca cl cr cg ck σ σ') : SO T x (K + 1) ca cl cr cg σ' := by
  obtain ⟨t1, t2, t3, t4, t5⟩ := ht
  obtain ⟨n1, n2, n3⟩ := NLT_is hT hx
  intro i hi
  have hl : leL T (lqT T x i) ≤ 12 := (leL_is hT (lq_ok hT hx i (fun j hj => n2 j (by omega))).1 (n2 i (by omega))).2.1
  rw [t2, t3, t4]
  by_cases q : i = K
  · rw [if_pos q, if_pos q, if_pos q, q]
    refine ⟨rfl, rfl, rfl, fun k hk => ?_⟩
    rw [t5, if_pos (by omega), show 12 * K + k - 12 * K = k by omega]
  · rw [if_neg q, if_neg q, if_neg q]
    obtain ⟨h1, h2, h3, h4⟩ := h i (by omega)
    refine ⟨h1, h2, h3, fun k hk => ?_⟩
    rw [t5, if_neg (by omega)]
    exact h4 k hk
theorem LK.off {k : Nat} {σ' : PS} {ks : List Nat} (h : LK k T le σ) (ho : Off ks σ σ') (h1 : k ∉ ks) : LK k T le σ' := by
  unfold LK
  rw [ho k h1]
  exact h
theorem c_firstLeft {v : Nat} (hn : tn T ≤ 30) (hM : CN T σ) (hL : LK 44 T le σ) (h1 : fiL T le v < tn T → Φ (fiL T le v : Nat) σ) (h0 : ¬ fiL T le v < tn T → Φ (-1) σ) : FX8_firstLeft v σ Φ := by
  unfold FX8_firstLeft
  have loop : ∀ (f i : Nat), i ≤ tn T → tn T - i < f → (∀ j, j < i → ¬ (tf T j = v ∧ 0 < le j)) → LX8_firstLeft_2 f v i σ Φ := by
    intro f
    induction f with
    | zero => intro i h1 h2; omega
    | succ f ih =>
      intro i hi hf hno
      unfold LX8_firstLeft_2 BX8_firstLeft_2
      rw [hM.1]
      refine ⟨fun c => h0 (by rw [fiL_no (fun k hk => hno k (by omega))]; omega), fun c => ?_⟩
      have hi2 : i < tn T := by omega
      have e0 : ((i : Nat) : Int).toNat = i := by omega
      have go : ¬ (tf T i = v ∧ 0 < le i) → LX8_firstLeft_31 (fun x2 x3 σ => LX8_firstLeft_2 f x2 x3 σ Φ) v i σ Φ := fun z => by
        unfold LX8_firstLeft_31
        refine ⟨⟨by omega, by omega⟩, ih (i + 1) (by omega) (by omega) (fun j hj => ?_)⟩
        by_cases q : j = i
        · rw [q]; exact z
        · exact hno j (by omega)
      rw [e0, (hM.2.2.2 i hi2).1, hL i hi2]
      refine ⟨⟨by omega, by omega⟩, fun c1 => go (fun z => c1 (by rw [z.1])), fun c1 => ⟨⟨by omega, by omega⟩, fun c2 => go (fun z => by omega), fun c2 => ?_⟩⟩
      have e : fiL T le v = i := fiL_is hi2 ⟨by omega, by omega⟩ hno
      rw [← e]
      exact h1 (by rw [e]; exact hi2)
  exact ⟨tn T + 1, loop (tn T + 1) 0 (by omega) (by omega) (fun j hj => by omega)⟩
theorem c_takeStrand {K : Nat} (hT : okT T) (h : okL T le) (h0 : fiL T le (ts T) < tn T) (hL : LK 44 T le σ) (hP : ∀ j, j < leL T le → σ 45 j = (gaL T le j : Int)) (hK : σ 5 7 = (K : Int)) (hK30 : K < 30) (h8 : 0 ≤ σ 5 8 ∧ σ 5 8 ≤ 1000) (hΦ : ∀ σ' : PS, Off [5, 40, 41, 42, 43, 44] σ σ' → σ' 5 7 = (K : Int) → σ' 5 8 = σ 5 8 + rgL T le → TK T le K 40 41 42 43 44 σ σ' → Φ 0 σ') : FX8_takeStrand (bgL T le : Nat) (leL T le : Nat) (rgL T le) σ Φ := by
  have hn := hT.1
  obtain ⟨b1, b2, b3⟩ := bg_is hT h h0
  obtain ⟨a1, a2, a3, a4⟩ := am_is hT h h0
  obtain ⟨z1, z2, z3, z4, z5⟩ := leL_is hT h h0
  have r01 : rgL T le = 0 ∨ rgL T le = 1 := by unfold rgL; split; exact Or.inl rfl; exact Or.inr rfl
  have hx := h.1
  have hle : ∀ e, e < tn T → 0 ≤ le e ∧ le e ≤ 2000 := fun e he => by have := h.1 e he; have := hT.2.2.1 e he; omega
  unfold FX8_takeStrand
  have l2 : ∀ (f i : Nat) (σ1 : PS), bgL T le + i ≤ leL T le → leL T le - (bgL T le + i) < f → Off [43, 44] σ σ1 → LK 44 T (stL T le i) σ1 → (∀ p, σ1 43 p = if 12 * K ≤ p ∧ p < 12 * K + i then (gaL T le (bgL T le + (p - 12 * K)) : Int) else σ 43 p) → LX8_takeStrand_41 f (bgL T le : Nat) (leL T le : Nat) (rgL T le) (amL T le) ((bgL T le + i : Nat) : Int) σ1 Φ := by
    intro f
    induction f with
    | zero => intro i σ1 h1 h2; omega
    | succ f ih =>
      intro i σ1 hi hf ho hv h43
      unfold LX8_takeStrand_41 BX8_takeStrand_41
      refine ⟨fun c => ?_, fun c => ?_⟩
      · have ei : i = leL T le - bgL T le := by omega
        have e7 : σ1 5 7 = (K : Int) := by rw [ho 5 (by simp)]; exact hK
        rw [e7, show ((K : Nat) : Int).toNat = K by omega]
        refine ⟨⟨by omega, by omega⟩, fun σ3 g3 => ⟨⟨by omega, by omega⟩, ?_⟩⟩
        have e3 : σ3 5 7 = (K : Int) := by rw [g3, up2_nk (by omega)]; exact e7
        rw [e3, show ((K : Nat) : Int).toNat = K by omega]
        refine ⟨⟨by omega, by omega⟩, fun σ6 g6 => ?_⟩
        have e6 : σ6 5 7 = (K : Int) := by rw [g6, up2_nk (by omega)]; exact e3
        rw [e6, show ((K : Nat) : Int).toNat = K by omega]
        refine ⟨⟨by omega, by omega⟩, fun σ8 g8 => ?_⟩
        have e8 : σ8 5 8 = σ 5 8 := by rw [g8, up2_nk (by omega), g6, up2_nk (by omega), g3, up2_nk (by omega), ho 5 (by simp)]
        rw [e8]
        refine ⟨⟨by omega, by omega⟩, fun σ10 g10 => ?_⟩
        refine hΦ σ10 ?_ ?_ ?_ ⟨fun e he => ?_, fun j => ?_, fun j => ?_, fun j => ?_, fun p => ?_⟩
        · rw [g10, g8, g6, g3]
          exact ((((ho.mono (by simp)).up (by simp)).up (by simp)).up (by simp)).up (by simp)
        · rw [g10, up2_ni (by omega), g8, up2_nk (by omega)]; exact e6
        · rw [g10, up2_at]
        · rw [g10, up2_nk (by omega), g8, up2_nk (by omega), g6, up2_nk (by omega), g3, up2_nk (by omega), ← ei]; exact hv e he
        · rw [g10, up2_nk (by omega), g8, up2_nk (by omega), g6, up2_nk (by omega), g3, up2_if, ho 40 (by simp)]
        · rw [g10, up2_nk (by omega), g8, up2_nk (by omega), g6, up2_if, g3, up2_nk (by omega), ho 41 (by simp)]
          by_cases q : j = K
          · rw [if_pos q, if_pos q]; omega
          · rw [if_neg q, if_neg q]
        · rw [g10, up2_nk (by omega), g8, up2_if, g6, up2_nk (by omega), g3, up2_nk (by omega), ho 42 (by simp)]
        · rw [g10, up2_nk (by omega), g8, up2_nk (by omega), g6, up2_nk (by omega), g3, up2_nk (by omega), h43, ei]
      · have hi2 : bgL T le + i < leL T le := by omega
        have hga := (z5 _ hi2).2
        have e45 : σ1 45 ((bgL T le + i : Nat) : Int).toNat = (gaL T le (bgL T le + i) : Int) := by
          rw [show ((bgL T le + i : Nat) : Int).toNat = bgL T le + i by omega, ho 45 (by simp)]; exact hP _ hi2
        have eg : ((gaL T le (bgL T le + i) : Nat) : Int).toNat = gaL T le (bgL T le + i) := by omega
        have e44 : σ1 44 (gaL T le (bgL T le + i)) = le (gaL T le (bgL T le + i)) := by
          rw [hv _ hga]
          exact st_out (fun j hj z => ga_apart hT h h0 (show bgL T le + j < bgL T le + i by omega) hi2 z.symm)
        have hb := hle _ hga
        have hm := a3 (bgL T le + i) (by omega) hi2
        rw [e45, eg, e44]
        refine ⟨⟨by omega, by omega⟩, ⟨by omega, by omega⟩, ⟨by omega, by omega⟩, ⟨by omega, by omega⟩, fun σ15 g15 => ?_⟩
        have o15 : Off [44] σ1 σ15 := by rw [g15]; exact Off.rf.up (by simp)
        rw [o15 5 (by simp), ho 5 (by simp), hK, o15 45 (by simp), e45]
        refine ⟨⟨by omega, by omega⟩, ⟨by omega, by omega⟩, ⟨by omega, by omega⟩, ⟨by omega, by omega⟩, ⟨by omega, by omega⟩, fun σ21 g21 => ⟨⟨by omega, by omega⟩, ?_⟩⟩
        have ep : ((K : Int) * 12 + ((bgL T le + i : Nat) : Int) - ((bgL T le : Nat) : Int)).toNat = 12 * K + i := by omega
        rw [ep] at g21
        have := ih (i + 1) σ21 (by omega) (by omega) (by rw [g21]; exact (ho.trans (o15.mono (by simp))).up (by simp)) (fun e he => ?_) (fun p => ?_)
        · rw [show (((bgL T le + i : Nat) : Int) + 1) = ((bgL T le + (i + 1) : Nat) : Int) by omega]
          exact this
        · rw [g21, up2_nk (by omega), g15, up2_if, st_suc]
          by_cases q : e = gaL T le (bgL T le + i)
          · simp only [if_pos q]
            rw [q]
            have := hv _ hga
            omega
          · simp only [if_neg q]
            exact hv e he
        · rw [g21, up2_if, g15, up2_nk (by omega), h43]
          by_cases q : p = 12 * K + i
          · rw [if_pos q, if_pos (by omega), q, show 12 * K + i - 12 * K = i by omega]
          · rw [if_neg q]
            by_cases q2 : 12 * K ≤ p ∧ p < 12 * K + i
            · rw [if_pos q2, if_pos (by omega)]
            · rw [if_neg q2, if_neg (by omega)]
  have l1 : ∀ (f i : Nat), bgL T le + i ≤ leL T le → leL T le - (bgL T le + i) < f → LX8_takeStrand_7 f (bgL T le : Nat) (leL T le : Nat) (rgL T le) (mns 1000000000 (fun i => le (gaL T le (bgL T le + i))) i) ((bgL T le + i : Nat) : Int) σ Φ := by
    intro f
    induction f with
    | zero => intro i h1 h2; omega
    | succ f ih =>
      intro i hi hf
      unfold LX8_takeStrand_7 BX8_takeStrand_7
      refine ⟨fun c => ?_, fun c => ?_⟩
      · have ei : i = leL T le - bgL T le := by omega
        rw [ei, a4 _ (by omega)]
        exact ⟨leL T le + 1, l2 (leL T le + 1) 0 σ (by omega) (by omega) Off.rf (fun e he => hL e he) (fun p => by rw [if_neg (by omega)])⟩
      · have hi2 : bgL T le + i < leL T le := by omega
        have hga := (z5 _ hi2).2
        rw [show ((bgL T le + i : Nat) : Int).toNat = bgL T le + i by omega, hP _ hi2, show ((gaL T le (bgL T le + i) : Nat) : Int).toNat = gaL T le (bgL T le + i) by omega, hL _ hga]
        refine ⟨⟨by omega, by omega⟩, ⟨by omega, by omega⟩, fun v4 g4 => ⟨⟨by omega, by omega⟩, ?_⟩⟩
        have := ih (i + 1) (by omega) (by omega)
        rw [mns] at this
        rw [g4, show (((bgL T le + i : Nat) : Int) + 1) = ((bgL T le + (i + 1) : Nat) : Int) by omega]
        exact this
  exact ⟨leL T le + 1, l1 (leL T le + 1) 0 (by omega) (by omega)⟩
/-- walk: one is taken, if the source has water left -/
theorem c_walk {K : Nat} (hT : okT T) (h : okL T le) (hM : CN T σ) (hL : LK 44 T le σ) (hK : σ 5 7 = (K : Int)) (hK30 : K < 30) (h8 : 0 ≤ σ 5 8 ∧ σ 5 8 ≤ 1000) (h0 : ¬ fiL T le (ts T) < tn T → ∀ σ' : PS, Off [45, 46] σ σ' → Φ 0 σ') (hΦ : fiL T le (ts T) < tn T → ∀ σ' : PS, Off [5, 40, 41, 42, 43, 44, 45, 46] σ σ' → σ' 5 7 = (K : Int) → σ' 5 8 = σ 5 8 + rgL T le → TK T le K 40 41 42 43 44 σ σ' → Φ 1 σ') : FX8_walk σ Φ := by
  have hn := hT.1
  unfold FX8_walk
  intro σ1 g1 v2 g2
  have o1 : Off [46] σ σ1 := by rw [g1]; exact Off.rf.fl (by simp)
  have hs12 := hT.2.2.2.1
  have e2 : v2 = (ts T : Int) := by rw [g2, o1 1 (by simp)]; exact hM.2.1
  rw [e2]
  by_cases q0 : fiL T le (ts T) < tn T
  · obtain ⟨z1, z2, z3, z4, z5⟩ := leL_is hT h q0
    have loop : ∀ (f i : Nat) (σ1 : PS), i < leL T le → leL T le - i ≤ f → Off [45, 46] σ σ1 → (∀ j, j < i → σ1 45 j = (gaL T le j : Int)) → (∀ j, j < i → σ1 46 (ndL T le j) = j) → (∀ v, v < 12 → (∀ j, j < i → ndL T le j ≠ v) → σ1 46 v = -1) → LX8_walk_15 f (ndL T le i : Nat) i σ1 Φ := by
      intro f
      induction f with
      | zero => intro i σ1 h1 h2; omega
      | succ f ih =>
        intro i σ1 hi hf ho h45 h46 hno
        unfold LX8_walk_15 BX8_walk_15
        refine ⟨fun c => by omega, fun _ => ?_⟩
        have hM1 : CN T σ1 := hM.off ho (by simp) (by simp) (by simp)
        obtain ⟨y1, y2⟩ := z5 i hi
        refine c_firstLeft hn hM1 (hL.off ho (by simp)) (fun c => ?_) (fun c => absurd y2 c)
        have eg : fiL T le (ndL T le i) = gaL T le i := rfl
        rw [eg]
        refine ⟨fun _ => ⟨⟨by omega, by omega⟩, fun σ6 g6 => ⟨⟨by omega, by omega⟩, fun σ8 g8 => ⟨⟨by omega, by omega⟩, fun v10 g10 => ?_⟩⟩⟩, fun c => by omega⟩
        rw [show ((ndL T le i : Nat) : Int).toNat = ndL T le i by omega] at g6
        rw [show ((i : Nat) : Int).toNat = i by omega] at g8
        have o8 : Off [45, 46] σ1 σ8 := by rw [g8, g6]; exact (Off.rf.up (by simp)).up (by simp)
        have oo : Off [45, 46] σ σ8 := ho.trans o8
        have hM8 : CN T σ8 := hM.off oo (by simp) (by simp) (by simp)
        have e10 : v10 = (ndL T le (i + 1) : Int) := by
          rw [g10, show ((gaL T le i : Nat) : Int).toNat = gaL T le i by omega]
          exact (hM8.2.2.2 _ y2).2
        have n12 : ndL T le (i + 1) < 12 := (hT.2.1 _ y2).2.1
        rw [e10, hM8.2.2.1, show ((ndL T le (i + 1) : Nat) : Int).toNat = ndL T le (i + 1) by omega]
        have k45 : ∀ j, j < i + 1 → σ8 45 j = (gaL T le j : Int) := fun j hj => by
          rw [g8, up2_if]
          by_cases q : j = i
          · rw [if_pos q, q]
          · rw [if_neg q, g6, up2_nk (by omega)]; exact h45 j (by omega)
        have k46 : ∀ v, σ8 46 v = if v = ndL T le i then (i : Int) else σ1 46 v := fun v => by
          rw [g8, up2_nk (by omega), g6, up2_if]
        have m46 : ∀ j, j < i + 1 → σ8 46 (ndL T le j) = j := fun j hj => by
          rw [k46]
          by_cases q : j = i
          · rw [if_pos (by rw [q]), q]
          · rw [if_neg (nd_apart hT h q0 (by omega) hi)]
            exact h46 j (by omega)
        have n46 : ∀ v, v < 12 → (∀ j, j < i + 1 → ndL T le j ≠ v) → σ8 46 v = -1 := fun v hv hv2 => by
          rw [k46, if_neg (fun z => hv2 i (by omega) z.symm)]
          exact hno v hv (fun j hj => hv2 j (by omega))
        have fin : leL T le = i + 1 → ∀ σ' : PS, Off [5, 40, 41, 42, 43, 44] σ8 σ' → σ' 5 7 = (K : Int) → σ' 5 8 = σ8 5 8 + rgL T le → TK T le K 40 41 42 43 44 σ8 σ' → Φ 1 σ' := fun eL σ' a1 a2 a3 a4 => by
          refine hΦ q0 σ' ((oo.mono (by simp)).trans (a1.mono (by simp))) a2 (by rw [a3, oo 5 (by simp)]) ?_
          unfold TK at a4 ⊢
          rw [oo 40 (by simp), oo 41 (by simp), oo 42 (by simp), oo 43 (by simp)] at a4
          exact a4
        have tk : leL T le = i + 1 → FX8_takeStrand (bgL T le : Nat) (leL T le : Nat) (rgL T le) σ8 (fun _ σ21 => Φ 1 σ21) := fun eL => by
          refine c_takeStrand hT h q0 (hL.off oo (by simp)) (fun j hj => k45 j (by omega)) (by rw [oo 5 (by simp)]; exact hK) hK30 (by rw [oo 5 (by simp)]; exact h8) (fin eL)
        have lt : spL T le (i + 1) → leL T le = i + 1 := fun y => by
          by_cases q : i + 1 < leL T le
          · exact absurd y (z4 (i + 1) (by omega) q)
          · omega
        refine ⟨fun c1 => ⟨⟨by omega, by omega⟩, fun c2 => ⟨⟨by omega, by omega⟩, ?_⟩, fun c2 => ⟨⟨by omega, by omega⟩, ⟨by omega, by omega⟩, ?_⟩⟩, fun c1 => ⟨⟨by omega, by omega⟩, ?_⟩⟩
        · have hns : ¬ spL T le (i + 1) := fun y => by
            rcases y with y | ⟨j, j1, j2⟩
            · exact c1 (by rw [y])
            · have := m46 j j1
              rw [j2] at this
              omega
          have hi3 : i + 1 < leL T le := by
            by_cases q : i + 1 = leL T le
            · rw [q] at hns; exact absurd z3 hns
            · omega
          exact ih (i + 1) σ8 hi3 (by omega) oo k45 m46 n46
        · have hex : ∃ j, j < i + 1 ∧ ndL T le j = ndL T le (i + 1) := Classical.byContradiction (fun y => by
            have := n46 _ n12 (fun j hj z => y ⟨j, hj, z⟩)
            omega)
          have eL := lt (Or.inr hex)
          have hz : ¬ ndL T le (leL T le) = tz T := by rw [eL]; exact fun y => c1 (by rw [y])
          have er : rgL T le = 1 := by unfold rgL; rw [if_neg hz]
          have hb := bg_is hT h q0
          have eb : σ8 46 (ndL T le (i + 1)) = (bgL T le : Int) := by
            have := hb.2.1 hz
            rw [eL] at this
            rw [← this]
            exact m46 _ (by omega)
          have := tk eL
          rw [er, eL] at this
          rw [eb]
          exact this
        · have hz : ndL T le (i + 1) = tz T := by omega
          have eL := lt (Or.inl hz)
          have er : rgL T le = 0 := by unfold rgL; rw [eL, if_pos hz]
          have eb : bgL T le = 0 := (bg_is hT h q0).2.2 (by rw [eL]; exact hz)
          have := tk eL
          rw [er, eL, eb] at this
          exact this
    refine ⟨leL T le, loop (leL T le) 0 σ1 (by omega) (by omega) (o1.mono (by simp)) (fun j hj => by omega) (fun j hj => by omega) (fun v hv _ => ?_)⟩
    rw [g1, fl2_if, if_pos ⟨by omega, hv⟩]
  · refine ⟨1, ?_⟩
    unfold LX8_walk_15 BX8_walk_15
    refine ⟨fun c => by omega, fun _ => ?_⟩
    refine c_firstLeft hn (hM.off o1 (by simp) (by simp) (by simp)) (hL.off o1 (by simp)) (fun c => absurd c q0) (fun c => ⟨fun c2 => by omega, fun _ => h0 q0 σ1 (o1.mono (by simp))⟩)
end Strand2
