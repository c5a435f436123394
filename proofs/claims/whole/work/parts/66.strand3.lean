/-! strands: the reference takes one -/
section Strand3
variable {b : Bk} {le x : Nat → Int} {σ : PS} {Φ : Int → PS → Prop}
theorem bB_n {e w : Nat} (hb : okB b) (he : e < bn b) : bB b e 0 = (tf (T0 b) e : Int) ∧ bB b e 1 = (tt (T0 b) e : Int) := by
  have hB := hb.2.2.2.2 e he
  unfold okG at hB
  show bB b e 0 = ((bB b e 0).toNat : Int) ∧ bB b e 1 = ((bB b e 1).toNat : Int)
  omega
theorem m_watered {v : Nat} (hb : okB b) (hM : mB 1 b σ) (hL : LK 19 (T0 b) le σ) (h1 : fiL (T0 b) le v < tn (T0 b) → Φ (fiL (T0 b) le v : Nat) σ) (h0 : ¬ fiL (T0 b) le v < tn (T0 b) → Φ (-1) σ) : FX12_watered v σ Φ := by
  have hn := hb.1
  unfold FX12_watered
  have loop : ∀ (f i : Nat), i ≤ bn b → bn b - i < f → (∀ j, j < i → ¬ (tf (T0 b) j = v ∧ 0 < le j)) → LX12_watered_2 f v i σ Φ := by
    intro f
    induction f with
    | zero => intro i h1 h2; omega
    | succ f ih =>
      intro i hi hf hno
      unfold LX12_watered_2 BX12_watered_2
      rw [hM.1]
      refine ⟨fun c => h0 (by rw [fiL_no (fun k hk => hno k (by have : k < bn b := hk; omega))]; omega), fun c => ?_⟩
      have hi2 : i < bn b := by omega
      have e0 : ((i : Nat) : Int).toNat = i := by omega
      have go : ¬ (tf (T0 b) i = v ∧ 0 < le i) → LX12_watered_33 (fun x2 x3 σ => LX12_watered_2 f x2 x3 σ Φ) v i σ Φ := fun z => by
        unfold LX12_watered_33
        refine ⟨⟨by omega, by omega⟩, ih (i + 1) (by omega) (by omega) (fun j hj => ?_)⟩
        by_cases q : j = i
        · rw [q]; exact z
        · exact hno j (by omega)
      refine m_at (w := 0) rfl rfl hb hM hi2 (by omega) ?_
      rw [(bB_n (w := 0) hb hi2).1, e0, hL i hi2]
      refine ⟨fun c1 => go (fun z => c1 (by rw [z.1])), fun c1 => ⟨⟨by omega, by omega⟩, fun c2 => go (fun z => by omega), fun c2 => ?_⟩⟩
      have e : fiL (T0 b) le v = i := fiL_is hi2 ⟨by omega, by omega⟩ hno
      rw [← e]
      exact h1 (by rw [e]; exact hi2)
  exact ⟨bn b + 1, loop (bn b + 1) 0 (by omega) (by omega) (fun j hj => by omega)⟩
theorem m_takes_end {K : Nat} {x2 : Int} (hb : okB b) (h : okL (T0 b) le) (h0 : fiL (T0 b) le (ts (T0 b)) < tn (T0 b)) (hL : LK 19 (T0 b) le σ) (hP : ∀ j, j < leL (T0 b) le → σ 20 j = (gaL (T0 b) le j : Int)) (hK : σ 0 18 = (K : Int)) (hK30 : K < 30) (hx2 : (rgL (T0 b) le = 0 ∧ x2 = -1 ∧ bgL (T0 b) le = 0) ∨ (rgL (T0 b) le = 1 ∧ x2 = bgL (T0 b) le)) (hΦ : ∀ σ' : PS, Off [0, 15, 16, 17, 18, 19] σ σ' → (∀ i, i ≠ 18 → σ' 0 i = σ 0 i) → σ' 0 18 = (K : Int) + 1 → TK (T0 b) le K 15 16 17 18 19 σ σ' → Φ 0 σ') : LX12_takes_92 (leL (T0 b) le : Nat) x2 σ Φ := by
  have hT := okT_T0 hb
  have hn := hT.1
  obtain ⟨b1, b2, b3⟩ := bg_is hT h h0
  obtain ⟨a1, a2, a3, a4⟩ := am_is hT h h0
  obtain ⟨z1, z2, z3, z4, z5⟩ := leL_is hT h h0
  have hle : ∀ e, e < tn (T0 b) → 0 ≤ le e ∧ le e ≤ 2000 := fun e he => by have := h.1 e he; have := hT.2.2.1 e he; omega
  have l2 : ∀ (f i : Nat) (σ1 : PS), bgL (T0 b) le + i ≤ leL (T0 b) le → leL (T0 b) le - (bgL (T0 b) le + i) < f → Off [18, 19] σ σ1 → LK 19 (T0 b) (stL (T0 b) le i) σ1 → (∀ p, σ1 18 p = if 12 * K ≤ p ∧ p < 12 * K + i then (gaL (T0 b) le (bgL (T0 b) le + (p - 12 * K)) : Int) else σ 18 p) → LX12_takes_142 f (leL (T0 b) le : Nat) x2 (bgL (T0 b) le : Nat) (amL (T0 b) le) ((bgL (T0 b) le + i : Nat) : Int) σ1 Φ := by
    intro f
    induction f with
    | zero => intro i σ1 h1 h2; omega
    | succ f ih =>
      intro i σ1 hi hf ho hv h43
      unfold LX12_takes_142 BX12_takes_142
      refine ⟨fun c => ?_, fun c => ?_⟩
      · have ei : i = leL (T0 b) le - bgL (T0 b) le := by omega
        have e7 : σ1 0 18 = (K : Int) := by rw [ho 0 (by simp)]; exact hK
        rw [e7, show ((K : Nat) : Int).toNat = K by omega]
        refine ⟨⟨by omega, by omega⟩, fun σ3 g3 => ⟨⟨by omega, by omega⟩, ?_⟩⟩
        have e3 : σ3 0 18 = (K : Int) := by rw [g3, up2_nk (by omega)]; exact e7
        rw [e3, show ((K : Nat) : Int).toNat = K by omega]
        refine ⟨⟨by omega, by omega⟩, fun σ6 g6 => ?_⟩
        have e6 : σ6 0 18 = (K : Int) := by rw [g6, up2_nk (by omega)]; exact e3
        rw [e6]
        have fin : ∀ s2 : Int, s2 = rgL (T0 b) le → (s2 = 0 ∨ s2 = 1) → LX12_takes_237 K s2 σ6 Φ := fun s2 hs2 h01 => by
          unfold LX12_takes_237
          rw [show ((K : Nat) : Int).toNat = K by omega]
          refine ⟨⟨by omega, by omega⟩, h01, fun σ8 g8 => ?_⟩
          have e8 : σ8 0 18 = (K : Int) := by rw [g8, up2_nk (by omega)]; exact e6
          rw [e8]
          refine ⟨⟨by omega, by omega⟩, fun σ10 g10 => ?_⟩
          refine hΦ σ10 ?_ (fun i hi => ?_) ?_ ⟨fun e he => ?_, fun j => ?_, fun j => ?_, fun j => ?_, fun p => ?_⟩
          · rw [g10, g8, g6, g3]
            exact ((((ho.mono (by simp)).up (by simp)).up (by simp)).up (by simp)).up (by simp)
          · rw [g10, up2_ni hi, g8, up2_nk (by omega), g6, up2_nk (by omega), g3, up2_nk (by omega), ho 0 (by simp)]
          · rw [g10, up2_at]
          · rw [g10, up2_nk (by omega), g8, up2_nk (by omega), g6, up2_nk (by omega), g3, up2_nk (by omega), ← ei]; exact hv e he
          · rw [g10, up2_nk (by omega), g8, up2_nk (by omega), g6, up2_nk (by omega), g3, up2_if, ho 15 (by simp)]
          · rw [g10, up2_nk (by omega), g8, up2_nk (by omega), g6, up2_if, g3, up2_nk (by omega), ho 16 (by simp)]
            by_cases q : j = K
            · rw [if_pos q, if_pos q]; omega
            · rw [if_neg q, if_neg q]
          · rw [g10, up2_nk (by omega), g8, up2_if, g6, up2_nk (by omega), g3, up2_nk (by omega), ho 17 (by simp), hs2]
          · rw [g10, up2_nk (by omega), g8, up2_nk (by omega), g6, up2_nk (by omega), g3, up2_nk (by omega), h43, ei]
        exact ⟨fun c2 => fin 0 (by omega) (Or.inl rfl), fun c2 => fin 1 (by omega) (Or.inr rfl)⟩
      · have hi2 : bgL (T0 b) le + i < leL (T0 b) le := by omega
        have hga := (z5 _ hi2).2
        have e45 : σ1 20 ((bgL (T0 b) le + i : Nat) : Int).toNat = (gaL (T0 b) le (bgL (T0 b) le + i) : Int) := by
          rw [show ((bgL (T0 b) le + i : Nat) : Int).toNat = bgL (T0 b) le + i by omega, ho 20 (by simp)]; exact hP _ hi2
        have eg : ((gaL (T0 b) le (bgL (T0 b) le + i) : Nat) : Int).toNat = gaL (T0 b) le (bgL (T0 b) le + i) := by omega
        have e44 : σ1 19 (gaL (T0 b) le (bgL (T0 b) le + i)) = le (gaL (T0 b) le (bgL (T0 b) le + i)) := by
          rw [hv _ hga]
          exact st_out (fun j hj z => ga_apart hT h h0 (show bgL (T0 b) le + j < bgL (T0 b) le + i by omega) hi2 z.symm)
        have hbd := hle _ hga
        have hm := a3 (bgL (T0 b) le + i) (by omega) hi2
        rw [e45, eg, e44]
        refine ⟨⟨by omega, by omega⟩, ⟨by omega, by omega⟩, ⟨by omega, by omega⟩, ⟨by omega, by omega⟩, fun σ15 g15 => ?_⟩
        have o15 : Off [19] σ1 σ15 := by rw [g15]; exact Off.rf.up (by simp)
        rw [o15 0 (by simp), ho 0 (by simp), hK, o15 20 (by simp), e45]
        refine ⟨⟨by omega, by omega⟩, ⟨by omega, by omega⟩, ⟨by omega, by omega⟩, ⟨by omega, by omega⟩, ⟨by omega, by omega⟩, fun σ21 g21 => ⟨⟨by omega, by omega⟩, ?_⟩⟩
        have ep : ((K : Int) * 12 + ((bgL (T0 b) le + i : Nat) : Int) - ((bgL (T0 b) le : Nat) : Int)).toNat = 12 * K + i := by omega
        rw [ep] at g21
        have := ih (i + 1) σ21 (by omega) (by omega) (by rw [g21]; exact (ho.trans (o15.mono (by simp))).up (by simp)) (fun e he => ?_) (fun p => ?_)
        · rw [show (((bgL (T0 b) le + i : Nat) : Int) + 1) = ((bgL (T0 b) le + (i + 1) : Nat) : Int) by omega]
          exact this
        · rw [g21, up2_nk (by omega), g15, up2_if, st_suc]
          by_cases q : e = gaL (T0 b) le (bgL (T0 b) le + i)
          · simp only [if_pos q]
            rw [q]
            have := hv _ hga
            omega
          · simp only [if_neg q]
            exact hv e he
        · rw [g21, up2_if, g15, up2_nk (by omega), h43]
          by_cases q : p = 12 * K + i
          · rw [if_pos q, if_pos (by omega), q, show 12 * K + i - 12 * K = i by omega]
          · rw [if_neg q]
            by_cases q2 : 12 * K ≤ p ∧ p < 12 * K + i
            · rw [if_pos q2, if_pos (by omega)]
            · rw [if_neg q2, if_neg (by omega)]
  have l1 : ∀ (f i : Nat), bgL (T0 b) le + i ≤ leL (T0 b) le → leL (T0 b) le - (bgL (T0 b) le + i) < f → LX12_takes_107 f (leL (T0 b) le : Nat) x2 (bgL (T0 b) le : Nat) (mns 100000000 (fun i => le (gaL (T0 b) le (bgL (T0 b) le + i))) i) ((bgL (T0 b) le + i : Nat) : Int) σ Φ := by
    intro f
    induction f with
    | zero => intro i h1 h2; omega
    | succ f ih =>
      intro i hi hf
      unfold LX12_takes_107 BX12_takes_107
      refine ⟨fun c => ?_, fun c => ?_⟩
      · have ei : i = leL (T0 b) le - bgL (T0 b) le := by omega
        rw [ei, a4 _ (by omega)]
        exact ⟨leL (T0 b) le + 1, l2 (leL (T0 b) le + 1) 0 σ (by omega) (by omega) Off.rf (fun e he => hL e he) (fun p => by rw [if_neg (by omega)])⟩
      · have hi2 : bgL (T0 b) le + i < leL (T0 b) le := by omega
        have hga := (z5 _ hi2).2
        rw [show ((bgL (T0 b) le + i : Nat) : Int).toNat = bgL (T0 b) le + i by omega, hP _ hi2, show ((gaL (T0 b) le (bgL (T0 b) le + i) : Nat) : Int).toNat = gaL (T0 b) le (bgL (T0 b) le + i) by omega, hL _ hga]
        refine ⟨⟨by omega, by omega⟩, ⟨by omega, by omega⟩, fun v4 g4 => ⟨⟨by omega, by omega⟩, ?_⟩⟩
        have := ih (i + 1) (by omega) (by omega)
        rw [mns] at this
        rw [g4, show (((bgL (T0 b) le + i : Nat) : Int) + 1) = ((bgL (T0 b) le + (i + 1) : Nat) : Int) by omega]
        exact this
  unfold LX12_takes_92
  intro v1 g1
  have e1 : v1 = (bgL (T0 b) le : Int) := by omega
  rw [e1]
  exact ⟨leL (T0 b) le + 1, l1 (leL (T0 b) le + 1) 0 (by omega) (by omega)⟩
theorem m_takes {K : Nat} (hb : okB b) (h : okL (T0 b) le) (hM : mB 1 b σ) (h0 : fiL (T0 b) le (ts (T0 b)) < tn (T0 b)) (hL : LK 19 (T0 b) le σ) (hK : σ 0 18 = (K : Int)) (hK30 : K < 30) (hΦ : ∀ σ' : PS, Off [0, 15, 16, 17, 18, 19, 20] σ σ' → (∀ i, i ≠ 18 → σ' 0 i = σ 0 i) → σ' 0 18 = (K : Int) + 1 → TK (T0 b) le K 15 16 17 18 19 σ σ' → Φ 0 σ') : FX12_takes σ Φ := by
  have hT := okT_T0 hb
  have hn := hT.1
  obtain ⟨z1, z2, z3, z4, z5⟩ := leL_is hT h h0
  have hbg := bg_is hT h h0
  unfold FX12_takes
  intro v1 g1
  have e1 : v1 = (ts (T0 b) : Int) := by rw [g1]; exact hM.2.1
  rw [e1]
  have tk : ∀ (σ1 : PS) (x2 : Int), Off [20] σ σ1 → (∀ j, j < leL (T0 b) le → σ1 20 j = (gaL (T0 b) le j : Int)) → ((rgL (T0 b) le = 0 ∧ x2 = -1 ∧ bgL (T0 b) le = 0) ∨ (rgL (T0 b) le = 1 ∧ x2 = bgL (T0 b) le)) → LX12_takes_92 (leL (T0 b) le : Nat) x2 σ1 Φ := fun σ1 x2 ho hP hx2 => by
    refine m_takes_end hb h h0 (hL.off ho (by simp)) hP (by rw [ho 0 (by simp)]; exact hK) hK30 hx2 (fun σ' o' k1 k2 k3 => hΦ σ' ((ho.mono (by simp)).trans (o'.mono (by simp))) (fun i hi => by rw [k1 i hi, ho 0 (by simp)]) k2 ?_)
    unfold TK at k3 ⊢
    rw [ho 15 (by simp), ho 16 (by simp), ho 17 (by simp), ho 18 (by simp)] at k3
    exact k3
  have loop : ∀ (f i : Nat) (σ1 : PS), i < leL (T0 b) le → leL (T0 b) le - i < f → Off [20] σ σ1 → (∀ j, j < i → σ1 20 j = (gaL (T0 b) le j : Int)) → LX12_takes_11 f i (-1) (ndL (T0 b) le i : Nat) σ1 Φ := by
    intro f
    induction f with
    | zero => intro i σ1 h1 h2; omega
    | succ f ih =>
      intro i σ1 hi hf ho h20
      have hM1 : mB 1 b σ1 := hM.keep (ho 1 (by simp))
      obtain ⟨y1, y2⟩ := z5 i hi
      have hnz := nd_nz hT h h0 hi
      unfold LX12_takes_11 BX12_takes_11
      rw [hM1.2.2.1]
      refine ⟨fun c => absurd (show ndL (T0 b) le i = bz b by omega) hnz, fun _ => ⟨fun c => by omega, fun _ => ?_⟩⟩
      refine m_watered hb hM1 (hL.off ho (by simp)) (fun _ => ?_) (fun c => absurd y2 c)
      have eg : fiL (T0 b) le (ndL (T0 b) le i) = gaL (T0 b) le i := rfl
      rw [eg, show ((i : Nat) : Int).toNat = i by omega]
      refine ⟨⟨by omega, by omega⟩, fun σ6 g6 => ⟨⟨by omega, by omega⟩, ?_⟩⟩
      have o6 : Off [20] σ σ6 := by rw [g6]; exact ho.up (by simp)
      have hM6 : mB 1 b σ6 := hM.keep (o6 1 (by simp))
      have k20 : ∀ j, j < i + 1 → σ6 20 j = (gaL (T0 b) le j : Int) := fun j hj => by
        rw [g6, up2_if]
        by_cases q : j = i
        · rw [if_pos q, q]
        · rw [if_neg q]; exact h20 j (by omega)
      rw [k20 i (by omega)]
      refine m_at (w := 1) rfl rfl hb hM6 y2 (by omega) ?_
      have e8 : bB b (gaL (T0 b) le i) 1 = (ndL (T0 b) le (i + 1) : Int) := (bB_n (w := 0) hb y2).2
      rw [e8]
      refine ⟨⟨by omega, by omega⟩, i + 2, ?_⟩
      have lt : spL (T0 b) le (i + 1) → leL (T0 b) le = i + 1 := fun y => by
        by_cases q : i + 1 < leL (T0 b) le
        · exact absurd y (z4 (i + 1) (by omega) q)
        · omega
      -- what is done when all that were walked are asked
      have done : ∀ fr : Int, ((fr = -1 ∧ ∀ j, j < i + 1 → ndL (T0 b) le j ≠ ndL (T0 b) le (i + 1)) ∨ ∃ j, j < i + 1 ∧ ndL (T0 b) le j = ndL (T0 b) le (i + 1) ∧ fr = j) → LX12_takes_11 f ((i : Int) + 1) fr (ndL (T0 b) le (i + 1) : Nat) σ6 Φ := fun fr hfr => by
        by_cases q : i + 1 < leL (T0 b) le
        · rcases hfr with ⟨a, _⟩ | ⟨j, j1, j2, _⟩
          · rw [a]
            exact ih (i + 1) σ6 q (by omega) o6 k20
          · exact absurd (Or.inr ⟨j, j1, j2⟩) (z4 (i + 1) (by omega) q)
        · have eL : leL (T0 b) le = i + 1 := by omega
          cases f with
          | zero => omega
          | succ f =>
          unfold LX12_takes_11 BX12_takes_11
          rw [hM6.2.2.1]
          have eI : ((i : Int) + 1) = (leL (T0 b) le : Int) := by omega
          rw [eI]
          refine ⟨fun c => ?_, fun c => ⟨fun c2 => ?_, fun c2 => ?_⟩⟩
          · have hz : ndL (T0 b) le (leL (T0 b) le) = tz (T0 b) := by rw [eL]; show _ = bz b; omega
            refine tk σ6 fr o6 (fun j hj => k20 j (by omega)) (Or.inl ⟨by unfold rgL; rw [if_pos hz], ?_, hbg.2.2 hz⟩)
            rcases hfr with ⟨a, _⟩ | ⟨j, j1, j2, _⟩
            · exact a
            · exact absurd (j2.trans (by rw [← eL]; exact hz)) (nd_nz hT h h0 (by omega))
          · have hz : ¬ ndL (T0 b) le (leL (T0 b) le) = tz (T0 b) := fun z => c (by rw [eL] at z; rw [z]; rfl)
            refine tk σ6 fr o6 (fun j hj => k20 j (by omega)) (Or.inr ⟨by unfold rgL; rw [if_neg hz], ?_⟩)
            rcases hfr with ⟨a, _⟩ | ⟨j, j1, j2, j3⟩
            · omega
            · have e2 := hbg.2.1 hz
              rw [eL] at e2
              have hlt := hbg.1
              have : j = bgL (T0 b) le := by
                rcases Nat.lt_trichotomy j (bgL (T0 b) le) with y | y | y
                · exact absurd (j2.trans e2.symm) (nd_apart hT h h0 y hlt)
                · exact y
                · exact absurd (e2.trans j2.symm) (nd_apart hT h h0 y (by omega))
              rw [j3, this]
          · exfalso
            rcases hfr with ⟨a, a2⟩ | ⟨j, j1, j2, j3⟩
            · rw [eL] at z3
              rcases z3 with y | ⟨j, j1, j2⟩
              · exact c (by rw [y]; rfl)
              · exact a2 j j1 j2
            · omega
      have l54 : ∀ (g k : Nat) (fr : Int), k ≤ i + 1 → i + 1 - k < g → ((fr = -1 ∧ ∀ j, j < k → ndL (T0 b) le j ≠ ndL (T0 b) le (i + 1)) ∨ ∃ j, j < k ∧ ndL (T0 b) le j = ndL (T0 b) le (i + 1) ∧ fr = j) → LX12_takes_54 (fun x1 x2 x3 σ => LX12_takes_11 f x1 x2 x3 σ Φ) g ((i : Int) + 1) fr (ndL (T0 b) le (i + 1) : Nat) k σ6 Φ := by
        intro g
        induction g with
        | zero => intro k fr h1 h2; omega
        | succ g ihg =>
          intro k fr hk hg hfr
          unfold LX12_takes_54 BX12_takes_54
          refine ⟨fun c => ?_, fun c => ?_⟩
          · have ek : k = i + 1 := by omega
            rw [ek] at hfr
            exact done fr hfr
          · have hk2 : k < i + 1 := by omega
            have hyk := (z5 k (by omega)).2
            rw [show ((k : Nat) : Int).toNat = k by omega, k20 k hk2]
            refine ⟨⟨by omega, by omega⟩, m_at (w := 0) rfl rfl hb hM6 hyk (by omega) ?_⟩
            have ek : bB b (gaL (T0 b) le k) 0 = (ndL (T0 b) le k : Int) := by
              rw [(bB_n (w := 0) hb hyk).1]
              have := (fiL_y hyk).1
              exact congrArg Int.ofNat this
            rw [ek]
            unfold LX12_takes_82
            have kb : k + 1 ≤ i + 1 ∧ i + 1 - (k + 1) < g := by clear hfr; omega
            have rk : Rg ((k : Int) + 1) := by clear hfr; exact ⟨by omega, by omega⟩
            refine ⟨fun c1 => ⟨rk, ihg (k + 1) fr kb.1 kb.2 ?_⟩, fun c1 => ⟨rk, ihg (k + 1) k kb.1 kb.2 (Or.inr ⟨k, by clear hfr; omega, by clear hfr; omega, rfl⟩)⟩⟩
            rcases hfr with ⟨a, a2⟩ | ⟨j, j1, j2⟩
            · refine Or.inl ⟨a, fun j hj => ?_⟩
              by_cases q : j = k
              · rw [q]; exact fun z => c1 (by rw [z])
              · exact a2 j (by omega)
            · exact Or.inr ⟨j, by omega, j2⟩
      exact l54 (i + 2) 0 (-1) (by omega) (by omega) (Or.inl ⟨rfl, fun j hj => by omega⟩)
  refine ⟨leL (T0 b) le + 1, loop (leL (T0 b) le + 1) 0 σ (by omega) (by omega) Off.rf (fun j hj => by omega)⟩
end Strand3
