def HX (T : NT) (x : Nat → Int) (σ : PS) : Prop := ∀ e, e < tn T → σ 32 e = x e
section HSteps2
variable {T : NT} {σ : PS} {x : Nat → Int} {Φ : Int → PS → Prop}
theorem c_downStep {v : Nat} (hT : okT T) (hM : CN T σ) (hX : HX T x σ) (hL : CL 36 T σ) (hv : v < 12) (hh : ∀ w, w < 12 → 0 ≤ σ 33 w ∧ σ 33 w ≤ 1000) (h1 : canDn T x (fun v => σ 33 v) v → Φ (nxT T x (fun v => σ 33 v) v : Nat) σ) (h0 : ¬ canDn T x (fun v => σ 33 v) v → Φ (-1) σ) : FX0_downStep v σ Φ := by
  have hn := hT.1
  have hhv := hh v hv
  unfold FX0_downStep
  have ev : ((v : Nat) : Int).toNat = v := by omega
  have l2 : (∀ e, e < tn T → ¬ pF T x (fun v => σ 33 v) v e) → ∀ (f i : Nat), i ≤ tn T → tn T - i < f → (∀ e, e < i → ¬ pB T x (fun v => σ 33 v) v e) → LX0_downStep_67 f v i σ Φ := by
    intro hnf f
    induction f with
    | zero => intro i h1 h2; omega
    | succ f ih =>
      intro i hi hf hno
      unfold LX0_downStep_67 BX0_downStep_67
      rw [hM.1]
      refine ⟨fun c => h0 (fun ⟨j, a, z⟩ => ?_), fun c => ?_⟩
      · by_cases q : j < tn T
        · exact absurd ((pS_F hn q).mp z) (hnf j q)
        · obtain ⟨k, rfl⟩ : ∃ k, j = tn T + k := ⟨j - tn T, by omega⟩
          exact absurd (pS_B.mp z) (hno k (by omega))
      · have hi2 : i < tn T := by omega
        have hN := hT.2.1 i hi2
        have e0 : ((i : Nat) : Int).toNat = i := by omega
        have go : (¬ pB T x (fun v => σ 33 v) v i) → LX0_downStep_121 (fun x2 x3 σ => LX0_downStep_67 f x2 x3 σ Φ) v i σ Φ := fun hnp => by
          unfold LX0_downStep_121
          refine ⟨⟨by omega, by omega⟩, ?_⟩
          exact ih (i + 1) (by omega) (by omega) (fun e he => by
            by_cases q : e = i
            · rw [q]; exact hnp
            · exact hno e (by omega))
        rw [e0, (hM.2.2.2 i hi2).2, hX i hi2, ev, (hM.2.2.2 i hi2).1, show ((tf T i : Nat) : Int).toNat = tf T i by omega]
        refine ⟨⟨by omega, by omega⟩, fun c1 => go (fun z => c1 (by rw [z.1])), fun c1 => ⟨⟨by omega, by omega⟩, fun c2 => go (fun z => by have := z.2.1; omega), fun c2 => ?_⟩⟩
        refine ⟨⟨by omega, by omega⟩, ⟨by omega, by omega⟩, ⟨by omega, by omega⟩, ⟨by omega, by omega⟩, fun c3 => go (fun z => c3 z.2.2), fun c3 => ⟨⟨by omega, by omega⟩, ?_⟩⟩
        have hp : pB T x (fun v => σ 33 v) v i := ⟨by omega, by omega, c3⟩
        have e2 : nxT T x (fun v => σ 33 v) v = 100 + i := by
          unfold nxT
          rw [ffn_none (fun k hk => hnf k hk), if_neg (Nat.lt_irrefl _), ffn_at hi2 hp hno]
        have h1 := h1 (canDn_B hi2 hp)
        rw [e2] at h1
        rw [show (100 + (i : Int)) = ((100 + i : Nat) : Int) by omega]
        exact h1
  have l1 : ∀ (f i : Nat), i ≤ tn T → tn T - i < f → (∀ e, e < i → ¬ pF T x (fun v => σ 33 v) v e) → LX0_downStep_2 f v i σ Φ := by
    intro f
    induction f with
    | zero => intro i h1 h2; omega
    | succ f ih =>
      intro i hi hf hno
      unfold LX0_downStep_2 BX0_downStep_2
      rw [hM.1]
      refine ⟨fun c => ⟨tn T + 1, l2 (fun e he => hno e (by omega)) (tn T + 1) 0 (by omega) (by omega) (fun e he => by omega)⟩, fun c => ?_⟩
      have hi2 : i < tn T := by omega
      have hN := hT.2.1 i hi2
      have e0 : ((i : Nat) : Int).toNat = i := by omega
      have go : (¬ pF T x (fun v => σ 33 v) v i) → LX0_downStep_59 (fun x2 x3 σ => LX0_downStep_2 f x2 x3 σ Φ) v i σ Φ := fun hnp => by
        unfold LX0_downStep_59
        refine ⟨⟨by omega, by omega⟩, ?_⟩
        exact ih (i + 1) (by omega) (by omega) (fun e he => by
          by_cases q : e = i
          · rw [q]; exact hnp
          · exact hno e (by omega))
      rw [e0, (hM.2.2.2 i hi2).1, hX i hi2, hL i hi2, ev, (hM.2.2.2 i hi2).2, show ((tt T i : Nat) : Int).toNat = tt T i by omega]
      refine ⟨⟨by omega, by omega⟩, fun c1 => go (fun z => c1 (by rw [z.1])), fun c1 => ⟨⟨by omega, by omega⟩, ⟨by omega, by omega⟩, fun c2 => go (fun z => by have := z.2.1; omega), fun c2 => ?_⟩⟩
      refine ⟨⟨by omega, by omega⟩, ⟨by omega, by omega⟩, ⟨by omega, by omega⟩, ⟨by omega, by omega⟩, fun c3 => go (fun z => c3 z.2.2), fun c3 => ?_⟩
      have hp : pF T x (fun v => σ 33 v) v i := ⟨by omega, by omega, c3⟩
      have e2 : nxT T x (fun v => σ 33 v) v = i := by
        unfold nxT
        rw [ffn_at hi2 hp hno, if_pos hi2]
      have h1 := h1 (canDn_F hn hi2 hp)
      rw [e2] at h1
      exact h1
  exact ⟨tn T + 1, l1 (tn T + 1) 0 (by omega) (by omega) (fun e he => by omega)⟩
theorem c_lift {v : Nat} (hT : okT T) (hM : CN T σ) (hX : HX T x σ) (hL : CL 36 T σ) (hv : v < 12) (hh : ∀ w, w < 12 → 0 ≤ σ 33 w ∧ σ 33 w ≤ 1000) (hl : 0 ≤ σ 34 v ∧ σ 34 v ≤ 1000000) (hex : ∃ w, stT T x v w) (h : ∀ lv, isLow T x (fun v => σ 33 v) v lv → Φ 1 (up2 (up2 σ 33 v (lv + 1)) 34 v (σ 34 v + 1))) : FX0_lift v σ Φ := by
  have hn := hT.1
  unfold FX0_lift
  have ev : ((v : Nat) : Int).toNat = v := by omega
  -- a step by gate e to w
  let S : Nat → Nat → Prop := fun e w => (tf T e = v ∧ x e < tl T e ∧ w = tt T e) ∨ (tt T e = v ∧ 0 < x e ∧ w = tf T e)
  have S12 : ∀ {e w}, e < tn T → S e w → w < 12 := fun {e w} he hs => by
    have hN := hT.2.1 e he
    rcases hs with ⟨_, _, z⟩ | ⟨_, _, z⟩ <;> rw [z]
    · exact hN.2.1
    · exact hN.1
  have Sst : ∀ {e w}, e < tn T → S e w → stT T x v w := fun {e w} he hs => by
    rcases hs with ⟨a, b, z⟩ | ⟨a, b, z⟩
    · exact ⟨e, he, Or.inl ⟨a, z.symm, b⟩⟩
    · exact ⟨e, he, Or.inr ⟨a, z.symm, b⟩⟩
  have stS : ∀ {w}, stT T x v w → ∃ e, e < tn T ∧ S e w := fun {w} ⟨e, he, hs⟩ => by
    rcases hs with ⟨a, b, c⟩ | ⟨a, b, c⟩
    · exact ⟨e, he, Or.inl ⟨a, c, b.symm⟩⟩
    · exact ⟨e, he, Or.inr ⟨a, c, b.symm⟩⟩
  have loop : ∀ (f i : Nat) (m : Int), i ≤ tn T → tn T - i < f → (m = 1000000000 ∨ ∃ w, w < 12 ∧ stT T x v w ∧ σ 33 w = m) → (∀ e w, e < i → S e w → m ≤ σ 33 w) → LX0_lift_6 f v m i σ Φ := by
    intro f
    induction f with
    | zero => intro i m h1 h2; omega
    | succ f ih =>
      intro i m hi hf hm1 hm2
      unfold LX0_lift_6 BX0_lift_6
      rw [hM.1]
      refine ⟨fun c => ?_, fun c => ?_⟩
      · have low : isLow T x (fun v => σ 33 v) v m ∧ 0 ≤ m ∧ m ≤ 1000 := by
          obtain ⟨w, hw⟩ := hex
          obtain ⟨e, e1, e2⟩ := stS hw
          have ei : e < i := by clear hm1 hm2; omega
          have a1 := hm2 e w ei e2
          have a2 := hh w (S12 e1 e2)
          rcases hm1 with hm1 | ⟨k, k1, k2, k3⟩
          · omega
          · have a3 := hh k k1
            refine ⟨⟨⟨k, k1, k2, k3⟩, fun u hu hs => ?_⟩, by omega, by omega⟩
            obtain ⟨p, p1, p2⟩ := stS hs
            exact hm2 p u (by clear hm2; omega) p2
        obtain ⟨low, l1, l2⟩ := low
        rw [ev]
        refine ⟨fun _ => ⟨⟨by clear hm1 hm2; omega, by clear hm1 hm2; omega⟩, ⟨by clear hm1 hm2; omega, by clear hm1 hm2; omega⟩, fun σ5 g5 => ⟨⟨by clear hm1 hm2; omega, by clear hm1 hm2; omega⟩, ?_⟩⟩, fun c2 => by clear hm1 hm2; omega⟩
        have e5 : σ5 34 v = σ 34 v := by rw [g5, up2_nk (by omega)]
        rw [e5]
        refine ⟨⟨by clear hm1 hm2; omega, by clear hm1 hm2; omega⟩, ⟨by clear hm1 hm2; omega, by clear hm1 hm2; omega⟩, fun σ9 g9 => ?_⟩
        rw [g9, g5]
        exact h m low
      · have hi2 : i < tn T := by clear hm1 hm2 hex; omega
        have hb1 : i + 1 ≤ tn T ∧ tn T - (i + 1) < f := by clear hm1 hm2 hex; omega
        have hN := hT.2.1 i hi2
        have e0 : ((i : Nat) : Int).toNat = i := by omega
        have rg : Rg ((i : Int) + 1) := by clear hm1 hm2 hex; constructor <;> omega
        have in30 : 0 ≤ (i : Int) ∧ (i : Int) < 30 := by clear hm1 hm2 hex; constructor <;> omega
        have nx : ∀ m' : Int, m' ≤ m → (m' = m ∨ ∃ w, w < 12 ∧ stT T x v w ∧ σ 33 w = m') → (∀ w, S i w → m' ≤ σ 33 w) → LX0_lift_98 (fun x2 x3 x4 σ => LX0_lift_6 f x2 x3 x4 σ Φ) v m' i σ Φ := fun m' a1 a2 a3 => by
          refine ⟨rg, ih (i + 1) m' hb1.1 hb1.2 ?_ (fun e w he hs => ?_)⟩
          · rcases a2 with a2 | a2
            · rw [a2]; exact hm1
            · exact Or.inr a2
          · by_cases q : e = i
            · rw [q] at hs; exact a3 w hs
            · have := hm2 e w (by clear hm1 hm2; omega) hs
              clear hm1 hm2
              omega
        have bk : (¬ (tf T i = v ∧ x i < tl T i)) → LX0_lift_60 (fun x2 x3 x4 σ => LX0_lift_6 f x2 x3 x4 σ Φ) v m i σ Φ := fun hnf => by
          unfold LX0_lift_60
          rw [e0, (hM.2.2.2 i hi2).2, hX i hi2, (hM.2.2.2 i hi2).1, show ((tf T i : Nat) : Int).toNat = tf T i by omega]
          refine ⟨in30, fun c1 => nx m (Int.le_refl _) (Or.inl rfl) (fun w hs => ?_), fun c1 => ⟨in30, fun c2 => nx m (Int.le_refl _) (Or.inl rfl) (fun w hs => ?_), fun c2 => ⟨in30, ⟨by clear hm1 hm2 hex; omega, by clear hm1 hm2 hex; omega⟩, fun v7 g7 => ?_⟩⟩⟩
          · rcases hs with ⟨a, b', _⟩ | ⟨a, _, _⟩
            · exact absurd ⟨a, b'⟩ hnf
            · exact absurd (by rw [a]) c1
          · rcases hs with ⟨a, b', _⟩ | ⟨_, a, _⟩
            · exact absurd ⟨a, b'⟩ hnf
            · exact absurd c2 (by clear hm1 hm2 hex; omega)
          · have hs : S i (tf T i) := Or.inr ⟨by clear hm1 hm2 hex; omega, by clear hm1 hm2 hex; omega, rfl⟩
            refine nx v7 (by clear hm1 hm2 hex; omega) ?_ (fun w hw => ?_)
            · by_cases q : m ≤ σ 33 (tf T i)
              · exact Or.inl (by clear hm1 hm2 hex; omega)
              · exact Or.inr ⟨tf T i, hN.1, Sst hi2 hs, by clear hm1 hm2 hex; omega⟩
            · rcases hw with ⟨a, b', _⟩ | ⟨_, _, z⟩
              · exact absurd ⟨a, b'⟩ hnf
              · rw [z]; clear hm1 hm2 hex; omega
        rw [e0, (hM.2.2.2 i hi2).1, hX i hi2, hL i hi2, (hM.2.2.2 i hi2).2, show ((tt T i : Nat) : Int).toNat = tt T i by omega]
        refine ⟨in30, fun c1 => bk (fun z => c1 (by rw [z.1])), fun c1 => ⟨in30, in30, fun c2 => bk (fun z => absurd z.2 (by clear hm1 hm2 hex; omega)), fun c2 => ⟨in30, ⟨by clear hm1 hm2 hex; omega, by clear hm1 hm2 hex; omega⟩, fun v17 g17 => ?_⟩⟩⟩
        have hs : S i (tt T i) := Or.inl ⟨by clear hm1 hm2 hex; omega, by clear hm1 hm2 hex; omega, rfl⟩
        have hnb : ¬ tt T i = v := by clear hm1 hm2 hex; omega
        unfold LX0_lift_60
        rw [e0, (hM.2.2.2 i hi2).2]
        refine ⟨in30, fun _ => nx v17 (by clear hm1 hm2 hex; omega) ?_ (fun w hw => ?_), fun c3 => absurd c3 (by clear hm1 hm2 hex; omega)⟩
        · by_cases q : m ≤ σ 33 (tt T i)
          · exact Or.inl (by clear hm1 hm2 hex; omega)
          · exact Or.inr ⟨tt T i, hN.2.1, Sst hi2 hs, by clear hm1 hm2 hex; omega⟩
        · rcases hw with ⟨_, _, z⟩ | ⟨a, _, _⟩
          · rw [z]; clear hm1 hm2 hex; omega
          · exact absurd a hnb
  exact ⟨tn T + 1, loop (tn T + 1) 0 1000000000 (by omega) (by omega) (Or.inl rfl) (fun e w he => by omega)⟩
end HSteps2
