theorem RT.least (b : Bk) (a : Nat) : ∃ δ : Nat → Nat, ∀ v, (RT b a (δ v) v ∧ ∀ t, t < δ v → ¬ RT b a t v) ∨ (δ v = 1000 ∧ ∀ t, ¬ RT b a t v) := by
  have h : ∀ v, ∃ k : Nat, (RT b a k v ∧ ∀ t, t < k → ¬ RT b a t v) ∨ (k = 1000 ∧ ∀ t, ¬ RT b a t v) := fun v => by
    by_cases q : ∃ t, RT b a t v
    · obtain ⟨t, h1, h2⟩ := leastN _ q
      exact ⟨t, Or.inl ⟨h1, h2⟩⟩
    · exact ⟨1000, Or.inr ⟨rfl, fun t ht => q ⟨t, ht⟩⟩⟩
  obtain ⟨δ, hδ⟩ := Classical.axiomOfChoice h
  exact ⟨δ, hδ⟩
/-- how many nodes are reached earlier -/
def rnk (δ : Nat → Nat) (v : Nat) : Int := sm (fun u => if δ u < δ v then 1 else 0) 12
theorem rnk_lt {δ : Nat → Nat} {u v : Nat} (hu : u < 12) (h : δ u < δ v) : rnk δ u < rnk δ v := by
  refine sm_lt (i := u) (fun k _ => ?_) hu ?_
  · by_cases q : δ k < δ u
    · rw [if_pos q, if_pos (by omega)]; omega
    · rw [if_neg q]; split <;> omega
  · rw [if_neg (by omega), if_pos h]; omega
theorem rnk_rng {δ : Nat → Nat} {v : Nat} : 0 ≤ rnk δ v ∧ rnk δ v ≤ 12 := by
  have a : 0 ≤ rnk δ v := sm_nn (fun k _ => by split <;> omega)
  have b : rnk δ v ≤ 12 * 1 := sm_ub (n := 12) (fun k _ => by split <;> omega)
  omega
section Reach2
variable {d : DS} {b : Bk} {σ : PS} {Φ : Int → PS → Prop}
theorem m_reach {a h : Nat} (hb : okB b) (hM : mB 1 b σ) (ha : a < 12) (hh : h ≤ 20) (hK : ∀ (σ' : PS) (z : Int), Off [5] σ σ' → bP 12 z (RT b a h) → Φ z σ') : FX12_reach a h σ Φ := by
  have hn := hb.1
  obtain ⟨δ, hδ⟩ := RT.least b a
  unfold FX12_reach
  refine m_isNode (fun _ _ => ⟨fun _ => m_in (fun _ _ => ⟨fun _ => ⟨13, ?_⟩, fun c => by omega⟩) (fun c => by omega), fun c => by omega⟩) (fun c => by omega)
  let snd : PS → Prop := fun σ1 => ∀ v, v < 12 → 0 ≤ σ1 5 v ∧ σ1 5 v ≤ 99 ∧ (σ1 5 v < 99 → RT b a (σ1 5 v).toNat v)
  have rT : ∀ {t v : Nat}, RT b a t v → RT b a (δ v) v ∧ (∀ s, s < δ v → ¬ RT b a s v) ∧ δ v ≤ t := fun {t v} ht => by
    rcases hδ v with ⟨h1, h2⟩ | ⟨h1, h2⟩
    · refine ⟨h1, h2, ?_⟩
      rcases Nat.lt_or_ge t (δ v) with z | z
      · exact absurd ht (h2 t z)
      · exact z
    · exact absurd ht (h2 t)
  -- the end
  have last : ∀ σ1 : PS, Off [5] σ σ1 → snd σ1 → (∀ v, v < 12 → (∃ t, RT b a t v) → δ v ≤ 20 → σ1 5 v ≤ δ v) → ∀ (f i : Nat) (z : Int), i ≤ 12 → 12 - i < f → bP i z (RT b a h) → LX12_reach_148 f h z i σ1 Φ := by
    intro σ1 ho hs hc f
    induction f with
    | zero => intro i z h1 h2; omega
    | succ f ih =>
      intro i z hi hf hz
      unfold LX12_reach_148 BX12_reach_148
      refine ⟨fun c => ?_, fun c => ⟨⟨by omega, by omega⟩, ?_⟩⟩
      · have e : i = 12 := by omega
        subst e
        exact hK σ1 z ho hz
      · rw [show ((i : Nat) : Int).toNat = i by omega]
        obtain ⟨s1, s2, s3⟩ := hs i (by omega)
        refine ⟨fun c2 v1 g1 => ⟨⟨by omega, by omega⟩, ?_⟩, fun c2 v1 g1 => ⟨⟨by omega, by omega⟩, ?_⟩⟩
        · rw [g1, ior_0 hz.1]
          refine ih (i + 1) z (by omega) (by omega) (hz.no (fun q => ?_))
          have := (rT q).2.2
          have := hc i (by omega) ⟨h, q⟩ (by omega)
          omega
        · rw [g1]
          exact ih (i + 1) _ (by omega) (by omega) (hz.put (by omega) ((s3 (by omega)).mono (by omega)))
  have rounds : ∀ (f k : Nat) (σ1 : PS), k ≤ 12 → 12 - k < f → Off [5] σ σ1 → snd σ1 → (∀ v, v < 12 → (∃ t, RT b a t v) → δ v ≤ 20 → rnk δ v ≤ k → σ1 5 v ≤ δ v) → LX12_reach_55 f h k σ1 Φ := by
    intro f
    induction f with
    | zero => intro k σ1 h1 h2; omega
    | succ f ihf =>
      intro k σ1 hk hf ho hs hc
      unfold LX12_reach_55 BX12_reach_55
      refine ⟨fun c => ⟨13, last σ1 ho hs (fun v hv h1 h2 => hc v hv h1 h2 (by have := rnk_rng (δ := δ) (v := v); omega)) 13 0 0 (by omega) (by omega) (bP.init _)⟩, fun c => ⟨bn b + 1, ?_⟩⟩
      have inner : ∀ (g i : Nat) (σ2 : PS), i ≤ bn b → bn b - i < g → Off [5] σ σ2 → snd σ2 → (∀ v, v < 12 → (∃ t, RT b a t v) → δ v ≤ 20 → rnk δ v ≤ k → σ2 5 v ≤ δ v) → (∀ e, e < i → 0 < capB b e → (∃ t, RT b a t (bB b e 0).toNat) → δ (bB b e 0).toNat ≤ 20 → rnk δ (bB b e 0).toNat ≤ k → σ2 5 (bB b e 1).toNat ≤ δ (bB b e 0).toNat + (bB b e 4).toNat) → LX12_reach_64 (fun x2 x3 σ => LX12_reach_55 f x2 x3 σ Φ) g h k i σ2 Φ := by
        intro g
        induction g with
        | zero => intro i σ2 h1 h2; omega
        | succ g ihg =>
          intro i σ2 hi hg o2 hs2 hc2 he2
          have hM2 : mB 1 b σ2 := hM.keep (o2 1 (by simp))
          unfold LX12_reach_64 BX12_reach_64
          rw [hM2.1]
          refine ⟨fun c1 => ⟨⟨by omega, by omega⟩, ?_⟩, fun c1 => ?_⟩
          · refine ihf (k + 1) σ2 (by omega) (by omega) o2 hs2 (fun v hv hr h20 hrk => ?_)
            by_cases q : rnk δ v ≤ k
            · exact hc2 v hv hr h20 q
            · obtain ⟨t, ht⟩ := hr
              obtain ⟨r1, r2, r3⟩ := rT ht
              rcases r1.cases with z | ⟨e, z1, z2⟩
              · have z0 : δ v = 0 := by
                  rcases Nat.eq_zero_or_pos (δ v) with y | y
                  · exact y
                  · exact absurd (by rw [z]; exact RT.self) (r2 0 y)
                have : rnk δ v = 0 := sm_0 (fun u _ => if_neg (by omega))
                omega
              · obtain ⟨y1, y2, y3, y4⟩ := z1
                have hG := okG_n (hb.2.2.2.2 e y1)
                have hD := okG_d hb y1
                have w := (rT z2).2.2
                have hlt : δ (bB b e 0).toNat < δ v := by omega
                have := rnk_lt hG.2.1 hlt
                have fin := he2 e (by omega) y2 ⟨_, z2⟩ (by omega) (by omega)
                rw [y4] at fin
                omega
          · have hi2 : i < bn b := by omega
            have hG := okG_n (hb.2.2.2.2 i hi2)
            have hD := okG_d hb hi2
            have hf0 := hs2 _ hG.2.1
            have hf1 := hs2 _ hG.2.2.2.1
            refine m_capacity rfl hb hM2 hi2 ⟨fun c2 => ⟨⟨by omega, by omega⟩, ?_⟩, fun c2 => ?_⟩
            · exact ihg (i + 1) σ2 (by omega) (by omega) o2 hs2 hc2 (fun e he h1 h2 h3 h4 => by
                by_cases q : e = i
                · rw [q] at h1; omega
                · exact he2 e (by omega) h1 h2 h3 h4)
            · refine m_at rfl rfl hb hM2 hi2 (w := 1) (by omega) (m_at rfl rfl hb hM2 hi2 (w := 1) (by omega) ⟨⟨by omega, by omega⟩, m_at rfl rfl hb hM2 hi2 (w := 0) (by omega) ⟨⟨by omega, by omega⟩, m_at rfl rfl hb hM2 hi2 (w := 4) (by omega) ⟨⟨by omega, by omega⟩, ⟨by omega, by omega⟩, fun σ18 g18 => ⟨⟨by omega, by omega⟩, ?_⟩⟩⟩⟩)
              have o18 : Off [5] σ σ18 := by rw [g18]; exact o2.up (by simp)
              have val : ∀ v, σ18 5 v = if v = (bB b i 1).toNat then min (σ2 5 (bB b i 1).toNat) (σ2 5 (bB b i 0).toNat + bB b i 4) else σ2 5 v := fun v => by rw [g18, up2_if]
              have dec : ∀ v, σ18 5 v ≤ σ2 5 v := fun v => by
                rw [val]
                by_cases q : v = (bB b i 1).toNat
                · rw [if_pos q, q]; omega
                · rw [if_neg q]; omega
              refine ihg (i + 1) σ18 (by omega) (by omega) o18 (fun v hv => ?_) (fun v hv h1 h2 h3 => ?_) (fun e he h1 h2 h3 h4 => ?_)
              · rw [val]
                by_cases q : v = (bB b i 1).toNat
                · rw [if_pos q]
                  refine ⟨by omega, by omega, fun y => ?_⟩
                  by_cases q2 : σ2 5 (bB b i 1).toNat ≤ σ2 5 (bB b i 0).toNat + bB b i 4
                  · rw [show min (σ2 5 (bB b i 1).toNat) (σ2 5 (bB b i 0).toNat + bB b i 4) = σ2 5 (bB b i 1).toNat by omega, q]
                    exact hf1.2.2 (by omega)
                  · have e5 : min (σ2 5 (bB b i 1).toNat) (σ2 5 (bB b i 0).toNat + bB b i 4) = σ2 5 (bB b i 0).toNat + bB b i 4 := by omega
                    rw [e5] at y ⊢
                    refine RT.step (e := i) ⟨hi2, by omega, by omega, q.symm⟩ ?_
                    rw [show (σ2 5 (bB b i 0).toNat + bB b i 4).toNat - (bB b i 4).toNat = (σ2 5 (bB b i 0).toNat).toNat by omega]
                    exact hf0.2.2 (by omega)
                · rw [if_neg q]; exact hs2 v hv
              · have := hc2 v hv h1 h2 h3
                have := dec v
                omega
              · by_cases q : e = i
                · rw [q] at h2 h3 h4 ⊢
                  have := hc2 _ hG.2.1 h2 h3 h4
                  rw [val, if_pos rfl]
                  omega
                · have := he2 e (by omega) h1 h2 h3 h4
                  have := dec (bB b e 1).toNat
                  omega
      exact inner (bn b + 1) 0 σ1 (by omega) (by omega) ho hs hc (fun e he => by omega)
  have start : ∀ (f i : Nat) (σ1 : PS), i ≤ 12 → 12 - i < f → Off [5] σ σ1 → (∀ v, v < i → σ1 5 v = if v = a then 0 else 99) → LX12_reach_24 f a h i σ1 Φ := by
    intro f
    induction f with
    | zero => intro i σ1 h1 h2; omega
    | succ f ih =>
      intro i σ1 hi hf ho hv
      unfold LX12_reach_24 BX12_reach_24
      have nx : ∀ z : Int, z = (if i = a then 0 else 99) → i < 12 → LX12_reach_46 (fun x1 x2 x3 σ => LX12_reach_24 f x1 x2 x3 σ Φ) a h i i z σ1 Φ := fun z hz hi2 => by
        refine ⟨⟨by omega, by omega⟩, fun σ2 g2 => ⟨⟨by omega, by omega⟩, ?_⟩⟩
        rw [show ((i : Nat) : Int).toNat = i by omega] at g2
        refine ih (i + 1) σ2 (by omega) (by omega) (by rw [g2]; exact ho.up (by simp)) (fun v hvi => ?_)
        rw [g2, up2_if]
        by_cases q : v = i
        · rw [if_pos q, hz, q]
        · rw [if_neg q]; exact hv v (by omega)
      refine ⟨fun c => ⟨13, rounds 13 0 σ1 (by omega) (by omega) ho (fun v hv2 => ?_) (fun v hv2 hr h20 hrk => ?_)⟩, fun c => ⟨fun c2 => nx 99 (by rw [if_neg (by omega)]) (by omega), fun c2 => nx 0 (by rw [if_pos (by omega)]) (by omega)⟩⟩
      · rw [hv v (by omega)]
        by_cases q : v = a
        · rw [if_pos q]
          exact ⟨by omega, by omega, fun _ => by rw [q]; exact RT.self⟩
        · rw [if_neg q]
          exact ⟨by omega, by omega, fun c => by omega⟩
      · obtain ⟨t, ht⟩ := hr
        obtain ⟨r1, r2, r3⟩ := rT ht
        rw [hv v (by omega)]
        by_cases q : v = a
        · rw [if_pos q]; omega
        · exfalso
          have z0 : δ a = 0 := by have := (rT (RT.self (b := b) (a := a) (t := 0))).2.2; omega
          have z1 : 0 < δ v := by
            rcases Nat.eq_zero_or_pos (δ v) with y | y
            · rw [y] at r1
              rcases r1.cases with z | ⟨e, z, _⟩
              · exact absurd z q
              · have := okG_d hb z.1
                have := z.2.2.1
                omega
            · exact y
          have := rnk_lt (δ := δ) ha (show δ a < δ v by omega)
          have := rnk_rng (δ := δ) (v := a)
          omega
  exact start 13 0 σ (by omega) (by omega) Off.rf (fun v hv => by omega)
theorem p_reach (a1 a2 : Int) : PT (FX11_reach a1 a2) (FX12_reach a1 a2) := by
  intro d σc σm hd hC hM
  unfold FX11_reach
  have out : ∀ r : Int, (r = -1 ∧ ¬ (0 ≤ a1 ∧ a1 < 12)) ∨ (r = -2 ∧ (0 ≤ a1 ∧ a1 < 12) ∧ ¬ (0 ≤ a2 ∧ a2 ≤ 20)) → FX12_reach a1 a2 σm (fun r2 σm' => r = r2 ∧ ∃ d', okD d' ∧ CR d' σc ∧ MR d' σm') := fun r hr => by
    unfold FX12_reach
    exact m_isNode (fun _ _ => ⟨fun _ => m_in (fun _ _ => by omega) (fun _ => ⟨fun c => absurd rfl c, fun _ => ⟨by omega, d, hd, hC, hM⟩⟩), fun c => by omega⟩) (fun _ => ⟨fun c => absurd rfl c, fun _ => ⟨by omega, d, hd, hC, hM⟩⟩)
  refine c_isNode (fun x y => ⟨fun _ => ⟨fun c => out _ (Or.inr ⟨rfl, ⟨x, y⟩, by omega⟩), fun c => ⟨fun c2 => out _ (Or.inr ⟨rfl, ⟨x, y⟩, by omega⟩), fun c2 => ?_⟩⟩, fun c => by omega⟩) (fun hno => ⟨fun c => absurd rfl c, fun _ => out _ (Or.inl ⟨rfl, hno⟩)⟩)
  obtain ⟨a, ea⟩ : ∃ a : Nat, a1 = a := ⟨a1.toNat, by omega⟩
  obtain ⟨h, eh⟩ : ∃ h : Nat, a2 = h := ⟨a2.toNat, by omega⟩
  subst ea
  subst eh
  refine c_reachedIn hd.1 hC.1 (by omega) (by omega) (fun σc' z o hz => m_reach hd.1 hM.1 (by omega) (by omega) (fun σm' z2 oM hz2 => ⟨hz.one hz2, d, hd, hC.off o (fun i _ => by rw [o 0 (by simp)]) (by rw [o 9 (by simp)]) (by simp), hM.keep (MK.off oM (by simp) (by simp))⟩))
end Reach2
