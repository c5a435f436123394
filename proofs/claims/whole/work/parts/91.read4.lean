section Read4
variable {b : Bk} {A : List (Nat → Int)} {n p : Nat} {t : Nat → Int} {f : Int} {σ : PS} {Φ : Int → PS → Prop}
theorem m_numA {lo hi bar : Int} (hS : TM n t p (-1) σ) (ht : okt n t) (h1 : ∀ (v : Int) (p' : Nat) (σ' : PS), rngP n t lo hi bar p = .inr (v, p') → (0 ≤ v ∧ v ≤ 999) → OM σ σ' → TM n t p' (-1) σ' → Φ v σ') (h0 : ∀ (v : Int) (q p' : Nat) (σ' : PS), rngP n t lo hi bar p = .inl q → OM σ σ' → TM n t p' q σ' → Φ v σ') : FX12_number lo hi bar σ Φ := by
  have hn := ht.1
  have hr := nuP_is ht hS.2.2.2.2
  unfold FX12_number
  intro v1 g1
  rw [hS.2.2.1] at g1
  have fin : ∀ (p' : Nat) (v : Int) (σ' : PS), (p', v) = nuP n t p → OM σ σ' → TM n t p' (-1) σ' → LX12_number_69 lo hi bar v1 v σ' Φ := fun p' v σ' e o' hS' => by
    have bad : rngP n t lo hi bar p = .inl p → LX12_number_94 v1 v σ' Φ := fun er => by
      unfold LX12_number_94
      rw [g1]
      exact m_wrong hS' (fun z => by omega) (fun _ σ2 o2 h2 => h0 v p p' σ2 er (o'.trans o2) h2)
    have e1 : (nuP n t p).1 = p' := by rw [← e]
    have e2 : (nuP n t p).2 = v := by rw [← e]
    unfold LX12_number_69
    rw [hS'.2.2.1]
    by_cases z : p' = p
    · have er : rngP n t lo hi bar p = .inl p := by
        unfold rngP numP
        rw [if_pos (by rw [e1, z])]
        rfl
      exact ⟨fun _ => bad er, fun c => absurd (by omega) c⟩
    · have er : rngP n t lo hi bar p = if lo ≤ v ∧ v ≤ hi ∧ v ≠ bar then .inr (v, p') else .inl p := by
        unfold rngP numP
        rw [if_neg (by rw [e1]; exact z), e1, e2]
        rfl
      refine ⟨fun c => absurd (by omega) z, fun _ => m_in (fun x y => ⟨fun c => by omega, fun _ => ⟨fun c => h1 v p' σ' (by rw [er, if_pos ⟨x, y, c⟩]) (by omega) o' hS', fun c => bad (by rw [er, if_neg (fun w => w.2.2 c)])⟩⟩) (fun x => ⟨fun _ => bad (by rw [er, if_neg (fun w => x ⟨w.1, w.2.1⟩)]), fun c => absurd rfl c⟩)⟩
  have loop : ∀ (g k p' : Nat) (v : Int) (σ' : PS), k ≤ 3 → 3 - k < g → 0 ≤ v → v ≤ 999 → p' = p + k → nuL n t (3 - k) p' v = nuP n t p → OM σ σ' → TM n t p' (-1) σ' → (v + 1) * 10 ^ (3 - k) ≤ 1000 → LX12_number_9 g lo hi bar v1 v σ' Φ := by
    intro g
    induction g with
    | zero => intro k p' v σ' h1 h2; omega
    | succ g ih =>
      intro k p' v σ' hk hg hv hv2 hp' he o' hS' hvb
      unfold LX12_number_9 BX12_number_9
      rw [hS'.2.2.2.1]
      refine ⟨fun c => by omega, fun _ => ?_⟩
      have stop : (k = 3 ∨ ¬ (48 ≤ byT n t p' ∧ byT n t p' ≤ 57)) → LX12_number_69 lo hi bar v1 v σ' Φ := fun z => by
        rcases z with z | z
        · rw [z] at he
          exact fin p' v σ' he o' hS'
        · cases hj : 3 - k with
          | zero => rw [hj] at he; exact fin p' v σ' he o' hS'
          | succ j =>
            rw [hj, nuL, if_neg z] at he
            exact fin p' v σ' he o' hS'
      refine m_here hS' hn (fun hp => ?_) (fun hp => ?_)
      · have eb : byT n t p' = t p' := by unfold byT; rw [if_pos hp]
        refine m_in (fun x y => ⟨fun c => by omega, fun _ => ?_⟩) (fun x => ⟨fun _ => stop (Or.inr (by rw [eb]; omega)), fun c => absurd rfl c⟩)
        rw [hS'.2.2.1]
        refine ⟨⟨by omega, by omega⟩, fun c => stop (Or.inl (by omega)), fun c => ⟨⟨by omega, by omega⟩, m_here hS' hn (fun _ => ?_) (fun hq => absurd hp hq)⟩⟩
        refine ⟨⟨by omega, by omega⟩, ⟨by omega, by omega⟩, fun v14 g14 => ?_⟩
        rw [hS'.2.2.1]
        refine ⟨⟨by omega, by omega⟩, fun σ16 g16 => ?_⟩
        obtain ⟨o16, h16⟩ := m_up30 (p' := p' + 1) hS' (by omega) g16
        obtain ⟨j, hj⟩ : ∃ j, 3 - k = j + 1 := ⟨3 - k - 1, by omega⟩
        rw [hj] at he hvb
        rw [nuL, if_pos (by rw [eb]; exact ⟨x, y⟩)] at he
        have hj0 : (0 : Int) < 10 ^ j := Int.pow_pos (by omega)
        have hpow : (v * 10 + t p' - 48 + 1) * 10 ^ j ≤ 1000 := by
          have h1 : (v * 10 + t p' - 48 + 1) * 10 ^ j ≤ ((v + 1) * 10) * 10 ^ j := Int.mul_le_mul_of_nonneg_right (by omega) (by omega)
          have h2 : (v + 1) * 10 ^ (j + 1) = ((v + 1) * 10) * 10 ^ j := by rw [Int.pow_succ, Int.mul_assoc, Int.mul_comm 10]
          omega
        have hv14 : v14 + 1 ≤ 1000 := by
          have h1 : (v * 10 + t p' - 48 + 1) * 1 ≤ (v * 10 + t p' - 48 + 1) * 10 ^ j := Int.mul_le_mul_of_nonneg_left (by omega) (by omega)
          omega
        have e14 : v14 = v * 10 + byT n t p' - 48 := by rw [eb]; omega
        refine ih (k + 1) (p' + 1) v14 σ16 (by omega) (by omega) (by omega) (by omega) (by omega) ?_ (o'.trans o16) h16 ?_
        · rw [show 3 - (k + 1) = j by omega, e14]; exact he
        · rw [show 3 - (k + 1) = j by omega, e14, eb]; exact hpow
      · have eb : byT n t p' = 0 := by unfold byT; rw [if_neg hp]
        exact m_in (fun x y => by omega) (fun x => ⟨fun _ => stop (Or.inr (by rw [eb]; omega)), fun c => absurd rfl c⟩)
  exact ⟨4, loop 4 0 p 0 σ (by omega) (by omega) (by omega) (by omega) rfl rfl OM.rf hS (by decide)⟩
theorem m_numB {lo hi bar : Int} {q : Nat} (hS : TM n t p q σ) (ht : okt n t) (h : ∀ (v : Int) (p' : Nat) (σ' : PS), OM σ σ' → TM n t p' q σ' → Φ v σ') : FX12_number lo hi bar σ Φ := by
  unfold FX12_number
  intro v1 g1
  refine ⟨1, ?_⟩
  unfold LX12_number_9 BX12_number_9
  rw [hS.2.2.2.1]
  refine ⟨fun _ => ?_, fun c => absurd (by omega) c⟩
  have bad : LX12_number_94 v1 0 σ Φ := by
    unfold LX12_number_94
    exact m_wrongB hS (fun σ2 o2 h2 => h 0 p σ2 o2 h2)
  unfold LX12_number_69
  exact ⟨fun _ => bad, fun c => absurd g1.symm c⟩
theorem m_mustA {c : Int} (hS : TM n t p (-1) σ) (ht : okt n t) (hc : 0 < c) (h1 : ∀ (p' : Nat) (σ' : PS), expP n t c p = .inr p' → OM σ σ' → TM n t p' (-1) σ' → Φ 0 σ') (h0 : ∀ (q p' : Nat) (σ' : PS), expP n t c p = .inl q → OM σ σ' → TM n t p' q σ' → Φ 0 σ') : FX12_must c σ Φ := by
  unfold FX12_must
  refine m_takesA hS ht hc (fun σ' e o' h' => ⟨fun _ => h1 _ σ' (by unfold expP; rw [if_pos e]) o' h', fun z => by omega⟩) (fun e => ⟨fun z => absurd rfl z, fun _ => ?_⟩)
  rw [hS.2.2.1]
  exact m_wrong hS (fun z => by omega) (fun _ σ' o' h' => h0 p p σ' (by unfold expP; rw [if_neg e]) o' h')
theorem m_mustB {c : Int} {q : Nat} (hS : TM n t p q σ) (h : ∀ σ' : PS, OM σ σ' → TM n t p q σ' → Φ 0 σ') : FX12_must c σ Φ := by
  unfold FX12_must
  exact m_takesB hS ⟨fun z => absurd rfl z, fun _ => m_wrongB hS h⟩
/-- the place, the fault and how many gates were read move -/
def ON (σ σ' : PS) : Prop := Off [0] σ σ' ∧ ∀ i, i ≠ 30 → i ≠ 31 → i ≠ 32 → σ' 0 i = σ 0 i
theorem OM.on {σ' : PS} (h : OM σ σ') : ON σ σ' := ⟨h.1, fun i h1 h2 _ => h.2 i h1 h2⟩
theorem ON.trans {a c e : PS} (h : ON a c) (g : ON c e) : ON a e := ⟨h.1.trans g.1, fun i h1 h2 h3 => (g.2 i h1 h2 h3).trans (h.2 i h1 h2 h3)⟩
theorem m_more32 {σ' : PS} {k : Nat} (hS : TM n t p f σ) (hk : σ 0 32 = (k : Int)) (g : σ' = up2 σ 0 32 ((k : Int) + 1)) : ON σ σ' ∧ TM n t p f σ' ∧ σ' 0 32 = ((k + 1 : Nat) : Int) := by
  refine ⟨⟨by rw [g]; exact Off.rf.up (by simp), fun i _ _ h32 => by rw [g, up2_ni h32]⟩, ⟨?_, fun i hi => ?_, ?_, ?_, hS.2.2.2.2⟩, by rw [g, up2_at]; omega⟩
  · rw [g, up2_ni (by omega)]; exact hS.1
  · rw [g, up2_nk (by omega)]; exact hS.2.1 i hi
  · rw [g, up2_ni (by omega)]; exact hS.2.2.1
  · rw [g, up2_ni (by omega)]; exact hS.2.2.2.1
/-- in the first reading a gate is only counted -/
theorem m_g117 {x2 x3 x4 x5 s0 : Int} {k : Nat} (hS : TM n t p (-1) σ) (ht : okt n t) (hk : σ 0 32 = (k : Int)) (hk2 : k ≤ 1000) (h1 : ∀ σ' : PS, ON σ σ' → TM n t (opnP n t p).2 (-1) σ' → σ' 0 32 = ((k + 1 : Nat) : Int) → Φ 0 σ') : LX12_readGate_117 0 x2 x3 x4 x5 s0 σ Φ := by
  have go : ∀ (p' : Nat) (σ' : PS), (opnP n t p).2 = p' → OM σ σ' → TM n t p' (-1) σ' → Rg ((σ' 0 32) + 1) ∧ ∀ σ5 : PS, σ5 = up2 σ' 0 32 ((σ' 0 32) + 1) → Φ 0 σ5 := fun p' σ' e o' hS' => by
    have h32 : σ' 0 32 = (k : Int) := by rw [o'.2 32 (by omega) (by omega)]; exact hk
    rw [h32]
    refine ⟨⟨by omega, by omega⟩, fun σ5 g5 => ?_⟩
    obtain ⟨a1, a2, a3⟩ := m_more32 hS' h32 g5
    exact h1 σ5 (o'.on.trans a1) (by rw [e]; exact a2) a3
  unfold LX12_readGate_117
  exact m_takesA hS ht (by omega) (fun σ' e o' h' => ⟨fun _ => go _ σ' (by unfold opnP; rw [if_pos e]) o' h', fun z => absurd rfl z⟩) (fun e => ⟨fun _ => go p σ (by unfold opnP; rw [if_neg e]) OM.rf hS, fun z => absurd rfl z⟩)
theorem m_g117B {x2 x3 x4 x5 s0 : Int} {k q : Nat} (hS : TM n t p q σ) (hk : σ 0 32 = (k : Int)) (hk2 : k ≤ 1000) (h1 : ∀ σ' : PS, ON σ σ' → TM n t p q σ' → σ' 0 32 = ((k + 1 : Nat) : Int) → Φ 0 σ') : LX12_readGate_117 0 x2 x3 x4 x5 s0 σ Φ := by
  unfold LX12_readGate_117
  refine m_takesB hS ⟨fun _ => ?_, fun z => absurd rfl z⟩
  rw [hk]
  refine ⟨⟨by omega, by omega⟩, fun σ5 g5 => ?_⟩
  obtain ⟨a1, a2, a3⟩ := m_more32 hS hk g5
  exact h1 σ5 a1 a2 a3
theorem m_g97 {x2 x3 x4 x5 : Int} {k : Nat} (hS : TM n t p (-1) σ) (ht : okt n t) (hk : σ 0 32 = (k : Int)) (hk2 : k ≤ 1000) (h1 : ∀ (v : Int) (p1 : Nat) (σ' : PS), dlyP n t p = .inr (v, p1) → ON σ σ' → TM n t (opnP n t p1).2 (-1) σ' → σ' 0 32 = ((k + 1 : Nat) : Int) → Φ 0 σ') (h0 : ∀ (q p' : Nat) (σ' : PS), dlyP n t p = .inl q → ON σ σ' → TM n t p' q σ' → σ' 0 32 = ((k + 1 : Nat) : Int) → Φ 0 σ') : LX12_readGate_97 0 x2 x3 x4 x5 σ Φ := by
  unfold LX12_readGate_97
  refine m_takesA hS ht (by omega) (fun σ' e o' h' => ⟨fun z => by omega, fun _ => ?_⟩) (fun e => ⟨fun _ => ?_, fun z => absurd rfl z⟩)
  · have ed : dlyP n t p = rngP n t 1 3 (-1) (p + 1) := by unfold dlyP; rw [if_pos e]
    rw [ed] at h1 h0
    exact m_numA h' ht (fun v p2 σ2 e2 _ o2 h2 => m_g117 h2 ht (by rw [o2.2 32 (by omega) (by omega), o'.2 32 (by omega) (by omega)]; exact hk) hk2 (fun σ3 o3 h3 k3 => h1 v p2 σ3 e2 ((o'.trans o2).on.trans o3) h3 k3)) (fun v q p2 σ2 e2 o2 h2 => m_g117B h2 (by rw [o2.2 32 (by omega) (by omega), o'.2 32 (by omega) (by omega)]; exact hk) hk2 (fun σ3 o3 h3 k3 => h0 q p2 σ3 e2 ((o'.trans o2).on.trans o3) h3 k3))
  · have ed : dlyP n t p = .inr (1, p) := by unfold dlyP; rw [if_neg e]
    exact m_g117 hS ht hk hk2 (fun σ3 o3 h3 k3 => h1 1 p σ3 ed o3 h3 k3)
theorem m_g97B {x2 x3 x4 x5 : Int} {k q : Nat} (hS : TM n t p q σ) (ht : okt n t) (hk : σ 0 32 = (k : Int)) (hk2 : k ≤ 1000) (h1 : ∀ (p' : Nat) (σ' : PS), ON σ σ' → TM n t p' q σ' → σ' 0 32 = ((k + 1 : Nat) : Int) → Φ 0 σ') : LX12_readGate_97 0 x2 x3 x4 x5 σ Φ := by
  unfold LX12_readGate_97
  exact m_takesB hS ⟨fun _ => m_g117B hS hk hk2 (fun σ' a1 a2 a3 => h1 p σ' a1 a2 a3), fun z => absurd rfl z⟩
/-- the first reading of a gate -/
theorem m_g28B {k q : Nat} (hS : TM n t p q σ) (ht : okt n t) (hk : σ 0 32 = (k : Int)) (hk2 : k ≤ 1000) (h1 : ∀ (p' : Nat) (σ' : PS), ON σ σ' → TM n t p' q σ' → σ' 0 32 = ((k + 1 : Nat) : Int) → Φ 0 σ') : LX12_readGate_28 0 σ Φ := by
  have kk : ∀ σ' : PS, OM σ σ' → σ' 0 32 = (k : Int) := fun σ' o' => by rw [o'.2 32 (by omega) (by omega)]; exact hk
  unfold LX12_readGate_28
  exact m_numB hS ht (fun a p1 σ1 o1 S1 => m_mustB S1 (fun σ2 o2 S2 => m_numB S2 ht (fun d p3 σ3 o3 S3 => m_mustB S3 (fun σ4 o4 S4 => m_numB S4 ht (fun m p5 σ5 o5 S5 => m_takesB S5 ⟨fun _ => m_g97B S5 ht (kk σ5 (o1.trans (o2.trans (o3.trans (o4.trans o5))))) hk2 (fun p9 σ9 o9' S9 h9 => h1 p9 σ9 ((o1.trans (o2.trans (o3.trans (o4.trans o5)))).on.trans o9') S9 h9), fun z => absurd rfl z⟩)))))
theorem m_g28 {k : Nat} (hS : TM n t p (-1) σ) (ht : okt n t) (hk : σ 0 32 = (k : Int)) (hk2 : k ≤ 1000)
    (h1 : ∀ (r : Nat → Int) (p' : Nat) (σ' : PS), gatP n t p = .inr (r, p') → ON σ σ' → TM n t p' (-1) σ' → σ' 0 32 = ((k + 1 : Nat) : Int) → Φ 0 σ')
    (h0 : ∀ (q p' : Nat) (σ' : PS), gatP n t p = .inl q → ON σ σ' → TM n t p' q σ' → σ' 0 32 = ((k + 1 : Nat) : Int) → Φ 0 σ') : LX12_readGate_28 0 σ Φ := by
  have kk : ∀ σ' : PS, OM σ σ' → σ' 0 32 = (k : Int) := fun σ' o' => by rw [o'.2 32 (by omega) (by omega)]; exact hk
  -- a fault before the end of a gate's capacity
  have B5 : ∀ (q : Nat) (a d m : Int) (p5 : Nat) (σ5 : PS), gatP n t p = .inl q → OM σ σ5 → TM n t p5 q σ5 → FX12_takes_ 45 σ5 (fun z11 σ12 => ((z11 = 0 → LX12_readGate_97 0 a d 0 m σ12 Φ) ∧ (¬ z11 = 0 → FX12_number m 999 (-1) σ12 (fun z14 σ15 => LX12_readGate_97 0 a d m z14 σ15 Φ)))) := fun q a d m p5 σ5 e o5 S5 => m_takesB S5 ⟨fun _ => m_g97B S5 ht (kk σ5 o5) hk2 (fun p9 σ9 o9' S9 h9 => h0 q p9 σ9 e (o5.on.trans o9') S9 h9), fun z => absurd rfl z⟩
  unfold LX12_readGate_28
  refine m_numA hS ht (fun a p1 σ1 e1 _ o1 S1 => ?_) (fun a q p1 σ1 e1 o1 S1 => ?_)
  · refine m_mustA S1 ht (by omega) (fun p2 σ2 e2 o2 S2 => ?_) (fun q p2 σ2 e2 o2 S2 => ?_)
    · refine m_numA S2 ht (fun d p3 σ3 e3 _ o3 S3 => ?_) (fun d q p3 σ3 e3 o3 S3 => ?_)
      · refine m_mustA S3 ht (by omega) (fun p4 σ4 e4 o4 S4 => ?_) (fun q p4 σ4 e4 o4 S4 => ?_)
        · have o04 : OM σ σ4 := o1.trans (o2.trans (o3.trans o4))
          have eg : gatP n t p = bnd (capP n t p4) (fun k => bnd (dlyP n t k.2.2) (fun dv => .inr (rowG a d k.1 k.2.1 dv.1 (opnP n t dv.2).1, (opnP n t dv.2).2))) := by
            unfold gatP
            rw [e1]
            show bnd (expP n t 62 p1) _ = _
            rw [e2]
            show bnd (rngP n t 0 11 a p2) _ = _
            rw [e3]
            show bnd (expP n t 58 p3) _ = _
            rw [e4]
            rfl
          refine m_numA S4 ht (fun m p5 σ5 e5 hm o5 S5 => ?_) (fun m q p5 σ5 e5 o5 S5 => B5 q a d m p5 σ5 (by rw [eg]; unfold capP; rw [e5]; rfl) (o04.trans o5) S5)
          have tail : ∀ (lo kc : Int) (p6 : Nat) (σ6 : PS), capP n t p4 = .inr (lo, kc, p6) → OM σ σ6 → TM n t p6 (-1) σ6 → LX12_readGate_97 0 a d lo kc σ6 Φ := fun lo kc p6 σ6 ec o6 S6 => by
            rw [ec] at eg
            refine m_g97 S6 ht (kk σ6 o6) hk2 (fun v p7 σ7 e7 o7 S7 h7 => h1 (rowG a d lo kc v (opnP n t p7).1) (opnP n t p7).2 σ7 ?_ (o6.on.trans o7) S7 h7) (fun q p7 σ7 e7 o7 S7 h7 => h0 q p7 σ7 ?_ (o6.on.trans o7) S7 h7)
            · rw [eg]
              show bnd (dlyP n t p6) _ = _
              rw [e7]
              rfl
            · rw [eg]
              show bnd (dlyP n t p6) _ = _
              rw [e7]
              rfl
          refine m_takesA S5 ht (by omega) (fun σ6 e6 o6 S6 => ⟨fun z => by omega, fun _ => ?_⟩) (fun e6 => ⟨fun _ => ?_, fun z => absurd rfl z⟩)
          · have ec : capP n t p4 = bnd (rngP n t m 999 (-1) (p5 + 1)) (fun k => .inr (m, k.1, k.2)) := by
              unfold capP
              rw [e5]
              show (if byT n t p5 = 45 then _ else _) = _
              rw [if_pos e6]
            have o06 : OM σ σ6 := o04.trans (o5.trans o6)
            refine m_numA S6 ht (fun kc p7 σ7 e7 _ o7 S7 => tail m kc p7 σ7 (by rw [ec, e7]; rfl) (o06.trans o7) S7) (fun kc q p7 σ7 e7 o7 S7 => ?_)
            exact m_g97B S7 ht (kk σ7 (o06.trans o7)) hk2 (fun p9 σ9 o9' S9 h9 => h0 q p9 σ9 (by rw [eg, ec, e7]; rfl) ((o06.trans o7).on.trans o9') S9 h9)
          · refine tail 0 m p5 σ5 ?_ (o04.trans o5) S5
            unfold capP
            rw [e5]
            show (if byT n t p5 = 45 then _ else _) = _
            rw [if_neg e6]
        · have eF : gatP n t p = .inl q := by
            unfold gatP
            rw [e1]
            show bnd (expP n t 62 p1) _ = _
            rw [e2]
            show bnd (rngP n t 0 11 a p2) _ = _
            rw [e3]
            show bnd (expP n t 58 p3) _ = _
            rw [e4]
            rfl
          exact m_numB S4 ht (fun m p5 σ5 o5 S5 => B5 q a d m p5 σ5 eF (o1.trans (o2.trans (o3.trans (o4.trans o5)))) S5)
      · have eF : gatP n t p = .inl q := by
          unfold gatP
          rw [e1]
          show bnd (expP n t 62 p1) _ = _
          rw [e2]
          show bnd (rngP n t 0 11 a p2) _ = _
          rw [e3]
          rfl
        exact m_mustB S3 (fun σ4 o4 S4 => m_numB S4 ht (fun m p5 σ5 o5 S5 => B5 q a d m p5 σ5 eF (o1.trans (o2.trans (o3.trans (o4.trans o5)))) S5))
    · have eF : gatP n t p = .inl q := by
        unfold gatP
        rw [e1]
        show bnd (expP n t 62 p1) _ = _
        rw [e2]
        rfl
      exact m_numB S2 ht (fun d p3 σ3 o3 S3 => m_mustB S3 (fun σ4 o4 S4 => m_numB S4 ht (fun m p5 σ5 o5 S5 => B5 q a d m p5 σ5 eF (o1.trans (o2.trans (o3.trans (o4.trans o5)))) S5)))
  · have eF : gatP n t p = .inl q := by
      unfold gatP
      rw [e1]
      rfl
    exact m_mustB S1 (fun σ2 o2 S2 => m_numB S2 ht (fun d p3 σ3 o3 S3 => m_mustB S3 (fun σ4 o4 S4 => m_numB S4 ht (fun m p5 σ5 o5 S5 => B5 q a d m p5 σ5 eF (o1.trans (o2.trans (o3.trans (o4.trans o5)))) S5))))
end Read4
