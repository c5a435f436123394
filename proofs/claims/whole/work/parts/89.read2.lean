/-! books read: the class -/
def extB (b : Bk) (A : List (Nat → Int)) : Bk := (bn b + A.length, bs b, bz b, fun e w => if e < bn b then bB b e w else (A.getD (e - bn b) (fun _ => 0)) w)
section Read2
variable {b : Bk} {A : List (Nat → Int)} {n p : Nat} {t : Nat → Int} {σ : PS} {Φ : Int → PS → Prop}
theorem getD_appF {P Q : List (Nat → Int)} {i : Nat} : (P ++ Q).getD i (fun _ => 0) = if i < P.length then P.getD i (fun _ => 0) else Q.getD (i - P.length) (fun _ => 0) := by
  by_cases h : i < P.length
  · rw [if_pos h, List.getD_eq_getElem?_getD, List.getElem?_append_left h, ← List.getD_eq_getElem?_getD]
  · rw [if_neg h, List.getD_eq_getElem?_getD, List.getElem?_append_right (by omega), ← List.getD_eq_getElem?_getD]
theorem ext_at {r : Nat → Int} {e w : Nat} (he : e < bn b + (A.length + 1)) : bB (extB b (A ++ [r])) e w = if e = bn b + A.length then r w else bB (extB b A) e w := by
  show (if e < bn b then bB b e w else ((A ++ [r]).getD (e - bn b) (fun _ => 0)) w) = if e = bn b + A.length then r w else (if e < bn b then bB b e w else (A.getD (e - bn b) (fun _ => 0)) w)
  by_cases q : e < bn b
  · rw [if_pos q, if_neg (by omega), if_pos q]
  · rw [if_neg q, if_neg q, getD_appF]
    by_cases q2 : e = bn b + A.length
    · rw [if_pos q2, if_neg (by omega), show e - bn b - A.length = 0 by omega]; rfl
    · rw [if_neg q2, if_pos (by omega)]
theorem c_addX {a c lo k dv o : Int} (hC : cB 1 13 (extB b A) σ) (h30 : bn b + A.length < 30) (h : ∀ σ' : PS, Off [1, 13, 14, 15, 16, 17, 18] σ σ' → cB 1 13 (extB b (A ++ [rowG a c lo k dv o])) σ' → Φ ((bn b + A.length : Nat) : Int) σ') : FX3_add a c lo k dv o σ Φ := by
  obtain ⟨h1, h2, h3, h4⟩ := hC
  have h1 : σ 1 6 = ((bn b + A.length : Nat) : Int) := h1
  have ec : ((bn b + A.length : Nat) : Int).toNat = bn b + A.length := by omega
  unfold FX3_add
  rw [h1, ec]
  refine ⟨fun z => by omega, fun _ => ⟨fun _ => ⟨⟨by omega, by omega⟩, fun σ4 g4 => ?_⟩, fun z => by omega⟩⟩
  have e4 : σ4 1 6 = ((bn b + A.length : Nat) : Int) := by rw [g4, up2_nk (by omega)]; exact h1
  rw [e4, ec]
  refine ⟨⟨by omega, by omega⟩, fun σ6 g6 => ?_⟩
  have e6 : σ6 1 6 = ((bn b + A.length : Nat) : Int) := by rw [g6, up2_nk (by omega)]; exact e4
  rw [e6, ec]
  refine ⟨⟨by omega, by omega⟩, fun σ8 g8 => ?_⟩
  have e8 : σ8 1 6 = ((bn b + A.length : Nat) : Int) := by rw [g8, up2_nk (by omega)]; exact e6
  rw [e8, ec]
  refine ⟨⟨by omega, by omega⟩, fun σ10 g10 => ?_⟩
  have e10 : σ10 1 6 = ((bn b + A.length : Nat) : Int) := by rw [g10, up2_nk (by omega)]; exact e8
  rw [e10, ec]
  refine ⟨⟨by omega, by omega⟩, fun σ12 g12 => ?_⟩
  have e12 : σ12 1 6 = ((bn b + A.length : Nat) : Int) := by rw [g12, up2_nk (by omega)]; exact e10
  rw [e12, ec]
  refine ⟨⟨by omega, by omega⟩, fun σ14 g14 => ?_⟩
  have e14 : σ14 1 6 = ((bn b + A.length : Nat) : Int) := by rw [g14, up2_nk (by omega)]; exact e12
  rw [e14]
  refine ⟨⟨by omega, by omega⟩, fun σ16 g16 => ?_⟩
  have e16 : σ16 1 6 = ((bn b + A.length : Nat) : Int) + 1 := by rw [g16, up2_at]
  rw [e16]
  refine ⟨⟨by omega, by omega⟩, ?_⟩
  have o16 : Off [1, 13, 14, 15, 16, 17, 18] σ σ16 := by
    rw [g16, g14, g12, g10, g8, g6, g4]
    exact ((((((Off.rf.up (by simp)).up (by simp)).up (by simp)).up (by simp)).up (by simp)).up (by simp)).up (by simp)
  have el : (A ++ [rowG a c lo k dv o]).length = A.length + 1 := by rw [List.length_append]; rfl
  have := h σ16 o16 ⟨?_, ?_, ?_, fun e he w hw => ?_⟩
  · rw [show ((bn b + A.length : Nat) : Int) + 1 - 1 = ((bn b + A.length : Nat) : Int) by omega]
    exact this
  · show σ16 1 6 = ((bn b + (A ++ [rowG a c lo k dv o]).length : Nat) : Int)
    rw [e16, el]; omega
  · rw [g16, up2_ni (by omega), g14, up2_nk (by omega), g12, up2_nk (by omega), g10, up2_nk (by omega), g8, up2_nk (by omega), g6, up2_nk (by omega), g4, up2_nk (by omega)]; exact h2
  · rw [g16, up2_ni (by omega), g14, up2_nk (by omega), g12, up2_nk (by omega), g10, up2_nk (by omega), g8, up2_nk (by omega), g6, up2_nk (by omega), g4, up2_nk (by omega)]; exact h3
  · have he : e < bn b + (A ++ [rowG a c lo k dv o]).length := he
    rw [el] at he
    rw [ext_at he]
    have old : ∀ j, j < 6 → e ≠ bn b + A.length → σ (13 + j) e = bB (extB b A) e j := fun j hj hne => h4 e (by show e < bn b + A.length; omega) j hj
    have cell : σ16 (13 + w) e = if e = bn b + A.length then rowG a c lo k dv o w else σ (13 + w) e := by
      rw [g16, up2_nk (by omega), g14, g12, g10, g8, g6, g4]
      rcases (show w = 0 ∨ w = 1 ∨ w = 2 ∨ w = 3 ∨ w = 4 ∨ w = 5 by omega) with z | z | z | z | z | z <;> subst z
      · rw [up2_nk (by omega), up2_nk (by omega), up2_nk (by omega), up2_nk (by omega), up2_nk (by omega), up2_if]; rfl
      · rw [up2_nk (by omega), up2_nk (by omega), up2_nk (by omega), up2_nk (by omega), up2_if, up2_nk (by omega)]; rfl
      · rw [up2_nk (by omega), up2_nk (by omega), up2_nk (by omega), up2_if, up2_nk (by omega), up2_nk (by omega)]; rfl
      · rw [up2_nk (by omega), up2_nk (by omega), up2_if, up2_nk (by omega), up2_nk (by omega), up2_nk (by omega)]; rfl
      · rw [up2_nk (by omega), up2_if, up2_nk (by omega), up2_nk (by omega), up2_nk (by omega), up2_nk (by omega)]; rfl
      · rw [up2_if, up2_nk (by omega), up2_nk (by omega), up2_nk (by omega), up2_nk (by omega), up2_nk (by omega)]; rfl
    rw [cell]
    by_cases q : e = bn b + A.length
    · rw [if_pos q, if_pos q]
    · rw [if_neg q, if_neg q]; exact old w hw q
abbrev GC : List Nat := [1, 9, 13, 14, 15, 16, 17, 18]
theorem o9 {σ' : PS} (h : Off [9] σ σ') : Off GC σ σ' := h.mono (by simp)
theorem cX9 {σ' : PS} (hC : cB 1 13 (extB b A) σ) (h : Off [9] σ σ') : cB 1 13 (extB b A) σ' := hC.off h (by simp) (fun w hw => by simp; omega)
/-- the end of a gate: a fault that was, stays -/
theorem c_g106B {x2 x3 x4 x5 s0 : Int} {q : Nat} (hS : TC n t p q σ) (ht : okt n t) (h : ∀ (p' : Nat) (σ' : PS), Off [9] σ σ' → TC n t p' q σ' → Φ 0 σ') : LX11_readGate_106 x2 x3 x4 x5 s0 σ Φ := by
  have B : ∀ (s : Int) (p' : Nat) (σ' : PS), Off [9] σ σ' → TC n t p' q σ' → LX11_readGate_122 x2 x3 x4 x5 s0 s σ' Φ := fun s p' σ' o' hS' => by
    unfold LX11_readGate_122
    rw [hS'.2.2.2.1]
    exact ⟨fun _ => h p' σ' o' hS', fun c => by omega⟩
  unfold LX11_readGate_106
  exact c_takes hS ht (by omega) (fun σ' _ o' h' => ⟨fun z => by omega, fun _ => B 0 _ σ' o' h'⟩) (fun _ => ⟨fun _ => B 1 p σ Off.rf hS, fun z => absurd rfl z⟩)
theorem c_g89B {x2 x3 x4 x5 : Int} {q : Nat} (hS : TC n t p q σ) (ht : okt n t) (h : ∀ (p' : Nat) (σ' : PS), Off [9] σ σ' → TC n t p' q σ' → Φ 0 σ') : LX11_readGate_89 x2 x3 x4 x5 σ Φ := by
  unfold LX11_readGate_89
  refine c_takes hS ht (by omega) (fun σ' _ o' h' => ⟨fun z => by omega, fun _ => c_readDelayB h' ht (fun v p2 σ2 o2 h2 => c_g106B h2 ht (fun p3 σ3 o3 h3 => h p3 σ3 (o'.trans (o2.trans o3)) h3))⟩) (fun _ => ⟨fun _ => c_g106B hS ht h, fun z => absurd rfl z⟩)
theorem c_g106 {x2 x3 x4 x5 s0 : Int} (hS : TC n t p (-1) σ) (ht : okt n t) (hC : cB 1 13 (extB b A) σ) (h30 : bn b + A.length < 30) (h1 : ∀ σ' : PS, Off GC σ σ' → TC n t (opnP n t p).2 (-1) σ' → cB 1 13 (extB b (A ++ [rowG x2 x3 x4 x5 s0 (opnP n t p).1])) σ' → Φ 0 σ') : LX11_readGate_106 x2 x3 x4 x5 s0 σ Φ := by
  have go : ∀ (s : Int) (p' : Nat) (σ' : PS), opnP n t p = (s, p') → Off [9] σ σ' → TC n t p' (-1) σ' → LX11_readGate_122 x2 x3 x4 x5 s0 s σ' Φ := fun s p' σ' e o' hS' => by
    unfold LX11_readGate_122
    rw [hS'.2.2.2.1]
    refine ⟨fun z => by omega, fun _ => c_addX (cX9 hC o') h30 (fun σ2 o2 h2 => h1 σ2 ((o9 o').trans (o2.mono (by simp))) ?_ ?_)⟩
    · rw [e]; exact hS'.off o2 (by simp) (by simp)
    · rw [e]; exact h2
  unfold LX11_readGate_106
  exact c_takes hS ht (by omega) (fun σ' e o' h' => ⟨fun z => by omega, fun _ => go 0 _ σ' (by unfold opnP; rw [if_pos e]) o' h'⟩) (fun e => ⟨fun _ => go 1 p σ (by unfold opnP; rw [if_neg e]) Off.rf hS, fun z => absurd rfl z⟩)
theorem c_g89 {x2 x3 x4 x5 : Int} (hS : TC n t p (-1) σ) (ht : okt n t) (hC : cB 1 13 (extB b A) σ) (h30 : bn b + A.length < 30) (h1 : ∀ (v : Int) (p1 : Nat) (σ' : PS), dlyP n t p = .inr (v, p1) → Off GC σ σ' → TC n t (opnP n t p1).2 (-1) σ' → cB 1 13 (extB b (A ++ [rowG x2 x3 x4 x5 v (opnP n t p1).1])) σ' → Φ 0 σ') (h0 : ∀ (q p' : Nat) (σ' : PS), dlyP n t p = .inl q → Off GC σ σ' → TC n t p' q σ' → cB 1 13 (extB b A) σ' → Φ 0 σ') : LX11_readGate_89 x2 x3 x4 x5 σ Φ := by
  unfold LX11_readGate_89
  refine c_takes hS ht (by omega) (fun σ' e o' h' => ⟨fun z => by omega, fun _ => ?_⟩) (fun e => ⟨fun _ => ?_, fun z => absurd rfl z⟩)
  · have ed : dlyP n t p = rngP n t 1 3 (-1) (p + 1) := by unfold dlyP; rw [if_pos e]
    rw [ed] at h1 h0
    exact c_readDelay h' ht (fun v p2 σ2 e2 o2 h2 => c_g106 h2 ht (cX9 hC (o'.trans o2)) h30 (fun σ3 o3 h3 hc3 => h1 v p2 σ3 e2 ((o9 (o'.trans o2)).trans o3) h3 hc3)) (fun v q p2 σ2 e2 o2 h2 => c_g106B h2 ht (fun p3 σ3 o3 h3 => h0 q p3 σ3 e2 (o9 (o'.trans (o2.trans o3))) h3 (cX9 hC (o'.trans (o2.trans o3)))))
  · have ed : dlyP n t p = .inr (1, p) := by unfold dlyP; rw [if_neg e]
    exact c_g106 hS ht hC h30 (fun σ3 o3 h3 hc3 => h1 1 p σ3 ed o3 h3 hc3)
theorem c_readGate (hS : TC n t p (-1) σ) (ht : okt n t) (hC : cB 1 13 (extB b A) σ) (h30 : bn b + A.length ≤ 30)
    (h1 : ∀ (r : Nat → Int) (p' : Nat) (σ' : PS), bn b + A.length < 30 → gatP n t p = .inr (r, p') → Off GC σ σ' → TC n t p' (-1) σ' → cB 1 13 (extB b (A ++ [r])) σ' → Φ 0 σ')
    (h0 : ∀ (q p' : Nat) (σ' : PS), ((30 ≤ bn b + A.length ∧ q = p) ∨ (bn b + A.length < 30 ∧ gatP n t p = .inl q)) → Off GC σ σ' → TC n t p' q σ' → cB 1 13 (extB b A) σ' → Φ 0 σ') : FX11_readGate σ Φ := by
  have hc6 : σ 1 6 = ((bn b + A.length : Nat) : Int) := hC.1
  unfold FX11_readGate
  rw [hc6]
  refine ⟨fun c => ?_, fun c => ?_⟩
  · have hlt : bn b + A.length < 30 := by omega
    have F : ∀ (q p' : Nat) (σ' : PS), gatP n t p = .inl q → Off [9] σ σ' → TC n t p' q σ' → Φ 0 σ' := fun q p' σ' e o' h' => h0 q p' σ' (Or.inr ⟨hlt, e⟩) (o9 o') h' (cX9 hC o')
    refine c_readNode hS ht (fun a p1 σ1 e1 o1 S1 => ?_) (fun a q p1 σ1 e1 o1 S1 => ?_)
    · refine c_expect S1 ht (by omega) (fun p2 σ2 e2 o2 S2 => ?_) (fun q p2 σ2 e2 o2 S2 => ?_)
      · refine c_readNode S2 ht (fun d p3 σ3 e3 o3 S3 => ?_) (fun d q p3 σ3 e3 o3 S3 => ?_)
        · refine c_expect S3 ht (by omega) (fun p4 σ4 e4 o4 S4 => ?_) (fun q p4 σ4 e4 o4 S4 => ?_)
          · have o04 : Off [9] σ σ4 := o1.trans (o2.trans (o3.trans o4))
            have eg : gatP n t p = bnd (capP n t p4) (fun k => bnd (dlyP n t k.2.2) (fun dv => .inr (rowG a d k.1 k.2.1 dv.1 (opnP n t dv.2).1, (opnP n t dv.2).2))) := by
              unfold gatP
              rw [e1]
              show bnd (expP n t 62 p1) _ = _
              rw [e2]
              show bnd (rngP n t 0 11 a p2) _ = _
              rw [e3]
              show bnd (expP n t 58 p3) _ = _
              rw [e4]
              rfl
            refine c_numA S4 ht (fun m p5 σ5 e5 hm o5 S5 => ?_) (fun m σ5 e5 o5 S5 => ?_)
            · have o05 : Off [9] σ σ5 := o04.trans o5
              have er := (num_rng ht S4.2.2.2.2 e5).2.2
              -- what follows the capacities
              have tail : ∀ (lo k : Int) (p6 : Nat) (σ6 : PS), capP n t p4 = .inr (lo, k, p6) → Off [9] σ σ6 → TC n t p6 (-1) σ6 → LX11_readGate_89 a d lo k σ6 Φ := fun lo k p6 σ6 ec o6 S6 => by
                rw [ec] at eg
                refine c_g89 S6 ht (cX9 hC o6) hlt (fun v p7 σ7 e7 o7 S7 hc7 => h1 _ _ σ7 hlt ?_ ((o9 o6).trans o7) S7 hc7) (fun q p7 σ7 e7 o7 S7 hc7 => h0 q p7 σ7 (Or.inr ⟨hlt, ?_⟩) ((o9 o6).trans o7) S7 hc7)
                · rw [eg]
                  show bnd (dlyP n t p6) _ = _
                  rw [e7]
                  rfl
                · rw [eg]
                  show bnd (dlyP n t p6) _ = _
                  rw [e7]
                  rfl
              refine c_takes S5 ht (by omega) (fun σ6 e6 o6 S6 => ⟨fun z => by omega, fun _ v15 g15 => ?_⟩) (fun e6 => ⟨fun _ => ?_, fun z => absurd rfl z⟩)
              · rw [S6.2.2.1] at g15
                have ec : capP n t p4 = bnd (rngP n t m 999 (-1) (p5 + 1)) (fun k => .inr (m, k.1, k.2)) := by
                  unfold capP
                  rw [er]
                  show (if byT n t p5 = 45 then _ else _) = _
                  rw [if_pos e6]
                have o06 : Off [9] σ σ6 := o05.trans o6
                refine c_numA S6 ht (fun k p7 σ7 e7 hk o7 S7 => ?_) (fun k σ7 e7 o7 S7 => ?_)
                · have er2 : rngP n t m 999 (-1) (p5 + 1) = if m ≤ k ∧ k ≤ 999 ∧ k ≠ -1 then .inr (k, p7) else .inl (p5 + 1) := by unfold rngP; rw [e7]; rfl
                  refine ⟨fun c2 => tail m k p7 σ7 ?_ (o06.trans o7) S7, fun c2 => ?_⟩
                  · rw [ec, er2, if_pos ⟨c2, hk.2, by omega⟩]; rfl
                  · rw [g15]
                    refine c_fail S7 (fun z => by omega) (fun _ σ8 o8 S8 => c_g89B S8 ht (fun p9 σ9 o9' S9 => F (p5 + 1) p9 σ9 ?_ (o06.trans (o7.trans (o8.trans o9'))) S9))
                    rw [eg, ec, er2, if_neg (fun z => c2 z.1)]; rfl
                · have er2 : rngP n t m 999 (-1) (p5 + 1) = .inl (p5 + 1) := by unfold rngP; rw [e7]; rfl
                  have eF : gatP n t p = .inl (p5 + 1) := by rw [eg, ec, er2]; rfl
                  exact ⟨fun _ => c_g89B S7 ht (fun p9 σ9 o9' S9 => F _ p9 σ9 eF (o06.trans (o7.trans o9')) S9), fun _ => c_failB S7 (c_g89B S7 ht (fun p9 σ9 o9' S9 => F _ p9 σ9 eF (o06.trans (o7.trans o9')) S9))⟩
              · refine tail 0 m p5 σ5 ?_ o05 S5
                unfold capP
                rw [er]
                show (if byT n t p5 = 45 then _ else _) = _
                rw [if_neg e6]
            · -- no capacity
              have eF : gatP n t p = .inl p4 := by
                rw [eg]
                unfold capP rngP
                rw [e5]
                rfl
              refine c_takes S5 ht (by omega) (fun σ6 e6 o6 S6 => ⟨fun z => by omega, fun _ v15 g15 => c_numB S6 ht (fun k p7 σ7 o7 S7 => ?_)⟩) (fun e6 => ⟨fun _ => c_g89B S5 ht (fun p9 σ9 o9' S9 => F _ p9 σ9 eF (o04.trans (o5.trans o9')) S9), fun z => absurd rfl z⟩)
              have T := c_g89B (x2 := a) (x3 := d) (x4 := m) (x5 := k) S7 ht (fun p9 σ9 o9' S9 => F _ p9 σ9 eF (o04.trans (o5.trans (o6.trans (o7.trans o9')))) S9)
              exact ⟨fun _ => T, fun _ => c_failB S7 T⟩
          · -- no :
            have eF : gatP n t p = .inl q := by
              unfold gatP
              rw [e1]
              show bnd (expP n t 62 p1) _ = _
              rw [e2]
              show bnd (rngP n t 0 11 a p2) _ = _
              rw [e3]
              show bnd (expP n t 58 p3) _ = _
              rw [e4]
              rfl
            have o04 : Off [9] σ σ4 := o1.trans (o2.trans (o3.trans o4))
            refine c_numB S4 ht (fun m p5 σ5 o5 S5 => c_takes S5 ht (by omega) (fun σ6 e6 o6 S6 => ⟨fun z => by omega, fun _ v15 g15 => c_numB S6 ht (fun k p7 σ7 o7 S7 => ?_)⟩) (fun e6 => ⟨fun _ => c_g89B S5 ht (fun p9 σ9 o9' S9 => F _ p9 σ9 eF (o04.trans (o5.trans o9')) S9), fun z => absurd rfl z⟩))
            have T := c_g89B (x2 := a) (x3 := d) (x4 := m) (x5 := k) S7 ht (fun p9 σ9 o9' S9 => F _ p9 σ9 eF (o04.trans (o5.trans (o6.trans (o7.trans o9')))) S9)
            exact ⟨fun _ => T, fun _ => c_failB S7 T⟩
        · -- no second node
          have eF : gatP n t p = .inl q := by
            unfold gatP
            rw [e1]
            show bnd (expP n t 62 p1) _ = _
            rw [e2]
            show bnd (rngP n t 0 11 a p2) _ = _
            rw [e3]
            rfl
          have o03 : Off [9] σ σ3 := o1.trans (o2.trans o3)
          refine c_expectB S3 ht (by omega) (fun p4 σ4 o4 S4 => c_numB S4 ht (fun m p5 σ5 o5 S5 => c_takes S5 ht (by omega) (fun σ6 e6 o6 S6 => ⟨fun z => by omega, fun _ v15 g15 => c_numB S6 ht (fun k p7 σ7 o7 S7 => ?_)⟩) (fun e6 => ⟨fun _ => c_g89B S5 ht (fun p9 σ9 o9' S9 => F _ p9 σ9 eF (o03.trans (o4.trans (o5.trans o9'))) S9), fun z => absurd rfl z⟩)))
          have T := c_g89B (x2 := a) (x3 := d) (x4 := m) (x5 := k) S7 ht (fun p9 σ9 o9' S9 => F _ p9 σ9 eF (o03.trans (o4.trans (o5.trans (o6.trans (o7.trans o9'))))) S9)
          exact ⟨fun _ => T, fun _ => c_failB S7 T⟩
      · -- no >
        have eF : gatP n t p = .inl q := by
          unfold gatP
          rw [e1]
          show bnd (expP n t 62 p1) _ = _
          rw [e2]
          rfl
        have o02 : Off [9] σ σ2 := o1.trans o2
        refine c_readNodeB S2 ht (fun d p3 σ3 o3 S3 => c_expectB S3 ht (by omega) (fun p4 σ4 o4 S4 => c_numB S4 ht (fun m p5 σ5 o5 S5 => c_takes S5 ht (by omega) (fun σ6 e6 o6 S6 => ⟨fun z => by omega, fun _ v15 g15 => c_numB S6 ht (fun k p7 σ7 o7 S7 => ?_)⟩) (fun e6 => ⟨fun _ => c_g89B S5 ht (fun p9 σ9 o9' S9 => F _ p9 σ9 eF (o02.trans (o3.trans (o4.trans (o5.trans o9')))) S9), fun z => absurd rfl z⟩))))
        have T := c_g89B (x2 := a) (x3 := d) (x4 := m) (x5 := k) S7 ht (fun p9 σ9 o9' S9 => F _ p9 σ9 eF (o02.trans (o3.trans (o4.trans (o5.trans (o6.trans (o7.trans o9')))))) S9)
        exact ⟨fun _ => T, fun _ => c_failB S7 T⟩
    · -- no first node
      have eF : gatP n t p = .inl q := by
        unfold gatP
        rw [e1]
        rfl
      refine c_expectB S1 ht (by omega) (fun p2 σ2 o2 S2 => c_readNodeB S2 ht (fun d p3 σ3 o3 S3 => c_expectB S3 ht (by omega) (fun p4 σ4 o4 S4 => c_numB S4 ht (fun m p5 σ5 o5 S5 => c_takes S5 ht (by omega) (fun σ6 e6 o6 S6 => ⟨fun z => by omega, fun _ v15 g15 => c_numB S6 ht (fun k p7 σ7 o7 S7 => ?_)⟩) (fun e6 => ⟨fun _ => c_g89B S5 ht (fun p9 σ9 o9' S9 => F _ p9 σ9 eF (o1.trans (o2.trans (o3.trans (o4.trans (o5.trans o9'))))) S9), fun z => absurd rfl z⟩)))))
      have T := c_g89B (x2 := a) (x3 := d) (x4 := m) (x5 := k) S7 ht (fun p9 σ9 o9' S9 => F _ p9 σ9 eF (o1.trans (o2.trans (o3.trans (o4.trans (o5.trans (o6.trans (o7.trans o9'))))))) S9)
      exact ⟨fun _ => T, fun _ => c_failB S7 T⟩
  · rw [hS.2.2.1]
    exact c_fail hS (fun z => by omega) (fun _ σ' o' h' => h0 p p σ' (Or.inl ⟨by omega, rfl⟩) (o9 o') h' (cX9 hC o'))
end Read2
