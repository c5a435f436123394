/-! books read: as a function of the tape -/
def byT (n : Nat) (t : Nat → Int) (p : Nat) : Int := if p < n then t p else 0
def nuL (n : Nat) (t : Nat → Int) : Nat → Nat → Int → Nat × Int
  | 0, p, v => (p, v)
  | k + 1, p, v => if 48 ≤ byT n t p ∧ byT n t p ≤ 57 then nuL n t k (p + 1) (v * 10 + byT n t p - 48) else (p, v)
def nuP (n : Nat) (t : Nat → Int) (p : Nat) : Nat × Int := nuL n t 3 p 0
def bnd {α β : Type} (x : Sum Nat α) (f : α → Sum Nat β) : Sum Nat β := match x with
  | .inl q => .inl q
  | .inr a => f a
def numP (n : Nat) (t : Nat → Int) (p : Nat) : Sum Nat (Int × Nat) := if (nuP n t p).1 = p then .inl p else .inr ((nuP n t p).2, (nuP n t p).1)
def rngP (n : Nat) (t : Nat → Int) (lo hi bar : Int) (p : Nat) : Sum Nat (Int × Nat) := bnd (numP n t p) (fun r => if lo ≤ r.1 ∧ r.1 ≤ hi ∧ r.1 ≠ bar then .inr r else .inl p)
def expP (n : Nat) (t : Nat → Int) (c : Int) (p : Nat) : Sum Nat Nat := if byT n t p = c then .inr (p + 1) else .inl p
def dlyP (n : Nat) (t : Nat → Int) (p : Nat) : Sum Nat (Int × Nat) := if byT n t p = 64 then rngP n t 1 3 (-1) (p + 1) else .inr (1, p)
def opnP (n : Nat) (t : Nat → Int) (p : Nat) : Int × Nat := if byT n t p = 120 then (0, p + 1) else (1, p)
def capP (n : Nat) (t : Nat → Int) (p : Nat) : Sum Nat (Int × Int × Nat) := bnd (rngP n t 0 999 (-1) p) (fun r => if byT n t r.2 = 45 then bnd (rngP n t r.1 999 (-1) (r.2 + 1)) (fun k => .inr (r.1, k.1, k.2)) else .inr (0, r.1, r.2))
def rowG (a c lo k dv o : Int) (w : Nat) : Int := match w with
  | 0 => a
  | 1 => c
  | 2 => lo
  | 3 => k
  | 4 => dv
  | _ => o
def gatP (n : Nat) (t : Nat → Int) (p : Nat) : Sum Nat ((Nat → Int) × Nat) := bnd (rngP n t 0 11 (-1) p) (fun a => bnd (expP n t 62 a.2) (fun p2 => bnd (rngP n t 0 11 a.1 p2) (fun c => bnd (expP n t 58 c.2) (fun p4 => bnd (capP n t p4) (fun k => bnd (dlyP n t k.2.2) (fun dv => .inr (rowG a.1 c.1 k.1 k.2.1 dv.1 (opnP n t dv.2).1, (opnP n t dv.2).2)))))))
def bokP (n : Nat) (t : Nat → Int) : Nat → Nat → Nat → Sum Nat (List (Nat → Int))
  | 0, _, p => .inl p
  | k + 1, cnt, p => if 30 ≤ cnt then .inl p else bnd (gatP n t p) (fun r => if byT n t r.2 = 59 then bnd (bokP n t k (cnt + 1) (r.2 + 1)) (fun L => .inr (r.1 :: L)) else if r.2 < n then .inl r.2 else .inr [r.1])
/-- the tape's cells of the class; the reference's -/
def TC (n : Nat) (t : Nat → Int) (p : Nat) (f : Int) (σ : PS) : Prop := σ 9 1 = (n : Int) ∧ (∀ i, i < n → σ 57 i = t i) ∧ σ 9 2 = (p : Int) ∧ σ 9 3 = f ∧ p ≤ n
def TM (n : Nat) (t : Nat → Int) (p : Nat) (f : Int) (σ : PS) : Prop := σ 0 29 = (n : Int) ∧ (∀ i, i < n → σ 23 i = t i) ∧ σ 0 30 = (p : Int) ∧ σ 0 31 = f ∧ p ≤ n
def okt (n : Nat) (t : Nat → Int) : Prop := n ≤ 90 ∧ ∀ i, i < n → 1 ≤ t i ∧ t i ≤ 127
section Read
variable {n p : Nat} {t : Nat → Int} {f : Int} {σ : PS} {Φ : Int → PS → Prop}
theorem by_rng (h : okt n t) (p : Nat) : 0 ≤ byT n t p ∧ byT n t p ≤ 127 ∧ (byT n t p ≠ 0 → p < n) := by
  unfold byT
  by_cases q : p < n
  · have := h.2 p q
    rw [if_pos q]; omega
  · rw [if_neg q]; omega
theorem nuL_is (h : okt n t) : ∀ (k p : Nat) (v : Int), 0 ≤ v → p ≤ n → (p ≤ (nuL n t k p v).1 ∧ (nuL n t k p v).1 ≤ n ∧ (nuL n t k p v).1 ≤ p + k) ∧ 0 ≤ (nuL n t k p v).2 ∧ (nuL n t k p v).2 ≤ (v + 1) * 10 ^ k - 1 := by
  intro k
  induction k with
  | zero => intro p v hv hp; exact ⟨⟨Nat.le_refl _, hp, Nat.le_refl _⟩, hv, by show v ≤ (v + 1) * 1 - 1; omega⟩
  | succ k ih =>
    intro p v hv hp
    rw [nuL]
    have hk : (0 : Int) < 10 ^ k := Int.pow_pos (by omega)
    by_cases q : 48 ≤ byT n t p ∧ byT n t p ≤ 57
    · rw [if_pos q]
      have hb := by_rng h p
      obtain ⟨⟨a1, a2, a3⟩, a4, a5⟩ := ih (p + 1) (v * 10 + byT n t p - 48) (by omega) (by omega)
      refine ⟨⟨by omega, a2, by omega⟩, a4, ?_⟩
      have h1 : (v * 10 + byT n t p - 48 + 1) * 10 ^ k ≤ ((v + 1) * 10) * 10 ^ k := Int.mul_le_mul_of_nonneg_right (by omega) (by omega)
      have h2 : (v + 1) * 10 ^ (k + 1) = ((v + 1) * 10) * 10 ^ k := by rw [Int.pow_succ, Int.mul_assoc, Int.mul_comm 10]
      omega
    · rw [if_neg q]
      have h2 : (v + 1) * 1 ≤ (v + 1) * 10 ^ (k + 1) := Int.mul_le_mul_of_nonneg_left (by have : (0 : Int) < 10 ^ (k + 1) := Int.pow_pos (by omega); omega) (by omega)
      exact ⟨⟨Nat.le_refl _, hp, by omega⟩, hv, by show v ≤ _; omega⟩
theorem nuP_is (h : okt n t) (hp : p ≤ n) : (p ≤ (nuP n t p).1 ∧ (nuP n t p).1 ≤ n) ∧ 0 ≤ (nuP n t p).2 ∧ (nuP n t p).2 ≤ 999 := by
  have := nuL_is h 3 p 0 (by omega) hp
  unfold nuP
  have e : ((0 : Int) + 1) * 10 ^ 3 - 1 = 999 := by decide
  omega
theorem TC.off {σ' : PS} {ks : List Nat} (h : TC n t p f σ) (ho : Off ks σ σ') (h1 : 9 ∉ ks) (h2 : 57 ∉ ks) : TC n t p f σ' := by
  unfold TC
  rw [ho 9 h1, ho 57 h2]
  exact h
theorem TC.at {i v : Int} {p' : Nat} {f' : Int} {σ' : PS} (h : TC n t p f σ) (h1 : σ' 57 = σ 57) (h2 : σ' 9 1 = σ 9 1) (h3 : σ' 9 2 = (p' : Int)) (h4 : σ' 9 3 = f') (h5 : p' ≤ n) : TC n t p' f' σ' := ⟨by rw [h2]; exact h.1, by rw [h1]; exact h.2.1, h3, h4, h5⟩
theorem c_byteAt (hS : TC n t p f σ) (hn : n ≤ 90) (h : Φ (byT n t p) σ) : FX9_byteAt (σ 9 2) σ Φ := by
  unfold FX9_byteAt
  unfold byT at h
  have hp := hS.2.2.2.2
  rw [hS.2.2.1, hS.1]
  refine ⟨fun c => by omega, fun _ => ⟨fun c => ?_, fun c => ⟨fun c2 => by omega, fun _ => ⟨⟨by omega, by omega⟩, ?_⟩⟩⟩⟩
  · rw [if_neg (by omega)] at h; exact h
  · rw [if_pos (by omega)] at h
    rw [show ((p : Nat) : Int).toNat = p by omega, hS.2.1 p (by omega)]; exact h
theorem c_takes {c : Int} (hS : TC n t p f σ) (ht : okt n t) (hc : 0 < c) (h1 : ∀ σ' : PS, byT n t p = c → Off [9] σ σ' → TC n t (p + 1) f σ' → Φ 1 σ') (h0 : byT n t p ≠ c → Φ 0 σ) : FX9_takes c σ Φ := by
  have hb := by_rng ht p
  have hp := hS.2.2.2.2
  have hn := ht.1
  unfold FX9_takes
  refine c_byteAt hS ht.1 ⟨fun c1 => ?_, fun c1 => h0 c1⟩
  rw [hS.2.2.1]
  refine ⟨⟨by omega, by omega⟩, fun σ5 g5 => h1 σ5 c1 (by rw [g5]; exact Off.rf.up (by simp)) (hS.at (i := 0) (v := 0) ?_ ?_ ?_ ?_ (by omega))⟩
  · rw [g5, up2_row (by omega)]
  · rw [g5, up2_ni (by omega)]
  · rw [g5, up2_at]; omega
  · rw [g5, up2_ni (by omega)]; exact hS.2.2.2.1
theorem c_fail {x : Int} (hS : TC n t p f σ) (h1 : 0 ≤ f → Φ 0 σ) (h0 : ¬ 0 ≤ f → ∀ σ' : PS, Off [9] σ σ' → TC n t p x σ' → Φ 0 σ') : FX9_fail x σ Φ := by
  unfold FX9_fail
  rw [hS.2.2.2.1]
  refine ⟨h1, fun c σ2 g2 => h0 c σ2 (by rw [g2]; exact Off.rf.up (by simp)) (hS.at (i := 0) (v := 0) ?_ ?_ ?_ ?_ hS.2.2.2.2)⟩
  · rw [g2, up2_row (by omega)]
  · rw [g2, up2_ni (by omega)]
  · rw [g2, up2_ni (by omega)]; exact hS.2.2.1
  · rw [g2, up2_at]
/-- in all states the first fault stays -/
theorem c_failB {x : Int} {q : Nat} (hS : TC n t p q σ) (h : Φ 0 σ) : FX9_fail x σ Φ := c_fail hS (fun _ => h) (fun c => absurd (by omega) c)
theorem c_expectB {c : Int} {q : Nat} (hS : TC n t p q σ) (ht : okt n t) (hc : 0 < c) (h : ∀ (p' : Nat) (σ' : PS), Off [9] σ σ' → TC n t p' q σ' → Φ 0 σ') : FX9_expect c σ Φ := by
  unfold FX9_expect
  exact c_takes hS ht hc (fun σ' _ o' h' => ⟨fun _ => h _ σ' o' h', fun z => by omega⟩) (fun _ => ⟨fun z => absurd rfl z, fun _ => c_failB hS (h _ σ Off.rf hS)⟩)
theorem c_expect {c : Int} (hS : TC n t p (-1) σ) (ht : okt n t) (hc : 0 < c) (h1 : ∀ (p' : Nat) (σ' : PS), expP n t c p = .inr p' → Off [9] σ σ' → TC n t p' (-1) σ' → Φ 0 σ') (h0 : ∀ (q p' : Nat) (σ' : PS), expP n t c p = .inl q → Off [9] σ σ' → TC n t p' q σ' → Φ 0 σ') : FX9_expect c σ Φ := by
  unfold FX9_expect
  refine c_takes hS ht hc (fun σ' e o' h' => ⟨fun _ => h1 _ σ' (by unfold expP; rw [if_pos e]) o' h', fun z => by omega⟩) (fun e => ⟨fun z => absurd rfl z, fun _ => ?_⟩)
  rw [hS.2.2.1]
  exact c_fail hS (fun z => by omega) (fun _ σ' o' h' => h0 p p σ' (by unfold expP; rw [if_neg e]) o' h')
/-- number, in every state: what it reads, and the fault if it reads nothing -/
theorem c_numX (hS : TC n t p f σ) (ht : okt n t) (h1 : ∀ σ' : PS, Off [9] σ σ' → (nuP n t p).1 ≠ p ∨ 0 ≤ f → TC n t (nuP n t p).1 f σ' → Φ (nuP n t p).2 σ') (h0 : ∀ σ' : PS, Off [9] σ σ' → (nuP n t p).1 = p → f < 0 → TC n t p p σ' → Φ (nuP n t p).2 σ') : FX9_number σ Φ := by
  unfold FX9_number
  intro v1 g1
  have hn := ht.1
  rw [hS.2.2.1] at g1
  have fin : ∀ (p' : Nat) (v : Int) (σ' : PS), (p', v) = nuP n t p → Off [9] σ σ' → TC n t p' f σ' → LX9_number_73 v1 v σ' Φ := fun p' v σ' e o' hS' => by
    unfold LX9_number_73
    rw [← e] at h1 h0
    rw [hS'.2.2.1]
    refine ⟨fun c => h1 σ' o' (Or.inl (fun z => c (by show (p' : Int) = v1; rw [g1]; exact congrArg Int.ofNat z))) hS', fun c => ?_⟩
    have ep : p' = p := by omega
    refine c_fail hS' (fun z => h1 σ' o' (Or.inr z) hS') (fun z σ2 o2 h2 => h0 σ2 (o'.trans o2) ep (by omega) ?_)
    rw [g1, ep] at h2
    exact h2
  have loop : ∀ (g k p' : Nat) (v : Int) (σ' : PS), k ≤ 3 → 3 - k < g → 0 ≤ v → v ≤ 999 → nuL n t (3 - k) p' v = nuP n t p → Off [9] σ σ' → TC n t p' f σ' → (v + 1) * 10 ^ (3 - k) ≤ 1000 → LX9_number_9 g v1 v k σ' Φ := by
    intro g
    induction g with
    | zero => intro k p' v σ' h1 h2; omega
    | succ g ih =>
      intro k p' v σ' hk hg hv hv2 he o' hS' hvb
      unfold LX9_number_9 BX9_number_9
      have hb := by_rng ht p'
      refine ⟨fun c => ?_, fun c => ?_⟩
      · have ek : k = 3 := by omega
        rw [ek] at he
        exact fin p' v σ' he o' hS'
      · obtain ⟨j, hj⟩ : ∃ j, 3 - k = j + 1 := ⟨3 - k - 1, by omega⟩
        rw [hj] at he hvb
        rw [nuL] at he
        have stop : ¬ (48 ≤ byT n t p' ∧ byT n t p' ≤ 57) → LX9_number_73 v1 v σ' Φ := fun z => by
          rw [if_neg z] at he
          exact fin p' v σ' he o' hS'
        refine c_byteAt hS' hn ⟨fun c1 => stop (by omega), fun c1 => c_byteAt hS' hn ⟨fun c2 => stop (by omega), fun c2 => ?_⟩⟩
        have hd : 48 ≤ byT n t p' ∧ byT n t p' ≤ 57 := ⟨by omega, by omega⟩
        rw [if_pos hd] at he
        refine ⟨⟨by omega, by omega⟩, c_byteAt hS' hn ⟨⟨by omega, by omega⟩, ⟨by omega, by omega⟩, fun v13 g13 => ?_⟩⟩
        rw [hS'.2.2.1]
        refine ⟨⟨by omega, by omega⟩, fun σ15 g15 => ⟨⟨by omega, by omega⟩, ?_⟩⟩
        have o15 : Off [9] σ' σ15 := by rw [g15]; exact Off.rf.up (by simp)
        have hpow : (v * 10 + byT n t p' - 48 + 1) * 10 ^ j ≤ 1000 := by
          have hj0 : (0 : Int) < 10 ^ j := Int.pow_pos (by omega)
          have h1 : (v * 10 + byT n t p' - 48 + 1) * 10 ^ j ≤ ((v + 1) * 10) * 10 ^ j := Int.mul_le_mul_of_nonneg_right (by omega) (by omega)
          have h2 : (v + 1) * 10 ^ (j + 1) = ((v + 1) * 10) * 10 ^ j := by rw [Int.pow_succ, Int.mul_assoc, Int.mul_comm 10]
          omega
        have hv13 : v13 + 1 ≤ 1000 := by
          have hj0 : (0 : Int) < 10 ^ j := Int.pow_pos (by omega)
          have h1 : (v * 10 + byT n t p' - 48 + 1) * 1 ≤ (v * 10 + byT n t p' - 48 + 1) * 10 ^ j := Int.mul_le_mul_of_nonneg_left (by omega) (by omega)
          omega
        refine ih (k + 1) (p' + 1) v13 σ15 (by omega) (by omega) (by omega) (by omega) ?_ (o'.trans o15) (hS'.at (i := 0) (v := 0) ?_ ?_ ?_ ?_ (by omega)) ?_
        · rw [show 3 - (k + 1) = j by omega, g13]; exact he
        · rw [g15, up2_row (by omega)]
        · rw [g15, up2_ni (by omega)]
        · rw [g15, up2_at]; omega
        · rw [g15, up2_ni (by omega)]; exact hS'.2.2.2.1
        · rw [show 3 - (k + 1) = j by omega, g13]; exact hpow
  exact ⟨4, loop 4 0 p 0 σ (by omega) (by omega) (by omega) (by omega) rfl Off.rf hS (by decide)⟩
theorem c_numB {q : Nat} (hS : TC n t p q σ) (ht : okt n t) (h : ∀ (v : Int) (p' : Nat) (σ' : PS), Off [9] σ σ' → TC n t p' q σ' → Φ v σ') : FX9_number σ Φ := c_numX hS ht (fun σ' o' _ h' => h _ _ σ' o' h') (fun σ' o' _ z _ => by omega)
theorem c_numA (hS : TC n t p (-1) σ) (ht : okt n t) (h1 : ∀ (v : Int) (p' : Nat) (σ' : PS), numP n t p = .inr (v, p') → (0 ≤ v ∧ v ≤ 999) → Off [9] σ σ' → TC n t p' (-1) σ' → Φ v σ') (h0 : ∀ (v : Int) (σ' : PS), numP n t p = .inl p → Off [9] σ σ' → TC n t p p σ' → Φ v σ') : FX9_number σ Φ := by
  have hr := nuP_is ht hS.2.2.2.2
  refine c_numX hS ht (fun σ' o' z h' => ?_) (fun σ' o' z _ h' => h0 _ σ' (by unfold numP; rw [if_pos z]) o' h')
  rcases z with z | z
  · exact h1 _ _ σ' (by unfold numP; rw [if_neg z]) hr.2 o' h'
  · omega
theorem num_rng (ht : okt n t) (hp : p ≤ n) {v : Int} {p' : Nat} (h : numP n t p = .inr (v, p')) : 0 ≤ v ∧ v ≤ 999 ∧ rngP n t 0 999 (-1) p = .inr (v, p') := by
  have hr := nuP_is ht hp
  have h' := h
  unfold numP at h'
  by_cases z : (nuP n t p).1 = p
  · rw [if_pos z] at h'; cases h'
  · rw [if_neg z] at h'
    have e1 : (nuP n t p).2 = v := congrArg (fun s : Sum Nat (Int × Nat) => match s with | .inl _ => 0 | .inr r => r.1) h'
    refine ⟨by omega, by omega, ?_⟩
    unfold rngP
    rw [h]
    show (if 0 ≤ v ∧ v ≤ 999 ∧ v ≠ -1 then _ else _) = _
    rw [if_pos ⟨by omega, by omega, by omega⟩]
theorem c_readNode {o : Int} (hS : TC n t p (-1) σ) (ht : okt n t) (h1 : ∀ (v : Int) (p' : Nat) (σ' : PS), rngP n t 0 11 o p = .inr (v, p') → Off [9] σ σ' → TC n t p' (-1) σ' → Φ v σ') (h0 : ∀ (v : Int) (q p' : Nat) (σ' : PS), rngP n t 0 11 o p = .inl q → Off [9] σ σ' → TC n t p' q σ' → Φ v σ') : FX11_readNode o σ Φ := by
  unfold FX11_readNode
  intro v1 g1
  rw [hS.2.2.1] at g1
  have bad : ∀ (v : Int) (p' : Nat) (σ' : PS), rngP n t 0 11 o p = .inl p → Off [9] σ σ' → TC n t p' (-1) σ' → LX11_readNode_22 v1 v σ' Φ := fun v p' σ' e o' hS' => by
    unfold LX11_readNode_22
    rw [g1]
    exact c_fail hS' (fun z => by omega) (fun _ σ2 o2 h2 => h0 v p p' σ2 e (o'.trans o2) h2)
  refine c_numA hS ht (fun v p' σ' e hv o' hS' => ?_) (fun v σ' e o' hS' => ?_)
  · have er : rngP n t 0 11 o p = if 0 ≤ v ∧ v ≤ 11 ∧ v ≠ o then .inr (v, p') else .inl p := by unfold rngP; rw [e]; rfl
    refine c_isNode (fun x y => ⟨fun z => by omega, fun _ => ⟨fun z => h1 v p' σ' (by rw [er, if_pos ⟨x, by omega, z⟩]) o' hS', fun z => bad v p' σ' (by rw [er, if_neg (fun w => w.2.2 z)]) o' hS'⟩⟩) (fun x => ⟨fun _ => bad v p' σ' (by rw [er, if_neg (fun w => x ⟨w.1, by omega⟩)]) o' hS', fun z => absurd rfl z⟩)
  · have er : rngP n t 0 11 o p = .inl p := by unfold rngP; rw [e]; rfl
    have B : LX11_readNode_22 v1 v σ' Φ := by
      unfold LX11_readNode_22
      exact c_failB hS' (h0 v p p σ' er o' hS')
    exact c_isNode (fun x y => ⟨fun z => by omega, fun _ => ⟨fun z => h0 v p p σ' er o' hS', fun _ => B⟩⟩) (fun x => ⟨fun _ => B, fun z => absurd rfl z⟩)
theorem c_readNodeB {o : Int} {q : Nat} (hS : TC n t p q σ) (ht : okt n t) (h : ∀ (v : Int) (p' : Nat) (σ' : PS), Off [9] σ σ' → TC n t p' q σ' → Φ v σ') : FX11_readNode o σ Φ := by
  unfold FX11_readNode
  intro v1 g1
  refine c_numB hS ht (fun v p' σ' o' hS' => ?_)
  have B : LX11_readNode_22 v1 v σ' Φ := by
    unfold LX11_readNode_22
    exact c_failB hS' (h v p' σ' o' hS')
  exact c_isNode (fun x y => ⟨fun z => by omega, fun _ => ⟨fun z => h v p' σ' o' hS', fun _ => B⟩⟩) (fun x => ⟨fun _ => B, fun z => absurd rfl z⟩)
theorem c_isDelay {v : Int} {P : Int → PS → Prop} (h1 : 1 ≤ v → v ≤ 3 → P 1 σ) (h0 : ¬ (1 ≤ v ∧ v ≤ 3) → P 0 σ) : FX11_isDelay v σ P := by
  unfold FX11_isDelay
  exact ⟨fun c => h0 (by omega), fun c => ⟨fun c2 => h0 (by omega), fun c2 => h1 (by omega) (by omega)⟩⟩
theorem c_readDelay (hS : TC n t p (-1) σ) (ht : okt n t) (h1 : ∀ (v : Int) (p' : Nat) (σ' : PS), rngP n t 1 3 (-1) p = .inr (v, p') → Off [9] σ σ' → TC n t p' (-1) σ' → Φ v σ') (h0 : ∀ (v : Int) (q p' : Nat) (σ' : PS), rngP n t 1 3 (-1) p = .inl q → Off [9] σ σ' → TC n t p' q σ' → Φ v σ') : FX11_readDelay σ Φ := by
  unfold FX11_readDelay
  intro v1 g1
  rw [hS.2.2.1] at g1
  refine c_numA hS ht (fun v p' σ' e hv o' hS' => ?_) (fun v σ' e o' hS' => ?_)
  · have er : rngP n t 1 3 (-1) p = if 1 ≤ v ∧ v ≤ 3 ∧ v ≠ -1 then .inr (v, p') else .inl p := by unfold rngP; rw [e]; rfl
    refine c_isDelay (fun x y => ⟨fun _ => h1 v p' σ' (by rw [er, if_pos ⟨x, y, by omega⟩]) o' hS', fun z => by omega⟩) (fun x => ⟨fun z => absurd rfl z, fun _ => ?_⟩)
    rw [g1]
    exact c_fail hS' (fun z => by omega) (fun _ σ2 o2 h2 => h0 v p p' σ2 (by rw [er, if_neg (fun w => x ⟨w.1, w.2.1⟩)]) (o'.trans o2) h2)
  · have er : rngP n t 1 3 (-1) p = .inl p := by unfold rngP; rw [e]; rfl
    exact c_isDelay (fun x y => ⟨fun _ => h0 v p p σ' er o' hS', fun z => by omega⟩) (fun x => ⟨fun z => absurd rfl z, fun _ => c_failB hS' (h0 v p p σ' er o' hS')⟩)
theorem c_readDelayB {q : Nat} (hS : TC n t p q σ) (ht : okt n t) (h : ∀ (v : Int) (p' : Nat) (σ' : PS), Off [9] σ σ' → TC n t p' q σ' → Φ v σ') : FX11_readDelay σ Φ := by
  unfold FX11_readDelay
  intro v1 g1
  refine c_numB hS ht (fun v p' σ' o' hS' => ?_)
  exact c_isDelay (fun x y => ⟨fun _ => h v p' σ' o' hS', fun z => by omega⟩) (fun x => ⟨fun z => absurd rfl z, fun _ => c_failB hS' (h v p' σ' o' hS')⟩)
end Read
