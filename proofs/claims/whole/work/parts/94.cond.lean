/-! conditions: as a function of the tape -/
def nmL (w : Nat) : List Int := match w with
  | 0 => [102, 114, 111, 109]
  | 1 => [116, 111]
  | 2 => [108, 101, 97, 115, 116]
  | 3 => [99, 97, 112]
  | 4 => [100, 101, 108, 97, 121]
  | 5 => [119, 97, 116, 101, 114]
  | 6 => [114, 111, 111, 109]
  | _ => [115, 104, 117, 116]
def clN (k : Nat) : Nat := if k = 2 then 3 else if k = 3 then 2 else k
theorem tabR : ∀ w, w < 8 → ∀ i, i < 7 → schr 8 (7 * w + i) = if i < (nmL w).length then (nmL w).getD i 0 else 32 := by decide +kernel
theorem tabL : ∀ w, w < 8 → (0 < (nmL w).length ∧ (nmL w).length < 7) ∧ ∀ i, i < (nmL w).length → 97 ≤ (nmL w).getD i 0 ∧ (nmL w).getD i 0 ≤ 122 := by decide +kernel
theorem tabC : ∀ k, k < 8 → slen k = ((nmL (clN k)).length : Int) ∧ ∀ i, i < (nmL (clN k)).length → schr k i = (nmL (clN k)).getD i 0 := by decide +kernel
theorem tabU : ∀ w, w < 8 → ∀ v, v < 8 → (nmL w).length = (nmL v).length → (nmL w).getD 0 0 = (nmL v).getD 0 0 → w = v := by decide +kernel
theorem slen8 : slen 8 / 7 = 8 ∧ slen 8 = 56 := by decide +kernel
theorem clN_lt : ∀ k, k < 8 → clN k < 8 ∧ clN (clN k) = k := by decide +kernel
def ltrL (n : Nat) (t : Nat → Int) : Nat → Nat → Nat
  | 0, p => p
  | k + 1, p => if 97 ≤ byT n t p ∧ byT n t p ≤ 122 then ltrL n t k (p + 1) else p
def ltrP (n : Nat) (t : Nat → Int) (p : Nat) : Nat := ltrL n t 90 p
abbrev isW (n : Nat) (t : Nat → Int) (p q w : Nat) : Prop := q - p = (nmL w).length ∧ ∀ i, i < (nmL w).length → byT n t (p + i) = (nmL w).getD i 0
def wrdS (n : Nat) (t : Nat → Int) (p q : Nat) : Nat → Nat → Option Nat
  | 0, _ => none
  | k + 1, w => if isW n t p q w then some w else wrdS n t p q k (w + 1)
def wrdP (n : Nat) (t : Nat → Int) (p : Nat) : Sum Nat (Nat × Nat) := match wrdS n t p (ltrP n t p) 8 0 with
  | none => .inl p
  | some w => .inr (w, ltrP n t p)
def sgnP (n : Nat) (t : Nat → Int) (p : Nat) : Sum Nat (Int × Nat) := if byT n t p = 60 ∨ byT n t p = 61 ∨ byT n t p = 62 then .inr (byT n t p, p + 1) else .inl p
def cmpP (n : Nat) (t : Nat → Int) (p : Nat) : Sum Nat ((Nat × Int × Int) × Nat) := bnd (wrdP n t p) (fun w => bnd (sgnP n t w.2) (fun s => bnd (rngP n t 0 999 (-1) s.2) (fun v => .inr ((w.1, s.1, v.1), v.2))))
section Cond
variable {b : Bk} {n p : Nat} {t : Nat → Int} {f : Int} {σ : PS} {Φ : Int → PS → Prop}
theorem ltrL_is (ht : okt n t) : ∀ (k p : Nat), p ≤ n → n ≤ p + k → (p ≤ ltrL n t k p ∧ ltrL n t k p ≤ n) ∧ (∀ j, p ≤ j → j < ltrL n t k p → 97 ≤ byT n t j ∧ byT n t j ≤ 122) := by
  intro k
  induction k with
  | zero => intro p hp hk; exact ⟨⟨Nat.le_refl _, hp⟩, fun j h1 h2 => by have h2 : j < p := h2; omega⟩
  | succ k ih =>
    intro p hp hk
    rw [ltrL]
    by_cases q : 97 ≤ byT n t p ∧ byT n t p ≤ 122
    · rw [if_pos q]
      have := (by_rng ht p).2.2 (by omega)
      obtain ⟨⟨a1, a2⟩, a3⟩ := ih (p + 1) (by omega) (by omega)
      refine ⟨⟨by omega, a2⟩, fun j h1 h2 => ?_⟩
      by_cases e : j = p
      · rw [e]; exact q
      · exact a3 j (by omega) h2
    · rw [if_neg q]
      exact ⟨⟨Nat.le_refl _, hp⟩, fun j h1 h2 => by omega⟩
theorem ltrP_is (ht : okt n t) (hp : p ≤ n) : (p ≤ ltrP n t p ∧ ltrP n t p ≤ n) ∧ (∀ j, p ≤ j → j < ltrP n t p → 97 ≤ byT n t j ∧ byT n t j ≤ 122) := ltrL_is ht 90 p hp (by have := ht.1; omega)
theorem isW_one {q w v : Nat} (hw : w < 8) (hv : v < 8) (h1 : isW n t p q w) (h2 : isW n t p q v) : w = v := by
  have a := (tabL w hw).1
  have c := (tabL v hv).1
  exact tabU w hw v hv (by rw [← h1.1, ← h2.1]) (by rw [← h1.2 0 a.1, ← h2.2 0 c.1])
theorem wrdS_none {q : Nat} : ∀ (k w : Nat), (∀ v, w ≤ v → v < w + k → ¬ isW n t p q v) → wrdS n t p q k w = none := by
  intro k
  induction k with
  | zero => intro w h; rfl
  | succ k ih =>
    intro w h
    rw [wrdS, if_neg (h w (by omega) (by omega))]
    exact ih (w + 1) (fun v h1 h2 => h v (by omega) (by omega))
theorem wrdS_some {q v : Nat} (hv : isW n t p q v) : ∀ (k w : Nat), w ≤ v → v < w + k → w + k ≤ 8 → wrdS n t p q k w = some v := by
  intro k
  induction k with
  | zero => intro w h1 h2; omega
  | succ k ih =>
    intro w h1 h2 h3
    rw [wrdS]
    by_cases c : isW n t p q w
    · rw [if_pos c, isW_one (by omega) (by omega) c hv]
    · rw [if_neg c]
      refine ih (w + 1) ?_ (by omega) (by omega)
      rcases Nat.lt_or_ge w v with z | z
      · exact z
      · have : w = v := by omega
        rw [this] at c
        exact absurd hv c
theorem wrd_some {v : Nat} (hv8 : v < 8) (hv : isW n t p (ltrP n t p) v) : wrdP n t p = .inr (v, ltrP n t p) := by
  unfold wrdP
  rw [wrdS_some hv 8 0 (by omega) (by omega) (by omega)]
theorem wrd_none (h : ∀ v, v < 8 → ¬ isW n t p (ltrP n t p) v) : wrdP n t p = .inl p := by
  unfold wrdP
  rw [wrdS_none 8 0 (fun v _ h2 => h v (by omega))]
theorem c_byteX {a : Int} {j : Nat} (ha : a = j) (hS : TC n t p f σ) (hn : n ≤ 90) (h : Φ (byT n t j) σ) : FX9_byteAt a σ Φ := by
  unfold FX9_byteAt
  unfold byT at h
  subst ha
  rw [hS.1]
  refine ⟨fun c => by omega, fun _ => ⟨fun c => ?_, fun c => ⟨fun c2 => by omega, fun _ => ⟨⟨by omega, by omega⟩, ?_⟩⟩⟩⟩
  · rw [if_neg (by omega)] at h; exact h
  · rw [if_pos (by omega)] at h
    rw [show ((j : Nat) : Int).toNat = j by omega, hS.2.1 j (by omega)]; exact h
theorem c_isWord {p0 k : Nat} (hk : k < 8) (hS : TC n t p f σ) (hn : n ≤ 90) (hp : p0 ≤ p) (h1 : isW n t p0 p (clN k) → Φ 1 σ) (h0 : ¬ isW n t p0 p (clN k) → Φ 0 σ) : FX2_isWord p0 k σ Φ := by
  have hpn := hS.2.2.2.2
  have T := tabC k hk
  have ek : ((k : Nat) : Int).toNat = k := by omega
  have hl := (tabL (clN k) (clN_lt k hk).1).1
  unfold FX2_isWord
  rw [hS.2.2.1, ek, T.1]
  refine ⟨⟨by omega, by omega⟩, by omega, fun c => ?_, fun c => h0 (fun z => c (by have := z.1; omega))⟩
  refine ⟨(nmL (clN k)).length + 1, ?_⟩
  have loop : ∀ (f i : Nat), i ≤ (nmL (clN k)).length → (nmL (clN k)).length - i < f → (∀ j, j < i → byT n t (p0 + j) = (nmL (clN k)).getD j 0) → LX2_isWord_17 f p0 k i σ Φ := by
    intro f
    induction f with
    | zero => intro i h1 h2; omega
    | succ f ih =>
      intro i hi hf hall
      unfold LX2_isWord_17 BX2_isWord_17
      rw [ek, T.1]
      refine ⟨by omega, fun c2 => h1 ⟨by omega, fun j hj => hall j (by omega)⟩, fun c2 => ⟨⟨by omega, by omega⟩, ?_⟩⟩
      refine c_byteX (j := p0 + i) (by omega) hS hn ⟨⟨by omega, by omega, by omega⟩, fun c3 => ⟨⟨by omega, by omega⟩, ?_⟩, fun c3 => h0 (fun z => c3 ?_)⟩
      · rw [show ((i : Nat) : Int).toNat = i by omega, T.2 i (by omega)] at c3
        have := ih (i + 1) (by omega) (by omega) (fun j hj => by
          by_cases e : j = i
          · rw [e]; exact c3
          · exact hall j (by omega))
        rw [show ((i : Nat) : Int) + 1 = ((i + 1 : Nat) : Int) by omega]
        exact this
      · rw [show ((i : Nat) : Int).toNat = i by omega, T.2 i (by omega)]
        exact z.2 i (by omega)
  exact loop _ 0 (by omega) (by omega) (fun j hj => by omega)
theorem c_nameOf {k : Nat} (hk : k < 8) (h : Φ k σ) : FX2_nameOf k σ Φ := by
  unfold FX2_nameOf
  refine ⟨fun c => ?_, fun c => ?_, fun c => ?_, fun c => ?_, fun c => ?_, fun c => ?_, fun c => ?_, fun c => ?_⟩
  · rw [c] at h; exact h
  · rw [c] at h; exact h
  · rw [c] at h; exact h
  · rw [c] at h; exact h
  · rw [c] at h; exact h
  · rw [c] at h; exact h
  · rw [c] at h; exact h
  · have e : (k : Int) = 7 := by omega
    rw [e] at h; exact h
theorem c_takeWord (hS : TC n t p (-1) σ) (ht : okt n t) (h1 : ∀ (w p' : Nat) (σ' : PS), w < 8 → wrdP n t p = .inr (w, p') → Off [9] σ σ' → TC n t p' (-1) σ' → Φ ((clN w : Nat) : Int) σ') (h0 : ∀ (p' : Nat) (σ' : PS), wrdP n t p = .inl p → Off [9] σ σ' → TC n t p' p σ' → Φ (-1) σ') : FX2_takeWord σ Φ := by
  have hn := ht.1
  have hp := hS.2.2.2.2
  obtain ⟨⟨l1, l2⟩, _⟩ := ltrP_is ht hp
  unfold FX2_takeWord
  intro v1 g1
  rw [hS.2.2.1] at g1
  subst g1
  refine ⟨92, ?_⟩
  have fin : ∀ σ' : PS, Off [9] σ σ' → TC n t (ltrP n t p) (-1) σ' → LX2_takeWord_55 p σ' Φ := fun σ' o' S' => by
    unfold LX2_takeWord_55
    refine ⟨9, ?_⟩
    have loop : ∀ (f k : Nat), k ≤ 8 → 8 - k < f → (∀ j, j < k → ¬ isW n t p (ltrP n t p) (clN j)) → LX2_takeWord_57 f p k σ' Φ := by
      intro f
      induction f with
      | zero => intro k h1 h2; omega
      | succ f ih =>
        intro k hk hf hall
        unfold LX2_takeWord_57 BX2_takeWord_57
        refine ⟨fun c => ?_, fun c => ?_⟩
        · refine c_fail S' (fun z => by omega) (fun _ σ2 o2 S2 => h0 _ σ2 (wrd_none (fun v hv => ?_)) (o'.trans o2) S2)
          have := hall (clN v) (by have := (clN_lt v hv).1; omega)
          rw [(clN_lt v hv).2] at this
          exact this
        · refine c_nameOf (by omega) (c_isWord (by omega) S' hn l1 (fun hw => ⟨fun z => by omega, fun _ => ?_⟩) (fun hw => ⟨fun _ => ⟨⟨by omega, by omega⟩, ?_⟩, fun z => absurd rfl z⟩))
          · have hk8 := clN_lt k (by omega)
            have := h1 (clN k) (ltrP n t p) σ' hk8.1 (wrd_some hk8.1 hw) o' S'
            rw [hk8.2] at this
            exact this
          · have := ih (k + 1) (by omega) (by omega) (fun j hj => by
              by_cases e : j = k
              · rw [e]; exact hw
              · exact hall j (by omega))
            rw [show ((k : Nat) : Int) + 1 = ((k + 1 : Nat) : Int) by omega]
            exact this
    exact loop 9 0 (by omega) (by omega) (fun j hj => by omega)
  have loop : ∀ (f k : Nat) (σ' : PS), k ≤ 90 → 90 - k < f → ltrL n t (90 - k) (p + k) = ltrP n t p → Off [9] σ σ' → TC n t (p + k) (-1) σ' → LX2_takeWord_7 f p k σ' Φ := by
    intro f
    induction f with
    | zero => intro k σ' h1 h2; omega
    | succ f ih =>
      intro k σ' hk hf he o' S'
      unfold LX2_takeWord_7 BX2_takeWord_7
      refine ⟨fun c => ?_, fun c => ?_⟩
      · rw [show 90 - k = 0 by omega] at he
        have he : p + k = ltrP n t p := he
        rw [he] at S'
        exact fin σ' o' S'
      · obtain ⟨j, hj⟩ : ∃ j, 90 - k = j + 1 := ⟨90 - k - 1, by omega⟩
        rw [hj, ltrL] at he
        have stop : ¬ (97 ≤ byT n t (p + k) ∧ byT n t (p + k) ≤ 122) → LX2_takeWord_55 p σ' Φ := fun z => by
          rw [if_neg z] at he
          rw [he] at S'
          exact fin σ' o' S'
        refine c_byteAt S' hn ⟨fun c1 => stop (by omega), fun c1 => c_byteAt S' hn ⟨fun c2 => stop (by omega), fun c2 => ?_⟩⟩
        have hl : 97 ≤ byT n t (p + k) ∧ byT n t (p + k) ≤ 122 := ⟨by omega, by omega⟩
        have hlt := (by_rng ht (p + k)).2.2 (by omega)
        rw [if_pos hl] at he
        rw [S'.2.2.1]
        refine ⟨⟨by omega, by omega⟩, fun σ9 g9 => ⟨⟨by omega, by omega⟩, ?_⟩⟩
        have := ih (k + 1) σ9 (by omega) (by omega) (by rw [show 90 - (k + 1) = j by omega]; exact he) (o'.trans (by rw [g9]; exact Off.rf.up (by simp))) (S'.at (i := 0) (v := 0) (p' := p + (k + 1)) (by rw [g9, up2_row (by omega)]) (by rw [g9, up2_ni (by omega)]) (by rw [g9, up2_at]; omega) (by rw [g9, up2_ni (by omega)]; exact S'.2.2.2.1) (by omega))
        rw [show ((k : Nat) : Int) + 1 = ((k + 1 : Nat) : Int) by omega]
        exact this
  exact loop 92 0 σ (by omega) (by omega) rfl Off.rf hS
end Cond
