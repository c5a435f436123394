/-- what follows a part that was read -/
def NEr {α : Type} (P : Nat → Prop) (x : Sum Nat (α × Nat)) : Prop := match x with
  | .inl _ => True
  | .inr a => P a.2
theorem ne_tl {n : Nat} {t : Nat → Int} {c : Int} {op : Bool → Bool → Bool} {Q : Nat → Sum Nat ((Nat → Bool) × Nat)} {P : Nat → Prop} (hQ : ∀ p, NEr P (Q p)) : ∀ (f : Nat) (v : Nat → Bool) (p : Nat), P p → NEr (fun p' => P p' ∧ byT n t p' ≠ c) (tlP n t c op Q f v p) := by
  intro f
  induction f with
  | zero => intro v p _; exact trivial
  | succ f ih =>
    intro v p hp
    rw [tlP]
    by_cases q : byT n t p = c
    · rw [if_pos q]
      have := hQ (p + 1)
      cases hq : Q (p + 1) with
      | inl z => exact trivial
      | inr a =>
        rw [hq] at this
        exact ih _ _ this
    · rw [if_neg q]; exact ⟨hp, q⟩
theorem ne_1 {n : Nat} {t : Nat → Int} {b : Bk} {x : Nat → Int} (d dep p : Nat) : NEr (fun p' => byT n t p' ≠ 38) (parC n t b x d 1 dep p) := by
  cases d with
  | zero => exact trivial
  | succ d =>
    rw [parC]
    cases parC n t b x d 2 dep p with
    | inl z => exact trivial
    | inr a =>
      have := ne_tl (n := n) (t := t) (c := 38) (op := and) (Q := parC n t b x d 2 dep) (P := fun _ => True) (fun p => by cases parC n t b x d 2 dep p <;> exact trivial) 91 a.1 a.2 trivial
      show NEr _ (tlP n t 38 and (parC n t b x d 2 dep) 91 a.1 a.2)
      cases hq : tlP n t 38 and (parC n t b x d 2 dep) 91 a.1 a.2 with
      | inl z => exact trivial
      | inr r => rw [hq] at this; exact this.2
theorem ne_0 {n : Nat} {t : Nat → Int} {b : Bk} {x : Nat → Int} (d dep p : Nat) : NEr (fun p' => byT n t p' ≠ 38 ∧ byT n t p' ≠ 124) (parC n t b x d 0 dep p) := by
  cases d with
  | zero => exact trivial
  | succ d =>
    rw [parC]
    have h1 := ne_1 (n := n) (t := t) (b := b) (x := x) d dep p
    cases hp : parC n t b x d 1 dep p with
    | inl z => exact trivial
    | inr a =>
      rw [hp] at h1
      exact ne_tl (c := 124) (op := or) (fun p => ne_1 d dep p) 91 a.1 a.2 h1
abbrev OC : List Nat := [9, 10, 58, 59, 60]
section Cond6
variable {b : Bk} {n p dep x5 f : Nat} {t : Nat → Int} {x : Nat → Int} {σ : PS} {Φ : Int → PS → Prop}
theorem oc9 {σ' : PS} (h : Off [9] σ σ') : Off OC σ σ' := h.mono (by simp)
theorem c_86F {q : Nat} (hS : TC n t p q σ) (h : LX2_holding_101 σ Φ) : LX2_holding_86 σ Φ := by
  unfold LX2_holding_86
  exact ⟨fun _ => h, fun _ => c_failB hS h⟩
theorem c_loopF {q : Nat} {due x5 : Int} (hf : 0 < f) (hS : TC n t p q σ) (h : LX2_holding_101 σ Φ) : LX2_holding_11 f due x5 σ Φ := by
  obtain ⟨f, rfl⟩ : ∃ j, f = j + 1 := ⟨f - 1, by omega⟩
  unfold LX2_holding_11 BX2_holding_11
  rw [hS.2.2.2.1]
  exact ⟨fun _ => c_86F hS h, fun _ => ⟨fun _ => c_86F hS h, fun c => by omega⟩⟩
theorem c_due0 (hS : TC n t p (-1) σ) (ht : okt n t) (hx : x5 ≤ p) (hf : 92 ≤ f + x5) (hE : ¬ p < n → LX2_holding_86 σ Φ) (hJ : p < n → ∀ f', f = f' + 1 → FX2_takeJoint σ (fun z5 σ6 => LX2_holding_11 f' z5 ((x5 + 1 : Nat) : Int) σ6 Φ)) : LX2_holding_11 f 0 x5 σ Φ := by
  have hn := ht.1
  have hp := hS.2.2.2.2
  obtain ⟨f, rfl⟩ : ∃ j, f = j + 1 := ⟨f - 1, by omega⟩
  unfold LX2_holding_11 BX2_holding_11
  rw [hS.2.2.2.1]
  refine ⟨fun c => by omega, fun _ => ⟨fun c => by omega, fun _ => ⟨fun _ => ?_, fun c => absurd rfl c⟩⟩⟩
  unfold LX2_holding_41
  refine ⟨fun _ => ?_, fun c => absurd rfl c⟩
  unfold FX9_isAtEnd
  rw [hS.1, hS.2.2.1]
  refine ⟨fun c => ⟨fun _ => ?_, fun z => absurd rfl z⟩, fun c => ⟨fun z => by omega, fun _ => hE (by omega)⟩⟩
  have := hJ (by omega) f rfl
  unfold LX2_holding_80
  have e : (x5 : Int) + 1 = ((x5 + 1 : Nat) : Int) := by omega
  rw [e]
  have r : Rg ((x5 + 1 : Nat) : Int) := ⟨by omega, by omega⟩
  have mono : (fun (z5 : Int) (σ6 : PS) => Rg ((x5 + 1 : Nat) : Int) ∧ LX2_holding_11 f z5 ((x5 + 1 : Nat) : Int) σ6 Φ) = (fun z5 σ6 => LX2_holding_11 f z5 ((x5 + 1 : Nat) : Int) σ6 Φ) := by
    funext z5 σ6
    exact propext ⟨fun h => h.2, fun h => ⟨r, h⟩⟩
  rw [mono]
  exact this
theorem c_jAnd (hS : TC n t p (-1) σ) (ht : okt n t) (e : byT n t p = 38) (h : ∀ σ' : PS, Off [9] σ σ' → TC n t (p + 1) (-1) σ' → Φ 1 σ') : FX2_takeJoint σ Φ := by
  unfold FX2_takeJoint
  exact c_takes hS ht (by omega) (fun σ' _ o' S' => ⟨fun z => by omega, fun _ => h σ' o' S'⟩) (fun c => absurd e c)
theorem c_jOr (hS : TC n t p (-1) σ) (ht : okt n t) (e : byT n t p = 124) (hd : σ 10 3 = (dep : Int)) (h5 : dep ≤ 5) (h : ∀ σ' : PS, Off OC σ σ' → TC n t (p + 1) (-1) σ' → σ' 10 = σ 10 → σ' 58 = up2 σ 58 dep (ior (σ 58 dep) (σ 59 dep)) 58 → σ' 59 = up2 σ 59 dep (-1) 59 → σ' 60 = σ 60 → Φ 1 σ') : FX2_takeJoint σ Φ := by
  unfold FX2_takeJoint
  refine c_takes hS ht (by omega) (fun _ c _ _ => by omega) (fun _ => ⟨fun _ => ?_, fun z => absurd rfl z⟩)
  refine c_takes hS ht (by omega) (fun σ5 _ o5 S5 => ⟨fun z => by omega, fun _ => ?_⟩) (fun c => absurd e c)
  have e5 : σ5 10 3 = (dep : Int) := by rw [o5 10 (by simp)]; exact hd
  have ed : ((dep : Nat) : Int).toNat = dep := by omega
  rw [e5, ed]
  refine ⟨⟨by omega, by omega⟩, ⟨by omega, by omega⟩, ⟨by omega, by omega⟩, fun σ21 g21 => ?_⟩
  have e21 : σ21 10 3 = (dep : Int) := by rw [g21, up2_nk (by omega)]; exact e5
  rw [e21, ed]
  refine ⟨⟨by omega, by omega⟩, fun σ23 g23 => h σ23 ?_ (S5.off (ks := [58, 59]) ?_ (by simp) (by simp)) ?_ ?_ ?_ ?_⟩
  · rw [g23, g21]
    exact ((oc9 o5).up (by simp)).up (by simp)
  · rw [g23, g21]
    exact (Off.rf.up (by simp)).up (by simp)
  · rw [g23, up2_row (by omega), g21, up2_row (by omega)]; exact o5 10 (by simp)
  · rw [g23, up2_row (by omega), g21, o5 58 (by simp), o5 59 (by simp)]
    funext i
    unfold up2
    rw [o5 58 (by simp)]
  · rw [g23, g21]
    funext i
    unfold up2
    rw [if_neg (show ¬ (59 = 58 ∧ i = dep) by omega), o5 59 (by simp)]
  · rw [g23, up2_row (by omega), g21, up2_row (by omega)]; exact o5 60 (by simp)
/-- one more part behind the &s -/
theorem c_put {bits : Int} (hd : σ 10 3 = (dep : Int)) (h5 : dep ≤ 5) (hb : bn b ≤ 30) (h01 : σ 60 dep = 0 ∨ σ 60 dep = 1) (h : ∀ σ' : PS, Off [59, 60] σ σ' → (∀ i, i ≠ dep → σ' 59 i = σ 59 i ∧ σ' 60 i = σ 60 i) → σ' 60 dep = 0 → (∀ e, e < bn b → tb (σ' 59 dep) e = (tb (σ 59 dep) e && (tb bits e != decide (σ 60 dep = 1)))) → Φ 0 σ') : FX2_putPart bits σ Φ := by
  have ed : ((dep : Nat) : Int).toNat = dep := by omega
  have fin : ∀ s3 : Int, (∀ e, e < bn b → tb s3 e = (tb bits e != decide (σ 60 dep = 1))) → LX2_putPart_30 dep (σ 59 dep) s3 σ Φ := fun s3 h3 => by
    unfold LX2_putPart_30
    rw [ed]
    refine ⟨⟨by omega, by omega⟩, fun σ2 g2 => ?_⟩
    have e2 : σ2 10 3 = (dep : Int) := by rw [g2, up2_nk (by omega)]; exact hd
    rw [e2, ed]
    refine ⟨⟨by omega, by omega⟩, fun σ4 g4 => h σ4 ?_ (fun i hi => ⟨?_, ?_⟩) ?_ (fun e he => ?_)⟩
    · rw [g4, g2]; exact (Off.rf.up (by simp)).up (by simp)
    · rw [g4, up2_nk (by omega), g2, up2_ni hi]
    · rw [g4, up2_ni hi, g2, up2_nk (by omega)]
    · rw [g4, up2_at]
    · rw [g4, up2_nk (by omega), g2, up2_at, bt_and, h3 e he]
  unfold FX2_putPart
  rw [hd, ed]
  refine ⟨⟨by omega, by omega⟩, ⟨by omega, by omega⟩, fun c => fin _ (fun e he => ?_), fun c => fin _ (fun e he => ?_)⟩
  · rw [decide_eq_false c]; cases tb bits e <;> rfl
  · rw [bt_not (by omega), decide_eq_true c]; cases tb bits e <;> rfl
theorem c_jEnd (hS : TC n t p (-1) σ) (ht : okt n t) (e : byT n t p = 41) (hd : σ 10 3 = ((dep + 1 : Nat) : Int)) (h5 : dep < 5) (hb : bn b ≤ 30) (h01 : σ 60 dep = 0 ∨ σ 60 dep = 1) (h : ∀ σ' : PS, Off OC σ σ' → TC n t (p + 1) (-1) σ' → σ' 10 3 = (dep : Int) → σ' 58 = σ 58 → (∀ i, i ≠ dep → σ' 59 i = σ 59 i ∧ σ' 60 i = σ 60 i) → σ' 60 dep = 0 → (∀ e, e < bn b → tb (σ' 59 dep) e = (tb (σ 59 dep) e && ((tb (σ 58 (dep + 1)) e || tb (σ 59 (dep + 1)) e) != decide (σ 60 dep = 1)))) → Φ 0 σ') : FX2_takeJoint σ Φ := by
  unfold FX2_takeJoint
  refine c_takes hS ht (by omega) (fun _ c _ _ => by omega) (fun _ => ⟨fun _ => ?_, fun z => absurd rfl z⟩)
  refine c_takes hS ht (by omega) (fun _ c _ _ => by omega) (fun _ => ⟨fun _ => ?_, fun z => absurd rfl z⟩)
  rw [hd]
  refine ⟨fun c => by omega, fun _ => ?_⟩
  refine c_takes hS ht (by omega) (fun σ9 _ o9' S9 => ⟨fun z => by omega, fun _ => ?_⟩) (fun c => absurd e c)
  have e9 : σ9 10 3 = ((dep + 1 : Nat) : Int) := by rw [o9' 10 (by simp)]; exact hd
  have ed : ((dep + 1 : Nat) : Int).toNat = dep + 1 := by omega
  rw [e9, ed]
  refine ⟨⟨by omega, by omega⟩, ⟨by omega, by omega⟩, fun v13 g13 => ⟨⟨by omega, by omega⟩, fun σ15 g15 => ?_⟩⟩
  have r : ∀ k, k ≠ 9 → k ≠ 10 → σ15 k = σ k := fun k h9 h10 => by rw [g15, up2_row h10]; exact o9' k (by simp; omega)
  refine c_put (b := b) (dep := dep) (by rw [g15, up2_at]; omega) (by omega) hb (by rw [r 60 (by omega) (by omega)]; exact h01) (fun σ' o' k1 k2 k3 => h σ' ?_ ?_ ?_ ?_ (fun i hi => ?_) k2 (fun e2 he2 => ?_))
  · have : Off OC σ σ15 := by rw [g15]; exact (oc9 o9').up (by simp)
    exact this.trans (o'.mono (by simp))
  · have S15 : TC n t (p + 1) (-1) σ15 := S9.off (ks := [10]) (by rw [g15]; exact Off.rf.up (by simp)) (by simp) (by simp)
    exact S15.off o' (by simp) (by simp)
  · rw [o' 10 (by simp), g15, up2_at]; omega
  · rw [o' 58 (by simp), r 58 (by omega) (by omega)]
  · have := k1 i hi
    rw [r 59 (by omega) (by omega), r 60 (by omega) (by omega)] at this
    exact this
  · have := k3 e2 he2
    rw [r 59 (by omega) (by omega), r 60 (by omega) (by omega), g13, bt_or, o9' 58 (by simp), o9' 59 (by simp)] at this
    exact this
theorem c_jBad (hS : TC n t p (-1) σ) (ht : okt n t) (e1 : byT n t p ≠ 38) (e2 : byT n t p ≠ 124) (hd : σ 10 3 = (dep : Int)) (e3 : dep = 0 ∨ byT n t p ≠ 41) (h : ∀ σ' : PS, Off [9] σ σ' → TC n t p p σ' → Φ 0 σ') : FX2_takeJoint σ Φ := by
  have bad : LX2_takeJoint_107 σ Φ := by
    unfold LX2_takeJoint_107
    rw [hS.2.2.1]
    exact c_fail hS (fun z => by omega) (fun _ σ' o' S' => h σ' o' S')
  unfold FX2_takeJoint
  refine c_takes hS ht (by omega) (fun _ c _ _ => absurd c e1) (fun _ => ⟨fun _ => ?_, fun z => absurd rfl z⟩)
  refine c_takes hS ht (by omega) (fun _ c _ _ => absurd c e2) (fun _ => ⟨fun _ => ?_, fun z => absurd rfl z⟩)
  rw [hd]
  refine ⟨fun _ => bad, fun c => ?_⟩
  exact c_takes hS ht (by omega) (fun _ c2 _ _ => absurd c2 (by omega)) (fun _ => ⟨fun _ => bad, fun z => absurd rfl z⟩)
/-- a bracket begins -/
theorem c_begB {a : Int} (ha : a = (dep : Int)) (h5 : dep ≤ 5) (h : ∀ σ' : PS, Off [10, 58, 59, 60] σ σ' → σ' 10 3 = (dep : Int) → (∀ i, i ≠ dep → σ' 58 i = σ 58 i ∧ σ' 59 i = σ 59 i ∧ σ' 60 i = σ 60 i) → σ' 58 dep = 0 → σ' 59 dep = -1 → σ' 60 dep = 0 → Φ 0 σ') : FX2_openBracket a σ Φ := by
  unfold FX2_openBracket
  intro σ1 g1
  subst ha
  have ed : ((dep : Nat) : Int).toNat = dep := by omega
  have e1 : σ1 10 3 = (dep : Int) := by rw [g1, up2_at]; omega
  rw [e1, ed]
  refine ⟨⟨by omega, by omega⟩, fun σ3 g3 => ?_⟩
  have e3 : σ3 10 3 = (dep : Int) := by rw [g3, up2_nk (by omega)]; exact e1
  rw [e3, ed]
  refine ⟨⟨by omega, by omega⟩, fun σ5 g5 => ?_⟩
  have e5 : σ5 10 3 = (dep : Int) := by rw [g5, up2_nk (by omega)]; exact e3
  rw [e5, ed]
  refine ⟨⟨by omega, by omega⟩, fun σ7 g7 => h σ7 ?_ ?_ (fun i hi => ⟨?_, ?_, ?_⟩) ?_ ?_ ?_⟩
  · rw [g7, g5, g3, g1]
    exact (((Off.rf.up (by simp)).up (by simp)).up (by simp)).up (by simp)
  · rw [g7, up2_nk (by omega)]; exact e5
  · rw [g7, up2_nk (by omega), g5, up2_nk (by omega), g3, up2_ni hi, g1, up2_nk (by omega)]
  · rw [g7, up2_nk (by omega), g5, up2_ni hi, g3, up2_nk (by omega), g1, up2_nk (by omega)]
  · rw [g7, up2_ni hi, g5, up2_nk (by omega), g3, up2_nk (by omega), g1, up2_nk (by omega)]
  · rw [g7, up2_nk (by omega), g5, up2_nk (by omega), g3, up2_at]
  · rw [g7, up2_nk (by omega), g5, up2_at]
  · rw [g7, up2_at]
end Cond6
