theorem gt_cmp {n p : Nat} {t : Nat → Int} : GEr (p + 1) (fun r : (Nat × Int × Int) × Nat => r.2) (cmpP n t p) := by
  have hw : GEr p (fun r : Nat × Nat => r.2) (wrdP n t p) := by
    unfold wrdP
    cases wrdS n t p (ltrP n t p) 8 0 with
    | none => exact trivial
    | some w => exact ltrL_ge _ _
  unfold cmpP
  cases hq : wrdP n t p with
  | inl z => exact trivial
  | inr w =>
    rw [hq] at hw
    have hw : p ≤ w.2 := hw
    refine ge_bnd (pos := fun r : Int × Nat => r.2) ?_ (fun s hs => ge_bnd (pos := fun r : Int × Nat => r.2) ?_ (fun v hv => hv))
    · unfold sgnP
      by_cases q : byT n t w.2 = 60 ∨ byT n t w.2 = 61 ∨ byT n t w.2 = 62
      · rw [if_pos q]; show p + 1 ≤ w.2 + 1; omega
      · rw [if_neg q]; exact trivial
    · refine ge_less (q := s.2) ?_ hs
      refine ge_bnd (pos := fun r : Int × Nat => r.2) ?_ (fun a ha => ?_)
      · unfold numP
        by_cases q : (nuP n t s.2).1 = s.2
        · rw [if_pos q]; exact trivial
        · rw [if_neg q]; exact nuL_ge _ _ _
      · by_cases q : 0 ≤ a.1 ∧ a.1 ≤ 999 ∧ a.1 ≠ -1
        · rw [if_pos q]; exact ha
        · rw [if_neg q]; exact trivial
def PRE (b : Bk) (k dep : Nat) (σ : PS) : Prop := (σ 60 dep = 0 ∨ σ 60 dep = 1) ∧ (k ≤ 1 → σ 60 dep = 0) ∧ (k = 0 → ∀ e, e < bn b → tb (σ 59 dep) e = true)
def LOW (dep : Nat) (σ σ' : PS) : Prop := σ' 10 3 = (dep : Int) ∧ (∀ i, i < dep → σ' 58 i = σ 58 i ∧ σ' 59 i = σ 59 i ∧ σ' 60 i = σ 60 i) ∧ σ' 60 dep = 0
def RE2 (b : Bk) (dep : Nat) (v : Nat → Bool) (σ σ' : PS) : Prop := ∀ e, e < bn b → tb (σ' 58 dep) e = tb (σ 58 dep) e ∧ tb (σ' 59 dep) e = (tb (σ 59 dep) e && (v e != decide (σ 60 dep = 1)))
def RE0 (b : Bk) (dep : Nat) (v : Nat → Bool) (σ σ' : PS) : Prop := ∀ e, e < bn b → (tb (σ' 58 dep) e || tb (σ' 59 dep) e) = (tb (σ 58 dep) e || v e)
def RES (b : Bk) (k dep : Nat) (v : Nat → Bool) (σ σ' : PS) : Prop := (k = 0 → RE0 b dep v σ σ') ∧ (¬ k = 0 → RE2 b dep v σ σ')
def HB (b : Bk) (x : Nat → Int) (σ : PS) : Prop := cB 1 13 b σ ∧ ∀ e, e < bn b → σ 25 e = x e
theorem HB.off {b : Bk} {x : Nat → Int} {σ σ' : PS} (h : HB b x σ) (o : Off OC σ σ') : HB b x σ' := ⟨h.1.off o (by simp) (fun w hw => by simp; omega), fun e he => by rw [o 25 (by simp)]; exact h.2 e he⟩
theorem LOW.trans {dep : Nat} {a c e : PS} (h : ∀ i, i < dep → c 58 i = a 58 i ∧ c 59 i = a 59 i ∧ c 60 i = a 60 i) (g : LOW dep c e) : LOW dep a e := ⟨g.1, fun i hi => ⟨(g.2.1 i hi).1.trans (h i hi).1, (g.2.1 i hi).2.1.trans (h i hi).2.1, (g.2.1 i hi).2.2.trans (h i hi).2.2⟩, g.2.2⟩
theorem low_of {dep : Nat} {ks : List Nat} {a c : PS} (o : Off ks a c) (h58 : 58 ∉ ks) (h59 : 59 ∉ ks) (h60 : 60 ∉ ks) : ∀ i, i < dep → c 58 i = a 58 i ∧ c 59 i = a 59 i ∧ c 60 i = a 60 i := fun i _ => ⟨by rw [o 58 h58], by rw [o 59 h59], by rw [o 60 h60]⟩
theorem all_m1 {e : Nat} (he : e < 32) : tb (-1) e = true := by
  have := bt_not (a := 0) he
  rw [bt_0, show ixor 0 (-1) = -1 by decide +kernel] at this
  exact this
section Cond7
variable {b : Bk} {n : Nat} {t : Nat → Int} {x : Nat → Int} {Φ : Int → PS → Prop}
theorem c_par (hb : okB b) (hx : ∀ e, e < bn b → 0 ≤ x e ∧ x e ≤ 999) (ht : okt n t) : ∀ (d k dep p f x5 : Nat) (σ : PS), k ≤ 2 → dep ≤ 5 → 3 * (5 - dep) + (2 - k) + (n - p) < d → TC n t p (-1) σ → HB b x σ → σ 10 3 = (dep : Int) → PRE b k dep σ → x5 ≤ p → 92 ≤ f + x5 → (∀ (v : Nat → Bool) (p' f' x5' : Nat) (σ' : PS), parC n t b x d k dep p = .inr (v, p') → Off OC σ σ' → TC n t p' (-1) σ' → LOW dep σ σ' → RES b k dep v σ σ' → x5' ≤ p' → 92 ≤ f' + x5' → LX2_holding_11 f' 0 x5' σ' Φ) → (∀ (q p' : Nat) (σ' : PS), parC n t b x d k dep p = .inl q → Off OC σ σ' → TC n t p' q σ' → LX2_holding_101 σ' Φ) → LX2_holding_11 f 1 x5 σ Φ := by
  have hn90 := ht.1
  intro d
  induction d with
  | zero => intro k dep p f x5 σ _ _ h; omega
  | succ d ih =>
    intro k dep p f x5 σ hk hd hf hS hH h10 hP hx5 hf5 h1 h0
    have hpn := hS.2.2.2.2
    rcases (show k = 0 ∨ k = 1 ∨ k = 2 by omega) with z | z | z <;> subst z
    · -- parts behind |
      have tail : ∀ (f2 : Nat) (v : Nat → Bool) (p2 f3 x3 : Nat) (σ2 : PS), p ≤ p2 → 91 ≤ f2 + p2 → Off OC σ σ2 → TC n t p2 (-1) σ2 → LOW dep σ σ2 → RE0 b dep v σ σ2 → x3 ≤ p2 → 92 ≤ f3 + x3 → parC n t b x (d + 1) 0 dep p = tlP n t 124 or (parC n t b x d 1 dep) f2 v p2 → LX2_holding_11 f3 0 x3 σ2 Φ := by
        intro f2
        induction f2 with
        | zero =>
          intro v p2 f3 x3 σ2 hp hf o2 S2
          have := S2.2.2.2.2
          omega
        | succ f2 ih2 =>
          intro v p2 f3 x3 σ2 hp hf2 o2 S2 l2 r2 hx3 hf3 hK
          have hp2 := S2.2.2.2.2
          rw [tlP] at hK
          by_cases e3 : byT n t p2 = 124
          · rw [if_pos e3] at hK
            have hlt := (by_rng ht p2).2.2 (by omega)
            refine c_due0 S2 ht hx3 hf3 (fun c => absurd hlt c) (fun _ f4 hf4 => c_jOr S2 ht e3 l2.1 hd (fun σ3 o3 S3 k10 k58 k59 k60 => ?_))
            have low3 : ∀ i, i < dep → σ3 58 i = σ2 58 i ∧ σ3 59 i = σ2 59 i ∧ σ3 60 i = σ2 60 i := fun i hi => ⟨by rw [k58, up2_ni (by omega)], by rw [k59, up2_ni (by omega)], by rw [k60]⟩
            have a58 : σ3 58 dep = ior (σ2 58 dep) (σ2 59 dep) := by rw [k58, up2_at]
            have a59 : σ3 59 dep = -1 := by rw [k59, up2_at]
            have a60 : σ3 60 dep = 0 := by rw [k60]; exact l2.2.2
            have o23 : Off OC σ σ3 := o2.trans o3
            refine ih 1 dep (p2 + 1) f4 (x3 + 1) σ3 (by omega) hd (by omega) S3 (hH.off o23) (by rw [k10]; exact l2.1) ⟨Or.inl a60, fun _ => a60, fun c => by omega⟩ (by omega) (by omega) (fun v4 p4 f5 x4 σ4 e4 o4 S4 l4 r4 hx4 hf5' => ?_) (fun q p4 σ4 e4 o4 S4 => ?_)
            · have hge := ge_parC (n := n) (t := t) (b := b) (x := x) d 1 dep (p2 + 1)
              rw [e4] at hK hge
              have hge : p2 + 1 ≤ p4 := hge
              refine ih2 (fun e => or (v e) (v4 e)) p4 f5 x4 σ4 (by omega) (by omega) (o23.trans o4) S4 (LOW.trans (fun i hi => ⟨(low3 i hi).1.trans (l2.2.1 i hi).1, (low3 i hi).2.1.trans (l2.2.1 i hi).2.1, (low3 i hi).2.2.trans (l2.2.1 i hi).2.2⟩) l4) (fun e he => ?_) hx4 hf5' hK
              have c1 := r4.2 (by omega) e he
              have c2 := r2 e he
              rw [a58, a59, a60, bt_or, c2, all_m1 (by have := hb.1; omega), decide_eq_false (by omega)] at c1
              rw [c1.1, c1.2]
              show _ = (tb (σ 58 dep) e || (v e || v4 e))
              generalize tb (σ 58 dep) e = u1
              generalize v e = u2
              generalize v4 e = u3
              cases u1 <;> cases u2 <;> cases u3 <;> rfl
            · rw [e4] at hK
              exact h0 q p4 σ4 hK (o23.trans o4) S4
          · rw [if_neg e3] at hK
            exact h1 v p2 f3 x3 σ2 hK o2 S2 l2 ⟨fun _ => r2, fun c => absurd rfl c⟩ hx3 hf3
      refine ih 1 dep p f x5 σ (by omega) hd (by omega) hS hH h10 ⟨hP.1, fun _ => hP.2.1 (by omega), fun c => by omega⟩ hx5 hf5 (fun v p2 f3 x3 σ2 e2 o2 S2 l2 r2 hx3 hf3 => ?_) (fun q p2 σ2 e2 o2 S2 => ?_)
      · have hge := ge_parC (n := n) (t := t) (b := b) (x := x) d 1 dep p
        rw [e2] at hge
        have hge : p ≤ p2 := hge
        refine tail 91 v p2 f3 x3 σ2 hge (by omega) o2 S2 l2 (fun e he => ?_) hx3 hf3 ?_
        · have c1 := r2.2 (by omega) e he
          rw [hP.2.2 rfl e he, hP.2.1 (by omega), decide_eq_false (by omega)] at c1
          rw [c1.1, c1.2]
          cases v e <;> rfl
        · rw [parC, e2]
          rfl
      · refine h0 q p2 σ2 ?_ o2 S2
        rw [parC, e2]
        rfl
    · -- parts behind &
      have z60 : σ 60 dep = 0 := hP.2.1 (by omega)
      have tail : ∀ (f2 : Nat) (v : Nat → Bool) (p2 f3 x3 : Nat) (σ2 : PS), p ≤ p2 → 91 ≤ f2 + p2 → Off OC σ σ2 → TC n t p2 (-1) σ2 → LOW dep σ σ2 → RE2 b dep v σ σ2 → x3 ≤ p2 → 92 ≤ f3 + x3 → parC n t b x (d + 1) 1 dep p = tlP n t 38 and (parC n t b x d 2 dep) f2 v p2 → LX2_holding_11 f3 0 x3 σ2 Φ := by
        intro f2
        induction f2 with
        | zero =>
          intro v p2 f3 x3 σ2 hp hf o2 S2
          have := S2.2.2.2.2
          omega
        | succ f2 ih2 =>
          intro v p2 f3 x3 σ2 hp hf2 o2 S2 l2 r2 hx3 hf3 hK
          have hp2 := S2.2.2.2.2
          rw [tlP] at hK
          by_cases e3 : byT n t p2 = 38
          · rw [if_pos e3] at hK
            have hlt := (by_rng ht p2).2.2 (by omega)
            refine c_due0 S2 ht hx3 hf3 (fun c => absurd hlt c) (fun _ f4 hf4 => c_jAnd S2 ht e3 (fun σ3 o3 S3 => ?_))
            have a60 : σ3 60 dep = 0 := by rw [o3 60 (by simp)]; exact l2.2.2
            have o23 : Off OC σ σ3 := o2.trans (oc9 o3)
            refine ih 2 dep (p2 + 1) f4 (x3 + 1) σ3 (by omega) hd (by omega) S3 (hH.off o23) (by rw [o3 10 (by simp)]; exact l2.1) ⟨Or.inl a60, fun _ => a60, fun c => by omega⟩ (by omega) (by omega) (fun v4 p4 f5 x4 σ4 e4 o4 S4 l4 r4 hx4 hf5' => ?_) (fun q p4 σ4 e4 o4 S4 => ?_)
            · have hge := ge_parC (n := n) (t := t) (b := b) (x := x) d 2 dep (p2 + 1)
              rw [e4] at hK hge
              have hge : p2 + 1 ≤ p4 := hge
              refine ih2 (fun e => and (v e) (v4 e)) p4 f5 x4 σ4 (by omega) (by omega) (o23.trans o4) S4 (LOW.trans (fun i hi => ?_) l4) (fun e he => ?_) hx4 hf5' hK
              · rw [o3 58 (by simp), o3 59 (by simp), o3 60 (by simp)]
                exact l2.2.1 i hi
              · have c1 := r4.2 (by omega) e he
                have c2 := r2 e he
                rw [a60, o3 58 (by simp), o3 59 (by simp), c2.1, c2.2, z60] at c1
                rw [c1.1, c1.2, z60]
                refine ⟨rfl, ?_⟩
                show _ = (tb (σ 59 dep) e && ((v e && v4 e) != _))
                rw [decide_eq_false (by omega)]
                generalize tb (σ 59 dep) e = u1
                generalize v e = u2
                generalize v4 e = u3
                cases u1 <;> cases u2 <;> cases u3 <;> rfl
            · rw [e4] at hK
              exact h0 q p4 σ4 hK (o23.trans o4) S4
          · rw [if_neg e3] at hK
            exact h1 v p2 f3 x3 σ2 hK o2 S2 l2 ⟨fun c => by omega, fun _ => r2⟩ hx3 hf3
      refine ih 2 dep p f x5 σ (by omega) hd (by omega) hS hH h10 ⟨hP.1, fun _ => z60, fun c => by omega⟩ hx5 hf5 (fun v p2 f3 x3 σ2 e2 o2 S2 l2 r2 hx3 hf3 => ?_) (fun q p2 σ2 e2 o2 S2 => ?_)
      · have hge := ge_parC (n := n) (t := t) (b := b) (x := x) d 2 dep p
        rw [e2] at hge
        have hge : p ≤ p2 := hge
        refine tail 91 v p2 f3 x3 σ2 hge (by omega) o2 S2 l2 (r2.2 (by omega)) hx3 hf3 ?_
        rw [parC, e2]
        rfl
      · refine h0 q p2 σ2 ?_ o2 S2
        rw [parC, e2]
        rfl
    · -- one part
      rw [parC] at h1 h0
      obtain ⟨f, rfl⟩ : ∃ j, f = j + 1 := ⟨f - 1, by omega⟩
      unfold LX2_holding_11 BX2_holding_11
      rw [hS.2.2.2.1]
      refine ⟨fun c => by omega, fun _ => ⟨fun c => by omega, fun _ => ⟨fun c => by omega, fun _ => ?_⟩⟩⟩
      have e5 : (x5 : Int) + 1 = ((x5 + 1 : Nat) : Int) := by omega
      have ed : ((dep : Nat) : Int).toNat = dep := by omega
      have cmp : byT n t p ≠ 33 → ¬ (byT n t p = 40 ∧ dep < 5) → LX2_holding_41 (fun x4 x5 σ => LX2_holding_11 f x4 x5 σ Φ) 1 x5 σ Φ := fun c1 c2 => by
        rw [if_neg c1, if_neg c2] at h1 h0
        unfold LX2_holding_41
        refine ⟨fun c => by omega, fun _ => ?_⟩
        refine c_cmp (hbx := hb) hS ht hH.1 hx hH.2 (fun c p' z σ' e o' S' hz => ?_) (fun q p' z σ' e o' S' => ?_)
        · refine c_put (b := b) (dep := dep) (by rw [o' 10 (by simp)]; exact h10) hd hb.1 (by rw [o' 60 (by simp)]; exact hP.1) (fun σ2 o2 k1 k2 k3 => ?_)
          have hge := gt_cmp (n := n) (t := t) (p := p)
          rw [e] at hge
          have hge : p + 1 ≤ p' := hge
          unfold LX2_holding_80
          rw [e5]
          refine ⟨⟨by omega, by omega⟩, h1 (soB b x c) p' f (x5 + 1) σ2 (by rw [e]; rfl) ((oc9 o').trans (o2.mono (by simp))) (S'.off o2 (by simp) (by simp)) ⟨?_, fun i hi => ⟨?_, ?_, ?_⟩, k2⟩ ⟨fun c => by omega, fun _ e2 he2 => ⟨?_, ?_⟩⟩ (by omega) (by omega)⟩
          · rw [o2 10 (by simp), o' 10 (by simp)]; exact h10
          · rw [o2 58 (by simp), o' 58 (by simp)]
          · rw [(k1 i (by omega)).1, o' 59 (by simp)]
          · rw [(k1 i (by omega)).2, o' 60 (by simp)]
          · rw [o2 58 (by simp), o' 58 (by simp)]
          · rw [k3 e2 he2, o' 59 (by simp), o' 60 (by simp), hz e2 he2]
        · refine c_put (b := b) (dep := dep) (by rw [o' 10 (by simp)]; exact h10) hd hb.1 (by rw [o' 60 (by simp)]; exact hP.1) (fun σ2 o2 _ _ _ => ?_)
          unfold LX2_holding_80
          rw [e5]
          have S2 : TC n t p' q σ2 := S'.off o2 (by simp) (by simp)
          exact ⟨⟨by omega, by omega⟩, c_loopF (by omega) S2 (h0 q p' σ2 (by rw [e]; rfl) ((oc9 o').trans (o2.mono (by simp))) S2)⟩
      unfold FX2_takeOpening
      refine c_takes hS ht (by omega) (fun σ2 e2 o2 S2 => ⟨fun y => by omega, fun _ => ?_⟩) (fun e2 => ⟨fun _ => ?_, fun y => absurd rfl y⟩)
      · rw [if_pos e2] at h1 h0
        have hlt := (by_rng ht p).2.2 (by omega)
        have d2 : σ2 10 3 = (dep : Int) := by rw [o2 10 (by simp)]; exact h10
        rw [d2, ed]
        refine ⟨⟨by omega, by omega⟩, ⟨by omega, by omega⟩, fun σ13 g13 => ⟨fun c => by omega, fun _ => ?_⟩⟩
        unfold LX2_holding_80
        rw [e5]
        have o13 : Off OC σ σ13 := by rw [g13]; exact (oc9 o2).up (by simp)
        have a60 : σ13 60 dep = ixor (σ 60 dep) 1 := by rw [g13, up2_at, o2 60 (by simp)]
        have r : ∀ k, k ≠ 9 → k ≠ 60 → σ13 k = σ k := fun k h9 h60 => by rw [g13, up2_row h60]; exact o2 k (by simp; omega)
        have x01 : ixor 0 1 = 1 ∧ ixor 1 1 = 0 := by decide +kernel
        refine ⟨⟨by omega, by omega⟩, ih 2 dep (p + 1) f (x5 + 1) σ13 (by omega) hd (by omega) (S2.off (ks := [60]) (by rw [g13]; exact Off.rf.up (by simp)) (by simp) (by simp)) (hH.off o13) (by rw [r 10 (by omega) (by omega)]; exact h10) ⟨?_, fun c => by omega, fun c => by omega⟩ (by omega) (by omega) (fun v p' f' x5' σ' e' o' S' l' r' hx' hf' => ?_) (fun q p' σ' e' o' S' => ?_)⟩
        · rw [a60]
          rcases hP.1 with y | y <;> rw [y]
          · exact Or.inr x01.1
          · exact Or.inl x01.2
        · rw [e'] at h1
          refine h1 (fun e => !v e) p' f' x5' σ' rfl (o13.trans o') S' (LOW.trans (fun i hi => ⟨by rw [r 58 (by omega) (by omega)], by rw [r 59 (by omega) (by omega)], by rw [g13, up2_ni (by omega), o2 60 (by simp)]⟩) l') ⟨fun c => by omega, fun _ e he => ?_⟩ hx' hf'
          have c1 := r'.2 (by omega) e he
          rw [r 58 (by omega) (by omega), r 59 (by omega) (by omega), a60] at c1
          refine ⟨c1.1, c1.2.trans ?_⟩
          show (tb (σ 59 dep) e && (v e != decide (ixor (σ 60 dep) 1 = 1))) = (tb (σ 59 dep) e && ((!v e) != decide (σ 60 dep = 1)))
          rcases hP.1 with y | y <;> rw [y]
          · rw [x01.1, decide_eq_true rfl, decide_eq_false (by omega)]
            generalize v e = u2
            cases u2 <;> rfl
          · rw [x01.2, decide_eq_true rfl, decide_eq_false (by omega)]
            generalize v e = u2
            cases u2 <;> rfl
        · rw [e'] at h0
          exact h0 q p' σ' rfl (o13.trans o') S'
      · rw [h10]
        refine ⟨fun c => ⟨fun _ => cmp e2 (fun y => by omega), fun y => absurd rfl y⟩, fun c => ?_⟩
        refine c_takes hS ht (by omega) (fun σ6 e6 o6 S6 => ⟨fun y => by omega, fun _ => ?_⟩) (fun e6 => ⟨fun _ => ⟨fun _ => cmp e2 (fun y => e6 y.1), fun y => absurd rfl y⟩, fun y => absurd rfl y⟩)
        have hlt := (by_rng ht p).2.2 (by omega)
        have hd5 : dep < 5 := by omega
        rw [if_neg e2, if_pos ⟨e6, hd5⟩] at h1 h0
        have d6 : σ6 10 3 = (dep : Int) := by rw [o6 10 (by simp)]; exact h10
        rw [d6]
        refine ⟨⟨by omega, by omega⟩, c_begB (dep := dep + 1) (by omega) (by omega) (fun σ7 o7 q10 qi q58 q59 q60 => ⟨fun c => by omega, fun _ => ?_⟩)⟩
        unfold LX2_holding_80
        rw [e5]
        have o07 : Off OC σ σ7 := (oc9 o6).trans (o7.mono (by simp))
        have c7 : ∀ i, i ≠ dep + 1 → σ7 58 i = σ 58 i ∧ σ7 59 i = σ 59 i ∧ σ7 60 i = σ 60 i := fun i hi => by
          have := qi i hi
          rw [o6 58 (by simp), o6 59 (by simp), o6 60 (by simp)] at this
          exact this
        have hne := ne_0 (n := n) (t := t) (b := b) (x := x) d (dep + 1) (p + 1)
        refine ⟨⟨by omega, by omega⟩, ih 0 (dep + 1) (p + 1) f (x5 + 1) σ7 (by omega) (by omega) (by omega) (S6.off o7 (by simp) (by simp)) (hH.off o07) q10 ⟨Or.inl q60, fun _ => q60, fun _ e he => by rw [q59]; exact all_m1 (by have := hb.1; omega)⟩ (by omega) (by omega) (fun v p' f' x5' σ' e' o' S' l' r' hx' hf' => ?_) (fun q p' σ' e' o' S' => ?_)⟩
        · rw [e'] at h1 h0 hne
          have hne : byT n t p' ≠ 38 ∧ byT n t p' ≠ 124 := hne
          have hp' := S'.2.2.2.2
          have bad : byT n t p' ≠ 41 → ∀ σ2 : PS, Off OC σ σ2 → TC n t p' p' σ2 → LX2_holding_101 σ2 Φ := fun c σ2 o2 S2 => h0 p' p' σ2 (by show bnd (expP n t 41 p') _ = _; unfold expP; rw [if_neg c]; rfl) o2 S2
          refine c_due0 S' ht hx' hf' (fun c => ?_) (fun hlt' f4 hf4 => ?_)
          · have e0 : byT n t p' = 0 := by unfold byT; rw [if_neg c]
            unfold LX2_holding_86
            rw [l'.1, S'.2.2.1]
            refine ⟨fun c => by omega, fun _ => c_fail S' (fun y => by omega) (fun _ σ2 o2 S2 => bad (by omega) σ2 (o07.trans (o'.trans (oc9 o2))) S2)⟩
          · by_cases q : byT n t p' = 41
            · refine c_jEnd (b := b) (dep := dep) S' ht q l'.1 hd5 hb.1 ?_ (fun σ8 o8 S8 k10 k58 k1 k2 k3 => ?_)
              · rw [(l'.2.1 dep (by omega)).2.2, (c7 dep (by omega)).2.2]; exact hP.1
              · refine h1 v (p' + 1) f4 (x5' + 1) σ8 (by show bnd (expP n t 41 p') _ = _; unfold expP; rw [if_pos q]; rfl) (o07.trans (o'.trans o8)) S8 ⟨k10, fun i hi => ⟨?_, ?_, ?_⟩, k2⟩ ⟨fun c => by omega, fun _ e he => ⟨?_, ?_⟩⟩ (by omega) (by omega)
                · rw [k58, (l'.2.1 i (by omega)).1, (c7 i (by omega)).1]
                · rw [(k1 i (by omega)).1, (l'.2.1 i (by omega)).2.1, (c7 i (by omega)).2.1]
                · rw [(k1 i (by omega)).2, (l'.2.1 i (by omega)).2.2, (c7 i (by omega)).2.2]
                · rw [k58, (l'.2.1 dep (by omega)).1, (c7 dep (by omega)).1]
                · have c1 := r'.1 rfl e he
                  rw [q58, bt_0, Bool.false_or] at c1
                  rw [k3 e he, c1, (l'.2.1 dep (by omega)).2.1, (c7 dep (by omega)).2.1, (l'.2.1 dep (by omega)).2.2, (c7 dep (by omega)).2.2]
            · refine c_jBad (dep := dep + 1) S' ht hne.1 hne.2 l'.1 (Or.inr q) (fun σ2 o2 S2 => c_loopF (by omega) S2 (bad q σ2 (o07.trans (o'.trans (oc9 o2))) S2))
        · rw [e'] at h0
          exact h0 q p' σ' rfl (o07.trans o') S'
      all_goals omega
end Cond7
