def tlP (n : Nat) (t : Nat → Int) (c : Int) (op : Bool → Bool → Bool) (Q : Nat → Sum Nat ((Nat → Bool) × Nat)) : Nat → (Nat → Bool) → Nat → Sum Nat ((Nat → Bool) × Nat)
  | 0, _, p => .inl p
  | f + 1, v, p => if byT n t p = c then bnd (Q (p + 1)) (fun r => tlP n t c op Q f (fun e => op (v e) (r.1 e)) r.2) else .inr (v, p)
/-- 0: parts behind |, 1: parts behind &, 2: one part -/
def parC (n : Nat) (t : Nat → Int) (b : Bk) (x : Nat → Int) : Nat → Nat → Nat → Nat → Sum Nat ((Nat → Bool) × Nat)
  | 0, _, _, p => .inl p
  | d + 1, 0, dep, p => bnd (parC n t b x d 1 dep p) (fun r => tlP n t 124 or (parC n t b x d 1 dep) 91 r.1 r.2)
  | d + 1, 1, dep, p => bnd (parC n t b x d 2 dep p) (fun r => tlP n t 38 and (parC n t b x d 2 dep) 91 r.1 r.2)
  | d + 1, _, dep, p => if byT n t p = 33 then bnd (parC n t b x d 2 dep (p + 1)) (fun r => .inr (fun e => !r.1 e, r.2)) else if byT n t p = 40 ∧ dep < 5 then bnd (parC n t b x d 0 (dep + 1) (p + 1)) (fun r => bnd (expP n t 41 r.2) (fun p2 => .inr (r.1, p2))) else bnd (cmpP n t p) (fun c => .inr (soB b x c.1, c.2))
/-- what is read does not lie ahead -/
def GEr {α : Type} (p : Nat) (pos : α → Nat) (x : Sum Nat α) : Prop := match x with
  | .inl _ => True
  | .inr a => p ≤ pos a
theorem ge_bnd {α β : Type} {p : Nat} {pos : α → Nat} {pos2 : β → Nat} {x : Sum Nat α} {f : α → Sum Nat β} (h : GEr p pos x) (g : ∀ a, p ≤ pos a → GEr p pos2 (f a)) : GEr p pos2 (bnd x f) := by
  cases x with
  | inl q => exact trivial
  | inr a => exact g a h
theorem ge_less {α : Type} {p q : Nat} {pos : α → Nat} {x : Sum Nat α} (h : GEr q pos x) (hq : p ≤ q) : GEr p pos x := by
  cases x with
  | inl q => exact trivial
  | inr a => exact Nat.le_trans hq h
theorem nuL_ge {n : Nat} {t : Nat → Int} : ∀ (k p : Nat) (v : Int), p ≤ (nuL n t k p v).1 := by
  intro k
  induction k with
  | zero => intro p v; exact Nat.le_refl _
  | succ k ih =>
    intro p v
    rw [nuL]
    by_cases q : 48 ≤ byT n t p ∧ byT n t p ≤ 57
    · rw [if_pos q]; exact Nat.le_trans (Nat.le_succ p) (ih _ _)
    · rw [if_neg q]; exact Nat.le_refl _
theorem ltrL_ge {n : Nat} {t : Nat → Int} : ∀ (k p : Nat), p ≤ ltrL n t k p := by
  intro k
  induction k with
  | zero => intro p; exact Nat.le_refl _
  | succ k ih =>
    intro p
    rw [ltrL]
    by_cases q : 97 ≤ byT n t p ∧ byT n t p ≤ 122
    · rw [if_pos q]; exact Nat.le_trans (Nat.le_succ p) (ih _)
    · rw [if_neg q]; exact Nat.le_refl _
theorem ge_cmp {n p : Nat} {t : Nat → Int} : GEr p (fun r : (Nat × Int × Int) × Nat => r.2) (cmpP n t p) := by
  refine ge_bnd (pos := fun r : Nat × Nat => r.2) ?_ (fun w hw => ge_bnd (pos := fun r : Int × Nat => r.2) ?_ (fun s hs => ge_bnd (pos := fun r : Int × Nat => r.2) ?_ (fun v hv => hv)))
  · unfold wrdP
    cases wrdS n t p (ltrP n t p) 8 0 with
    | none => exact trivial
    | some w => exact ltrL_ge _ _
  · unfold sgnP
    by_cases q : byT n t w.2 = 60 ∨ byT n t w.2 = 61 ∨ byT n t w.2 = 62
    · rw [if_pos q]; exact Nat.le_trans hw (Nat.le_succ _)
    · rw [if_neg q]; exact trivial
  · refine ge_less (q := s.2) ?_ hs
    refine ge_bnd (pos := fun r : Int × Nat => r.2) ?_ (fun a ha => ?_)
    · unfold numP
      by_cases q : (nuP n t s.2).1 = s.2
      · rw [if_pos q]; exact trivial
      · rw [if_neg q]; exact nuL_ge _ _ _
    · by_cases q : 0 ≤ a.1 ∧ a.1 ≤ 999 ∧ a.1 ≠ -1
      · rw [if_pos q]; exact ha
      · rw [if_neg q]; exact trivial
theorem ge_tl {n : Nat} {t : Nat → Int} {c : Int} {op : Bool → Bool → Bool} {Q : Nat → Sum Nat ((Nat → Bool) × Nat)} (hQ : ∀ p, GEr p (fun r : (Nat → Bool) × Nat => r.2) (Q p)) : ∀ (f : Nat) (v : Nat → Bool) (p : Nat), GEr p (fun r : (Nat → Bool) × Nat => r.2) (tlP n t c op Q f v p) := by
  intro f
  induction f with
  | zero => intro v p; exact trivial
  | succ f ih =>
    intro v p
    rw [tlP]
    by_cases q : byT n t p = c
    · rw [if_pos q]
      exact ge_bnd (ge_less (hQ (p + 1)) (Nat.le_succ p)) (fun a ha => ge_less (ih _ _) ha)
    · rw [if_neg q]; exact Nat.le_refl _
theorem ge_parC {n : Nat} {t : Nat → Int} {b : Bk} {x : Nat → Int} : ∀ (d k dep p : Nat), GEr p (fun r : (Nat → Bool) × Nat => r.2) (parC n t b x d k dep p) := by
  intro d
  induction d with
  | zero => intro k dep p; exact trivial
  | succ d ih =>
    intro k dep p
    match k with
    | 0 => exact ge_bnd (ih 1 dep p) (fun a ha => ge_less (ge_tl (fun p => ih 1 dep p) _ _ _) ha)
    | 1 => exact ge_bnd (ih 2 dep p) (fun a ha => ge_less (ge_tl (fun p => ih 2 dep p) _ _ _) ha)
    | k + 2 =>
      rw [parC]
      by_cases q : byT n t p = 33
      · rw [if_pos q]
        exact ge_bnd (ge_less (ih 2 dep (p + 1)) (Nat.le_succ p)) (fun a ha => ha)
      · rw [if_neg q]
        by_cases q2 : byT n t p = 40 ∧ dep < 5
        · rw [if_pos q2]
          refine ge_bnd (ge_less (ih 0 (dep + 1) (p + 1)) (Nat.le_succ p)) (fun a ha => ge_bnd (pos := fun r : Nat => r) ?_ (fun p2 h2 => h2))
          unfold expP
          by_cases q3 : byT n t a.2 = 41
          · rw [if_pos q3]; exact Nat.le_trans ha (Nat.le_succ _)
          · rw [if_neg q3]; exact trivial
        · rw [if_neg q2]
          exact ge_bnd ge_cmp (fun a ha => ha)
      all_goals omega
/-- place, fault and depth move -/
def OJ (σ σ' : PS) : Prop := Off [0] σ σ' ∧ ∀ i, i ≠ 30 → i ≠ 31 → i ≠ 34 → σ' 0 i = σ 0 i
theorem OJ.trans {a c e : PS} (h : OJ a c) (g : OJ c e) : OJ a e := ⟨h.1.trans g.1, fun i h1 h2 h3 => (g.2 i h1 h2 h3).trans (h.2 i h1 h2 h3)⟩
theorem OM.oj {a c : PS} (h : OM a c) : OJ a c := ⟨h.1, fun i h1 h2 _ => h.2 i h1 h2⟩
theorem OJ.rf {a : PS} : OJ a a := OM.rf.oj
def GG (b : Bk) (x : Nat → Int) (g : Int) (σ : PS) : Prop := σ 0 33 = g ∧ (g < 0 ∨ ∃ e : Nat, g = (e : Int) ∧ e < bn b ∧ mB 1 b σ ∧ σ 4 e = x e)
theorem GG.oj {b : Bk} {x : Nat → Int} {g : Int} {σ σ' : PS} (h : GG b x g σ) (o : OJ σ σ') : GG b x g σ' := by
  refine ⟨by rw [o.2 33 (by omega) (by omega) (by omega)]; exact h.1, ?_⟩
  rcases h.2 with z | ⟨e, h1, h2, h3, h4⟩
  · exact Or.inl z
  · exact Or.inr ⟨e, h1, h2, h3.keep (o.1 1 (by simp)), by rw [o.1 4 (by simp)]; exact h4⟩
section Cond4
variable {b : Bk} {n p dep : Nat} {t : Nat → Int} {f g : Int} {x : Nat → Int} {σ : PS} {Φ : Int → PS → Prop} {Q : Nat → PS → (Int → PS → Prop) → Prop}
theorem m_up34 {σ' : PS} {v : Int} (hS : TM n t p f σ) (e : σ' = up2 σ 0 34 v) : OJ σ σ' ∧ TM n t p f σ' ∧ σ' 0 34 = v := by
  refine ⟨⟨by rw [e]; exact Off.rf.up (by simp), fun i _ _ h34 => by rw [e, up2_ni h34]⟩, ⟨?_, fun i hi => ?_, ?_, ?_, hS.2.2.2.2⟩, by rw [e, up2_at]⟩
  · rw [e, up2_ni (by omega)]; exact hS.1
  · rw [e, up2_nk (by omega)]; exact hS.2.1 i hi
  · rw [e, up2_ni (by omega)]; exact hS.2.2.1
  · rw [e, up2_ni (by omega)]; exact hS.2.2.2.1
theorem m_164 {s v y : Int} (h : ∀ z : Int, z = (if (if s = 60 then decide (y < v) else if s = 62 then decide (v < y) else decide (y = v)) = true then 1 else 0) → Φ z σ) : LX12_one_164 Q s v y σ Φ := by
  unfold LX12_one_164
  refine ⟨fun n60 => ⟨fun n62 => ⟨fun d => h 0 ?_, fun d => h 1 ?_⟩, fun y62 => ⟨fun d => h 0 ?_, fun d => h 1 ?_⟩⟩, fun y60 => ⟨fun d => h 0 ?_, fun d => h 1 ?_⟩⟩
  · rw [if_neg n60, if_neg n62, decide_eq_false d]; rfl
  · rw [if_neg n60, if_neg n62, decide_eq_true d]; rfl
  · rw [if_neg n60, if_pos y62, decide_eq_false (by omega)]; rfl
  · rw [if_neg n60, if_pos y62, decide_eq_true (by omega)]; rfl
  · rw [if_pos y60, decide_eq_false (by omega)]; rfl
  · rw [if_pos y60, decide_eq_true (by omega)]; rfl
theorem m_164z {s v y : Int} (h : ∀ z : Int, z = 0 ∨ z = 1 → Φ z σ) : LX12_one_164 Q s v y σ Φ := m_164 (fun z e => h z (by rw [e]; split <;> omega))
theorem m_127B {x1 x2 : Int} {q : Nat} (hS : TM n t p q σ) (ht : okt n t) (h : ∀ (p' : Nat) (z : Int) (σ' : PS), OM σ σ' → TM n t p' q σ' → (z = 0 ∨ z = 1) → Φ z σ') : LX12_one_127 Q x1 x2 σ Φ := by
  unfold LX12_one_127
  refine m_numB hS ht (fun v p' σ' o' S' => ?_)
  rw [S'.2.2.2.1]
  exact ⟨fun _ => m_164z (fun z hz => h p' z σ' o' S' hz), fun _ => ⟨fun c => by omega, fun _ => m_164z (fun z hz => h p' z σ' o' S' hz)⟩⟩
theorem m_cmpB {q : Nat} (hS : TM n t p q σ) (ht : okt n t) (h : ∀ (p' : Nat) (z : Int) (σ' : PS), OM σ σ' → TM n t p' q σ' → (z = 0 ∨ z = 1) → Φ z σ') : LX12_one_82 Q σ Φ := by
  unfold LX12_one_82
  refine m_wordB hS ht (fun σ1 o1 S1 => ?_)
  have T : ∀ y : Int, FX12_takes_ 60 σ1 (fun z5 σ6 => ((¬ z5 = 0 → LX12_one_127 Q 0 y σ6 Φ) ∧ (z5 = 0 → FX12_takes_ 61 σ6 (fun z8 σ9 => ((¬ z8 = 0 → LX12_one_127 Q 0 y σ9 Φ) ∧ (z8 = 0 → FX12_takes_ 62 σ9 (fun z11 σ12 => ((¬ z11 = 0 → LX12_one_127 Q 0 y σ12 Φ) ∧ (z11 = 0 → FX12_wrong (σ12 0 30) σ12 (fun z14 σ15 => LX12_one_127 Q 0 y σ15 Φ)))))))))) := fun y => m_takesB S1 ⟨fun z => absurd rfl z, fun _ => m_takesB S1 ⟨fun z => absurd rfl z, fun _ => m_takesB S1 ⟨fun z => absurd rfl z, fun _ => m_wrongB S1 (fun σ2 o2 S2 => m_127B S2 ht (fun p3 z σ3 o3 S3 hz => h p3 z σ3 (o1.trans (o2.trans o3)) S3 hz))⟩⟩⟩
  exact m_here S1 ht.1 (fun _ => T _) (fun _ => T _)
theorem m_cmp (hb : okB b) (hx : ∀ e, e < bn b → 0 ≤ x e ∧ x e ≤ 999) (hS : TM n t p (-1) σ) (ht : okt n t) (hG : GG b x g σ) (h1 : ∀ (c : Nat × Int × Int) (p' : Nat) (z : Int) (σ' : PS), cmpP n t p = .inr (c, p') → OM σ σ' → TM n t p' (-1) σ' → vz g (soB b x c) z → Φ z σ') (h0 : ∀ (q p' : Nat) (z : Int) (σ' : PS), cmpP n t p = .inl q → OM σ σ' → TM n t p' q σ' → (z = 0 ∨ z = 1) → Φ z σ') : LX12_one_82 Q σ Φ := by
  unfold LX12_one_82
  refine m_wordA hS ht (fun w p1 σ1 hw e1 o1 S1 => ?_) (fun p1 σ1 e1 o1 S1 => ?_)
  · have fin : ∀ (s : Int) (p2 : Nat) (σ2 : PS), sgnP n t p1 = .inr (s, p2) → OM σ σ2 → TM n t p2 (-1) σ2 → LX12_one_127 Q w s σ2 Φ := fun s p2 σ2 e2 o2 S2 => by
      unfold LX12_one_127
      refine m_numA S2 ht (fun v p3 σ3 e3 hv o3 S3 => ?_) (fun v q p3 σ3 e3 o3 S3 => ?_)
      · have ec : cmpP n t p = .inr ((w, s, v), p3) := by
          unfold cmpP
          rw [e1]
          show bnd (sgnP n t p1) _ = _
          rw [e2]
          show bnd (rngP n t 0 999 (-1) p2) _ = _
          rw [e3]
          rfl
        have hG3 := hG.oj (o2.trans o3).oj
        rw [hG3.1, S3.2.2.2.1]
        refine ⟨fun c => ?_, fun c => ⟨fun _ => ?_, fun c2 => by omega⟩⟩
        · unfold LX12_one_151
          exact m_164z (fun z hz => h1 _ p3 z σ3 ec (o2.trans o3) S3 ⟨hz, fun e he => by omega⟩)
        · rcases hG3.2 with z | ⟨e, h2, h3, h4, h5⟩
          · exact absurd z c
          · refine m_valueOf h2 hw hb hx h4 h5 h3 (m_164 (fun z hz => h1 _ p3 z σ3 ec (o2.trans o3) S3 ⟨by rw [hz]; split <;> omega, fun e2 he2 => ?_⟩))
            have : e2 = e := by omega
            rw [this]
            exact hz
      · have ec : cmpP n t p = .inl q := by
          unfold cmpP
          rw [e1]
          show bnd (sgnP n t p1) _ = _
          rw [e2]
          show bnd (rngP n t 0 999 (-1) p2) _ = _
          rw [e3]
          rfl
        rw [S3.2.2.2.1]
        exact ⟨fun _ => m_164z (fun z hz => h0 q p3 z σ3 ec (o2.trans o3) S3 hz), fun _ => ⟨fun c => by omega, fun _ => m_164z (fun z hz => h0 q p3 z σ3 ec (o2.trans o3) S3 hz)⟩⟩
    have T : ∀ y : Int, (p1 < n → y = t p1) → FX12_takes_ 60 σ1 (fun z5 σ6 => ((¬ z5 = 0 → LX12_one_127 Q w y σ6 Φ) ∧ (z5 = 0 → FX12_takes_ 61 σ6 (fun z8 σ9 => ((¬ z8 = 0 → LX12_one_127 Q w y σ9 Φ) ∧ (z8 = 0 → FX12_takes_ 62 σ9 (fun z11 σ12 => ((¬ z11 = 0 → LX12_one_127 Q w y σ12 Φ) ∧ (z11 = 0 → FX12_wrong (σ12 0 30) σ12 (fun z14 σ15 => LX12_one_127 Q w y σ15 Φ)))))))))) := fun y hy => by
      have at_ : ∀ c : Int, 0 < c → byT n t p1 = c → y = c := fun c hc e => by
        have := (by_rng ht p1).2.2 (by omega)
        rw [hy this]
        unfold byT at e
        rw [if_pos this] at e
        exact e
      refine m_takesA S1 ht (by omega) (fun σ2 e2 o2 S2 => ⟨fun _ => ?_, fun z => by omega⟩) (fun n60 => ⟨fun z => absurd rfl z, fun _ => ?_⟩)
      · rw [at_ 60 (by omega) e2]
        exact fin 60 _ σ2 (sgn_yes (by omega) e2) (o1.trans o2) S2
      · refine m_takesA S1 ht (by omega) (fun σ2 e2 o2 S2 => ⟨fun _ => ?_, fun z => by omega⟩) (fun n61 => ⟨fun z => absurd rfl z, fun _ => ?_⟩)
        · rw [at_ 61 (by omega) e2]
          exact fin 61 _ σ2 (sgn_yes (by omega) e2) (o1.trans o2) S2
        · refine m_takesA S1 ht (by omega) (fun σ2 e2 o2 S2 => ⟨fun _ => ?_, fun z => by omega⟩) (fun n62 => ⟨fun z => absurd rfl z, fun _ => ?_⟩)
          · rw [at_ 62 (by omega) e2]
            exact fin 62 _ σ2 (sgn_yes (by omega) e2) (o1.trans o2) S2
          · have ec : cmpP n t p = .inl p1 := by
              unfold cmpP
              rw [e1]
              show bnd (sgnP n t p1) _ = _
              rw [sgn_no n60 n61 n62]
              rfl
            rw [S1.2.2.1]
            exact m_wrong S1 (fun z => by omega) (fun _ σ2 o2 S2 => m_127B S2 ht (fun p3 z σ3 o3 S3 hz => h0 _ p3 z σ3 ec (o1.trans (o2.trans o3)) S3 hz))
    exact m_here S1 ht.1 (fun _ => T _ (fun _ => rfl)) (fun c => T _ (fun z => absurd z c))
  · have ec : cmpP n t p = .inl p := by
      unfold cmpP
      rw [e1]
      rfl
    have T : ∀ y : Int, FX12_takes_ 60 σ1 (fun z5 σ6 => ((¬ z5 = 0 → LX12_one_127 Q 0 y σ6 Φ) ∧ (z5 = 0 → FX12_takes_ 61 σ6 (fun z8 σ9 => ((¬ z8 = 0 → LX12_one_127 Q 0 y σ9 Φ) ∧ (z8 = 0 → FX12_takes_ 62 σ9 (fun z11 σ12 => ((¬ z11 = 0 → LX12_one_127 Q 0 y σ12 Φ) ∧ (z11 = 0 → FX12_wrong (σ12 0 30) σ12 (fun z14 σ15 => LX12_one_127 Q 0 y σ15 Φ)))))))))) := fun y => m_takesB S1 ⟨fun z => absurd rfl z, fun _ => m_takesB S1 ⟨fun z => absurd rfl z, fun _ => m_takesB S1 ⟨fun z => absurd rfl z, fun _ => m_wrongB S1 (fun σ2 o2 S2 => m_127B S2 ht (fun p3 z σ3 o3 S3 hz => h0 _ p3 z σ3 ec (o1.trans (o2.trans o3)) S3 hz))⟩⟩⟩
    exact m_here S1 ht.1 (fun _ => T _) (fun _ => T _)
end Cond4
