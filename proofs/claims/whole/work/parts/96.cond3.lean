section Cond3
variable {b : Bk} {n p : Nat} {t : Nat → Int} {f : Int} {x : Nat → Int} {σ : PS} {Φ : Int → PS → Prop}
theorem sgn_yes {c : Int} (hc : c = 60 ∨ c = 61 ∨ c = 62) (e : byT n t p = c) : sgnP n t p = .inr (c, p + 1) := by
  unfold sgnP
  rw [e, if_pos hc]
theorem sgn_no (h1 : byT n t p ≠ 60) (h2 : byT n t p ≠ 61) (h3 : byT n t p ≠ 62) : sgnP n t p = .inl p := by
  unfold sgnP
  rw [if_neg (by omega)]
theorem vl_rng {w e : Nat} (hb : okB b) (hx : ∀ e, e < bn b → 0 ≤ x e ∧ x e ≤ 999) (he : e < bn b) : -2000 ≤ vlB b x w e ∧ vlB b x w e ≤ 2000 := by
  have g := hb.2.2.2.2 e he
  unfold okG at g
  have h := hx e he
  unfold vlB
  by_cases q : w < 5
  · rw [if_pos q]
    rcases (show w = 0 ∨ w = 1 ∨ w = 2 ∨ w = 3 ∨ w = 4 by omega) with z | z | z | z | z <;> subst z <;> omega
  · rw [if_neg q]
    by_cases q2 : w = 5
    · rw [if_pos q2]; omega
    · rw [if_neg q2]
      by_cases q3 : w = 6
      · rw [if_pos q3]; omega
      · rw [if_neg q3]
        split <;> omega
theorem c_valueOf {w e : Nat} (hw : w < 8) (hb : okB b) (hx : ∀ e, e < bn b → 0 ≤ x e ∧ x e ≤ 999) (hC : cB 1 13 b σ) (he : e < bn b) (h : Φ (vlB b x w e) σ) : FX2_valueOf ((clN w : Nat) : Int) e (x e) σ Φ := by
  have hn := hb.1
  have g := hb.2.2.2.2 e he
  unfold okG at g
  have hxe := hx e he
  have ee : ((e : Nat) : Int).toNat = e := by omega
  have c0 : σ 13 e = bB b e 0 := hC.2.2.2 e he 0 (by omega)
  have c1 : σ 14 e = bB b e 1 := hC.2.2.2 e he 1 (by omega)
  have c2 : σ 15 e = bB b e 2 := hC.2.2.2 e he 2 (by omega)
  have c3 : σ 16 e = bB b e 3 := hC.2.2.2 e he 3 (by omega)
  have c4 : σ 17 e = bB b e 4 := hC.2.2.2 e he 4 (by omega)
  have c5 : σ 18 e = bB b e 5 := hC.2.2.2 e he 5 (by omega)
  unfold FX2_valueOf
  rw [ee, c0, c1, c2, c3, c4, c5]
  rcases (show w = 0 ∨ w = 1 ∨ w = 2 ∨ w = 3 ∨ w = 4 ∨ w = 5 ∨ w = 6 ∨ w = 7 by omega) with z | z | z | z | z | z | z | z <;> subst z
  · have ek : ((clN 0 : Nat) : Int) = 0 := rfl
    have h : Φ (bB b e 0) σ := h
    rw [ek]
    exact ⟨fun _ => ⟨⟨by omega, by omega⟩, h⟩, fun c => by omega, fun c => by omega, fun c => by omega, fun c => by omega, fun c => by omega, fun c => by omega, fun c => by omega⟩
  · have ek : ((clN 1 : Nat) : Int) = 1 := rfl
    have h : Φ (bB b e 1) σ := h
    rw [ek]
    exact ⟨fun c => by omega, fun _ => ⟨⟨by omega, by omega⟩, h⟩, fun c => by omega, fun c => by omega, fun c => by omega, fun c => by omega, fun c => by omega, fun c => by omega⟩
  · have ek : ((clN 2 : Nat) : Int) = 3 := rfl
    have h : Φ (bB b e 2) σ := h
    rw [ek]
    exact ⟨fun c => by omega, fun c => by omega, fun c => by omega, fun _ => ⟨⟨by omega, by omega⟩, h⟩, fun c => by omega, fun c => by omega, fun c => by omega, fun c => by omega⟩
  · have ek : ((clN 3 : Nat) : Int) = 2 := rfl
    have h : Φ (bB b e 3) σ := h
    rw [ek]
    exact ⟨fun c => by omega, fun c => by omega, fun _ => ⟨⟨by omega, by omega⟩, h⟩, fun c => by omega, fun c => by omega, fun c => by omega, fun c => by omega, fun c => by omega⟩
  · have ek : ((clN 4 : Nat) : Int) = 4 := rfl
    have h : Φ (bB b e 4) σ := h
    rw [ek]
    exact ⟨fun c => by omega, fun c => by omega, fun c => by omega, fun c => by omega, fun _ => ⟨⟨by omega, by omega⟩, h⟩, fun c => by omega, fun c => by omega, fun c => by omega⟩
  · have ek : ((clN 5 : Nat) : Int) = 5 := rfl
    have h : Φ (x e) σ := h
    rw [ek]
    exact ⟨fun c => by omega, fun c => by omega, fun c => by omega, fun c => by omega, fun c => by omega, fun _ => h, fun c => by omega, fun c => by omega⟩
  · have ek : ((clN 6 : Nat) : Int) = 6 := rfl
    have h : Φ (bB b e 3 - x e) σ := h
    rw [ek]
    exact ⟨fun c => by omega, fun c => by omega, fun c => by omega, fun c => by omega, fun c => by omega, fun c => by omega, fun _ => ⟨⟨by omega, by omega⟩, ⟨by omega, by omega⟩, h⟩, fun c => by omega⟩
  · have ek : ((clN 7 : Nat) : Int) = 7 := rfl
    have h : Φ (if bB b e 5 = 1 then 0 else 1) σ := h
    rw [ek]
    refine ⟨fun c => by omega, fun c => by omega, fun c => by omega, fun c => by omega, fun c => by omega, fun c => by omega, fun c => by omega, fun _ => ⟨⟨by omega, by omega⟩, ⟨by omega, by omega⟩, ?_⟩⟩
    by_cases q : bB b e 5 = 1
    · rw [if_pos q] at h; rw [show 1 - bB b e 5 = 0 by omega]; exact h
    · rw [if_neg q] at h; rw [show 1 - bB b e 5 = 1 by omega]; exact h
theorem m_valueOf {w e : Nat} {g : Int} (hg : g = (e : Int)) (hw : w < 8) (hb : okB b) (hx : ∀ e, e < bn b → 0 ≤ x e ∧ x e ≤ 999) (hM : mB 1 b σ) (h4 : σ 4 e = x e) (he : e < bn b) (h : Φ (vlB b x w e) σ) : FX12_valueOf g w σ Φ := by
  have hn := hb.1
  have gg := hb.2.2.2.2 e he
  unfold okG at gg
  have hxe := hx e he
  subst hg
  have ee : ((e : Nat) : Int).toNat = e := by omega
  unfold FX12_valueOf
  unfold vlB at h
  rw [ee, h4]
  refine ⟨fun c => ?_, fun c => ?_⟩
  · rw [if_neg (by omega)] at h
    refine ⟨fun c7 => ⟨fun c5 => ?_, fun c5 => ?_⟩, fun c7 => ?_⟩
    · rw [if_neg (by omega), if_pos (by omega)] at h
      refine m_at (w := 3) rfl rfl hb hM he (by omega) ?_
      rw [h4]
      exact ⟨⟨by omega, by omega⟩, ⟨by omega, by omega⟩, h⟩
    · rw [if_pos (by omega)] at h
      exact ⟨⟨by omega, by omega⟩, h⟩
    · rw [if_neg (by omega), if_neg (by omega)] at h
      refine m_isOpen rfl hb hM he (fun q => ⟨fun z => by omega, fun _ => ?_⟩) (fun q => ⟨fun _ => ?_, fun z => absurd rfl z⟩)
      · rw [if_pos q] at h; exact h
      · rw [if_neg q] at h; exact h
  · rw [if_pos (by omega)] at h
    exact m_at (w := w) rfl rfl hb hM he (by omega) h
/-- a comparison in the class -/
theorem c_cmpB {x4 x5 : Int} {q : Nat} (hS : TC n t p q σ) (ht : okt n t) (h : ∀ (p' : Nat) (σ' : PS), Off [9] σ σ' → TC n t p' q σ' → Φ 0 σ') : LX2_takeComparison_41 x4 x5 σ Φ := by
  unfold LX2_takeComparison_41
  refine c_numB hS ht (fun v p' σ' o' S' => ⟨1, ?_⟩)
  unfold LX2_takeComparison_53 BX2_takeComparison_53
  rw [S'.2.2.2.1]
  exact ⟨fun _ => h p' σ' o' S', fun _ => ⟨fun _ => h p' σ' o' S', fun _ => ⟨fun _ => h p' σ' o' S', fun c => by omega⟩⟩⟩
theorem c_cmp {hbx : okB b} (hS : TC n t p (-1) σ) (ht : okt n t) (hC : cB 1 13 b σ) (hx : ∀ e, e < bn b → 0 ≤ x e ∧ x e ≤ 999) (h25 : ∀ e, e < bn b → σ 25 e = x e) (h1 : ∀ (c : Nat × Int × Int) (p' : Nat) (z : Int) (σ' : PS), cmpP n t p = .inr (c, p') → Off [9] σ σ' → TC n t p' (-1) σ' → (∀ e, e < bn b → tb z e = soB b x c e) → Φ z σ') (h0 : ∀ (q p' : Nat) (z : Int) (σ' : PS), cmpP n t p = .inl q → Off [9] σ σ' → TC n t p' q σ' → Φ z σ') : FX2_takeComparison σ Φ := by
  have hn := hbx.1
  unfold FX2_takeComparison
  refine c_takeWord hS ht (fun w p1 σ1 hw e1 o1 S1 => ?_) (fun p1 σ1 e1 o1 S1 => ?_)
  · refine c_byteAt S1 ht.1 ?_
    -- behind the sign
    have fin : ∀ (s : Int) (p2 : Nat) (σ2 : PS), (s = 60 ∨ s = 61 ∨ s = 62) → sgnP n t p1 = .inr (s, p2) → Off [9] σ σ2 → TC n t p2 (-1) σ2 → LX2_takeComparison_41 ((clN w : Nat) : Int) s σ2 Φ := fun s p2 σ2 hs e2 o2 S2 => by
      unfold LX2_takeComparison_41
      refine c_numA S2 ht (fun v p3 σ3 e3 hv o3 S3 => ?_) (fun v σ3 e3 o3 S3 => ⟨1, ?_⟩)
      · have er := (num_rng ht S2.2.2.2.2 e3).2.2
        have ec : cmpP n t p = .inr ((w, s, v), p3) := by
          unfold cmpP
          rw [e1]
          show bnd (sgnP n t p1) _ = _
          rw [e2]
          show bnd (rngP n t 0 999 (-1) p2) _ = _
          rw [er]
          rfl
        have o03 : Off [9] σ σ3 := o2.trans o3
        have hC3 : cB 1 13 b σ3 := hC.off o03 (by simp) (fun w hw => by simp; omega)
        have c6 : σ3 1 6 = (bn b : Int) := hC3.1
        refine ⟨bn b + 1, ?_⟩
        have loop : ∀ (f e : Nat) (z : Int), e ≤ bn b → bn b - e < f → (∀ i, tb z i = (decide (i < e) && soB b x (w, s, v) i)) → LX2_takeComparison_53 f ((clN w : Nat) : Int) s v z e σ3 Φ := by
          intro f
          induction f with
          | zero => intro e z h1 h2; omega
          | succ f ih =>
            intro e z he hf hz
            have dn : bn b ≤ e → Φ z σ3 := fun c => h1 (w, s, v) p3 z σ3 ec o03 S3 (fun i hi => by rw [hz i, decide_eq_true (by omega)]; rfl)
            unfold LX2_takeComparison_53 BX2_takeComparison_53
            rw [c6, S3.2.2.2.1]
            refine ⟨fun c => dn (by omega), fun c => ⟨fun c2 => by omega, fun _ => ⟨fun c3 => by omega, fun _ => ⟨⟨by omega, by omega⟩, ?_⟩⟩⟩⟩
            have hlt : e < bn b := by omega
            rw [show ((e : Nat) : Int).toNat = e by omega, o03 25 (by simp), h25 e hlt]
            have step : ∀ y : Int, (y = if soB b x (w, s, v) e = true then 1 else 0) → LX2_takeComparison_146 (fun x4 x5 x6 x7 x8 σ => LX2_takeComparison_53 f x4 x5 x6 x7 x8 σ Φ) ((clN w : Nat) : Int) s v z e y σ3 Φ := fun y hy => by
              unfold LX2_takeComparison_146
              have go : ∀ z2 : Int, (∀ i, tb z2 i = (decide (i = e) && soB b x (w, s, v) e)) → LX2_takeComparison_163 (fun x4 x5 x6 x7 x8 σ => LX2_takeComparison_53 f x4 x5 x6 x7 x8 σ Φ) ((clN w : Nat) : Int) s v e z z2 σ3 Φ := fun z2 hz2 => by
                unfold LX2_takeComparison_163
                intro v1 g1
                refine ⟨⟨by omega, by omega⟩, ?_⟩
                have := ih (e + 1) v1 (by omega) (by omega) (fun i => by
                  rw [g1, bt_or, hz i, hz2 i]
                  by_cases q : i = e
                  · subst q
                    rw [decide_eq_false (by omega), decide_eq_true rfl, decide_eq_true (by omega)]
                    simp
                  · rw [decide_eq_false q]
                    by_cases q2 : i < e
                    · rw [decide_eq_true q2, decide_eq_true (by omega)]; simp
                    · rw [decide_eq_false q2, decide_eq_false (by omega)]; simp)
                rw [show ((e : Nat) : Int) + 1 = ((e + 1 : Nat) : Int) by omega]
                exact this
              by_cases q : soB b x (w, s, v) e = true
              · rw [if_pos q] at hy
                exact ⟨fun c => by omega, fun _ => go _ (fun i => by rw [bt_shl (by omega), q, Bool.and_true])⟩
              · rw [if_neg q] at hy
                exact ⟨fun _ => go _ (fun i => by rw [bt_0, Bool.eq_false_iff.mpr q, Bool.and_false]), fun c => absurd hy c⟩
            refine c_valueOf hw hbx hx hC3 hlt ?_
            refine ⟨fun n60 => ⟨fun n62 => ⟨fun d => step 0 ?_, fun d => step 1 ?_⟩, fun y62 => ⟨fun d => step 0 ?_, fun d => step 1 ?_⟩⟩, fun y60 => ⟨fun d => step 0 ?_, fun d => step 1 ?_⟩⟩
            · unfold soB
              show 0 = if (if s = 60 then _ else if s = 62 then _ else decide (vlB b x w e = v)) = true then 1 else 0
              rw [if_neg n60, if_neg n62, decide_eq_false d]; rfl
            · unfold soB
              show 1 = if (if s = 60 then _ else if s = 62 then _ else decide (vlB b x w e = v)) = true then 1 else 0
              rw [if_neg n60, if_neg n62, decide_eq_true d]; rfl
            · unfold soB
              show 0 = if (if s = 60 then _ else if s = 62 then decide (v < vlB b x w e) else _) = true then 1 else 0
              rw [if_neg n60, if_pos y62, decide_eq_false (by omega)]; rfl
            · unfold soB
              show 1 = if (if s = 60 then _ else if s = 62 then decide (v < vlB b x w e) else _) = true then 1 else 0
              rw [if_neg n60, if_pos y62, decide_eq_true (by omega)]; rfl
            · unfold soB
              show 0 = if (if s = 60 then decide (vlB b x w e < v) else _) = true then 1 else 0
              rw [if_pos y60, decide_eq_false (by omega)]; rfl
            · unfold soB
              show 1 = if (if s = 60 then decide (vlB b x w e < v) else _) = true then 1 else 0
              rw [if_pos y60, decide_eq_true (by omega)]; rfl
        exact loop (bn b + 1) 0 0 (by omega) (by omega) (fun i => by rw [bt_0, decide_eq_false (by omega)]; rfl)
      · have ec : cmpP n t p = .inl p2 := by
          unfold cmpP
          rw [e1]
          show bnd (sgnP n t p1) _ = _
          rw [e2]
          show bnd (rngP n t 0 999 (-1) p2) _ = _
          unfold rngP
          rw [e3]
          rfl
        unfold LX2_takeComparison_53 BX2_takeComparison_53
        rw [S3.2.2.2.1]
        exact ⟨fun _ => h0 _ _ _ σ3 ec (o2.trans o3) S3, fun _ => ⟨fun _ => h0 _ _ _ σ3 ec (o2.trans o3) S3, fun _ => ⟨fun _ => h0 _ _ _ σ3 ec (o2.trans o3) S3, fun c => by omega⟩⟩⟩
    refine c_takes S1 ht (by omega) (fun σ2 e2 o2 S2 => ⟨fun _ => ?_, fun z => by omega⟩) (fun n60 => ⟨fun z => absurd rfl z, fun _ => ?_⟩)
    · rw [e2]
      exact fin 60 _ σ2 (by omega) (sgn_yes (by omega) e2) (o1.trans o2) S2
    · refine c_takes S1 ht (by omega) (fun σ2 e2 o2 S2 => ⟨fun _ => ?_, fun z => by omega⟩) (fun n61 => ⟨fun z => absurd rfl z, fun _ => ?_⟩)
      · rw [e2]
        exact fin 61 _ σ2 (by omega) (sgn_yes (by omega) e2) (o1.trans o2) S2
      · refine c_expect S1 ht (by omega) (fun p2 σ2 e2 o2 S2 => ?_) (fun q p2 σ2 e2 o2 S2 => ?_)
        · obtain ⟨e3, e4⟩ := exp_inv e2
          subst e4
          rw [e3]
          exact fin 62 _ σ2 (by omega) (sgn_yes (by omega) e3) (o1.trans o2) S2
        · have n62 : byT n t p1 ≠ 62 ∧ q = p1 := by
            unfold expP at e2
            by_cases z : byT n t p1 = 62
            · rw [if_pos z] at e2; cases e2
            · rw [if_neg z] at e2; exact ⟨z, (Sum.inl.inj e2).symm⟩
          have ec : cmpP n t p = .inl q := by
            unfold cmpP
            rw [e1]
            show bnd (sgnP n t p1) _ = _
            rw [sgn_no n60 n61 n62.1, n62.2]
            rfl
          exact c_cmpB S2 ht (fun p3 σ3 o3 S3 => h0 _ _ _ σ3 ec (o1.trans (o2.trans o3)) S3)
  · have ec : cmpP n t p = .inl p := by
      unfold cmpP
      rw [e1]
      rfl
    refine c_byteAt S1 ht.1 ?_
    have B : ∀ (y : Int) (p2 : Nat) (σ2 : PS), Off [9] σ σ2 → TC n t p2 p σ2 → LX2_takeComparison_41 (-1) y σ2 Φ := fun y p2 σ2 o2 S2 => c_cmpB S2 ht (fun p3 σ3 o3 S3 => h0 _ _ _ σ3 ec (o2.trans o3) S3)
    refine c_takes S1 ht (by omega) (fun σ2 e2 o2 S2 => ⟨fun _ => B _ _ σ2 (o1.trans o2) S2, fun z => by omega⟩) (fun n60 => ⟨fun z => absurd rfl z, fun _ => ?_⟩)
    refine c_takes S1 ht (by omega) (fun σ2 e2 o2 S2 => ⟨fun _ => B _ _ σ2 (o1.trans o2) S2, fun z => by omega⟩) (fun n61 => ⟨fun z => absurd rfl z, fun _ => ?_⟩)
    exact c_expectB S1 ht (by omega) (fun p2 σ2 o2 S2 => B _ _ σ2 (o1.trans o2) S2)
end Cond3
