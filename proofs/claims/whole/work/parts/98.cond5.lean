section Cond5
variable {b : Bk} {n : Nat} {t : Nat → Int} {g : Int} {x : Nat → Int}
theorem m_parB (ht : okt n t) : ∀ (d k dep p q : Nat) (σ : PS) (Φ : Int → PS → Prop), k ≤ 2 → dep ≤ 5 → 3 * (5 - dep) + (2 - k) + (n - p) < d → TM n t p q σ → σ 0 34 = (dep : Int) → (∀ (p' : Nat) (z : Int) (σ' : PS), OJ σ σ' → TM n t p' q σ' → σ' 0 34 = (dep : Int) → (z = 0 ∨ z = 1) → Φ z σ') → PR d k σ Φ := by
  intro d
  induction d with
  | zero => intro k dep p q σ Φ _ _ h; omega
  | succ d ih =>
    intro k dep p q σ Φ hk hd hf hS h34 h
    rcases (show k = 0 ∨ k = 1 ∨ k = 2 by omega) with z | z | z <;> subst z
    · show FX12_either (PR d) σ Φ
      unfold FX12_either
      refine ih 1 dep p q σ _ (by omega) hd (by omega) hS h34 (fun p' z σ' o' S' d' hz => ⟨1, ?_⟩)
      unfold LX12_either_5 BX12_either_5
      exact m_takesB S' ⟨fun _ => ⟨hz, h p' z σ' o' S' d' hz⟩, fun y => absurd rfl y⟩
    · show FX12_both (PR d) σ Φ
      unfold FX12_both
      refine ih 2 dep p q σ _ (by omega) hd (by omega) hS h34 (fun p' z σ' o' S' d' hz => ⟨1, ?_⟩)
      unfold LX12_both_5 BX12_both_5
      exact m_takesB S' ⟨fun _ => ⟨hz, h p' z σ' o' S' d' hz⟩, fun y => absurd rfl y⟩
    · show FX12_one (PR d) σ Φ
      unfold FX12_one
      have hn90 := ht.1
      have hpn := hS.2.2.2.2
      refine m_takesB hS ⟨fun _ => ?_, fun y => absurd rfl y⟩
      have cmp : LX12_one_82 (PR d) σ Φ := m_cmpB hS ht (fun p' z σ' o' S' hz => h p' z σ' o'.oj S' (by rw [o'.2 34 (by omega) (by omega)]; exact h34) hz)
      refine m_here hS ht.1 (fun hp => ⟨fun _ => cmp, fun _ => ?_⟩) (fun _ => ⟨fun _ => cmp, fun c => by omega⟩)
      rw [h34]
      refine ⟨fun _ => cmp, fun c => ?_⟩
      rw [hS.2.2.1]
      refine ⟨⟨by omega, by omega⟩, fun σ9 g9 => ?_⟩
      obtain ⟨o9, S9⟩ := m_up30 (p' := p + 1) hS (by omega) g9
      have e9 : σ9 0 34 = (dep : Int) := by rw [o9.2 34 (by omega) (by omega)]; exact h34
      rw [e9]
      refine ⟨⟨by omega, by omega⟩, fun σ11 g11 => ?_⟩
      obtain ⟨o11, S11, d11⟩ := m_up34 S9 g11
      refine ih 0 (dep + 1) (p + 1) q σ11 _ (by omega) (by omega) (by omega) S11 (by rw [d11]; omega) (fun p' z σ' o' S' d' hz => ?_)
      refine m_mustB S' (fun σ15 o15 S15 => ?_)
      have e15 : σ15 0 34 = ((dep + 1 : Nat) : Int) := by rw [o15.2 34 (by omega) (by omega)]; exact d'
      rw [e15]
      refine ⟨⟨by omega, by omega⟩, fun σ17 g17 => ?_⟩
      obtain ⟨o17, S17, d17⟩ := m_up34 S15 g17
      exact ⟨hz, h p' z σ17 (o9.oj.trans (o11.trans (o'.trans (o15.oj.trans o17)))) S17 (by rw [d17]; omega) hz⟩
theorem m_par (hb : okB b) (hx : ∀ e, e < bn b → 0 ≤ x e ∧ x e ≤ 999) (ht : okt n t) : ∀ (d k dep p : Nat) (σ : PS) (Φ : Int → PS → Prop), k ≤ 2 → dep ≤ 5 → 3 * (5 - dep) + (2 - k) + (n - p) < d → TM n t p (-1) σ → σ 0 34 = (dep : Int) → GG b x g σ → (∀ (v : Nat → Bool) (p' : Nat) (z : Int) (σ' : PS), parC n t b x d k dep p = .inr (v, p') → OJ σ σ' → TM n t p' (-1) σ' → σ' 0 34 = (dep : Int) → vz g v z → Φ z σ') → (∀ (q p' : Nat) (z : Int) (σ' : PS), parC n t b x d k dep p = .inl q → OJ σ σ' → TM n t p' q σ' → σ' 0 34 = (dep : Int) → (z = 0 ∨ z = 1) → Φ z σ') → PR d k σ Φ := by
  intro d
  induction d with
  | zero => intro k dep p σ Φ _ _ h; omega
  | succ d ih =>
    intro k dep p σ Φ hk hd hf hS h34 hG h1 h0
    rcases (show k = 0 ∨ k = 1 ∨ k = 2 by omega) with z | z | z <;> subst z
    · skip
      show FX12_either (PR d) σ Φ
      unfold FX12_either
      have tail : ∀ (f2 : Nat) (v : Nat → Bool) (p2 : Nat) (z : Int) (σ2 : PS), p ≤ p2 → 91 ≤ f2 + p2 → OJ σ σ2 → TM n t p2 (-1) σ2 → σ2 0 34 = (dep : Int) → vz g v z → parC n t b x (d + 1) 0 dep p = tlP n t 124 or (parC n t b x d 1 dep) f2 v p2 → LX12_either_5 (PR d) (f2 + 1) z σ2 Φ := by
        intro f2
        induction f2 with
        | zero =>
          intro v p2 z σ2 hp hf o2 S2 d2 hv hK
          have := S2.2.2.2.2
          have := ht.1
          omega
        | succ f2 ih2 =>
          intro v p2 z σ2 hp hf2 o2 S2 d2 hv hK
          rw [tlP] at hK
          unfold LX12_either_5 BX12_either_5
          refine m_takesA S2 ht (by omega) (fun σ3 e3 o3 S3 => ⟨fun y => by omega, fun _ => ?_⟩) (fun e3 => ⟨fun _ => ⟨hv.1, h1 v p2 z σ2 (by rw [hK, if_neg e3]) o2 S2 d2 hv⟩, fun y => absurd rfl y⟩)
          rw [if_pos e3] at hK
          have o23 : OJ σ σ3 := o2.trans o3.oj
          have d3 : σ3 0 34 = (dep : Int) := by rw [o3.2 34 (by omega) (by omega)]; exact d2
          refine ih 1 dep (p2 + 1) σ3 _ (by omega) hd (by omega) S3 d3 (hG.oj o23) (fun v4 p4 z4 σ4 e4 o4 S4 d4 hv4 v6 g6' => ?_) (fun q p4 z4 σ4 e4 o4 S4 d4 hz4 v6 g6' => ?_)
          · have hge := ge_parC (n := n) (t := t) (b := b) (x := x) d 1 dep (p2 + 1)
            rw [e4] at hK hge
            have hge : p2 + 1 ≤ p4 := hge
            refine ih2 (fun e => or (v e) (v4 e)) p4 v6 σ4 (by omega) (by omega) (o23.trans o4) S4 d4 ⟨?_, fun e he => ?_⟩ hK
            · rw [g6']
              rcases hv.1 with y | y <;> rcases hv4.1 with y2 | y2 <;> rw [y, y2] <;> decide +kernel
            · have a1 := hv.2 e he
              have a2 := hv4.2 e he
              rw [g6', a1, a2]
              show ior (if v e = true then 1 else 0) (if v4 e = true then 1 else 0) = if or (v e) (v4 e) = true then 1 else 0
              generalize v e = u1
              generalize v4 e = u2
              cases u1 <;> cases u2 <;> decide +kernel
          · rw [e4] at hK
            obtain ⟨f3, hf3⟩ : ∃ j, f2 + 1 = j + 1 := ⟨f2, rfl⟩
            unfold LX12_either_5 BX12_either_5
            have h6 : v6 = 0 ∨ v6 = 1 := by
              rw [g6']
              rcases hv.1 with y | y <;> rcases hz4 with y2 | y2 <;> rw [y, y2] <;> decide +kernel
            exact m_takesB S4 ⟨fun _ => ⟨h6, h0 q p4 v6 σ4 hK (o23.trans o4) S4 d4 h6⟩, fun y => absurd rfl y⟩
      refine ih 1 dep p σ _ (by omega) hd (by omega) hS h34 hG (fun v p2 z σ2 e2 o2 S2 d2 hv => ⟨92, ?_⟩) (fun q p2 z σ2 e2 o2 S2 d2 hz => ⟨1, ?_⟩)
      · have hge := ge_parC (n := n) (t := t) (b := b) (x := x) d 1 dep p
        rw [e2] at hge
        have hge : p ≤ p2 := hge
        refine tail 91 v p2 z σ2 hge (by omega) o2 S2 d2 hv ?_
        rw [parC, e2]
        rfl
      · unfold LX12_either_5 BX12_either_5
        refine m_takesB S2 ⟨fun _ => ⟨hz, h0 q p2 z σ2 ?_ o2 S2 d2 hz⟩, fun y => absurd rfl y⟩
        rw [parC, e2]
        rfl
    · skip
      show FX12_both (PR d) σ Φ
      unfold FX12_both
      have tail : ∀ (f2 : Nat) (v : Nat → Bool) (p2 : Nat) (z : Int) (σ2 : PS), p ≤ p2 → 91 ≤ f2 + p2 → OJ σ σ2 → TM n t p2 (-1) σ2 → σ2 0 34 = (dep : Int) → vz g v z → parC n t b x (d + 1) 1 dep p = tlP n t 38 and (parC n t b x d 2 dep) f2 v p2 → LX12_both_5 (PR d) (f2 + 1) z σ2 Φ := by
        intro f2
        induction f2 with
        | zero =>
          intro v p2 z σ2 hp hf o2 S2 d2 hv hK
          have := S2.2.2.2.2
          have := ht.1
          omega
        | succ f2 ih2 =>
          intro v p2 z σ2 hp hf2 o2 S2 d2 hv hK
          rw [tlP] at hK
          unfold LX12_both_5 BX12_both_5
          refine m_takesA S2 ht (by omega) (fun σ3 e3 o3 S3 => ⟨fun y => by omega, fun _ => ?_⟩) (fun e3 => ⟨fun _ => ⟨hv.1, h1 v p2 z σ2 (by rw [hK, if_neg e3]) o2 S2 d2 hv⟩, fun y => absurd rfl y⟩)
          rw [if_pos e3] at hK
          have o23 : OJ σ σ3 := o2.trans o3.oj
          have d3 : σ3 0 34 = (dep : Int) := by rw [o3.2 34 (by omega) (by omega)]; exact d2
          refine ih 2 dep (p2 + 1) σ3 _ (by omega) hd (by omega) S3 d3 (hG.oj o23) (fun v4 p4 z4 σ4 e4 o4 S4 d4 hv4 v6 g6' => ?_) (fun q p4 z4 σ4 e4 o4 S4 d4 hz4 v6 g6' => ?_)
          · have hge := ge_parC (n := n) (t := t) (b := b) (x := x) d 2 dep (p2 + 1)
            rw [e4] at hK hge
            have hge : p2 + 1 ≤ p4 := hge
            refine ih2 (fun e => and (v e) (v4 e)) p4 v6 σ4 (by omega) (by omega) (o23.trans o4) S4 d4 ⟨?_, fun e he => ?_⟩ hK
            · rw [g6']
              rcases hv.1 with y | y <;> rcases hv4.1 with y2 | y2 <;> rw [y, y2] <;> decide +kernel
            · have a1 := hv.2 e he
              have a2 := hv4.2 e he
              rw [g6', a1, a2]
              show iand (if v e = true then 1 else 0) (if v4 e = true then 1 else 0) = if and (v e) (v4 e) = true then 1 else 0
              generalize v e = u1
              generalize v4 e = u2
              cases u1 <;> cases u2 <;> decide +kernel
          · rw [e4] at hK
            obtain ⟨f3, hf3⟩ : ∃ j, f2 + 1 = j + 1 := ⟨f2, rfl⟩
            unfold LX12_both_5 BX12_both_5
            have h6 : v6 = 0 ∨ v6 = 1 := by
              rw [g6']
              rcases hv.1 with y | y <;> rcases hz4 with y2 | y2 <;> rw [y, y2] <;> decide +kernel
            exact m_takesB S4 ⟨fun _ => ⟨h6, h0 q p4 v6 σ4 hK (o23.trans o4) S4 d4 h6⟩, fun y => absurd rfl y⟩
      refine ih 2 dep p σ _ (by omega) hd (by omega) hS h34 hG (fun v p2 z σ2 e2 o2 S2 d2 hv => ⟨92, ?_⟩) (fun q p2 z σ2 e2 o2 S2 d2 hz => ⟨1, ?_⟩)
      · have hge := ge_parC (n := n) (t := t) (b := b) (x := x) d 2 dep p
        rw [e2] at hge
        have hge : p ≤ p2 := hge
        refine tail 91 v p2 z σ2 hge (by omega) o2 S2 d2 hv ?_
        rw [parC, e2]
        rfl
      · unfold LX12_both_5 BX12_both_5
        refine m_takesB S2 ⟨fun _ => ⟨hz, h0 q p2 z σ2 ?_ o2 S2 d2 hz⟩, fun y => absurd rfl y⟩
        rw [parC, e2]
        rfl
    · show FX12_one (PR d) σ Φ
      unfold FX12_one
      have hn90 := ht.1
      have hpn := hS.2.2.2.2
      rw [parC] at h1 h0
      have cmp : byT n t p ≠ 33 → ¬ (byT n t p = 40 ∧ dep < 5) → LX12_one_82 (PR d) σ Φ := fun c1 c2 => by
        rw [if_neg c1, if_neg c2] at h1 h0
        exact m_cmp hb hx hS ht hG (fun c p' z σ' e o' S' hz => h1 (soB b x c) p' z σ' (by rw [e]; rfl) o'.oj S' (by rw [o'.2 34 (by omega) (by omega)]; exact h34) hz) (fun q p' z σ' e o' S' hz => h0 q p' z σ' (by rw [e]; rfl) o'.oj S' (by rw [o'.2 34 (by omega) (by omega)]; exact h34) hz)
      refine m_takesA hS ht (by omega) (fun σ2 e2 o2 S2 => ⟨fun y => by omega, fun _ => ?_⟩) (fun e2 => ⟨fun _ => ?_, fun y => absurd rfl y⟩)
      · rw [if_pos e2] at h1 h0
        have hlt := (by_rng ht p).2.2 (by omega)
        have d2 : σ2 0 34 = (dep : Int) := by rw [o2.2 34 (by omega) (by omega)]; exact h34
        refine ih 2 dep (p + 1) σ2 _ (by omega) hd (by omega) S2 d2 (hG.oj o2.oj) (fun v p3 z σ3 e3 o3 S3 d3 hv => ?_) (fun q p3 z σ3 e3 o3 S3 d3 hz => ?_)
        · rw [e3] at h1
          refine ⟨fun y => h1 (fun e => !v e) p3 0 σ3 rfl (o2.oj.trans o3) S3 d3 ⟨Or.inl rfl, fun e he => ?_⟩, fun y => h1 (fun e => !v e) p3 1 σ3 rfl (o2.oj.trans o3) S3 d3 ⟨Or.inr rfl, fun e he => ?_⟩⟩
          · have := hv.2 e he
            by_cases u : v e = true
            · show (0 : Int) = if (!v e) = true then 1 else 0
              rw [u]; rfl
            · exact absurd (by rw [this, if_neg u]) y
          · have := hv.2 e he
            by_cases u : v e = true
            · rw [if_pos u] at this
              omega
            · show (1 : Int) = if (!v e) = true then 1 else 0
              rw [Bool.eq_false_iff.mpr u]; rfl
        · rw [e3] at h0
          exact ⟨fun _ => h0 q p3 0 σ3 rfl (o2.oj.trans o3) S3 d3 (Or.inl rfl), fun _ => h0 q p3 1 σ3 rfl (o2.oj.trans o3) S3 d3 (Or.inr rfl)⟩
      · refine m_here hS ht.1 (fun hp => ?_) (fun hp => ?_)
        · have eb : byT n t p = t p := by unfold byT; rw [if_pos hp]
          refine ⟨fun c => cmp e2 (fun y => c (by rw [← eb]; exact y.1)), fun c => ?_⟩
          rw [h34]
          refine ⟨fun c5 => cmp e2 (fun y => by omega), fun c5 => ?_⟩
          rw [if_neg e2, if_pos ⟨by rw [eb]; exact c, by omega⟩] at h1 h0
          rw [hS.2.2.1]
          refine ⟨⟨by omega, by omega⟩, fun σ9 g9 => ?_⟩
          obtain ⟨o9, S9⟩ := m_up30 (p' := p + 1) hS (by omega) g9
          have e9 : σ9 0 34 = (dep : Int) := by rw [o9.2 34 (by omega) (by omega)]; exact h34
          rw [e9]
          refine ⟨⟨by omega, by omega⟩, fun σ11 g11 => ?_⟩
          obtain ⟨o11, S11, d11⟩ := m_up34 S9 g11
          have oo : OJ σ σ11 := o9.oj.trans o11
          have shut : ∀ (p' : Nat) (f : Int) (z : Int) (σ' σ15 : PS), OJ σ11 σ' → σ' 0 34 = ((dep + 1 : Nat) : Int) → OM σ' σ15 → TM n t p' f σ15 → (z = 0 ∨ z = 1) → (∀ σ17 : PS, OJ σ σ17 → TM n t p' f σ17 → σ17 0 34 = (dep : Int) → Φ z σ17) → Rg ((σ15 0 34) - 1) ∧ ∀ σ17 : PS, σ17 = up2 σ15 0 34 ((σ15 0 34) - 1) → (z = 0 ∨ z = 1) ∧ Φ z σ17 := fun p' f z σ' σ15 o' d' o15 S15 hz hk => by
            have e15 : σ15 0 34 = ((dep + 1 : Nat) : Int) := by rw [o15.2 34 (by omega) (by omega)]; exact d'
            rw [e15]
            refine ⟨⟨by omega, by omega⟩, fun σ17 g17 => ?_⟩
            obtain ⟨o17, S17, d17⟩ := m_up34 S15 g17
            exact ⟨hz, hk σ17 (oo.trans (o'.trans (o15.oj.trans o17))) S17 (by rw [d17]; omega)⟩
          refine ih 0 (dep + 1) (p + 1) σ11 _ (by omega) (by omega) (by omega) S11 (by rw [d11]; omega) (hG.oj oo) (fun v p' z σ' e' o' S' d' hv => ?_) (fun q p' z σ' e' o' S' d' hz => ?_)
          · rw [e'] at h1 h0
            refine m_mustA S' ht (by omega) (fun p3 σ15 e15 o15 S15 => ?_) (fun q p3 σ15 e15 o15 S15 => ?_)
            · refine shut p3 (-1) z σ' σ15 o' d' o15 S15 hv.1 (fun σ17 o17 S17 d17 => h1 v p3 z σ17 ?_ o17 S17 d17 hv)
              show bnd (expP n t 41 p') _ = _
              rw [e15]
              rfl
            · refine shut p3 q z σ' σ15 o' d' o15 S15 hv.1 (fun σ17 o17 S17 d17 => h0 q p3 z σ17 ?_ o17 S17 d17 hv.1)
              show bnd (expP n t 41 p') _ = _
              rw [e15]
              rfl
          · rw [e'] at h0
            exact m_mustB S' (fun σ15 o15 S15 => shut p' q z σ' σ15 o' d' o15 S15 hz (fun σ17 o17 S17 d17 => h0 q p' z σ17 rfl o17 S17 d17 hz))
        · have eb : byT n t p = 0 := by unfold byT; rw [if_neg hp]
          exact ⟨fun _ => cmp e2 (fun y => by omega), fun c => by omega⟩
      all_goals omega
end Cond5
