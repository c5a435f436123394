def vlB (b : Bk) (x : Nat → Int) (w e : Nat) : Int := if w < 5 then bB b e w else if w = 5 then x e else if w = 6 then bB b e 3 - x e else if bB b e 5 = 1 then 0 else 1
def soB (b : Bk) (x : Nat → Int) (c : Nat × Int × Int) (e : Nat) : Bool := if c.2.1 = 60 then decide (vlB b x c.1 e < c.2.2) else if c.2.1 = 62 then decide (c.2.2 < vlB b x c.1 e) else decide (vlB b x c.1 e = c.2.2)
/-- what the reference answers for one gate -/
def vz (g : Int) (v : Nat → Bool) (z : Int) : Prop := (z = 0 ∨ z = 1) ∧ ∀ e : Nat, g = (e : Int) → z = if v e = true then 1 else 0
section Cond2
variable {b : Bk} {n p : Nat} {t : Nat → Int} {f : Int} {x : Nat → Int} {σ : PS} {Φ : Int → PS → Prop}
theorem m_w41 {p0 : Nat} (hS : TM n t p f σ) (hn : n ≤ 90) (hp : p0 ≤ p) (hl : ∀ j, p0 ≤ j → j < p → 97 ≤ byT n t j ∧ byT n t j ≤ 122) (h1 : ∀ w : Nat, w < 8 → isW n t p0 p w → Φ w σ) (h0 : (∀ w, w < 8 → ¬ isW n t p0 p w) → FX12_wrong p0 σ (fun _ σ5 => Φ 0 σ5)) :
    ∀ (f w : Nat), w ≤ 8 → 8 - w < f → (∀ j, j < w → ¬ isW n t p0 p j) → LX12_word_41 f p0 w σ Φ := by
  have hpn := hS.2.2.2.2
  intro f
  induction f with
  | zero => intro w h1 h2; omega
  | succ f ih =>
    intro w hw hf hall
    unfold LX12_word_41 BX12_word_41
    refine ⟨by omega, by rw [slen8.2]; omega, ?_⟩
    rw [slen8.1, slen8.2]
    refine ⟨fun c => h0 (fun v hv => hall v (by omega)), fun c => ?_⟩
    have hw8 : w < 8 := by omega
    have TL := tabL w hw8
    have next : ∀ y : Int, y = 0 → ¬ isW n t p0 p w → LX12_word_154 (fun x1 x2 σ => LX12_word_41 f x1 x2 σ Φ) p0 w y σ Φ := fun y hy hno => by
      subst hy
      unfold LX12_word_154
      refine ⟨fun _ => ⟨⟨by omega, by omega⟩, ?_⟩, fun z => absurd rfl z⟩
      have := ih (w + 1) (by omega) (by omega) (fun j hj => by
        by_cases e : j = w
        · rw [e]; exact hno
        · exact hall j (by omega))
      rw [show ((w : Nat) : Int) + 1 = ((w + 1 : Nat) : Int) by omega]
      exact this
    have zero : ∀ (f2 : Nat) (i : Int), 0 < f2 → ¬ isW n t p0 p w → LX12_word_104 (fun x1 x2 σ => LX12_word_41 f x1 x2 σ Φ) f2 p0 w 0 i σ Φ := fun f2 i hf2 hno => by
      obtain ⟨f2, rfl⟩ : ∃ j, f2 = j + 1 := ⟨f2 - 1, by omega⟩
      unfold LX12_word_104 BX12_word_104
      exact ⟨fun _ => next 0 rfl hno, fun _ => ⟨fun _ => next 0 rfl hno, fun z => absurd rfl z⟩⟩
    have stop0 : ¬ isW n t p0 p w → LX12_word_99 (fun x1 x2 σ => LX12_word_41 f x1 x2 σ Φ) p0 w σ Φ := fun hno => by
      unfold LX12_word_99 LX12_word_100
      exact ⟨1, zero 1 p0 (by omega) hno⟩
    rw [hS.2.2.1]
    refine ⟨fun c1 => stop0 (fun z => by have := z.1; omega), fun c1 => ⟨⟨by omega, by omega⟩, fun c2 => stop0 (fun z => by have := z.1; omega), fun c2 => ⟨⟨by omega, by omega⟩, ⟨by omega, by omega⟩, ⟨by omega, by omega⟩, ⟨by omega, by omega, by omega⟩, ?_⟩⟩⟩
    rw [show (7 * (w : Int) + (p : Int) - (p0 : Int)).toNat = 7 * w + (p - p0) by omega, tabR w hw8 (p - p0) (by omega)]
    by_cases q : p - p0 < (nmL w).length
    · rw [if_pos q]
      have := TL.2 (p - p0) q
      exact ⟨fun _ => stop0 (fun z => by have := z.1; omega), fun z => by omega⟩
    · rw [if_neg q]
      refine ⟨fun z => absurd rfl z, fun _ => ⟨p - p0 + 1, ?_⟩⟩
      have loop : ∀ (f2 i : Nat), i ≤ p - p0 → p - p0 - i < f2 → (∀ j, j < i → byT n t (p0 + j) = schr 8 (7 * w + j)) → LX12_word_104 (fun x1 x2 σ => LX12_word_41 f x1 x2 σ Φ) f2 p0 w 1 ((p0 + i : Nat) : Int) σ Φ := by
        intro f2
        induction f2 with
        | zero => intro i h1 h2; omega
        | succ f2 ih2 =>
          intro i hi hf2 hm
          unfold LX12_word_104 BX12_word_104
          rw [hS.2.2.1]
          refine ⟨fun d1 => ?_, fun d1 => ⟨fun z => by omega, fun _ => ?_⟩⟩
          · have ei : i = p - p0 := by omega
            have el : p - p0 = (nmL w).length := by
              rcases Nat.lt_or_ge (nmL w).length (p - p0) with z | z
              · have a1 := hm (nmL w).length (by omega)
                rw [tabR w hw8 _ (by omega), if_neg (by omega)] at a1
                have a2 := hl (p0 + (nmL w).length) (by omega) (by omega)
                omega
              · omega
            unfold LX12_word_154
            refine ⟨fun z => by omega, fun _ => h1 w hw8 ⟨el, fun j hj => ?_⟩⟩
            rw [hm j (by omega), tabR w hw8 j (by omega), if_pos hj]
          · have hip : p0 + i < n := by omega
            refine ⟨⟨by omega, by omega⟩, ⟨by omega, by omega⟩, ⟨by omega, by omega⟩, ⟨by omega, by omega, by rw [slen8.2]; omega⟩, ⟨by omega, by omega⟩, ?_⟩
            rw [show (7 * (w : Int) + ((p0 + i : Nat) : Int) - (p0 : Int)).toNat = 7 * w + i by omega, show (((p0 + i : Nat) : Int)).toNat = p0 + i by omega, hS.2.1 (p0 + i) hip]
            have eb : byT n t (p0 + i) = t (p0 + i) := by unfold byT; rw [if_pos hip]
            refine ⟨fun d2 => ?_, fun d2 => ?_⟩
            · unfold LX12_word_147
              refine ⟨⟨by omega, by omega⟩, zero f2 _ (by omega) (fun z => d2 ?_)⟩
              have a1 := z.2 i (by have := z.1; omega)
              rw [tabR w hw8 i (by omega), if_pos (by have := z.1; omega), ← a1, eb]
            · unfold LX12_word_147
              refine ⟨⟨by omega, by omega⟩, ?_⟩
              have := ih2 (i + 1) (by omega) (by omega) (fun j hj => by
                by_cases e : j = i
                · rw [e, eb, d2]
                · exact hm j (by omega))
              rw [show (((p0 + i : Nat) : Int)) + 1 = ((p0 + (i + 1) : Nat) : Int) by omega]
              exact this
      exact loop (p - p0 + 1) 0 (by omega) (by omega) (fun j hj => by omega)
theorem m_wordB {q : Nat} (hS : TM n t p q σ) (ht : okt n t) (h : ∀ σ' : PS, OM σ σ' → TM n t p q σ' → Φ 0 σ') : FX12_word σ Φ := by
  unfold FX12_word
  intro v1 g1
  rw [hS.2.2.1] at g1
  subst g1
  refine ⟨1, ?_⟩
  unfold LX12_word_5 BX12_word_5
  rw [hS.2.2.2.1]
  refine ⟨fun _ => ?_, fun c => by omega⟩
  unfold LX12_word_39
  refine ⟨9, m_w41 hS ht.1 (Nat.le_refl _) (fun j h1 h2 => by omega) (fun w hw hi => ?_) (fun _ => m_wrongB hS h) 9 0 (by omega) (by omega) (fun j hj => by omega)⟩
  have := (tabL w hw).1
  have := hi.1
  omega
theorem m_wordA (hS : TM n t p (-1) σ) (ht : okt n t) (h1 : ∀ (w p' : Nat) (σ' : PS), w < 8 → wrdP n t p = .inr (w, p') → OM σ σ' → TM n t p' (-1) σ' → Φ w σ') (h0 : ∀ (p' : Nat) (σ' : PS), wrdP n t p = .inl p → OM σ σ' → TM n t p' p σ' → Φ 0 σ') : FX12_word σ Φ := by
  have hn := ht.1
  have hp := hS.2.2.2.2
  obtain ⟨⟨l1, l2⟩, l3⟩ := ltrP_is ht hp
  unfold FX12_word
  intro v1 g1
  rw [hS.2.2.1] at g1
  subst g1
  refine ⟨92, ?_⟩
  have fin : ∀ σ' : PS, OM σ σ' → TM n t (ltrP n t p) (-1) σ' → LX12_word_39 p σ' Φ := fun σ' o' S' => by
    unfold LX12_word_39
    exact ⟨9, m_w41 S' hn l1 l3 (fun w hw hi => h1 w _ σ' hw (wrd_some hw hi) o' S') (fun hno => m_wrong S' (fun z => by omega) (fun _ σ2 o2 S2 => h0 _ σ2 (wrd_none hno) (o'.trans o2) S2)) 9 0 (by omega) (by omega) (fun j hj => by omega)⟩
  have loop : ∀ (f k p' : Nat) (σ' : PS), k < f → p' + k = p + 90 → ltrL n t k p' = ltrP n t p → OM σ σ' → TM n t p' (-1) σ' → LX12_word_5 f p σ' Φ := by
    intro f
    induction f with
    | zero => intro k p' σ' h1 h2; omega
    | succ f ih =>
      intro k p' σ' hf hk he o' S'
      unfold LX12_word_5 BX12_word_5
      rw [S'.2.2.2.1]
      refine ⟨fun c => by omega, fun _ => ?_⟩
      have stop : ¬ (97 ≤ byT n t p' ∧ byT n t p' ≤ 122) → LX12_word_39 p σ' Φ := fun z => by
        have e2 : p' = ltrP n t p := by
          cases k with
          | zero => exact he
          | succ k => rw [ltrL, if_neg z] at he; exact he
        rw [e2] at S'
        exact fin σ' o' S'
      refine m_here S' hn (fun hp => ?_) (fun hp => ?_)
      · have eb : byT n t p' = t p' := by unfold byT; rw [if_pos hp]
        refine m_in (fun x y => ⟨fun c => by omega, fun _ => ?_⟩) (fun x => ⟨fun _ => stop (by rw [eb]; omega), fun c => absurd rfl c⟩)
        rw [S'.2.2.1]
        refine ⟨⟨by omega, by omega⟩, fun σ8 g8 => ?_⟩
        obtain ⟨o8, S8⟩ := m_up30 (p' := p' + 1) S' (by omega) g8
        obtain ⟨k, rfl⟩ : ∃ j, k = j + 1 := ⟨k - 1, by omega⟩
        rw [ltrL, if_pos (by rw [eb]; exact ⟨x, y⟩)] at he
        exact ih k (p' + 1) σ8 (by omega) (by omega) he (o'.trans o8) S8
      · have eb : byT n t p' = 0 := by unfold byT; rw [if_neg hp]
        exact m_in (fun x y => by omega) (fun x => ⟨fun _ => stop (by rw [eb]; omega), fun c => absurd rfl c⟩)
  exact loop 92 90 p σ (by omega) rfl rfl OM.rf hS
end Cond2
