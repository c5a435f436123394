section Spell2
variable {d : DS} {b : Bk} {σ : PS} {Φ : Int → PS → Prop} {P : List Int}
theorem m_write {K7 : Int → PS → Prop} {e : Nat} (hb : okB b) (he : e < bn b) (hM : mB 1 b σ) (hP : mP P σ) (hl : P.length + 16 ≤ 510) (h : ∀ σ' : PS, OP σ σ' → mP (P ++ txt (bB b e)) σ' → K7 ((e : Int) + 1) σ') : LX12_spell_27 K7 e σ Φ := by
  have hn := hb.1
  have hG := hb.2.2.2.2 e he
  have hG' := hG
  unfold okG at hG
  have len : ∀ L R : List Int, L ++ R = P ++ txt (bB b e) → L.length ≤ P.length + 16 := fun L R hLR => by
    have h1 := txt_len hG'
    have h2 : (L ++ R).length = (P ++ txt (bB b e)).length := by rw [hLR]
    rw [List.length_append, List.length_append] at h2
    omega
  have rd : ∀ {σ1 : PS}, OP σ σ1 → mB 1 b σ1 := fun ho => hM.keep (ho.1 1 (by simp))
  have l8 := len (P ++ num (bB b e 0) ++ [62] ++ num (bB b e 1) ++ [58]) ((if bB b e 2 = 0 then [] else num (bB b e 2) ++ [45]) ++ num (bB b e 3) ++ (if bB b e 4 = 1 then [] else [64] ++ num (bB b e 4)) ++ (if bB b e 5 = 0 then [120] else [])) (by unfold txt; simp only [List.append_assoc])
  simp only [List.length_append, List.length_cons, List.length_nil] at l8
  have l9 : ¬ bB b e 2 = 0 → P.length + (num (bB b e 0)).length + 1 + (num (bB b e 1)).length + 1 + (num (bB b e 2)).length + 1 ≤ P.length + 16 := fun c => by
    have := len (P ++ num (bB b e 0) ++ [62] ++ num (bB b e 1) ++ [58] ++ (num (bB b e 2) ++ [45])) (num (bB b e 3) ++ (if bB b e 4 = 1 then [] else [64] ++ num (bB b e 4)) ++ (if bB b e 5 = 0 then [120] else [])) (by unfold txt; rw [if_neg c]; simp only [List.append_assoc])
    simp only [List.length_append, List.length_cons, List.length_nil] at this
    omega
  have fin : ∀ {Q : List Int} {σ1 : PS}, mP Q σ1 → OP σ σ1 → Q ++ (if bB b e 5 = 0 then [120] else []) = P ++ txt (bB b e) → LX12_spell_120 K7 e σ1 Φ := fun {Q σ1} hQ ho hq => by
    unfold LX12_spell_120 FX12_isOpen
    have l1 := len Q _ hq
    refine m_at rfl rfl hb (rd ho) he (w := 5) (by omega) ⟨fun c => ⟨fun c2 => absurd rfl c2, fun _ => ?_⟩, fun c => ⟨fun _ => ?_, fun c2 => by omega⟩⟩
    · rw [if_pos (by omega)] at hq
      exact m_sign hQ (by omega) (fun σ19 o19 h19 => ⟨⟨by omega, by omega⟩, h σ19 (ho.trans o19) (by rw [← hq]; exact h19)⟩)
    · rw [if_neg (by omega), List.append_nil] at hq
      exact ⟨⟨by omega, by omega⟩, h σ1 ho (by rw [← hq]; exact hQ)⟩
  have p84 : ∀ {Q : List Int} {σ1 : PS}, mP Q σ1 → OP σ σ1 → Q ++ num (bB b e 3) ++ (if bB b e 4 = 1 then [] else [64] ++ num (bB b e 4)) ++ (if bB b e 5 = 0 then [120] else []) = P ++ txt (bB b e) → LX12_spell_84 K7 e σ1 Φ := fun {Q σ1} hQ ho hq => by
    unfold LX12_spell_84
    have l1 := len (Q ++ num (bB b e 3) ++ (if bB b e 4 = 1 then [] else [64] ++ num (bB b e 4))) _ hq
    simp only [List.length_append] at l1
    refine m_at rfl rfl hb (rd ho) he (w := 3) (by omega) (m_num hQ (by omega) (by omega) (fun σ2 o2 h2 => ?_))
    have q2 := ho.trans o2
    refine m_at rfl rfl hb (rd q2) he (w := 4) (by omega) ⟨fun c => ?_, fun c => ?_⟩
    · rw [if_pos (by omega), List.append_nil] at hq
      exact fin h2 q2 hq
    · rw [if_neg (by omega)] at hq l1
      simp only [List.length_append, List.length_cons, List.length_nil] at l1
      refine m_sign h2 (by rw [List.length_append]; omega) (fun σ3 o3 h3 => m_at rfl rfl hb (rd (q2.trans o3)) he (w := 4) (by omega) (m_num h3 ?_ (by omega) (fun σ4 o4 h4 => fin h4 ((q2.trans o3).trans o4) ?_)))
      · simp only [List.length_append, List.length_cons, List.length_nil]; omega
      · rw [← hq]; simp only [List.append_assoc]
  unfold LX12_spell_27
  refine m_at rfl rfl hb hM he (w := 0) (by omega) (m_num hP (by omega) (by omega) (fun σ3 o3 h3 => m_sign h3 (by rw [List.length_append]; omega) (fun σ5 o5 h5 => ?_)))
  have q5 := o3.trans o5
  refine m_at rfl rfl hb (rd q5) he (w := 1) (by omega) (m_num h5 ?_ (by omega) (fun σ8 o8 h8 => m_sign h8 ?_ (fun σ10 o10 h10 => ?_)))
  · simp only [List.length_append, List.length_cons, List.length_nil]; omega
  · simp only [List.length_append, List.length_cons, List.length_nil]; omega
  have q10 := (q5.trans o8).trans o10
  refine m_at rfl rfl hb (rd q10) he (w := 2) (by omega) ⟨fun c => p84 h10 q10 ?_, fun c => ?_⟩
  · unfold txt; rw [if_pos (show bB b e 2 = 0 by omega)]; simp only [List.append_assoc, List.nil_append]
  · have l9 := l9 (by omega)
    refine m_at rfl rfl hb (rd q10) he (w := 2) (by omega) (m_num h10 ?_ (by omega) (fun σ3' o3' h3' => m_sign h3' ?_ (fun σ5' o5' h5' => p84 h5' ((q10.trans o3').trans o5') ?_)))
    · simp only [List.length_append, List.length_cons, List.length_nil]; omega
    · simp only [List.length_append, List.length_cons, List.length_nil]; omega
    · unfold txt; rw [if_neg (show ¬ bB b e 2 = 0 by omega)]; simp only [List.append_assoc]
theorem btx_lt {n : Nat} (hb : okB b) (hn : n < bn b) : (btx (bB b) n ++ (if n = 0 then [] else [59])).length + 16 ≤ 510 := by
  have h30 := hb.1
  have h1 := btx_len (B := bB b) (n := n) (fun e he => hb.2.2.2.2 e (by omega))
  by_cases e : n = 0
  · subst e
    simp [btx]
  · rw [if_neg e, List.length_append, List.length_singleton]
    omega
theorem c_spell (hb : okB b) (hC : cB 1 13 b σ) (h : ∀ σ' : PS, Off [11, 61] σ σ' → cP (btx (bB b) (bn b)) σ' → Φ ((btx (bB b) (bn b)).length : Nat) σ') : FX11_spell σ Φ := by
  have h30 := hb.1
  unfold FX11_spell FX7_write
  intro σ1 g1
  refine ⟨bn b + 1, ?_⟩
  have loop : ∀ (f i : Nat) (σ2 : PS), i ≤ bn b → bn b - i < f → Off [11, 61] σ σ2 → cP (btx (bB b) i) σ2 → LX7_write_7 f i σ2 (fun z1 σ2 => Φ (σ2 11 1) σ2) := by
    intro f
    induction f with
    | zero => intro i σ2 h1 h2; omega
    | succ f ih =>
      intro i σ2 hi hf ho hP
      have hC2 := hC.off ho (by simp) (fun w hw => by simp; omega)
      unfold LX7_write_7 BX7_write_7
      rw [hC2.1]
      refine ⟨fun c => ?_, fun c => ?_⟩
      · have e : i = bn b := by omega
        rw [e] at hP
        show Φ (σ2 11 1) σ2
        rw [hP.1]
        exact h σ2 ho hP
      · have hlt : i < bn b := by omega
        have hlen := btx_lt hb hlt
        have step : ∀ {Q : List Int} {σ3 : PS}, Off [11, 61] σ σ3 → cP Q σ3 → Q = btx (bB b) i ++ (if i = 0 then [] else [59]) → LX7_write_25 (fun x2 σ => LX7_write_7 f x2 σ (fun z1 σ2 => Φ (σ2 11 1) σ2)) i σ3 (fun z1 σ2 => Φ (σ2 11 1) σ2) := fun {Q σ3} o3 hQ he => by
          refine c_write hb hlt (hC.off o3 (by simp) (fun w hw => by simp; omega)) hQ (by rw [he]; exact hlen) (fun σ' o' h' => ih (i + 1) σ' (by omega) (by omega) (o3.trans o') ?_)
          rw [he] at h'
          exact h'
        refine ⟨fun c2 => step ho hP ?_, fun c2 => ?_⟩
        · rw [if_pos (by omega), List.append_nil]
        · rw [if_neg (by omega), List.length_append, List.length_singleton] at hlen
          refine c_sign hP (by omega) (by omega) (fun σ4 o4 h4 => step (ho.trans o4) h4 ?_)
          rw [if_neg (by omega)]
  exact loop (bn b + 1) 0 σ1 (by omega) (by omega) (by rw [g1]; exact Off.rf.up (by simp)) ⟨by rw [g1, up2_at]; rfl, fun i hi => by simp [btx] at hi⟩
theorem m_spell (hb : okB b) (hM : mB 1 b σ) (h : ∀ σ' : PS, OP σ σ' → mP (btx (bB b) (bn b)) σ' → Φ ((btx (bB b) (bn b)).length : Nat) σ') : FX12_spell σ Φ := by
  have h30 := hb.1
  unfold FX12_spell
  intro σ1 g1
  refine ⟨bn b + 1, ?_⟩
  have loop : ∀ (f i : Nat) (σ2 : PS), i ≤ bn b → bn b - i < f → OP σ σ2 → mP (btx (bB b) i) σ2 → LX12_spell_7 f i σ2 Φ := by
    intro f
    induction f with
    | zero => intro i σ2 h1 h2; omega
    | succ f ih =>
      intro i σ2 hi hf ho hP
      have hM2 : mB 1 b σ2 := hM.keep (ho.1 1 (by simp))
      unfold LX12_spell_7 BX12_spell_7
      rw [hM2.1]
      refine ⟨fun c => ?_, fun c => ?_⟩
      · have e : i = bn b := by omega
        rw [e] at hP
        rw [hP.1]
        exact h σ2 ho hP
      · have hlt : i < bn b := by omega
        have hlen := btx_lt hb hlt
        have step : ∀ {Q : List Int} {σ3 : PS}, OP σ σ3 → mP Q σ3 → Q = btx (bB b) i ++ (if i = 0 then [] else [59]) → LX12_spell_27 (fun x2 σ => LX12_spell_7 f x2 σ Φ) i σ3 Φ := fun {Q σ3} o3 hQ he => by
          refine m_write hb hlt (hM.keep (o3.1 1 (by simp))) hQ (by rw [he]; exact hlen) (fun σ' o' h' => ih (i + 1) σ' (by omega) (by omega) (o3.trans o') ?_)
          rw [he] at h'
          exact h'
        refine ⟨fun c2 => step ho hP ?_, fun c2 => ?_⟩
        · rw [if_pos (by omega), List.append_nil]
        · rw [if_neg (by omega), List.length_append, List.length_singleton] at hlen
          refine m_sign hP (by omega) (fun σ4 o4 h4 => step (ho.trans o4) h4 ?_)
          rw [if_neg (by omega)]
  exact loop (bn b + 1) 0 σ1 (by omega) (by omega) ⟨by rw [g1]; exact Off.rf.up (by simp), fun i hi => by rw [g1, up2_ni hi]⟩ ⟨by rw [g1, up2_at]; rfl, fun i hi => by simp [btx] at hi⟩
theorem p_spell : PT FX11_spell FX12_spell := by
  intro d σc σm hd hC hM
  obtain ⟨h1, h2, h3, h4, h5, h6⟩ := id hC
  obtain ⟨i1, i2, i3, i4, i5⟩ := id hM
  refine c_spell hd.1 h1 (fun σc' o hP => m_spell hd.1 i1 (fun σm' oM hQ => ⟨rfl, (dB d, dI d, d.2.2.1, ((btx (bB (dB d)) (bn (dB d))).length, fun i => (btx (bB (dB d)) (bn (dB d))).getD i 0), d.2.2.2.2), ⟨hd.1, hd.2.1, hd.2.2.1, ?_, hd.2.2.2.2⟩, ⟨h1.off o (by simp) (fun w hw => by simp; omega), h2.off o (by rw [o 0 (by simp)]) (by simp), ?_, hP, ?_, h6.off o (fun i _ => by rw [o 0 (by simp)]) (by simp)⟩, ⟨i1.keep (oM.1 1 (by simp)), i2.keep (oM.2 2 (by omega)) (oM.1 2 (by simp)), ?_, hQ, ?_⟩⟩))
  · have l := btx_len (B := bB (dB d)) (n := bn (dB d)) (fun e he => hd.1.2.2.2.2 e he)
    have := hd.1.1
    show (btx (bB (dB d)) (bn (dB d))).length ≤ 510
    omega
  · rw [o 9 (by simp), o 57 (by simp)]; exact h3
  · rw [o 62 (by simp), o 63 (by simp)]; exact h5
  · rw [oM.2 29 (by omega), oM.1 23 (by simp)]; exact i3
  · rw [oM.1 25 (by simp), oM.1 26 (by simp)]; exact i5
end Spell2
