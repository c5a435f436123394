def cP (P : List Int) (σ : PS) : Prop := σ 11 1 = (P.length : Int) ∧ ∀ i, i < P.length → σ 61 i = P.getD i 0
def mP (P : List Int) (σ : PS) : Prop := σ 0 36 = (P.length : Int) ∧ ∀ i, i < P.length → σ 24 i = P.getD i 0
/-- only the reference's paper is other -/
def OP (σ σ' : PS) : Prop := Off [0, 24] σ σ' ∧ ∀ i, i ≠ 36 → σ' 0 i = σ 0 i
theorem OP.rf {σ : PS} : OP σ σ := ⟨Off.rf, fun _ _ => rfl⟩
theorem OP.trans {a b c : PS} (h : OP a b) (g : OP b c) : OP a c := ⟨h.1.trans g.1, fun i hi => (g.2 i hi).trans (h.2 i hi)⟩
theorem getD_app {P Q : List Int} {i : Nat} : (P ++ Q).getD i 0 = if i < P.length then P.getD i 0 else Q.getD (i - P.length) 0 := by
  by_cases h : i < P.length
  · rw [if_pos h, List.getD_eq_getElem?_getD, List.getElem?_append_left h, ← List.getD_eq_getElem?_getD]
  · rw [if_neg h, List.getD_eq_getElem?_getD, List.getElem?_append_right (by omega), ← List.getD_eq_getElem?_getD]
def num (v : Int) : List Int := (if 100 ≤ v then [48 + v / 100] else []) ++ (if 10 ≤ v then [48 + v / 10 % 10] else []) ++ [48 + v % 10]
def txt (B : Nat → Int) : List Int := num (B 0) ++ [62] ++ num (B 1) ++ [58] ++ (if B 2 = 0 then [] else num (B 2) ++ [45]) ++ num (B 3) ++ (if B 4 = 1 then [] else [64] ++ num (B 4)) ++ (if B 5 = 0 then [120] else [])
def btx (B : Nat → Nat → Int) : Nat → List Int
  | 0 => []
  | n + 1 => btx B n ++ (if n = 0 then [] else [59]) ++ txt (B n)
theorem num_len {v : Int} (h : 0 ≤ v) : (num v).length ≤ 3 ∧ (v < 12 → (num v).length ≤ 2) ∧ (v < 10 → (num v).length ≤ 1) := by
  unfold num
  by_cases h1 : 100 ≤ v <;> by_cases h2 : 10 ≤ v <;> simp [h1, h2] <;> omega
theorem txt_len {B : Nat → Int} (h : okG B) : (txt B).length ≤ 16 := by
  unfold okG at h
  have h0 := (num_len (v := B 0) (by omega)).2.1 (by omega)
  have h1 := (num_len (v := B 1) (by omega)).2.1 (by omega)
  have h2 := (num_len (v := B 2) (by omega)).1
  have h3 := (num_len (v := B 3) (by omega)).1
  have h4 := (num_len (v := B 4) (by omega)).2.2 (by omega)
  unfold txt
  by_cases e2 : B 2 = 0 <;> by_cases e4 : B 4 = 1 <;> by_cases e5 : B 5 = 0 <;> simp only [e2, e4, e5, if_true, if_false, List.length_append, List.length_cons, List.length_nil] <;> (try rw [e2] at h2) <;> (try rw [e4] at h4) <;> omega
theorem btx_len {B : Nat → Nat → Int} : ∀ {n : Nat}, (∀ e, e < n → okG (B e)) → (btx B n).length ≤ 17 * n
  | 0, _ => by simp [btx]
  | n + 1, h => by
    have h1 := btx_len (n := n) (fun e he => h e (by omega))
    have h2 := txt_len (h n (by omega))
    unfold btx
    by_cases e : n = 0
    · subst e; simp only [if_true, List.length_append, List.length_nil]; omega
    · simp only [e, if_false, List.length_append, List.length_cons, List.length_nil]; omega
section Spell
variable {d : DS} {b : Bk} {σ : PS} {Φ : Int → PS → Prop} {P : List Int}
theorem c_sign {c : Int} (hP : cP P σ) (hl : P.length < 510) (hc : 0 ≤ c ∧ c ≤ 127) (h : ∀ σ' : PS, Off [11, 61] σ σ' → cP (P ++ [c]) σ' → Φ 0 σ') : FX7_putSign c σ Φ := by
  unfold FX7_putSign
  rw [hP.1]
  refine ⟨fun c => by omega, fun _ => ⟨fun c => by omega, fun _ => ⟨⟨by omega, by omega⟩, ⟨by omega, by omega⟩, ⟨by omega, by omega⟩, fun σ6 g6 => ?_⟩⟩⟩
  have e6 : σ6 11 1 = (P.length : Int) := by rw [g6, up2_nk (by omega)]; exact hP.1
  rw [e6]
  refine ⟨⟨by omega, by omega⟩, fun σ8 g8 => h σ8 (by rw [g8, g6]; exact (Off.rf.up (by simp)).up (by simp)) ⟨?_, fun i hi => ?_⟩⟩
  · rw [g8, up2_at, List.length_append, List.length_singleton]; omega
  · rw [List.length_append, List.length_singleton] at hi
    rw [g8, up2_nk (by omega), g6, up2_if, getD_app]
    by_cases q : i < P.length
    · rw [if_neg (by omega), if_pos q]; exact hP.2 i q
    · rw [if_pos (by omega), if_neg q, show i - P.length = 0 by omega]; rfl
theorem m_sign {c : Int} (hP : mP P σ) (hl : P.length < 600) (h : ∀ σ' : PS, OP σ σ' → mP (P ++ [c]) σ' → Φ 0 σ') : FX12_puts c σ Φ := by
  unfold FX12_puts
  rw [hP.1]
  refine ⟨⟨by omega, by omega⟩, fun σ6 g6 => ?_⟩
  have e6 : σ6 0 36 = (P.length : Int) := by rw [g6, up2_nk (by omega)]; exact hP.1
  rw [e6]
  refine ⟨⟨by omega, by omega⟩, fun σ8 g8 => h σ8 ⟨by rw [g8, g6]; exact (Off.rf.up (by simp)).up (by simp), fun i hi => by rw [g8, up2_ni hi, g6, up2_nk (by omega)]⟩ ⟨?_, fun i hi => ?_⟩⟩
  · rw [g8, up2_at, List.length_append, List.length_singleton]; omega
  · rw [List.length_append, List.length_singleton] at hi
    rw [g8, up2_nk (by omega), g6, up2_if, getD_app]
    by_cases q : i < P.length
    · rw [if_neg (by omega), if_pos q]; exact hP.2 i q
    · rw [if_pos (by omega), if_neg q, show i - P.length = 0 by omega]; rfl
theorem c_num {v : Int} (hP : cP P σ) (hl : P.length + (num v).length ≤ 510) (hv : 0 ≤ v ∧ v ≤ 999) (h : ∀ σ' : PS, Off [11, 61] σ σ' → cP (P ++ num v) σ' → Φ 0 σ') : FX7_putNumber v σ Φ := by
  have l37 : ∀ {Q : List Int} {σ1 : PS}, cP Q σ1 → Off [11, 61] σ σ1 → Q ++ [48 + v % 10] = P ++ num v → LX7_putNumber_37 v σ1 Φ := fun hQ ho he => by
    have hq := congrArg List.length he
    simp only [List.length_append, List.length_cons, List.length_nil] at hq
    unfold LX7_putNumber_37
    refine ⟨hv.1, ⟨by omega, by omega⟩, c_sign hQ (by omega) (by omega) (fun σ' o h' => h σ' (ho.trans o) ?_)⟩
    rw [← he]; exact h'
  have l17 : ∀ {Q : List Int} {σ1 : PS}, cP Q σ1 → Off [11, 61] σ σ1 → Q ++ (if 10 ≤ v then [48 + v / 10 % 10] else []) ++ [48 + v % 10] = P ++ num v → LX7_putNumber_17 v σ1 Φ := fun hQ ho he => by
    have hq := congrArg List.length he
    simp only [List.length_append, List.length_cons, List.length_nil] at hq
    unfold LX7_putNumber_17
    refine ⟨fun c => ?_, fun c => ⟨hv.1, by omega, ⟨by omega, by omega⟩, ?_⟩⟩
    · rw [if_neg (by omega), List.append_nil] at he
      exact l37 hQ ho he
    · rw [if_pos (by omega)] at he hq
      simp only [List.length_cons, List.length_nil] at hq
      exact c_sign hQ (by omega) (by omega) (fun σ' o h' => l37 h' (ho.trans o) he)
  unfold FX7_putNumber
  have hn0 : 0 < (num v).length := by unfold num; simp only [List.length_append, List.length_cons, List.length_nil]; omega
  refine ⟨fun c => l17 hP Off.rf ?_, fun c => ⟨hv.1, ⟨by omega, by omega⟩, ?_⟩⟩
  · unfold num
    rw [if_neg (show ¬ 100 ≤ v by omega), List.nil_append, List.append_assoc]
  · refine c_sign hP (by omega) (by omega) (fun σ' o h' => l17 h' o ?_)
    unfold num
    rw [if_pos (show 100 ≤ v by omega)]
    simp only [List.append_assoc]
theorem m_num {v : Int} (hP : mP P σ) (hl : P.length + (num v).length ≤ 600) (hv : 0 ≤ v ∧ v ≤ 999) (h : ∀ σ' : PS, OP σ σ' → mP (P ++ num v) σ' → Φ 0 σ') : FX12_putsNumber v σ Φ := by
  have l37 : ∀ {Q : List Int} {σ1 : PS}, mP Q σ1 → OP σ σ1 → Q ++ [48 + v % 10] = P ++ num v → LX12_putsNumber_37 v σ1 Φ := fun hQ ho he => by
    have hq := congrArg List.length he
    simp only [List.length_append, List.length_cons, List.length_nil] at hq
    unfold LX12_putsNumber_37
    refine ⟨hv.1, ⟨by omega, by omega⟩, m_sign hQ (by omega) (fun σ' o h' => h σ' (ho.trans o) ?_)⟩
    rw [← he]; exact h'
  have l17 : ∀ {Q : List Int} {σ1 : PS}, mP Q σ1 → OP σ σ1 → Q ++ (if 10 ≤ v then [48 + v / 10 % 10] else []) ++ [48 + v % 10] = P ++ num v → LX12_putsNumber_17 v σ1 Φ := fun hQ ho he => by
    have hq := congrArg List.length he
    simp only [List.length_append, List.length_cons, List.length_nil] at hq
    unfold LX12_putsNumber_17
    refine ⟨fun c => ?_, fun c => ⟨hv.1, by omega, ⟨by omega, by omega⟩, ?_⟩⟩
    · rw [if_neg (by omega), List.append_nil] at he
      exact l37 hQ ho he
    · rw [if_pos (by omega)] at he hq
      simp only [List.length_cons, List.length_nil] at hq
      exact m_sign hQ (by omega) (fun σ' o h' => l37 h' (ho.trans o) he)
  unfold FX12_putsNumber
  have hn0 : 0 < (num v).length := by unfold num; simp only [List.length_append, List.length_cons, List.length_nil]; omega
  refine ⟨fun c => l17 hP OP.rf ?_, fun c => ⟨hv.1, ⟨by omega, by omega⟩, ?_⟩⟩
  · unfold num
    rw [if_neg (show ¬ 100 ≤ v by omega), List.nil_append, List.append_assoc]
  · refine m_sign hP (by omega) (fun σ' o h' => l17 h' o ?_)
    unfold num
    rw [if_pos (show 100 ≤ v by omega)]
    simp only [List.append_assoc]
theorem c_write {K7 : Int → PS → Prop} {e : Nat} (hb : okB b) (he : e < bn b) (hC : cB 1 13 b σ) (hP : cP P σ) (hl : P.length + 16 ≤ 510) (h : ∀ σ' : PS, Off [11, 61] σ σ' → cP (P ++ txt (bB b e)) σ' → K7 ((e : Int) + 1) σ') : LX7_write_25 K7 e σ Φ := by
  have hn := hb.1
  have hG := hb.2.2.2.2 e he
  have hG' := hG
  unfold okG at hG
  have ee : ((e : Nat) : Int).toNat = e := by omega
  have len : ∀ L R : List Int, L ++ R = P ++ txt (bB b e) → L.length ≤ P.length + 16 := fun L R hLR => by
    have h1 := txt_len hG'
    have h2 : (L ++ R).length = (P ++ txt (bB b e)).length := by rw [hLR]
    rw [List.length_append, List.length_append] at h2
    omega
  have rd : ∀ {σ1 : PS}, Off [11, 61] σ σ1 → ∀ w, w < 6 → σ1 (13 + w) e = bB b e w := fun ho w hw => by
    rw [ho (13 + w) (by simp; omega)]; exact hC.2.2.2 e he w hw
  have n0 := num_len (v := bB b e 0) (by omega)
  have n1 := num_len (v := bB b e 1) (by omega)
  have n2 := num_len (v := bB b e 2) (by omega)
  have n3 := num_len (v := bB b e 3) (by omega)
  have n4 := num_len (v := bB b e 4) (by omega)
  have l8 := len (P ++ num (bB b e 0) ++ [62] ++ num (bB b e 1) ++ [58]) ((if bB b e 2 = 0 then [] else num (bB b e 2) ++ [45]) ++ num (bB b e 3) ++ (if bB b e 4 = 1 then [] else [64] ++ num (bB b e 4)) ++ (if bB b e 5 = 0 then [120] else [])) (by unfold txt; simp only [List.append_assoc])
  simp only [List.length_append, List.length_cons, List.length_nil] at l8
  have l9 : ¬ bB b e 2 = 0 → P.length + (num (bB b e 0)).length + 1 + (num (bB b e 1)).length + 1 + (num (bB b e 2)).length + 1 ≤ P.length + 16 := fun c => by
    have := len (P ++ num (bB b e 0) ++ [62] ++ num (bB b e 1) ++ [58] ++ (num (bB b e 2) ++ [45])) (num (bB b e 3) ++ (if bB b e 4 = 1 then [] else [64] ++ num (bB b e 4)) ++ (if bB b e 5 = 0 then [120] else [])) (by unfold txt; rw [if_neg c]; simp only [List.append_assoc])
    simp only [List.length_append, List.length_cons, List.length_nil] at this
    omega
  unfold LX7_write_25
  rw [ee, show σ 13 e = bB b e 0 from rd Off.rf 0 (by omega)]
  refine ⟨⟨by omega, by omega⟩, c_num hP (by omega) (by omega) (fun σ3 o3 h3 => c_sign h3 ?_ (by omega) (fun σ5 o5 h5 => ⟨⟨by omega, by omega⟩, ?_⟩))⟩
  · rw [List.length_append]; omega
  have q5 := o3.trans o5
  rw [show σ5 14 e = bB b e 1 from rd q5 1 (by omega)]
  refine c_num h5 ?_ (by omega) (fun σ8 o8 h8 => c_sign h8 ?_ (by omega) (fun σ10 o10 h10 => ⟨⟨by omega, by omega⟩, ⟨by omega, by omega⟩, ⟨by omega, by omega⟩, ?_⟩))
  · simp only [List.length_append, List.length_cons, List.length_nil]; omega
  · simp only [List.length_append, List.length_cons, List.length_nil]; omega
  have q10 := (q5.trans o8).trans o10
  rw [show σ10 15 e = bB b e 2 from rd q10 2 (by omega), show σ10 16 e = bB b e 3 from rd q10 3 (by omega), show σ10 17 e = bB b e 4 from rd q10 4 (by omega)]
  -- the end: shut or not
  have fin : ∀ {Q : List Int} {σ1 : PS}, cP Q σ1 → Off [11, 61] σ σ1 → Q ++ (if bB b e 5 = 0 then [120] else []) = P ++ txt (bB b e) → (0 ≤ (e : Int) ∧ (e : Int) < 30) ∧ ((¬ σ1 18 e = 0 → LX7_write_94 K7 e σ1 Φ) ∧ (σ1 18 e = 0 → FX7_putSign 120 σ1 (fun z18 σ19 => LX7_write_94 K7 e σ19 Φ))) := fun {Q σ1} hQ ho hq => by
    rw [show σ1 18 e = bB b e 5 from rd ho 5 (by omega)]
    refine ⟨⟨by omega, by omega⟩, fun c => ⟨⟨by omega, by omega⟩, h σ1 ho ?_⟩, fun c => c_sign hQ ?_ (by omega) (fun σ19 o19 h19 => ⟨⟨by omega, by omega⟩, h σ19 (ho.trans o19) ?_⟩)⟩
    · rw [if_neg c, List.append_nil] at hq; rw [← hq]; exact hQ
    · rw [if_pos c] at hq
      have := len (Q ++ [120]) [] (by rw [List.append_nil]; exact hq)
      rw [List.length_append, List.length_singleton] at this
      omega
    · rw [if_pos c] at hq; rw [← hq]; exact h19
  have p15 : ∀ {Q : List Int} {σ1 : PS} {P' : Int → PS → Prop}, cP Q σ1 → Off [11, 61] σ σ1 → Q ++ num (bB b e 3) ++ (if bB b e 4 = 1 then [] else [64] ++ num (bB b e 4)) ++ (if bB b e 5 = 0 then [120] else []) = P ++ txt (bB b e) → (∀ {Q' : List Int} {σ2 : PS}, cP Q' σ2 → Off [11, 61] σ σ2 → Q' ++ (if bB b e 5 = 0 then [120] else []) = P ++ txt (bB b e) → P' 0 σ2) → LX7_putPassage_15 (bB b e 3) (bB b e 4) σ1 P' := fun {Q σ1 P'} hQ ho hq hk => by
    unfold LX7_putPassage_15
    have l1 := len (Q ++ num (bB b e 3) ++ (if bB b e 4 = 1 then [] else [64] ++ num (bB b e 4))) _ hq
    have l2 := len Q (num (bB b e 3) ++ (if bB b e 4 = 1 then [] else [64] ++ num (bB b e 4)) ++ (if bB b e 5 = 0 then [120] else [])) (by rw [← hq]; simp only [List.append_assoc])
    simp only [List.length_append] at l1
    refine c_num hQ (by omega) (by omega) (fun σ2 o2 h2 => ⟨fun c => ?_, fun c => ?_⟩)
    · rw [if_pos c, List.append_nil] at hq
      exact hk h2 (ho.trans o2) hq
    · rw [if_neg c] at hq l1
      simp only [List.length_append, List.length_cons, List.length_nil] at l1
      refine c_sign h2 (by rw [List.length_append]; omega) (by omega) (fun σ3' o3' h3' => c_num h3' ?_ (by omega) (fun σ4' o4' h4' => hk h4' (((ho.trans o2).trans o3').trans o4') ?_))
      · simp only [List.length_append, List.length_cons, List.length_nil]; omega
      · rw [← hq]; simp only [List.append_assoc]
  unfold FX7_putPassage
  refine ⟨fun c => p15 h10 q10 ?_ (fun hQ ho hq => fin hQ ho hq), fun c => have l9 := l9 c; c_num h10 ?_ (by omega) (fun σ3' o3' h3' => c_sign h3' ?_ (by omega) (fun σ5' o5' h5' => p15 h5' ((q10.trans o3').trans o5') ?_ (fun hQ ho hq => fin hQ ho hq)))⟩
  · unfold txt; rw [if_pos c]; simp only [List.append_assoc, List.nil_append]
  · simp only [List.length_append, List.length_cons, List.length_nil]; omega
  · simp only [List.length_append, List.length_cons, List.length_nil]; omega
  · unfold txt; rw [if_neg c]; simp only [List.append_assoc]
end Spell
