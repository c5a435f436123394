/-! the class's net -/
def CN (T : NT) (σ : PS) : Prop := σ 1 6 = (tn T : Int) ∧ σ 1 7 = (ts T : Int) ∧ σ 1 8 = (tz T : Int) ∧ ∀ e, e < tn T → σ 13 e = (tf T e : Int) ∧ σ 14 e = (tt T e : Int)
def CL (k : Nat) (T : NT) (σ : PS) : Prop := ∀ e, e < tn T → σ k e = tl T e
def CU (T : NT) (σ : PS) : Prop := ∀ e, e < tn T → (σ 18 e = 1 → σ 16 e = tl T e) ∧ (¬ σ 18 e = 1 → tl T e = 0)
def QX (T : NT) (x : Nat → Int) (σ : PS) : Prop := ∀ e, e < tn T → σ 25 e = x e
theorem CN.off {T : NT} {σ σ' : PS} {ks : List Nat} (h : CN T σ) (ho : Off ks σ σ') (h1 : 1 ∉ ks) (h3 : 13 ∉ ks) (h4 : 14 ∉ ks) : CN T σ' := by
  unfold CN
  rw [ho 1 h1, ho 13 h3, ho 14 h4]
  exact h
theorem CU.off {T : NT} {σ σ' : PS} {ks : List Nat} (h : CU T σ) (ho : Off ks σ σ') (h1 : 16 ∉ ks) (h3 : 18 ∉ ks) : CU T σ' := by
  unfold CU
  rw [ho 16 h1, ho 18 h3]
  exact h
theorem CL.off {T : NT} {k : Nat} {σ σ' : PS} {ks : List Nat} (h : CL k T σ) (ho : Off ks σ σ') (h1 : k ∉ ks) : CL k T σ' := by
  unfold CL
  rw [ho k h1]
  exact h
theorem QX.off {T : NT} {x : Nat → Int} {σ σ' : PS} {ks : List Nat} (h : QX T x σ) (ho : Off ks σ σ') (h1 : 25 ∉ ks) : QX T x σ' := by
  unfold QX
  rw [ho 25 h1]
  exact h
section CBase
variable {T : NT} {σ : PS} {x : Nat → Int} {Φ : Int → PS → Prop}
theorem c_has {i : Int} {e : Nat} (hi : i = e) (hC : CN T σ) (he : e < tn T) (h : Φ 1 σ) : FX3_has i σ Φ := by
  subst hi
  unfold FX3_has
  rw [hC.1]
  exact ⟨fun c => by omega, fun c => ⟨fun c2 => by omega, fun _ => h⟩⟩
theorem c_usable {i : Int} {e : Nat} (hi : i = e) (hC : CN T σ) (hU : CU T σ) (hn : tn T ≤ 30) (he : e < tn T) (h : Φ (tl T e) σ) : FX3_usable i σ Φ := by
  have hu := hU e he
  unfold FX3_usable
  refine c_has hi hC he ?_
  subst hi
  rw [show ((e : Nat) : Int).toNat = e by omega]
  refine ⟨fun c => by omega, fun c => ⟨⟨by omega, by omega⟩, fun c2 => ?_, fun c2 => ⟨⟨by omega, by omega⟩, ?_⟩⟩⟩
  · rw [hu.2 c2] at h; exact h
  · rw [hu.1 c2]; exact h
theorem c_copyUsable (hC : CN T σ) (hU : CU T σ) (hn : tn T ≤ 30) (h : ∀ σ' : PS, Off [29] σ σ' → CL 29 T σ' → Φ 0 σ') : FX3_copyUsable σ Φ := by
  unfold FX3_copyUsable
  refine ⟨tn T + 1, ?_⟩
  have loop : ∀ (f i : Nat) (σ1 : PS), i ≤ tn T → tn T - i < f → Off [29] σ σ1 → (∀ e, e < i → σ1 29 e = tl T e) → LX3_copyUsable_2 f i σ1 Φ := by
    intro f
    induction f with
    | zero => intro i σ1 h1 h2; omega
    | succ f ih =>
      intro i σ1 hi hf ho hv
      unfold LX3_copyUsable_2 BX3_copyUsable_2
      have hC1 := hC.off ho (by simp) (by simp) (by simp)
      rw [hC1.1]
      refine ⟨fun c => h σ1 ho (fun e he => hv e (by omega)), fun c => ⟨fun c2 => by omega, fun c2 => ?_⟩⟩
      refine c_usable rfl hC1 (hU.off ho (by simp) (by simp)) hn (by omega) ⟨⟨by omega, by omega⟩, fun σ6 g6 => ⟨⟨by omega, by omega⟩, ?_⟩⟩
      refine ih (i + 1) σ6 (by omega) (by omega) (by rw [g6]; exact ho.up (by simp)) (fun e he => ?_)
      rw [g6, show ((i : Nat) : Int).toNat = i by omega, up2_if]
      by_cases q : e = i
      · rw [if_pos q, q]
      · rw [if_neg q]; exact hv e (by omega)
  exact loop (tn T + 1) 0 σ (by omega) (by omega) Off.rf (fun e he => by omega)
theorem c_copyUsable_v2 (hC : CN T σ) (hU : CU T σ) (hn : tn T ≤ 30) (h : ∀ σ' : PS, Off [36] σ σ' → CL 36 T σ' → Φ 0 σ') : FX3_copyUsable_v2 σ Φ := by
  unfold FX3_copyUsable_v2
  refine ⟨tn T + 1, ?_⟩
  have loop : ∀ (f i : Nat) (σ1 : PS), i ≤ tn T → tn T - i < f → Off [36] σ σ1 → (∀ e, e < i → σ1 36 e = tl T e) → LX3_copyUsable_v2_2 f i σ1 Φ := by
    intro f
    induction f with
    | zero => intro i σ1 h1 h2; omega
    | succ f ih =>
      intro i σ1 hi hf ho hv
      unfold LX3_copyUsable_v2_2 BX3_copyUsable_v2_2
      have hC1 := hC.off ho (by simp) (by simp) (by simp)
      rw [hC1.1]
      refine ⟨fun c => h σ1 ho (fun e he => hv e (by omega)), fun c => ⟨fun c2 => by omega, fun c2 => ?_⟩⟩
      refine c_usable rfl hC1 (hU.off ho (by simp) (by simp)) hn (by omega) ⟨⟨by omega, by omega⟩, fun σ6 g6 => ⟨⟨by omega, by omega⟩, ?_⟩⟩
      refine ih (i + 1) σ6 (by omega) (by omega) (by rw [g6]; exact ho.up (by simp)) (fun e he => ?_)
      rw [g6, show ((i : Nat) : Int).toNat = i by omega, up2_if]
      by_cases q : e = i
      · rw [if_pos q, q]
      · rw [if_neg q]; exact hv e (by omega)
  exact loop (tn T + 1) 0 σ (by omega) (by omega) Off.rf (fun e he => by omega)
theorem c_fwd {i : Int} {e : Nat} (hi : i = e) (hn : tn T ≤ 30) (hL : CL 29 T σ) (hX : QX T x σ) (he : e < tn T) (h0 : tl T e ≤ x e → Φ 0 σ) (h1 : x e < tl T e → Φ 1 σ) : FX1_forward i σ Φ := by
  subst hi
  unfold FX1_forward
  rw [show ((e : Nat) : Int).toNat = e by omega, hL e he, hX e he]
  exact ⟨⟨by omega, by omega⟩, ⟨by omega, by omega⟩, h0, fun c => h1 (by omega)⟩
theorem c_bwd {i : Int} {e : Nat} (hi : i = e) (hn : tn T ≤ 30) (hX : QX T x σ) (he : e < tn T) (h0 : x e ≤ 0 → Φ 0 σ) (h1 : 0 < x e → Φ 1 σ) : FX1_backward i σ Φ := by
  subst hi
  unfold FX1_backward
  rw [show ((e : Nat) : Int).toNat = e by omega, hX e he]
  exact ⟨⟨by omega, by omega⟩, h0, fun c => h1 (by omega)⟩
/-- what gate e brings to node w: the node before it -/
def cBr (T : NT) (x : Nat → Int) (w e v : Nat) : Prop := (tt T e = w ∧ x e < tl T e ∧ v = tf T e) ∨ (tf T e = w ∧ 0 < x e ∧ v = tt T e)
theorem cBr_st {w e v : Nat} (he : e < tn T) (h : cBr T x w e v) : stT T x v w := by
  rcases h with ⟨a, b, c⟩ | ⟨a, b, c⟩
  · exact ⟨e, he, Or.inl ⟨c.symm, a, b⟩⟩
  · exact ⟨e, he, Or.inr ⟨c.symm, a, b⟩⟩
theorem stT_cBr {w v : Nat} (h : stT T x v w) : ∃ e, e < tn T ∧ cBr T x w e v := by
  obtain ⟨e, he, ⟨a, b, c⟩ | ⟨a, b, c⟩⟩ := h
  · exact ⟨e, he, Or.inl ⟨b, c, a.symm⟩⟩
  · exact ⟨e, he, Or.inr ⟨b, c, a.symm⟩⟩
theorem cm_inner {k : Nat} {K32 : Int → Int → PS → Prop} {σ0 : PS} (hT : okT T) {end_ : Nat} (he : end_ < 12)
    (hK : ∀ (σ' : PS) (many : Nat) (q : Nat → Nat), CN T σ' → QX T x σ' → CL 29 T σ' → Off [30, 31] σ0 σ' → BI 12 (stT T x) end_ (fun v => σ' 30 v) q many (k + 1) (fun _ => False) → (∀ j, j < many → σ' 31 j = (q j : Int)) → K32 many ((k : Int) + 1) σ') :
    ∀ (f i many : Nat) (q : Nat → Nat) (σ : PS), i ≤ tn T → tn T - i < f → CN T σ → QX T x σ → CL 29 T σ → Off [30, 31] σ0 σ → k < many → BI 12 (stT T x) end_ (fun v => σ 30 v) q many k (fun v => ∃ j, j < i ∧ cBr T x (q k) j v) → (∀ j, j < many → σ 31 j = (q j : Int)) → LX1_measure_54 K32 f many k (q k : Nat) i σ Φ := by
  intro f
  induction f with
  | zero => intro i many q σ h1 h2; omega
  | succ f ih =>
    intro i many q σ hi hf hM hX hL ho hk hB hq
    have hn := hT.1
    have m12 : many ≤ 12 := holes 12 many q hB.1.2.2 hB.2.1
    unfold LX1_measure_54 BX1_measure_54
    rw [hM.1]
    refine ⟨fun c => ⟨⟨by omega, by omega⟩, ?_⟩, fun c => ?_⟩
    · exact hK σ many q hM hX hL ho (hB.next hk (fun v _ hs => by
        obtain ⟨j, h1, h2⟩ := stT_cBr hs
        exact ⟨j, by omega, h2⟩)) hq
    · have hi2 : i < tn T := by omega
      have hN := hT.2.1 i hi2
      have hqk12 := hB.1.2.2 k hk
      have e0 : ((i : Nat) : Int).toNat = i := by omega
      have go : ∀ (many' : Nat) (q' : Nat → Nat) (σ' : PS), q' k = q k → CN T σ' → QX T x σ' → CL 29 T σ' → Off [30, 31] σ0 σ' → k < many' → BI 12 (stT T x) end_ (fun v => σ' 30 v) q' many' k (fun v => ∃ j, j < i + 1 ∧ cBr T x (q k) j v) → (∀ j, j < many' → σ' 31 j = (q' j : Int)) → LX1_measure_177 K32 (fun x2 x3 x4 x5 σ => LX1_measure_54 K32 f x2 x3 x4 x5 σ Φ) many' k (q k : Nat) i σ' Φ := by
        intro many' q' σ' a0 a1 a2 a3 a4 a5 a6 a7
        unfold LX1_measure_177
        refine ⟨⟨by omega, by omega⟩, ?_⟩
        have := ih (i + 1) many' q' σ' (by omega) (by omega) a1 a2 a3 a4 a5 (by rw [a0]; exact a6) a7
        rw [a0] at this
        exact this
      -- no node is brought
      have none_ : (∀ v, ¬ cBr T x (q k) i v) → LX1_measure_129 K32 (fun x2 x3 x4 x5 σ => LX1_measure_54 K32 f x2 x3 x4 x5 σ Φ) many k (q k : Nat) i (-1) σ Φ := by
        intro hno
        unfold LX1_measure_129
        refine ⟨fun _ => ?_, fun c => by omega⟩
        refine go many q σ rfl hM hX hL ho hk (hB.weak (fun v ⟨j, h1, h2⟩ => ?_)) hq
        by_cases e : j = i
        · subst e; exact absurd h2 (hno v)
        · exact ⟨j, by omega, h2⟩
      -- v is brought
      have some_ : ∀ v : Nat, v < 12 → cBr T x (q k) i v → (∀ v', cBr T x (q k) i v' → v' = v) → LX1_measure_129 K32 (fun x2 x3 x4 x5 σ => LX1_measure_54 K32 f x2 x3 x4 x5 σ Φ) many k (q k : Nat) i (v : Nat) σ Φ := by
        intro v hv hbr huni
        unfold LX1_measure_129
        rw [show ((v : Nat) : Int).toNat = v by omega, show ((q k : Nat) : Int).toNat = q k by omega, show ((many : Nat) : Int).toNat = many by omega]
        refine ⟨fun c => by omega, fun _ => ⟨⟨by omega, by omega⟩, fun c2 => ?_, fun c2 => ⟨fun c3 => ?_, fun c3 => ?_⟩⟩⟩
        · refine go many q σ rfl hM hX hL ho hk ((hB.skip c2).weak (fun v' ⟨j, h1, h2⟩ => ?_)) hq
          by_cases e : j = i
          · subst e; exact Or.inr (huni v' h2)
          · exact Or.inl ⟨j, by omega, h2⟩
        · have := hB.room hv (show (fun v => σ 30 v) v < 0 by show σ 30 v < 0; omega)
          omega
        · have hu : (fun v => σ 30 v) v < 0 := by
            show σ 30 v < 0
            omega
          have hdk : 0 ≤ σ 30 (q k) := hB.2.2.2.1 k hk
          have hdk2 : σ 30 (q k) < 13 := bfs_lt hB k hk
          refine ⟨⟨by omega, by omega⟩, ⟨by omega, by omega⟩, ⟨by omega, by omega⟩, fun σ8 h8 => ⟨⟨by omega, by omega⟩, fun σ10 h10 => ⟨⟨by omega, by omega⟩, ?_⟩⟩⟩
          have o2 : Off [30, 31] σ0 σ10 := by rw [h10, h8]; exact (ho.up (by simp)).up (by simp)
          have o3 : Off [30, 31] σ σ10 := by rw [h10, h8]; exact (Off.rf.up (by simp)).up (by simp)
          have r5 : ∀ w, σ10 30 w = if w = v then σ 30 (q k) + 1 else σ 30 w := fun w => by
            rw [h10, up2_nk (by omega), h8, up2_self]
          have r6 : ∀ j, σ10 31 j = if j = many then ((v : Nat) : Int) else σ 31 j := fun j => by
            rw [h10, up2_self, h8, up2_row (by omega)]
          refine go (many + 1) (fun j => if j = many then v else q j) σ10 (by show (if k = many then _ else _) = _; rw [if_neg (by omega)]) (hM.off o3 (by simp) (by simp) (by simp)) (hX.off o3 (by simp)) (hL.off o3 (by simp)) o2 (by omega) ?_ ?_
          · refine (hB.lab (d' := fun w => σ10 30 w) (q' := fun j => if j = many then v else q j) hk hv hu (cBr_st hi2 hbr) ?_ ?_ ?_ ?_).weak ?_
            · show σ10 30 _ = σ 30 (q k) + 1
              rw [r5, if_pos rfl]
            · intro w _ hne
              show σ10 30 w = σ 30 w
              rw [r5, if_neg hne]
            · show (if many = many then _ else _) = _
              rw [if_pos rfl]
            · intro j hj
              show (if j = many then _ else _) = _
              rw [if_neg (by omega)]
            · intro v' ⟨j, h1, h2⟩
              by_cases e : j = i
              · subst e; exact Or.inr (huni v' h2)
              · exact Or.inl ⟨j, by omega, h2⟩
          · intro j hj
            rw [r6]
            show _ = (((if j = many then _ else q j) : Nat) : Int)
            by_cases e : j = many
            · rw [if_pos e, if_pos e]
            · rw [if_neg e, if_neg e]; exact hq j (by omega)
      -- backward
      have back : (¬ (tt T i = q k ∧ x i < tl T i)) → LX1_measure_99 K32 (fun x2 x3 x4 x5 σ => LX1_measure_54 K32 f x2 x3 x4 x5 σ Φ) many k (q k : Nat) i (-1) σ Φ := by
        intro hnf
        unfold LX1_measure_99
        rw [e0, (hM.2.2.2 i hi2).1]
        refine ⟨⟨by omega, by omega⟩, fun c1 => none_ (fun v hv => ?_), fun c1 => ?_⟩
        · rcases hv with ⟨a, b, _⟩ | ⟨a, b, _⟩
          · exact hnf ⟨a, b⟩
          · exact c1 (by rw [a])
        · refine c_bwd rfl hn hX hi2 (fun c2 => ⟨fun _ => none_ (fun v hv => ?_), fun c => by omega⟩) (fun c2 => ⟨fun c => by omega, fun _ => ⟨⟨by omega, by omega⟩, fun v7 g7 => ?_⟩⟩)
          · rcases hv with ⟨a, b, _⟩ | ⟨a, b, _⟩
            · exact hnf ⟨a, b⟩
            · omega
          · rw [g7, (hM.2.2.2 i hi2).2]
            refine some_ (tt T i) hN.2.1 (Or.inr ⟨by omega, c2, rfl⟩) (fun v' hv => ?_)
            rcases hv with ⟨a, b, _⟩ | ⟨_, _, d⟩
            · exact absurd ⟨a, b⟩ hnf
            · exact d
      rw [e0, (hM.2.2.2 i hi2).2]
      refine ⟨⟨by omega, by omega⟩, fun c1 => back (fun z => c1 (by rw [z.1])), fun c1 => ?_⟩
      refine c_fwd rfl hn hL hX hi2 (fun c2 => ⟨fun _ => back (fun z => by omega), fun c => by omega⟩) (fun c2 => ⟨fun c => by omega, fun _ => ⟨⟨by omega, by omega⟩, fun v9 g9 => ?_⟩⟩)
      rw [g9, (hM.2.2.2 i hi2).1]
      refine some_ (tf T i) hN.1 (Or.inl ⟨by omega, c2, rfl⟩) (fun v' hv => ?_)
      rcases hv with ⟨_, _, d⟩ | ⟨a, _, _⟩
      · exact d
      · have := hN.2.2; omega
theorem c_measure (hT : okT T) (hM : CN T σ) (hX : QX T x σ) (hL : CL 29 T σ) (h : ∀ σ' : PS, Off [30, 31] σ σ' → IsDist 12 (stT T x) (tz T) (fun v => σ' 30 v) → Φ 0 σ') : FX1_measure σ Φ := by
  unfold FX1_measure
  have hz := hT.2.2.2.2.1
  intro σ1 g1
  have o1 : Off [30, 31] σ σ1 := by rw [g1]; exact Off.rf.fl (by simp)
  have hM1 := hM.off o1 (by simp) (by simp) (by simp)
  rw [hM1.2.2.1, show ((tz T : Nat) : Int).toNat = tz T by omega]
  refine ⟨⟨by omega, by omega⟩, fun σ3 g3 σ4 g4 => ?_⟩
  have o3 : Off [30, 31] σ σ3 := by rw [g3]; exact o1.up (by simp)
  have hM3 := hM.off o3 (by simp) (by simp) (by simp)
  have o4 : Off [30, 31] σ σ4 := by rw [g4]; exact o3.up (by simp)
  rw [hM3.2.2.1] at g4
  have r5 : ∀ v, v < 12 → σ4 30 v = if v = tz T then 0 else -1 := fun v hv => by
    rw [g4, up2_nk (by omega), g3, up2_if, g1]
    by_cases q : v = tz T
    · rw [if_pos q, if_pos q]
    · rw [if_neg q, if_neg q]
      unfold fl2
      rw [if_pos ⟨rfl, by omega, by omega⟩]
  have r6 : σ4 31 0 = (tz T : Int) := by rw [g4, up2_at]
  have outer : ∀ (f k many : Nat) (q : Nat → Nat) (σ2 : PS), k ≤ many → 12 - k < f → CN T σ2 → QX T x σ2 → CL 29 T σ2 → Off [30, 31] σ σ2 → BI 12 (stT T x) (tz T) (fun v => σ2 30 v) q many k (fun _ => False) → (∀ j, j < many → σ2 31 j = (q j : Int)) → LX1_measure_32 f many k σ2 Φ := by
    intro f
    induction f with
    | zero =>
      intro k many q σ2 h1 h2 _ _ _ _ hB
      omega
    | succ f ihf =>
      intro k many q σ2 h1 h2 g1 g2 g2' g3 g4 g5
      have m12 : many ≤ 12 := holes 12 many q g4.1.2.2 g4.2.1
      unfold LX1_measure_32 BX1_measure_32
      refine ⟨fun c1 => ?_, fun c1 => ⟨fun c2 => by omega, fun c2 => ⟨⟨by omega, by omega⟩, fun v4 gv => ?_⟩⟩⟩
      · have e : k = many := by omega
        subst e
        exact h σ2 g3 g4.done
      · rw [gv, show ((k : Nat) : Int).toNat = k by omega, g5 k (by omega)]
        refine ⟨tn T + 1, ?_⟩
        refine cm_inner hT (σ0 := σ) hz (fun σ' many' q' a1 a2 a2' a3 a4 a5 => ?_) (tn T + 1) 0 many q σ2 (by omega) (by omega) g1 g2 g2' g3 (by omega) (g4.weak (fun v ⟨j, hj, _⟩ => by omega)) g5
        exact ihf (k + 1) many' q' σ' a4.1.1 (by omega) a1 a2 a2' a3 a4 a5
  refine ⟨14, ?_⟩
  refine outer 14 0 1 (fun _ => tz T) σ4 (by omega) (by omega) (hM.off o4 (by simp) (by simp) (by simp)) (hX.off o4 (by simp)) (hL.off o4 (by simp)) o4 (BI.init hz ?_ ?_ rfl) (fun j hj => by rw [show j = 0 by omega]; exact r6)
  · show σ4 30 (tz T) = 0
    rw [r5 _ hz, if_pos rfl]
  · intro v hv12 hne
    show σ4 30 v = -1
    rw [r5 v hv12, if_neg hne]
end CBase
