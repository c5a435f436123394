theorem up2_if {σ : PS} {k i j : Nat} {v : Int} : up2 σ k i v k j = if j = i then v else σ k j := by rw [up2_self]
/-! the reference's net: T in its cells, x in its numbers -/
def MN (T : NT) (σ : PS) : Prop := σ 1 2 = (tn T : Int) ∧ σ 1 0 = (ts T : Int) ∧ σ 1 1 = (tz T : Int) ∧ (∀ e, e < tn T → σ 1 (3 + 6 * e) = (tf T e : Int) ∧ σ 1 (3 + 6 * e + 1) = (tt T e : Int)) ∧ ∀ e, e < tn T → σ 3 e = tl T e
def MX (T : NT) (x : Nat → Int) (σ : PS) : Prop := ∀ e, e < tn T → σ 4 e = x e
theorem MN.off {T : NT} {σ σ' : PS} {ks : List Nat} (h : MN T σ) (ho : Off ks σ σ') (h1 : 1 ∉ ks) (h3 : 3 ∉ ks) : MN T σ' := by
  unfold MN
  rw [ho 1 h1, ho 3 h3]
  exact h
theorem MX.off {T : NT} {x : Nat → Int} {σ σ' : PS} {ks : List Nat} (h : MX T x σ) (ho : Off ks σ σ') (h4 : 4 ∉ ks) : MX T x σ' := by
  unfold MX
  rw [ho 4 h4]
  exact h
def cOK (T : NT) (c : Nat) : Prop := (c < 100 ∧ c < tn T) ∨ (100 ≤ c ∧ c - 100 < tn T)
def vfr (T : NT) (c : Nat) : Nat := if c < 100 then tf T c else tt T (c - 100)
def cAt (n i : Nat) : Nat := if i < n then i else 100 + (i - n)
theorem cAt_ok {T : NT} {i : Nat} (hn : tn T ≤ 30) (hi : i < 2 * tn T) : cOK T (cAt (tn T) i) := by
  unfold cAt cOK
  by_cases e : i < tn T
  · rw [if_pos e]; omega
  · rw [if_neg e]; omega
section MBase
variable {T : NT} {σ : PS} {x : Nat → Int} {Φ : Int → PS → Prop}
theorem s_at {i j : Int} {a w : Nat} (hi : i = a) (hj : j = w) (ha : a < 30) (hw : w < 6) (h : Φ (σ 1 (3 + 6 * a + w)) σ) : FX12_at i j σ Φ := by
  subst hi; subst hj
  have e : ((3 + ((a : Int) * 6)) + (w : Int)).toNat = 3 + 6 * a + w := by omega
  unfold FX12_at
  rw [e]
  exact ⟨⟨by omega, by omega⟩, ⟨by omega, by omega⟩, ⟨by omega, by omega⟩, ⟨by omega, by omega⟩, h⟩
theorem s_stepAt {i : Int} {k : Nat} (hi : i = k) (hM : MN T σ) (hn : tn T ≤ 30) (hk : k < 2 * tn T) (h : Φ (cAt (tn T) k : Nat) σ) : FX12_stepAt i σ Φ := by
  subst hi
  unfold FX12_stepAt
  rw [hM.1]
  unfold cAt at h
  refine ⟨fun c => ⟨⟨by omega, by omega⟩, ⟨by omega, by omega⟩, ?_⟩, fun c => ?_⟩
  · rw [if_neg (by omega)] at h
    rw [show (100 + (k : Int) - (tn T : Int)) = ((100 + (k - tn T) : Nat) : Int) by omega]
    exact h
  · rw [if_pos (by omega)] at h
    exact h
theorem s_stepFrom {i : Int} {c : Nat} (hi : i = c) (hM : MN T σ) (hn : tn T ≤ 30) (hc : cOK T c) (h : Φ (vfr T c : Nat) σ) : FX12_stepFrom i σ Φ := by
  subst hi
  have hb : c < 130 := by rcases hc with ⟨a, b⟩ | ⟨a, b⟩ <;> omega
  unfold FX12_stepFrom
  unfold vfr at h
  refine ⟨fun q => ⟨⟨by omega, by omega⟩, ?_⟩, fun q => ?_⟩
  · rw [if_neg (by omega)] at h
    rcases hc with ⟨a, b⟩ | ⟨a, b⟩
    · omega
    · refine s_at (a := c - 100) (w := 1) (by omega) rfl (by omega) (by omega) ?_
      rw [(hM.2.2.2.1 _ b).2]; exact h
  · rw [if_pos (by omega)] at h
    rcases hc with ⟨a, b⟩ | ⟨a, b⟩
    · refine s_at (a := c) (w := 0) rfl rfl (by omega) (by omega) ?_
      rw [Nat.add_zero, (hM.2.2.2.1 _ b).1]; exact h
    · omega
theorem s_stepTo {i : Int} {c : Nat} (hi : i = c) (hM : MN T σ) (hn : tn T ≤ 30) (hc : cOK T c) (h : Φ (enT T c : Nat) σ) : FX12_stepTo i σ Φ := by
  subst hi
  have hb : c < 130 := by rcases hc with ⟨a, b⟩ | ⟨a, b⟩ <;> omega
  unfold FX12_stepTo
  unfold enT at h
  refine ⟨fun q => ⟨⟨by omega, by omega⟩, ?_⟩, fun q => ?_⟩
  · rw [if_neg (by omega)] at h
    rcases hc with ⟨a, b⟩ | ⟨a, b⟩
    · omega
    · refine s_at (a := c - 100) (w := 0) (by omega) rfl (by omega) (by omega) ?_
      rw [Nat.add_zero, (hM.2.2.2.1 _ b).1]; exact h
  · rw [if_pos (by omega)] at h
    rcases hc with ⟨a, b⟩ | ⟨a, b⟩
    · refine s_at (a := c) (w := 1) rfl rfl (by omega) (by omega) ?_
      rw [(hM.2.2.2.1 _ b).2]; exact h
    · omega
theorem s_room {i : Int} {c : Nat} (hi : i = c) (hM : MN T σ) (hX : MX T x σ) (hT : okT T) (hx : okX (tn T) (tl T) x) (hc : cOK T c) (h : Φ (rmc (tl T) x c) σ) : FX12_room i σ Φ := by
  subst hi
  have hn := hT.1
  have hb : c < 130 := by rcases hc with ⟨a, b⟩ | ⟨a, b⟩ <;> omega
  unfold FX12_room
  unfold rmc at h
  refine ⟨fun q => ⟨⟨by omega, by omega⟩, ?_⟩, fun q => ?_⟩
  · rw [if_neg (by omega)] at h
    rcases hc with ⟨a, b⟩ | ⟨a, b⟩
    · omega
    · refine ⟨⟨by omega, by omega⟩, ?_⟩
      rw [show ((c : Int) - 100).toNat = c - 100 by omega, hX _ b]
      exact h
  · rw [if_pos (by omega)] at h
    rcases hc with ⟨a, b⟩ | ⟨a, b⟩
    · have h1 := hx _ b
      have h2 := hT.2.2.1 _ b
      rw [show ((c : Nat) : Int).toNat = c by omega, hX _ b, hM.2.2.2.2 _ b]
      exact ⟨⟨by omega, by omega⟩, ⟨by omega, by omega⟩, ⟨by omega, by omega⟩, h⟩
    · omega
theorem cOK_st {c : Nat} (hc : cOK T c) : stOK (tn T) (tf T) (tt T) c (vfr T c) (enT T c) := by
  unfold vfr enT stOK
  rcases hc with ⟨a, b⟩ | ⟨a, b⟩
  · rw [if_pos a, if_pos a]; exact Or.inl ⟨a, b, rfl, rfl⟩
  · rw [if_neg (by omega), if_neg (by omega)]; exact Or.inr ⟨a, b, rfl, rfl⟩
theorem cOK_stT {c : Nat} (hc : cOK T c) (h : 0 < rmc (tl T) x c) : stT T x (vfr T c) (enT T c) := by
  unfold rmc at h
  unfold vfr enT
  rcases hc with ⟨a, b⟩ | ⟨a, b⟩
  · rw [if_pos a] at h
    rw [if_pos a, if_pos a]; exact ⟨c, b, Or.inl ⟨rfl, rfl, by omega⟩⟩
  · rw [if_neg (by omega)] at h
    rw [if_neg (by omega), if_neg (by omega)]; exact ⟨c - 100, b, Or.inr ⟨rfl, rfl, h⟩⟩
theorem stT_c {v w : Nat} (hn : tn T ≤ 30) (h : stT T x v w) : ∃ i, i < 2 * tn T ∧ vfr T (cAt (tn T) i) = v ∧ enT T (cAt (tn T) i) = w ∧ 0 < rmc (tl T) x (cAt (tn T) i) := by
  obtain ⟨e, he, ⟨a, b, c⟩ | ⟨a, b, c⟩⟩ := h
  · refine ⟨e, by omega, ?_⟩
    unfold cAt vfr enT rmc
    rw [if_pos he, if_pos (by omega), if_pos (by omega), if_pos (by omega)]
    exact ⟨a, b, by omega⟩
  · refine ⟨tn T + e, by omega, ?_⟩
    have e1 : cAt (tn T) (tn T + e) = 100 + e := by unfold cAt; rw [if_neg (by omega)]; omega
    rw [e1]
    unfold vfr enT rmc
    rw [if_neg (by omega), if_neg (by omega), if_neg (by omega), show 100 + e - 100 = e by omega]
    exact ⟨a, b, c⟩
/-- steps, told from the end: b 1 to an end, b 0 from an end -/
def stD (T : NT) (x : Nat → Int) (b : Int) (v w : Nat) : Prop := if b = 0 then stT T x w v else stT T x v w
/-- at a node, and beyond, as measures takes them -/
def hrD (T : NT) (b : Int) (c : Nat) : Nat := if b = 0 then vfr T c else enT T c
def nxD (T : NT) (b : Int) (c : Nat) : Nat := if b = 0 then enT T c else vfr T c
theorem cOK_12 {c : Nat} {b : Int} (hT : okT T) (hc : cOK T c) : hrD T b c < 12 ∧ nxD T b c < 12 := by
  have h := stOK_end hT.2.1 (cOK_st hc)
  unfold hrD nxD
  by_cases e : b = 0
  · rw [if_pos e, if_pos e]; exact h
  · rw [if_neg e, if_neg e]; exact ⟨h.2, h.1⟩
theorem stD_c {c : Nat} {b : Int} (hc : cOK T c) (h : 0 < rmc (tl T) x c) : stD T x b (nxD T b c) (hrD T b c) := by
  unfold stD hrD nxD
  by_cases e : b = 0
  · rw [if_pos e, if_pos e, if_pos e]; exact cOK_stT hc h
  · rw [if_neg e, if_neg e, if_neg e]; exact cOK_stT hc h
theorem stD_ex {b : Int} {v w : Nat} (hn : tn T ≤ 30) (h : stD T x b v w) : ∃ i, i < 2 * tn T ∧ nxD T b (cAt (tn T) i) = v ∧ hrD T b (cAt (tn T) i) = w ∧ 0 < rmc (tl T) x (cAt (tn T) i) := by
  unfold stD at h
  unfold hrD nxD
  by_cases e : b = 0
  · rw [if_pos e] at h
    obtain ⟨i, h1, h2, h3, h4⟩ := stT_c hn h
    refine ⟨i, h1, ?_⟩
    rw [if_pos e, if_pos e]
    exact ⟨h3, h2, h4⟩
  · rw [if_neg e] at h
    obtain ⟨i, h1, h2, h3, h4⟩ := stT_c hn h
    refine ⟨i, h1, ?_⟩
    rw [if_neg e, if_neg e]
    exact ⟨h2, h3, h4⟩
theorem s_dir1 {P : Int → PS → Prop} {b : Int} {c : Nat} (hM : MN T σ) (hn : tn T ≤ 30) (hc : cOK T c) (h : P (hrD T b c : Nat) σ) : (b = 0 → FX12_stepFrom (c : Int) σ P) ∧ (¬ b = 0 → FX12_stepTo (c : Int) σ P) := by
  unfold hrD at h
  refine ⟨fun e => ?_, fun e => ?_⟩
  · rw [if_pos e] at h; exact s_stepFrom rfl hM hn hc h
  · rw [if_neg e] at h; exact s_stepTo rfl hM hn hc h
theorem s_dir2 {P : Int → PS → Prop} {b : Int} {c : Nat} (hM : MN T σ) (hn : tn T ≤ 30) (hc : cOK T c) (h : P (nxD T b c : Nat) σ) : (b = 0 → FX12_stepTo (c : Int) σ P) ∧ (¬ b = 0 → FX12_stepFrom (c : Int) σ P) := by
  unfold nxD at h
  refine ⟨fun e => ?_, fun e => ?_⟩
  · rw [if_pos e] at h; exact s_stepTo rfl hM hn hc h
  · rw [if_neg e] at h; exact s_stepFrom rfl hM hn hc h
theorem bfs_lt {N t many k : Nat} {st : Nat → Nat → Prop} {d : Nat → Int} {q : Nat → Nat} {C : Nat → Prop} (h : BI N st t d q many k C) : ∀ j, j < many → d (q j) < N + 1 := by
  obtain ⟨⟨h1, h2, h3⟩, h4, h5, h6, ⟨h7, h8⟩, -⟩ := h
  intro j hj
  have hc : ∀ (m v : Nat), v < N → d v = m → ∀ i : Nat, i ≤ m → ∃ w, (w < N ∨ w = t) ∧ d w = i := by
    intro m
    induction m with
    | zero => intro v hv e i hi; exact ⟨v, Or.inl hv, by omega⟩
    | succ m ih =>
      intro v hv e i hi
      by_cases hi2 : i = m + 1
      · exact ⟨v, Or.inl hv, by omega⟩
      · by_cases hvt : v = t
        · rw [hvt, h7] at e; omega
        · obtain ⟨w, hw, -, w1, w2⟩ := h8 v hv hvt (by omega)
          exact ih w hw (by omega) i (by omega)
  obtain ⟨m, hm⟩ : ∃ m : Nat, d (q j) = m := ⟨(d (q j)).toNat, by have := h6 j hj; omega⟩
  have hf : ∀ i : Nat, ∃ w : Nat, i < m → w < N ∧ d w = ((i + 1 : Nat) : Int) := fun i => by
    by_cases hi : i < m
    · obtain ⟨w, w1, w2⟩ := hc m (q j) (h3 j hj) hm (i + 1) (by omega)
      refine ⟨w, fun _ => ⟨?_, w2⟩⟩
      rcases w1 with w1 | w1
      · exact w1
      · rw [w1, h7] at w2; omega
    · exact ⟨0, fun z => absurd z hi⟩
  obtain ⟨f, hf⟩ := Classical.axiomOfChoice hf
  have := holes N m f (fun i hi => (hf i hi).1) (fun a b hab hb e => by
    have x1 := (hf a (by omega)).2
    have x2 := (hf b hb).2
    rw [e] at x1
    omega)
  omega
/-- the k-th node's steps, from the i-th on -/
theorem ms_inner {b : Int} {k : Nat} {K40 : Int → Int → Int → PS → Prop} {σ0 : PS} (hT : okT T) (hx : okX (tn T) (tl T) x) {end_ : Nat} (he : end_ < 12)
    (hK : ∀ (σ' : PS) (many : Nat) (q : Nat → Nat), MN T σ' → MX T x σ' → Off [5, 6] σ0 σ' → BI 12 (stD T x b) end_ (fun v => σ' 5 v) q many (k + 1) (fun _ => False) → (∀ j, j < many → σ' 6 j = (q j : Int)) → K40 b many ((k : Int) + 1) σ') :
    ∀ (f i many : Nat) (q : Nat → Nat) (σ : PS), i ≤ 2 * tn T → 2 * tn T - i < f → MN T σ → MX T x σ → Off [5, 6] σ0 σ → k < many → BI 12 (stD T x b) end_ (fun v => σ 5 v) q many k (fun v => ∃ j, j < i ∧ nxD T b (cAt (tn T) j) = v ∧ hrD T b (cAt (tn T) j) = q k ∧ 0 < rmc (tl T) x (cAt (tn T) j)) → (∀ j, j < many → σ 6 j = (q j : Int)) → LX12_measures_49 K40 f b many k i σ Φ := by
  intro f
  induction f with
  | zero => intro i many q σ h1 h2; omega
  | succ f ih =>
    intro i many q σ hi hf hM hX ho hk hB hq
    have hn := hT.1
    unfold LX12_measures_49 BX12_measures_49
    rw [hM.1]
    refine ⟨⟨by omega, by omega⟩, fun c => ⟨⟨by have := hB.1.2.2; omega, ?_⟩, ?_⟩, fun c => ?_⟩
    · have h1 := hB.1
      have : many ≤ 12 := by
        have h2 := hB.2.1
        exact holes 12 many q h1.2.2 h2
      omega
    · exact hK σ many q hM hX ho (hB.next hk (fun v _ hs => by
        obtain ⟨j, h1, h2, h3, h4⟩ := stD_ex hn hs
        exact ⟨j, by omega, h2, h3, h4⟩)) hq
    · have hi2 : i < 2 * tn T := by omega
      have hc := cAt_ok hn hi2
      have h12 := cOK_12 (b := b) hT hc
      have m12 : many ≤ 12 := holes 12 many q hB.1.2.2 hB.2.1
      refine s_stepAt rfl hM hn hi2 ?_
      refine s_dir1 hM hn hc ?_
      unfold LX12_measures_89
      refine s_dir2 hM hn hc ?_
      have hqk := hq k hk
      -- what is left: the body with here, next known
      have go : ∀ (many' : Nat) (q' : Nat → Nat) (σ' : PS), MN T σ' → MX T x σ' → Off [5, 6] σ0 σ' → k < many' → BI 12 (stD T x b) end_ (fun v => σ' 5 v) q' many' k (fun v => ∃ j, j < i + 1 ∧ nxD T b (cAt (tn T) j) = v ∧ hrD T b (cAt (tn T) j) = q' k ∧ 0 < rmc (tl T) x (cAt (tn T) j)) → (∀ j, j < many' → σ' 6 j = (q' j : Int)) → LX12_measures_170 K40 (fun x2 x3 x4 x5 σ => LX12_measures_49 K40 f x2 x3 x4 x5 σ Φ) b many' k i σ' Φ := by
        intro many' q' σ' a1 a2 a3 a4 a5 a6
        unfold LX12_measures_170
        refine ⟨⟨by omega, by omega⟩, ?_⟩
        have := ih (i + 1) many' q' σ' (by omega) (by omega) a1 a2 a3 a4 a5 a6
        exact this
      unfold LX12_measures_110
      refine ⟨⟨by omega, by omega⟩, fun c1 => ?_, fun c1 => ?_⟩
      · refine go many q σ hM hX ho hk (hB.weak (fun v ⟨j, h1, h2, h3, h4⟩ => ?_)) hq
        by_cases e : j = i
        · subst e
          rw [show ((k : Int)).toNat = k by omega, hqk, h3] at c1
          exact absurd rfl c1
        · exact ⟨j, by omega, h2, h3, h4⟩
      · have hhr : hrD T b (cAt (tn T) i) = q k := by
          rw [show ((k : Int)).toNat = k by omega, hqk] at c1
          omega
        refine ⟨⟨by omega, by omega⟩, fun c2 => ?_, fun c2 => ?_⟩
        · rw [show ((nxD T b (cAt (tn T) i) : Nat) : Int).toNat = nxD T b (cAt (tn T) i) by omega] at c2
          refine go many q σ hM hX ho hk ((hB.skip c2).weak (fun v ⟨j, h1, h2, h3, h4⟩ => ?_)) hq
          by_cases e : j = i
          · subst e; exact Or.inr h2.symm
          · exact Or.inl ⟨j, by omega, h2, h3, h4⟩
        · rw [show ((nxD T b (cAt (tn T) i) : Nat) : Int).toNat = nxD T b (cAt (tn T) i) by omega] at c2
          refine s_room rfl hM hX hT hx hc ?_
          refine ⟨fun c3 => ?_, fun c3 => ?_⟩
          · refine go many q σ hM hX ho hk (hB.weak (fun v ⟨j, h1, h2, h3, h4⟩ => ?_)) hq
            by_cases e : j = i
            · subst e; omega
            · exact ⟨j, by omega, h2, h3, h4⟩
          · have hu : (fun v => σ 5 v) (nxD T b (cAt (tn T) i)) < 0 := by
              show σ 5 (nxD T b (cAt (tn T) i)) < 0
              omega
            have hm := hB.room h12.2 hu
            have hst : stD T x b (nxD T b (cAt (tn T) i)) (q k) := by rw [← hhr]; exact stD_c hc (by omega)
            have hdk := hB.2.2.2.1 k hk
            have hdk2 : σ 5 (q k) < 13 := by
              have hI := hB.2.2.1 (q k) (hB.1.2.2 k hk)
              have := bfs_lt hB k hk
              exact this
            have e1 : ((hrD T b (cAt (tn T) i) : Nat) : Int).toNat = q k := by rw [hhr]; omega
            have e2 : ((nxD T b (cAt (tn T) i) : Nat) : Int).toNat = nxD T b (cAt (tn T) i) := by omega
            have hdk' : 0 ≤ σ 5 (q k) := hdk
            rw [e1, e2]
            refine ⟨⟨by omega, by omega⟩, ⟨by omega, by omega⟩, ⟨by omega, by omega⟩, fun σ11 h11 => ⟨⟨by omega, by omega⟩, fun σ13 h13 => ⟨⟨by omega, by omega⟩, ?_⟩⟩⟩
            rw [show ((many : Nat) : Int).toNat = many by omega] at h13
            have o2 : Off [5, 6] σ0 σ13 := by rw [h13, h11]; exact (ho.up (by simp)).up (by simp)
            have o3 : Off [5, 6] σ σ13 := by rw [h13, h11]; exact (Off.rf.up (by simp)).up (by simp)
            have r5 : ∀ v, σ13 5 v = if v = nxD T b (cAt (tn T) i) then σ 5 (q k) + 1 else σ 5 v := fun v => by
              rw [h13, up2_nk (by omega), h11, up2_self]
            have r6 : ∀ j, σ13 6 j = if j = many then ((nxD T b (cAt (tn T) i) : Nat) : Int) else σ 6 j := fun j => by
              rw [h13, up2_self, h11, up2_row (by omega)]
            refine go (many + 1) (fun j => if j = many then nxD T b (cAt (tn T) i) else q j) σ13 (hM.off o3 (by simp) (by simp)) (hX.off o3 (by simp)) o2 (by omega) ?_ ?_
            · refine (hB.lab (d' := fun v => σ13 5 v) (q' := fun j => if j = many then nxD T b (cAt (tn T) i) else q j) hk h12.2 hu hst ?_ ?_ ?_ ?_).weak ?_
              · show σ13 5 _ = σ 5 (q k) + 1
                rw [r5, if_pos rfl]
              · intro v _ hne
                show σ13 5 v = σ 5 v
                rw [r5, if_neg hne]
              · show (if many = many then _ else _) = _
                rw [if_pos rfl]
              · intro j hj
                show (if j = many then _ else _) = _
                rw [if_neg (by omega)]
              · intro v ⟨j, h1, h2, h3, h4⟩
                by_cases e : j = i
                · subst e; exact Or.inr h2.symm
                · refine Or.inl ⟨j, by omega, h2, ?_, h4⟩
                  rw [h3]
                  show (if k = many then _ else _) = _
                  rw [if_neg (by omega)]
            · intro j hj
              rw [r6]
              show _ = (((if j = many then _ else q j) : Nat) : Int)
              by_cases e : j = many
              · rw [if_pos e, if_pos e]
              · rw [if_neg e, if_neg e]; exact hq j (by omega)
/-- distances to an end (b 1), or from an end (b 0) -/
theorem s_measures {b : Int} {end_ : Nat} (hT : okT T) (hx : okX (tn T) (tl T) x) (hM : MN T σ) (hX : MX T x σ) (he : end_ < 12) (h : ∀ σ' : PS, Off [5, 6] σ σ' → IsDist 12 (stD T x b) end_ (fun v => σ' 5 v) → Φ 0 σ') : FX12_measures end_ b σ Φ := by
  unfold FX12_measures
  refine ⟨14, ?_⟩
  have loop : ∀ (f i : Nat) (σ1 : PS), i ≤ 12 → 12 - i < f → Off [5, 6] σ σ1 → (∀ v, v < i → σ1 5 v = -1) → LX12_measures_2 f end_ b i σ1 Φ := by
    intro f
    induction f with
    | zero => intro i σ1 h1 h2; omega
    | succ f ih =>
      intro i σ1 hi hf ho hv
      unfold LX12_measures_2 BX12_measures_2
      refine ⟨fun c => ⟨⟨by omega, by omega⟩, fun σ3 h3 σ4 h4 => ?_⟩, fun c => ⟨⟨by omega, by omega⟩, fun σ6 h6 => ⟨⟨by omega, by omega⟩, ?_⟩⟩⟩
      · have o4 : Off [5, 6] σ σ4 := by rw [h4, h3]; exact (ho.up (by simp)).up (by simp)
        have r5 : ∀ v, σ4 5 v = if v = end_ then 0 else σ1 5 v := fun v => by
          rw [h4, up2_nk (by omega), h3, show ((end_ : Nat) : Int).toNat = end_ by omega, up2_self]
        have r6 : σ4 6 0 = (end_ : Int) := by rw [h4, up2_at]
        -- the outer loop
        have outer : ∀ (f k many : Nat) (q : Nat → Nat) (σ2 : PS), k ≤ many → 12 - k < f → MN T σ2 → MX T x σ2 → Off [5, 6] σ σ2 → BI 12 (stD T x b) end_ (fun v => σ2 5 v) q many k (fun _ => False) → (∀ j, j < many → σ2 6 j = (q j : Int)) → LX12_measures_40 f b many k σ2 Φ := by
          intro f
          induction f with
          | zero =>
            intro k many q σ2 h1 h2 _ _ _ hB
            omega
          | succ f ihf =>
            intro k many q σ2 h1 h2 g1 g2 g3 g4 g5
            have m12 : many ≤ 12 := holes 12 many q g4.1.2.2 g4.2.1
            unfold LX12_measures_40 BX12_measures_40
            refine ⟨fun c1 => ?_, fun c1 => ?_⟩
            · have e : k = many := by omega
              subst e
              exact h σ2 g3 g4.done
            · refine ⟨2 * tn T + 1, ?_⟩
              refine ms_inner hT hx (σ0 := σ) he (fun σ' many' q' a1 a2 a3 a4 a5 => ?_) (2 * tn T + 1) 0 many q σ2 (by omega) (by omega) g1 g2 g3 (by omega) (g4.weak (fun v ⟨j, hj, _⟩ => by omega)) g5
              exact ihf (k + 1) many' q' σ' a4.1.1 (by omega) a1 a2 a3 a4 a5
        refine ⟨14, ?_⟩
        refine outer 14 0 1 (fun _ => end_) σ4 (by omega) (by omega) (hM.off o4 (by simp) (by simp)) (hX.off o4 (by simp)) o4 (BI.init he ?_ ?_ rfl) (fun j hj => by rw [show j = 0 by omega]; exact r6)
        · show σ4 5 end_ = 0
          rw [r5, if_pos rfl]
        · intro v hv12 hne
          show σ4 5 v = -1
          rw [r5, if_neg hne]
          exact hv v (by omega)
      · refine ih (i + 1) σ6 (by omega) (by omega) (by rw [h6]; exact ho.up (by simp)) (fun v hvi => ?_)
        rw [h6, show ((i : Nat) : Int).toNat = i by omega, up2_if]
        by_cases e : v = i
        · rw [if_pos e]
        · rw [if_neg e]; exact hv v (by omega)
  exact loop 14 0 σ (by omega) (by omega) Off.rf (fun v hv => by omega)
end MBase
