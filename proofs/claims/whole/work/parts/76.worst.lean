/-! worst -/
noncomputable def lossv (b : Bk) (set : Int) : Int := mostT (T0 b) - mostT (TN b (lsI b set))
noncomputable def ls1 (b : Bk) (a : Nat) : Int := lossv b (ishl 1 a)
noncomputable def ls2 (b : Bk) (a c : Nat) : Int := lossv b (ior (ishl 1 a) (ishl 1 c))
def up1 (s : Int × Int) (v i : Int) : Int × Int := if s.1 < v then (v, i) else s
noncomputable def oneS (b : Bk) : Nat → Int × Int
  | 0 => (-1, -1)
  | a + 1 => up1 (oneS b a) (ls1 b a) a
noncomputable def rowS (b : Bk) (s : Int × Int) (a : Nat) : Nat → Int × Int
  | 0 => s
  | k + 1 => up1 (rowS b s a k) (ls2 b a (a + 1 + k)) (100 * a + (a + 1 + k : Nat))
noncomputable def allS (b : Bk) : Nat → Int × Int
  | 0 => (-1, -1)
  | a + 1 => rowS b (allS b a) a (bn b - (a + 1))
section Worst
variable {b : Bk} {d : DS} {σ : PS} {Φ : Int → PS → Prop}
theorem up1_ge {s : Int × Int} {v i : Int} : s.1 ≤ (up1 s v i).1 ∧ v ≤ (up1 s v i).1 := by
  unfold up1
  by_cases q : s.1 < v
  · rw [if_pos q]; exact ⟨Int.le_of_lt q, Int.le_refl _⟩
  · rw [if_neg q]; omega
theorem up1_in {s : Int × Int} {v i : Int} {B : Int} (h : s.1 ≤ B) (hv : v ≤ B) : (up1 s v i).1 ≤ B := by
  unfold up1
  split
  · exact hv
  · exact h
theorem lsI_le {set : Int} (hb : okB b) : mostT (TN b (lsI b set)) ≤ mostT (T0 b) := by
  obtain ⟨f, S, h1, h2, h3, h4⟩ := mostT_mf (okT_lsI (set := set) hb)
  refine (mostT_mf (okT_T0 hb)).ge (f := f) hb.2.1 ⟨h1.1, fun u w hu hw => ?_, h1.2.2.1, h1.2.2.2⟩
  have a := h1.2.1 u w hu hw
  have c : cG (bn b) (tf (T0 b)) (tt (T0 b)) (lsI b set) u w ≤ cG (bn b) (tf (T0 b)) (tt (T0 b)) (capB b) u w := sm_le (fun e he => by
    have := capB_rng hb he
    unfold lsI
    split
    · split <;> omega
    · exact Int.le_refl _)
  exact Int.le_trans a c
theorem lossv_rng (set : Int) (hb : okB b) : 0 ≤ lossv b set ∧ lossv b set ≤ 1000000 ∧ lossv b set ≤ mostT (T0 b) ∧ lossv b set ≤ sm (fun e => if tb set e = true then xE (T0 b) e else 0) (bn b) := by
  have h1 := loss_bd set hb
  have h2 := lsI_le (set := set) hb
  have h3 : 0 ≤ mostT (T0 b) ∧ mostT (T0 b) ≤ 1000000 := mostT_rng (okT_T0 hb)
  unfold lossv
  omega
theorem ls1_le {a : Nat} (hb : okB b) (ha : a < bn b) : 0 ≤ ls1 b a ∧ ls1 b a ≤ 1000000 ∧ ls1 b a ≤ min (xE (T0 b) a) (mostT (T0 b)) := by
  have hn := hb.1
  have h := lossv_rng (b := b) (ishl 1 a) hb
  have e : sm (fun e => if tb (ishl 1 a) e = true then xE (T0 b) e else 0) (bn b) = xE (T0 b) a := by
    have e1 : ∀ e, (if tb (ishl 1 a) e = true then xE (T0 b) e else 0) = if e = a then xE (T0 b) e else 0 := fun e => by
      rw [bt_shl (by omega)]
      by_cases p : e = a
      · rw [decide_eq_true p, if_pos p, if_pos (show true = true from rfl)]
      · rw [decide_eq_false p, if_neg p, if_neg Bool.noConfusion]
    rw [sm_congr (fun e _ => e1 e), sm_one ha (fun k _ hk => if_neg hk), if_pos rfl]
  rw [e] at h
  unfold ls1
  omega
theorem ls2_le {a c : Nat} (hb : okB b) (ha : a < bn b) (hc : c < bn b) (hac : a < c) : 0 ≤ ls2 b a c ∧ ls2 b a c ≤ 1000000 ∧ ls2 b a c ≤ min (xE (T0 b) a + xE (T0 b) c) (mostT (T0 b)) := by
  have hn := hb.1
  have h := lossv_rng (b := b) (ior (ishl 1 a) (ishl 1 c)) hb
  have e : sm (fun e => if tb (ior (ishl 1 a) (ishl 1 c)) e = true then xE (T0 b) e else 0) (bn b) = xE (T0 b) a + xE (T0 b) c := by
    have e1 : ∀ e, (if tb (ior (ishl 1 a) (ishl 1 c)) e = true then xE (T0 b) e else 0) = (if e = a then xE (T0 b) e else 0) + (if e = c then xE (T0 b) e else 0) := fun e => by
      rw [bt_or, bt_shl (by omega), bt_shl (by omega)]
      by_cases p : e = a
      · rw [decide_eq_true p, if_pos p, if_neg (show ¬ e = c by omega), if_pos (Bool.true_or _)]; omega
      · by_cases q : e = c
        · rw [decide_eq_false p, decide_eq_true q, if_neg p, if_pos q, if_pos (show (false || true) = true from rfl)]; omega
        · rw [decide_eq_false p, decide_eq_false q, if_neg p, if_neg q, if_neg Bool.noConfusion]; rfl
    rw [sm_congr (fun e _ => e1 e), sm_add, sm_one ha (fun k _ hk => if_neg hk), sm_one hc (fun k _ hk => if_neg hk), if_pos rfl, if_pos rfl]
  rw [e] at h
  unfold ls2
  omega
theorem one_rng (hb : okB b) : ∀ a, a ≤ bn b → -1 ≤ (oneS b a).1 ∧ (oneS b a).1 ≤ 1000000 ∧ (0 < a → 0 ≤ (oneS b a).1) := by
  intro a
  induction a with
  | zero => intro _; exact ⟨Int.le_refl _, by show (-1 : Int) ≤ _; omega, fun z => absurd z (Nat.lt_irrefl _)⟩
  | succ a ih =>
    intro ha
    have h1 := ls1_le hb (show a < bn b by omega)
    have h2 := ih (by omega)
    have h3 := @up1_ge (oneS b a) (ls1 b a) a
    have h4 := @up1_in (oneS b a) (ls1 b a) a 1000000 h2.2.1 h1.2.1
    show -1 ≤ (up1 (oneS b a) (ls1 b a) a).1 ∧ (up1 (oneS b a) (ls1 b a) a).1 ≤ 1000000 ∧ (0 < a + 1 → 0 ≤ (up1 (oneS b a) (ls1 b a) a).1)
    omega
theorem row_rng (hb : okB b) {a : Nat} {s : Int × Int} (ha : a < bn b) (h1 : -1 ≤ s.1) (h2 : s.1 ≤ 1000000) : ∀ k, a + 1 + k ≤ bn b → s.1 ≤ (rowS b s a k).1 ∧ (rowS b s a k).1 ≤ 1000000 ∧ (0 < k → 0 ≤ (rowS b s a k).1) := by
  intro k
  induction k with
  | zero => intro _; exact ⟨Int.le_refl _, h2, fun z => absurd z (Nat.lt_irrefl _)⟩
  | succ k ih =>
    intro hk
    have g1 := ls2_le hb ha (show a + 1 + k < bn b by omega) (by omega)
    have g2 := ih (by omega)
    have g3 := @up1_ge (rowS b s a k) (ls2 b a (a + 1 + k)) (100 * a + (a + 1 + k : Nat))
    have g4 := @up1_in (rowS b s a k) (ls2 b a (a + 1 + k)) (100 * a + (a + 1 + k : Nat)) 1000000 g2.2.1 g1.2.1
    show s.1 ≤ (up1 (rowS b s a k) (ls2 b a (a + 1 + k)) (100 * a + (a + 1 + k : Nat))).1 ∧ (up1 (rowS b s a k) (ls2 b a (a + 1 + k)) (100 * a + (a + 1 + k : Nat))).1 ≤ 1000000 ∧ (0 < k + 1 → 0 ≤ (up1 (rowS b s a k) (ls2 b a (a + 1 + k)) (100 * a + (a + 1 + k : Nat))).1)
    omega
theorem all_rng (hb : okB b) : ∀ a, a ≤ bn b → -1 ≤ (allS b a).1 ∧ (allS b a).1 ≤ 1000000 ∧ (0 < a → 2 ≤ bn b → 0 ≤ (allS b a).1) := by
  intro a
  induction a with
  | zero => intro _; exact ⟨Int.le_refl _, by show (-1 : Int) ≤ _; omega, fun z => absurd z (Nat.lt_irrefl _)⟩
  | succ a ih =>
    intro ha
    have h2 := ih (by omega)
    have h3 := row_rng hb (show a < bn b by omega) h2.1 h2.2.1 (bn b - (a + 1)) (by omega)
    show -1 ≤ (rowS b (allS b a) a (bn b - (a + 1))).1 ∧ (rowS b (allS b a) a (bn b - (a + 1))).1 ≤ 1000000 ∧ (0 < a + 1 → 2 ≤ bn b → 0 ≤ (rowS b (allS b a) a (bn b - (a + 1))).1)
    refine ⟨by omega, h3.2.1, fun _ hn => ?_⟩
    by_cases q : a = 0
    · exact h3.2.2 (by omega)
    · have := h2.2.2 (by omega) hn
      omega
/-- the class: a set that can't lose more than the best needs no look -/
theorem c_rows {σ0 : PS} (hb : okB b) (hC0 : cB 1 13 b σ0) (hw : CWD (T0 b) σ0) {s1 s0 : Int} (hΦ : ∀ σ' : PS, Off [6, 8, 49, 50, 51, 52, 53, 54, 55, 56] σ0 σ' → σ' 6 0 = s0 → σ' 6 1 = s1 → σ' 6 2 = (allS b (bn b)).2 → σ' 6 3 = (allS b (bn b)).1 → Φ 0 σ') : ∀ (f a : Nat) (σ : PS), a ≤ bn b → bn b - a < f → Off [6, 8, 49, 50, 51, 52, 53, 54, 55, 56] σ0 σ → σ 6 0 = s0 → σ 6 1 = s1 → σ 6 2 = (allS b a).2 → σ 6 3 = (allS b a).1 → LX10_run_109 f a σ Φ := by
  have hn := hb.1
  intro f
  induction f with
  | zero => intro a σ h1 h2; omega
  | succ f ih =>
    intro a σ ha hf ho e0 e1 e2 e3
    have hC : cB 1 13 b σ := hC0.off ho (by simp) (fun w hw => by simp; omega)
    unfold LX10_run_109 BX10_run_109
    rw [hC.1]
    refine ⟨fun c => ?_, fun c => ⟨⟨by omega, by omega⟩, fun v3 g3 => ⟨bn b + 1, ?_⟩⟩⟩
    · have e : a = bn b := by omega
      rw [e] at e2 e3
      exact hΦ σ ho e0 e1 e2 e3
    · have ha2 : a < bn b := by omega
      have hall := all_rng hb a ha
      have row : ∀ (f2 k : Nat) (σ : PS), a + 1 + k ≤ bn b → bn b - (a + 1 + k) < f2 → Off [6, 8, 49, 50, 51, 52, 53, 54, 55, 56] σ0 σ → σ 6 0 = s0 → σ 6 1 = s1 → σ 6 2 = (rowS b (allS b a) a k).2 → σ 6 3 = (rowS b (allS b a) a k).1 → LX10_run_124 (fun x4 σ => LX10_run_109 f x4 σ Φ) f2 a ((a + 1 + k : Nat) : Int) σ Φ := by
        intro f2
        induction f2 with
        | zero => intro k σ h1 h2; omega
        | succ f2 ih2 =>
          intro k σ hk hf2 ho e0 e1 e2 e3
          have hC : cB 1 13 b σ := hC0.off ho (by simp) (fun w hw => by simp; omega)
          have hr := row_rng hb ha2 hall.1 hall.2.1 k hk
          unfold LX10_run_124 BX10_run_124
          rw [hC.1]
          refine ⟨fun c => ⟨⟨by omega, by omega⟩, ?_⟩, fun c => ?_⟩
          · have e : k = bn b - (a + 1) := by omega
            rw [e] at e2 e3
            exact ih (a + 1) σ (by omega) (by omega) ho e0 e1 e2 e3
          · have hk2 : a + 1 + k < bn b := by omega
            have hl := ls2_le hb ha2 hk2 (show a < a + 1 + k by omega)
            have x1 : σ 25 ((a : Nat) : Int).toNat = xE (T0 b) a := by rw [show ((a : Nat) : Int).toNat = a by omega, ho 25 (by simp)]; exact hw.2.2.2.1 a ha2
            have x2 : σ 25 ((a + 1 + k : Nat) : Int).toNat = xE (T0 b) (a + 1 + k) := by rw [show ((a + 1 + k : Nat) : Int).toNat = a + 1 + k by omega, ho 25 (by simp)]; exact hw.2.2.2.1 _ hk2
            have b1 := (mostT_go (okT_T0 hb)).1 a ha2
            have b2 := (mostT_go (okT_T0 hb)).1 _ hk2
            have l1 := (okT_T0 hb).2.2.1 a ha2
            have l2 := (okT_T0 hb).2.2.1 _ hk2
            have m1 : 0 ≤ mostT (T0 b) ∧ mostT (T0 b) ≤ 1000000 := mostT_rng (okT_T0 hb)
            have e38 : σ 3 8 = mostT (T0 b) := by rw [ho 3 (by simp)]; exact hw.2.1
            rw [x1, x2, e38, e3]
            -- the next state, if it is no better or better
            have skip : ∀ σ' : PS, Off [6, 8, 49, 50, 51, 52, 53, 54, 55, 56] σ0 σ' → σ' 6 = σ 6 → ls2 b a (a + 1 + k) ≤ (rowS b (allS b a) a k).1 → LX10_run_220 (fun x4 σ => LX10_run_109 f x4 σ Φ) (fun x4 x5 σ => LX10_run_124 (fun x4 σ => LX10_run_109 f x4 σ Φ) f2 x4 x5 σ Φ) a ((a + 1 + k : Nat) : Int) σ' Φ := fun σ' o' e6 hle => by
              unfold LX10_run_220
              have er : rowS b (allS b a) a (k + 1) = rowS b (allS b a) a k := by
                show up1 _ _ _ = _
                unfold up1
                rw [if_neg (by omega)]
              refine ⟨⟨by omega, by omega⟩, ?_⟩
              rw [show (((a + 1 + k : Nat) : Int) + 1) = ((a + 1 + (k + 1) : Nat) : Int) by omega]
              exact ih2 (k + 1) σ' (by omega) (by omega) o' (by rw [e6]; exact e0) (by rw [e6]; exact e1) (by rw [e6, er]; exact e2) (by rw [e6, er]; exact e3)
            refine ⟨⟨by omega, by omega⟩, ⟨by omega, by omega⟩, ⟨by omega, by omega⟩, fun v6 g6 => ⟨fun c1 => ?_, fun c1 => ?_⟩⟩
            · unfold LX10_run_191
              rw [e3]
              exact ⟨fun _ => skip σ ho rfl (by omega), fun c2 => by omega⟩
            · refine c_mostIf hb hC ⟨by omega, by omega⟩ (fun σ' o' => ?_)
              rw [lmI_ls hb]
              have el : mostT (T0 b) - mostT (TN b (lsI b (ior (ishl 1 a) (ishl 1 ((a + 1 + k : Nat) : Int))))) = ls2 b a (a + 1 + k) := rfl
              rw [el]
              have o2 : Off [6, 8, 49, 50, 51, 52, 53, 54, 55, 56] σ0 σ' := ho.trans (o'.mono (by simp))
              unfold LX10_run_191
              rw [o' 6 (by simp), e3]
              refine ⟨⟨by omega, by omega⟩, fun c2 => skip σ' o2 (o' 6 (by simp)) c2, fun c2 σ3 g3 => ⟨⟨by omega, by omega⟩, ⟨by omega, by omega⟩, fun σ5 g5 => ?_⟩⟩
              unfold LX10_run_220
              have er : rowS b (allS b a) a (k + 1) = (ls2 b a (a + 1 + k), 100 * (a : Int) + (a + 1 + k : Nat)) := by
                show up1 _ _ _ = _
                unfold up1
                rw [if_pos (by omega)]
              refine ⟨⟨by omega, by omega⟩, ?_⟩
              rw [show (((a + 1 + k : Nat) : Int) + 1) = ((a + 1 + (k + 1) : Nat) : Int) by omega]
              refine ih2 (k + 1) σ5 (by omega) (by omega) (by rw [g5, g3]; exact (o2.up (by simp)).up (by simp)) ?_ ?_ ?_ ?_
              · rw [g5, up2_ni (by omega), g3, up2_ni (by omega), o' 6 (by simp)]; exact e0
              · rw [g5, up2_ni (by omega), g3, up2_ni (by omega), o' 6 (by simp)]; exact e1
              · rw [g5, up2_at, er]
              · rw [g5, up2_ni (by omega), g3, up2_at, er]
      rw [g3, show ((a : Int) + 1) = ((a + 1 + 0 : Nat) : Int) by omega]
      exact row (bn b + 1) 0 σ (by omega) (by omega) ho e0 e1 e2 e3
theorem c_runW (hb : okB b) (hC0 : cB 1 13 b σ) (hw : CWD (T0 b) σ) (hΦ : ∀ σ' : PS, Off [6, 8, 49, 50, 51, 52, 53, 54, 55, 56] σ σ' → σ' 6 0 = (oneS b (bn b)).2 → σ' 6 1 = (oneS b (bn b)).1 → σ' 6 2 = (allS b (bn b)).2 → σ' 6 3 = (allS b (bn b)).1 → Φ 0 σ') : FX10_run σ Φ := by
  have hn := hb.1
  unfold FX10_run
  intro σ1 g1 σ2 g2 σ3 g3 σ4 g4
  have o4 : Off [6] σ σ4 := by rw [g4, g3, g2, g1]; exact (((Off.rf.up (by simp)).up (by simp)).up (by simp)).up (by simp)
  have loop : ∀ (f a : Nat) (σ1 : PS), a ≤ bn b → bn b - a < f → Off [6, 8, 49, 50, 51, 52, 53, 54, 55, 56] σ σ1 → σ1 6 0 = (oneS b a).2 → σ1 6 1 = (oneS b a).1 → σ1 6 2 = -1 → σ1 6 3 = -1 → LX10_run_23 f a σ1 Φ := by
    intro f
    induction f with
    | zero => intro a σ1 h1 h2; omega
    | succ f ih =>
      intro a σ1 ha hf ho e0 e1 e2 e3
      have hC : cB 1 13 b σ1 := hC0.off ho (by simp) (fun w hw => by simp; omega)
      have hr := one_rng hb a ha
      unfold LX10_run_23 BX10_run_23
      rw [hC.1]
      refine ⟨fun c => ⟨bn b + 1, ?_⟩, fun c => ?_⟩
      · have e : a = bn b := by omega
        rw [e] at e0 e1
        exact c_rows hb hC0 hw hΦ (bn b + 1) 0 σ1 (by omega) (by omega) ho e0 e1 e2 e3
      · have ha2 : a < bn b := by omega
        have hl := ls1_le hb ha2
        have x1 : σ1 25 ((a : Nat) : Int).toNat = xE (T0 b) a := by rw [show ((a : Nat) : Int).toNat = a by omega, ho 25 (by simp)]; exact hw.2.2.2.1 a ha2
        have m1 : 0 ≤ mostT (T0 b) ∧ mostT (T0 b) ≤ 1000000 := mostT_rng (okT_T0 hb)
        have e38 : σ1 3 8 = mostT (T0 b) := by rw [ho 3 (by simp)]; exact hw.2.1
        rw [x1, e38, e1]
        have skip : ∀ σ' : PS, Off [6, 8, 49, 50, 51, 52, 53, 54, 55, 56] σ σ' → σ' 6 = σ1 6 → ls1 b a ≤ (oneS b a).1 → LX10_run_100 (fun x4 σ => LX10_run_23 f x4 σ Φ) a σ' Φ := fun σ' o' e6 hle => by
          unfold LX10_run_100
          have er : oneS b (a + 1) = oneS b a := by
            show up1 _ _ _ = _
            unfold up1
            rw [if_neg (by omega)]
          exact ⟨⟨by omega, by omega⟩, ih (a + 1) σ' (by omega) (by omega) o' (by rw [e6, er]; exact e0) (by rw [e6, er]; exact e1) (by rw [e6]; exact e2) (by rw [e6]; exact e3)⟩
        refine ⟨⟨by omega, by omega⟩, fun v3 g3 => ⟨fun c1 => ?_, fun c1 => ?_⟩⟩
        · unfold LX10_run_77
          rw [e1]
          exact ⟨fun _ => skip σ1 ho rfl (by omega), fun c2 => by omega⟩
        · refine c_mostIf hb hC ⟨by omega, by omega⟩ (fun σ' o' => ?_)
          rw [lmI_ls hb]
          have el : mostT (T0 b) - mostT (TN b (lsI b (ishl 1 a))) = ls1 b a := rfl
          rw [el]
          have o2 : Off [6, 8, 49, 50, 51, 52, 53, 54, 55, 56] σ σ' := ho.trans (o'.mono (by simp))
          unfold LX10_run_77
          rw [o' 6 (by simp), e1]
          refine ⟨⟨by omega, by omega⟩, fun c2 => skip σ' o2 (o' 6 (by simp)) c2, fun c2 σ5 g5 σ6 g6 => ?_⟩
          unfold LX10_run_100
          have er : oneS b (a + 1) = (ls1 b a, (a : Int)) := by
            show up1 _ _ _ = _
            unfold up1
            rw [if_pos (by omega)]
          refine ⟨⟨by omega, by omega⟩, ih (a + 1) σ6 (by omega) (by omega) (by rw [g6, g5]; exact (o2.up (by simp)).up (by simp)) ?_ ?_ ?_ ?_⟩
          · rw [g6, up2_at, er]
          · rw [g6, up2_ni (by omega), g5, up2_at, er]
          · rw [g6, up2_ni (by omega), g5, up2_ni (by omega), o' 6 (by simp)]; exact e2
          · rw [g6, up2_ni (by omega), g5, up2_ni (by omega), o' 6 (by simp)]; exact e3
  refine ⟨bn b + 1, loop (bn b + 1) 0 σ4 (by omega) (by omega) (o4.mono (by simp)) ?_ ?_ ?_ ?_⟩
  · rw [g4, up2_ni (by omega), g3, up2_ni (by omega), g2, up2_ni (by omega), g1, up2_at]; rfl
  · rw [g4, up2_ni (by omega), g3, up2_ni (by omega), g2, up2_at]; rfl
  · rw [g4, up2_ni (by omega), g3, up2_at]
  · rw [g4, up2_at]
/-- the reference's loops -/
theorem m_worst {what : Nat} (hb : okB b) (hM0 : mB 1 b σ) (hw : what < 4) (hcount : (if what < 2 then 1 else 2) ≤ bn b) (hΦ : ∀ σ' : PS, MK σ σ' → Φ (if what = 0 then (oneS b (bn b)).2 else if what = 1 then (oneS b (bn b)).1 else if what = 2 then (allS b (bn b)).2 else (allS b (bn b)).1) σ') : FX12_worst what σ Φ := by
  have hn := hb.1
  unfold FX12_worst
  refine m_in (fun _ _ => ⟨fun _ => ?_, fun c => by omega⟩) (fun c => by omega)
  refine m_flowsNow hb hM0 (fun σ2 k2 hM2 _ _ _ _ _ => ⟨bn b + 1, ?_⟩)
  have m1 : 0 ≤ mostT (T0 b) ∧ mostT (T0 b) ≤ 1000000 := mostT_rng (okT_T0 hb)
  have fin : ∀ (x3 x4 : Int) (σ1 : PS), MK σ σ1 → mB 1 b σ1 → (x3 = (if what < 2 then oneS b (bn b) else allS b (bn b)).1) → (x4 = (if what < 2 then oneS b (bn b) else allS b (bn b)).2) → 0 ≤ x3 → Φ (if what % 2 = 0 then x4 else x3) σ1 := fun x3 x4 σ1 hk hM h3 h4 h0 => by
    have := hΦ σ1 hk
    by_cases q0 : what = 0
    · subst q0; simp at h3 h4 this ⊢; rw [h4]; exact this
    · by_cases q1 : what = 1
      · subst q1; simp at h3 h4 this ⊢; rw [h3]; exact this
      · by_cases q2 : what = 2
        · subst q2; simp at h3 h4 this ⊢; rw [h4]; exact this
        · have q3 : what = 3 := by omega
          subst q3; simp at h3 h4 this ⊢; rw [h3]; exact this
  have stp : ∀ {s : Int × Int} {x3 x4 v i : Int}, x3 = s.1 → (0 ≤ s.1 → x4 = s.2) → 0 ≤ v → (v ≤ x3 → (x3 = (up1 s v i).1 ∧ (0 ≤ (up1 s v i).1 → x4 = (up1 s v i).2))) ∧ (¬ v ≤ x3 → (v = (up1 s v i).1 ∧ (0 ≤ (up1 s v i).1 → i = (up1 s v i).2))) := fun {s x3 x4 v i} h3 h4 hv => by
    refine ⟨fun c => ?_, fun c => ?_⟩
    · unfold up1
      rw [if_neg (by omega)]
      exact ⟨h3, h4⟩
    · unfold up1
      rw [if_pos (by omega)]
      exact ⟨rfl, fun _ => rfl⟩
  have loop : ∀ (f a : Nat) (x3 x4 : Int) (σ1 : PS), a ≤ bn b → bn b - a < f → MK σ σ1 → mB 1 b σ1 → x3 = (if what < 2 then oneS b a else allS b a).1 → (0 ≤ (if what < 2 then oneS b a else allS b a).1 → x4 = (if what < 2 then oneS b a else allS b a).2) → LX12_worst_25 f what (mostT (T0 b)) x3 x4 a σ1 Φ := by
    intro f
    induction f with
    | zero => intro a x3 x4 σ1 h1 h2; omega
    | succ f ih =>
      intro a x3 x4 σ1 ha hf hk hM h3 h4
      unfold LX12_worst_25 BX12_worst_25
      rw [hM.1]
      have hr1 := one_rng hb a ha
      have hr2 := all_rng hb a ha
      refine ⟨fun c => ?_, fun c => ?_⟩
      · have ea : a = bn b := by omega
        rw [ea] at h3 h4 hr1 hr2
        have h0 : 0 ≤ x3 := by
          rw [h3]
          by_cases q : what < 2
          · rw [if_pos q] at hcount ⊢; exact hr1.2.2 (by omega)
          · rw [if_neg q] at hcount ⊢; exact hr2.2.2 (by omega) hcount
        have := fin x3 x4 σ1 hk hM h3 (h4 (by omega)) h0
        refine ⟨fun _ => ⟨by omega, fun c2 => ?_, fun c2 => ?_⟩, fun c2 => absurd h0 c2⟩
        · rw [if_neg (by omega)] at this; exact this
        · rw [if_pos (by omega)] at this; exact this
      · have ha2 : a < bn b := by omega
        refine ⟨fun c2 => ⟨⟨by omega, by omega⟩, ?_⟩, fun c2 => ?_⟩
        · -- pairs
          have q : ¬ what < 2 := by omega
          rw [if_neg q] at h3 h4
          unfold LX12_worst_50
          refine ⟨bn b + 1, ?_⟩
          have row : ∀ (f2 k : Nat) (x3 x4 : Int) (σ1 : PS), a + 1 + k ≤ bn b → bn b - (a + 1 + k) < f2 → MK σ σ1 → mB 1 b σ1 → x3 = (rowS b (allS b a) a k).1 → (0 ≤ (rowS b (allS b a) a k).1 → x4 = (rowS b (allS b a) a k).2) → LX12_worst_52 (fun x1 x2 x3 x4 x5 σ => LX12_worst_25 f x1 x2 x3 x4 x5 σ Φ) f2 what (mostT (T0 b)) x3 x4 a ((a + 1 + k : Nat) : Int) σ1 Φ := by
            intro f2
            induction f2 with
            | zero => intro k x3 x4 σ1 h1 h2; omega
            | succ f2 ih2 =>
              intro k x3 x4 σ1 hk2 hf2 hk hM h3 h4
              unfold LX12_worst_52 BX12_worst_52 LX12_worst_72
              rw [hM.1]
              refine ⟨fun _ => ⟨fun c3 => ⟨⟨by omega, by omega⟩, ?_⟩, fun c3 => ?_⟩, fun c3 => by omega⟩
              · have e : k = bn b - (a + 1) := by omega
                rw [e] at h3 h4
                exact ih (a + 1) x3 x4 σ1 (by omega) (by omega) hk hM (by rw [if_neg q]; exact h3) (by rw [if_neg q]; exact h4)
              · have hl := ls2_le hb ha2 (show a + 1 + k < bn b by omega) (show a < a + 1 + k by omega)
                refine m_lossOf hb hM m1 (fun σ' k' hM' => ?_)
                have el : mostT (T0 b) - mostT (TN b (lsI b (ior (ishl 1 a) (ishl 1 ((a + 1 + k : Nat) : Int))))) = ls2 b a (a + 1 + k) := rfl
                rw [el]
                obtain ⟨s1, s2⟩ := stp (i := 100 * (a : Int) + (a + 1 + k : Nat)) h3 h4 hl.1
                unfold LX12_worst_118 LX12_worst_120
                refine ⟨fun c4 => ⟨⟨by omega, by omega⟩, ?_⟩, fun c4 => ⟨fun _ => ⟨⟨by omega, by omega⟩, ⟨by omega, by omega⟩, ⟨by omega, by omega⟩, ?_⟩, fun c5 => by omega⟩⟩
                · rw [show (((a + 1 + k : Nat) : Int) + 1) = ((a + 1 + (k + 1) : Nat) : Int) by omega]
                  exact ih2 (k + 1) x3 x4 σ' (by omega) (by omega) (hk.trans k') hM' (s1 c4).1 (s1 c4).2
                · rw [show (((a + 1 + k : Nat) : Int) + 1) = ((a + 1 + (k + 1) : Nat) : Int) by omega]
                  exact ih2 (k + 1) _ _ σ' (by omega) (by omega) (hk.trans k') hM' (s2 c4).1 (s2 c4).2
          rw [show ((a : Int) + 1) = ((a + 1 + 0 : Nat) : Int) by omega]
          exact row (bn b + 1) 0 x3 x4 σ1 (by omega) (by omega) hk hM h3 h4
        · have q : what < 2 := by omega
          rw [if_pos q] at h3 h4
          unfold LX12_worst_50
          refine ⟨2, ?_⟩
          have next : ∀ (g : Nat) (x3 x4 : Int) (σ' : PS), MK σ σ' → mB 1 b σ' → x3 = (oneS b (a + 1)).1 → (0 ≤ (oneS b (a + 1)).1 → x4 = (oneS b (a + 1)).2) → LX12_worst_52 (fun x1 x2 x3 x4 x5 σ => LX12_worst_25 f x1 x2 x3 x4 x5 σ Φ) (g + 1) what (mostT (T0 b)) x3 x4 a ((a : Int) + 1) σ' Φ := fun g x3 x4 σ' k' hM' g3 g4 => by
            unfold LX12_worst_52 BX12_worst_52 LX12_worst_72
            refine ⟨fun c3 => by omega, fun _ => ⟨⟨by omega, by omega⟩, fun _ => ⟨⟨by omega, by omega⟩, ?_⟩, fun c3 => absurd (Int.le_refl _) c3⟩⟩
            exact ih (a + 1) x3 x4 σ' (by omega) (by omega) k' hM' (by rw [if_pos q]; exact g3) (by rw [if_pos q]; exact g4)
          unfold LX12_worst_52 BX12_worst_52 LX12_worst_72
          refine ⟨fun c3 => by omega, fun _ => ⟨⟨by omega, by omega⟩, fun c3 => by omega, fun c3 => ?_⟩⟩
          have hl := ls1_le hb ha2
          refine m_lossOf hb hM m1 (fun σ' k' hM' => ?_)
          have el : mostT (T0 b) - mostT (TN b (lsI b (ior (ishl 1 a) (ishl 1 a)))) = ls1 b a := by
            unfold ls1 lossv
            rw [mostT_cong (l' := lsI b (ishl 1 a)) hb (okT_lsI hb) (fun e _ => by unfold lsI; rw [bt_or, Bool.or_self])]
          rw [el]
          obtain ⟨s1, s2⟩ := stp (i := (a : Int)) h3 h4 hl.1
          unfold LX12_worst_118 LX12_worst_120
          exact ⟨fun c4 => ⟨⟨by omega, by omega⟩, next 0 x3 x4 σ' (hk.trans k') hM' (s1 c4).1 (s1 c4).2⟩, fun c4 => ⟨fun c5 => by omega, fun _ => ⟨⟨by omega, by omega⟩, next 0 _ _ σ' (hk.trans k') hM' (s2 c4).1 (s2 c4).2⟩⟩⟩
  refine loop (bn b + 1) 0 (-1) (-5) σ2 (by omega) (by omega) k2 hM2 ?_ (fun z => ?_)
  · split <;> rfl
  · exfalso
    by_cases q : what < 2
    · rw [if_pos q] at z
      have : (oneS b 0).1 = -1 := rfl
      omega
    · rw [if_neg q] at z
      have : (allS b 0).1 = -1 := rfl
      omega
theorem CWR_of (hb : okB b) (h0 : σ 6 0 = (oneS b (bn b)).2) (h1 : σ 6 1 = (oneS b (bn b)).1) (h2 : σ 6 2 = (allS b (bn b)).2) (h3 : σ 6 3 = (allS b (bn b)).1) : CWR b σ := by
  intro what σm Φ hw hc hM hΦ
  refine m_worst hb hM hw hc (fun σm' k => ?_)
  have := hΦ σm' k
  by_cases q0 : what = 0
  · subst q0; rw [h0] at this; exact this
  · by_cases q1 : what = 1
    · subst q1; rw [h1] at this; exact this
    · by_cases q2 : what = 2
      · subst q2; rw [h2] at this; exact this
      · have q3 : what = 3 := by omega
        subst q3; rw [h3] at this; exact this
theorem c_freshWorst (hd : okD d) (hR : CR d σ) (h : ∀ σ' : PS, CR d σ' → CWR (dB d) σ' → Φ 6 σ') : FX11_freshWorst σ Φ := by
  unfold FX11_freshWorst
  refine ⟨fun c => h σ hR (hR.2.2.2.2.2.2.2.2 c), fun c => ?_⟩
  refine c_freshWays hd hR (fun σ1 hR1 hw => ⟨rfl, ?_⟩)
  obtain ⟨h1, h2, h3, h4, h5, h6, h7, h8, h10⟩ := id hR1
  refine c_runW hd.1 h1 hw (fun σ3 o3 e0 e1 e2 e3 σ4 g4 => ?_)
  have o4 : Off [0] σ3 σ4 := by rw [g4]; exact Off.rf.up (by simp)
  have o : Off [0, 6, 8, 49, 50, 51, 52, 53, 54, 55, 56] σ1 σ4 := (o3.mono (by simp)).trans (o4.mono (by simp))
  have z0 : ∀ i, i ≠ 10 → σ4 0 i = σ1 0 i := fun i hi => by rw [g4, up2_ni hi, o3 0 (by simp)]
  have w4 : CWR (dB d) σ4 := (CWR_of hd.1 e0 e1 e2 e3).off o4 (by simp)
  refine h σ4 ⟨h1.off o (by simp) (fun w hw => by simp; omega), h2.off o (z0 2 (by omega)) (by simp), ?_, ?_, ?_, fun c2 => ?_, fun c2 => ?_, fun c2 => ?_, fun _ => w4⟩ w4
  · rw [o 9 (by simp), o 57 (by simp)]; exact h3
  · rw [o 11 (by simp), o 61 (by simp)]; exact h4
  · rw [o 62 (by simp), o 63 (by simp)]; exact h5
  · rw [z0 4 (by omega)] at c2; exact (h6 c2).off o (by simp)
  · rw [z0 6 (by omega)] at c2; exact (h7 c2).off o (by simp)
  · rw [z0 8 (by omega)] at c2; exact (h8 c2).off o (by simp)
theorem p_worst (a1 : Int) : PT (FX11_worst a1) (FX12_worst a1) := by
  intro d σc σm hd hC hM
  have hn := hd.1.1
  have same : ∀ r r2 : Int, r = r2 → r = r2 ∧ ∃ d', okD d' ∧ CR d' σc ∧ MR d' σm := fun r r2 e => ⟨e, d, hd, hC, hM⟩
  have no : ¬ (0 ≤ a1 ∧ a1 ≤ 3) → FX12_worst a1 σm (fun r2 σm' => -1 = r2 ∧ ∃ d', okD d' ∧ CR d' σc ∧ MR d' σm') := fun hno => by
    unfold FX12_worst
    exact m_in (fun x y => absurd ⟨x, y⟩ hno) (fun _ => ⟨fun c => absurd rfl c, fun _ => same _ _ rfl⟩)
  -- too few gates
  have few : ∀ what : Nat, a1 = what → what < 4 → ¬ (if what < 2 then 1 else 2) ≤ bn (dB d) → FX12_worst a1 σm (fun r2 σm' => -5 = r2 ∧ ∃ d', okD d' ∧ CR d' σc ∧ MR d' σm') := fun what ha hw hf => by
    subst ha
    unfold FX12_worst
    refine m_in (fun _ _ => ⟨fun _ => ?_, fun c => by omega⟩) (fun c => by omega)
    refine m_flowsNow hd.1 hM.1 (fun σ2 k2 hM2 _ _ _ _ _ => ⟨2, ?_⟩)
    have fin : ∀ f a : Nat, a = bn (dB d) → LX12_worst_25 (f + 1) what (mostT (T0 (dB d))) (-1) (-5) a σ2 (fun r2 σm' => -5 = r2 ∧ ∃ d', okD d' ∧ CR d' σc ∧ MR d' σm') := fun f a ha => by
      unfold LX12_worst_25 BX12_worst_25
      rw [hM2.1]
      exact ⟨fun _ => ⟨fun c => by omega, fun _ => ⟨rfl, d, hd, hC, hM.keep k2⟩⟩, fun c => by omega⟩
    by_cases q : bn (dB d) = 0
    · exact fin 1 0 q.symm
    · have q1 : bn (dB d) = 1 ∧ 2 ≤ what := by
        by_cases y : what < 2
        · rw [if_pos y] at hf; omega
        · rw [if_neg y] at hf; omega
      unfold LX12_worst_25 BX12_worst_25
      rw [hM2.1]
      refine ⟨fun c => by omega, fun _ => ⟨fun _ => ⟨⟨by omega, by omega⟩, ?_⟩, fun c => by omega⟩⟩
      unfold LX12_worst_50
      refine ⟨1, ?_⟩
      unfold LX12_worst_52 BX12_worst_52 LX12_worst_72
      rw [hM2.1]
      refine ⟨fun _ => ⟨fun _ => ⟨⟨by omega, by omega⟩, ?_⟩, fun c => by omega⟩, fun c => by omega⟩
      exact fin 0 1 q1.1.symm
  unfold FX11_worst
  refine ⟨fun c => no (by omega), fun c => ⟨fun c2 => ?_, fun c2 => no (by omega)⟩⟩
  obtain ⟨what, ha⟩ : ∃ what : Nat, a1 = what := ⟨a1.toNat, by omega⟩
  have hw : what < 4 := by omega
  have main : ∀ m : Nat, (m = if what < 2 then 1 else 2) → LX11_worst_28 a1 (σc 1 6) m σc (fun r σc' => FX12_worst a1 σm (fun r2 σm' => r = r2 ∧ ∃ d', okD d' ∧ CR d' σc' ∧ MR d' σm')) := fun m hm => by
    unfold LX11_worst_28
    rw [hC.1.1]
    refine ⟨fun c3 => ?_, fun c3 => few what ha hw (by rw [← hm]; omega)⟩
    refine c_freshWorst hd hC (fun σ1 hC1 hW => ⟨rfl, ?_⟩)
    have go : ∀ r : Int, r = σ1 6 what → FX12_worst a1 σm (fun r2 σm' => r = r2 ∧ ∃ d', okD d' ∧ CR d' σ1 ∧ MR d' σm') := fun r hr => by
      rw [ha]
      exact hW what σm _ hw (by rw [← hm]; omega) hM.1 (fun σm' k => ⟨hr, d, hd, hC1, hM.keep k⟩)
    refine ⟨fun c4 => go _ ?_, fun c4 => go _ ?_, fun c4 => go _ ?_, fun c4 => go _ ?_⟩
    · rw [show what = 0 by omega]
    · rw [show what = 1 by omega]
    · rw [show what = 2 by omega]
    · rw [show what = 3 by omega]
  exact ⟨fun c3 => main 2 (by rw [if_neg (by omega)]), fun c3 => main 1 (by rw [if_pos (by omega)])⟩
end Worst
