theorem bRe.one {T : NT} {x : Nat → Int} {a : Nat} {b c : Int} (h : bRe T x a b) (g : bRe T x a c) : b = c := by
  obtain ⟨D, hD⟩ := IsDist.ex 12 (fun v w => stT T x w v) a
  exact (h D hD).one (g D hD)
section Pairs2
variable {d : DS} {b : Bk} {σ : PS} {Φ : Int → PS → Prop}
theorem m_reached (h : ∀ z : Int, bP 12 z (fun v => 0 ≤ σ 5 v) → Φ z σ) : FX12_reached σ Φ := by
  unfold FX12_reached
  refine ⟨13, ?_⟩
  have loop : ∀ (f i : Nat) (z : Int), i ≤ 12 → 12 - i < f → bP i z (fun v => 0 ≤ σ 5 v) → LX12_reached_4 f z i σ Φ := by
    intro f
    induction f with
    | zero => intro i z h1 h2; omega
    | succ f ih =>
      intro i z hi hf hz
      unfold LX12_reached_4 BX12_reached_4
      refine ⟨fun c => ?_, fun c => ⟨⟨by omega, by omega⟩, ?_⟩⟩
      · have e : i = 12 := by omega
        subst e
        exact h z hz
      · rw [show ((i : Nat) : Int).toNat = i by omega]
        refine ⟨fun c2 v1 g1 => ⟨⟨by omega, by omega⟩, ?_⟩, fun c2 v1 g1 => ⟨⟨by omega, by omega⟩, ?_⟩⟩
        · rw [g1, ior_0 hz.1]
          exact ih (i + 1) z (by omega) (by omega) (hz.no (by show ¬ 0 ≤ _; omega))
        · rw [g1]
          exact ih (i + 1) _ (by omega) (by omega) (hz.put (by omega) (by show 0 ≤ _; omega))
  exact loop 13 0 0 (by omega) (by omega) (bP.init _)
theorem stD_0 {T : NT} {x : Nat → Int} : stD T x 0 = fun v w => stT T x w v := by
  funext v w
  unfold stD
  rw [if_pos rfl]
theorem m_near (hb : okB b) (hM : mB 1 b σ) (h : ∀ (σ' : PS) (z : Int), MK σ σ' → mB 1 b σ' → bRe (T0 b) (xE (T0 b)) (bs b) z → Φ z σ') : FX12_near σ Φ := by
  unfold FX12_near
  refine m_flowsNow hb hM (fun σ2 k1 k2 k3 k4 k5 k6 k7 => ?_)
  rw [k2.2.1]
  have hT := okT_T0 hb
  refine s_measures (x := xE (T0 b)) hT (mostT_go hT).1 k3 k6 hT.2.2.2.1 (fun σ4 o4 hD => m_reached (fun z hz => ?_))
  rw [stD_0] at hD
  exact h σ4 z (k1.trans (MK.off o4 (by simp) (by simp))) (k2.keep (o4 1 (by simp))) (fun D hD2 => hz.iff (fun i hi => by
    have : σ4 5 i = D i := hD.one hD2 hi
    rw [this]))
theorem m_far (hb : okB b) (hM : mB 1 b σ) (h : ∀ (σ' : PS) (z : Int), MK σ σ' → mB 1 b σ' → bP 12 z (fun v => 0 ≤ dT (T0 b) (xE (T0 b)) v) → Φ z σ') : FX12_far σ Φ := by
  unfold FX12_far
  refine m_flowsNow hb hM (fun σ2 k1 k2 k3 k4 k5 k6 k7 => ?_)
  rw [k2.2.2.1]
  have hT := okT_T0 hb
  refine s_measures (x := xE (T0 b)) hT (mostT_go hT).1 k3 k6 hT.2.2.2.2.1 (fun σ4 o4 hD => m_reached (fun z hz => ?_))
  rw [stD_1 rfl] at hD
  exact h σ4 z (k1.trans (MK.off o4 (by simp) (by simp))) (k2.keep (o4 1 (by simp))) (hz.iff (fun i hi => by
    have : σ4 5 i = dT (T0 b) (xE (T0 b)) i := hD.one (dT_is _ _) hi
    rw [this]))
theorem p_near : PT FX11_near FX12_near := by
  intro d σc σm hd hC hM
  unfold FX11_near
  refine c_freshWays hd hC (fun σc' hC' hw => ⟨rfl, ?_⟩)
  exact m_near hd.1 hM.1 (fun σm' z k1 k2 k3 => ⟨hw.2.2.2.2.2.1.one k3, d, hd, hC', hM.keep k1⟩)
theorem p_far : PT FX11_far FX12_far := by
  intro d σc σm hd hC hM
  unfold FX11_far
  refine c_freshWays hd hC (fun σc' hC' hw => ⟨rfl, ?_⟩)
  exact m_far hd.1 hM.1 (fun σm' z k1 k2 k3 => ⟨hw.2.2.2.2.2.2.one k3, d, hd, hC', hM.keep k1⟩)
/-- gates that cross out of a set -/
def crs (b : Bk) (S : Nat → Prop) (e : Nat) : Prop := bB b e 5 = 1 ∧ S (bB b e 0).toNat ∧ ¬ S (bB b e 1).toNat
theorem okG_n {B : Nat → Int} (h : okG B) : B 0 = ((B 0).toNat : Int) ∧ (B 0).toNat < 12 ∧ B 1 = ((B 1).toNat : Int) ∧ (B 1).toNat < 12 ∧ (B 0).toNat ≠ (B 1).toNat := by
  unfold okG at h
  omega
theorem m_cut28 {s : Int} {S : Nat → Prop} (hb : okB b) (hM : mB 1 b σ) (hS : ∀ v, v < 12 → (tb s v = true ↔ S v)) (h : ∀ z : Int, bP (bn b) z (crs b S) → Φ z σ) : LX12_cut_28 s σ Φ := by
  have hn := hb.1
  unfold LX12_cut_28
  refine ⟨bn b + 1, ?_⟩
  have loop : ∀ (f i : Nat) (z : Int), i ≤ bn b → bn b - i < f → bP i z (crs b S) → LX12_cut_34 f s z i σ Φ := by
    intro f
    induction f with
    | zero => intro i z h1 h2; omega
    | succ f ih =>
      intro i z hi hf hz
      unfold LX12_cut_34 BX12_cut_34
      rw [hM.1]
      refine ⟨fun c => ?_, fun c => ?_⟩
      · have e : i = bn b := by omega
        subst e
        exact h z hz
      · have hi2 : i < bn b := by omega
        have hG := okG_n (hb.2.2.2.2 i hi2)
        have no : ¬ crs b S i → LX12_cut_91 (fun x2 x3 x4 σ => LX12_cut_34 f x2 x3 x4 σ Φ) s i z σ Φ := fun hno v1 g1 => by
          refine ⟨⟨by omega, by omega⟩, ?_⟩
          rw [g1, ior_0 hz.1]
          exact ih (i + 1) z (by omega) (by omega) (hz.no hno)
        unfold FX12_isOpen
        refine m_at rfl rfl hb hM hi2 (w := 5) (by omega) ⟨fun c2 => ⟨fun _ => no (fun z => c2 z.1), fun c => absurd rfl c⟩, fun c2 => ⟨fun c => by omega, fun _ => ?_⟩⟩
        refine m_at rfl rfl hb hM hi2 (w := 0) (by omega) ?_
        rw [hG.1, bit_is (by omega), hS _ hG.2.1]
        refine ⟨fun c3 => no (fun z => c3 z.2.1), fun c3 => ?_⟩
        refine m_at rfl rfl hb hM hi2 (w := 1) (by omega) ?_
        rw [hG.2.2.1, bit_no (by omega), hS _ hG.2.2.2.1]
        refine ⟨fun c4 => no (fun z => c4 z.2.2), fun c4 => ?_⟩
        intro v1 g1
        refine ⟨⟨by omega, by omega⟩, ?_⟩
        rw [g1]
        exact ih (i + 1) _ (by omega) (by omega) (hz.put (by omega) ⟨c2, c3, c4⟩)
  exact loop (bn b + 1) 0 0 (by omega) (by omega) (bP.init _)
theorem c_isOne {a : Int} {P : Int → PS → Prop} (h1 : a = 0 ∨ a = 1 → P 1 σ) (h0 : ¬ (a = 0 ∨ a = 1) → P 0 σ) : FX11_isOneOrZero a σ P := by
  unfold FX11_isOneOrZero
  exact ⟨fun c => h1 (Or.inl c), fun c => ⟨fun c2 => h0 (fun z => z.elim c c2), fun c2 => h1 (Or.inr c2)⟩⟩
theorem c_bit {s v : Int} {n : Nat} {P : Int → PS → Prop} (hv : v = n) (hn : n < 32) (h1 : tb s n = true → P 1 σ) (h0 : ¬ tb s n = true → P 0 σ) : FX11_hasBit s v σ P := by
  subst hv
  exact c_hasBit hn h1 h0
theorem c_cut {w : Int} {S : Nat → Prop} (hb : okB b) (hC : cB 1 13 b σ) (h0 : w = 0 → ∀ v, v < 12 → (tb (σ 3 9) v = true ↔ S v)) (h1 : ¬ w = 0 → ∀ v, v < 12 → (tb (σ 3 10) v = true ↔ ¬ S v)) (h : ∀ z : Int, bP (bn b) z (crs b S) → Φ z σ) : ∃ n, LX11_cut_19 n w 0 0 σ Φ := by
  have hn := hb.1
  refine ⟨bn b + 1, ?_⟩
  have loop : ∀ (f i : Nat) (z : Int), i ≤ bn b → bn b - i < f → bP i z (crs b S) → LX11_cut_19 f w z i σ Φ := by
    intro f
    induction f with
    | zero => intro i z h1 h2; omega
    | succ f ih =>
      intro i z hi hf hz
      unfold LX11_cut_19 BX11_cut_19
      rw [hC.1]
      refine ⟨fun c => ?_, fun c => ?_⟩
      · have e : i = bn b := by omega
        subst e
        exact h z hz
      · have hi2 : i < bn b := by omega
        have hG := okG_n (hb.2.2.2.2 i hi2)
        have e0 : σ 13 ((i : Nat) : Int).toNat = ((bB b i 0).toNat : Int) := by
          rw [show ((i : Nat) : Int).toNat = i by omega]
          exact (hC.2.2.2 i hi2 0 (by omega)).trans hG.1
        have e1 : σ 14 ((i : Nat) : Int).toNat = ((bB b i 1).toNat : Int) := by
          rw [show ((i : Nat) : Int).toNat = i by omega]
          exact (hC.2.2.2 i hi2 1 (by omega)).trans hG.2.2.1
        have e5 : σ 18 ((i : Nat) : Int).toNat = bB b i 5 := by
          rw [show ((i : Nat) : Int).toNat = i by omega]
          exact hC.2.2.2 i hi2 5 (by omega)
        have go : ∀ z', bP (i + 1) z' (crs b S) → LX11_cut_156 (fun x1 x3 x4 σ => LX11_cut_19 f x1 x3 x4 σ Φ) w z' i σ Φ := fun z' hz' => ⟨⟨by omega, by omega⟩, ih (i + 1) z' (by omega) (by omega) hz'⟩
        have no : ¬ (S (bB b i 0).toNat ∧ ¬ S (bB b i 1).toNat) → LX11_cut_128 (fun x1 x3 x4 σ => LX11_cut_19 f x1 x3 x4 σ Φ) w z i 0 σ Φ := fun hno => ⟨fun _ => go z (hz.no (fun y => hno y.2)), fun c => absurd rfl c⟩
        have yes : S (bB b i 0).toNat → ¬ S (bB b i 1).toNat → LX11_cut_128 (fun x1 x3 x4 σ => LX11_cut_19 f x1 x3 x4 σ Φ) w z i 1 σ Φ := fun y1 y2 => by
          refine ⟨fun c => by omega, fun _ => ⟨⟨by omega, by omega⟩, ?_⟩⟩
          rw [e5]
          exact ⟨fun c2 => go z (hz.no (fun y => c2 y.1)), fun c2 v4 g4 => by rw [g4]; exact go _ (hz.put (by omega) ⟨c2, y1, y2⟩)⟩
        rw [e0]
        refine ⟨fun c2 => ⟨⟨by omega, by omega⟩, ?_⟩, fun c2 => ⟨⟨by omega, by omega⟩, ?_⟩⟩
        · have hh := h1 c2
          refine c_bit rfl (by omega) (fun c3 => ⟨fun _ => no (fun y => ((hh _ hG.2.1).mp c3) y.1), fun c => by omega⟩) (fun c3 => ⟨fun c => absurd rfl c, fun _ => ⟨⟨by omega, by omega⟩, ?_⟩⟩)
          refine c_bit e1 (by omega) (fun c4 => ⟨fun c => by omega, fun _ => yes (Classical.byContradiction (fun y => c3 ((hh _ hG.2.1).mpr y))) ((hh _ hG.2.2.2.1).mp c4)⟩) (fun c4 => ⟨fun _ => no (fun y => c4 ((hh _ hG.2.2.2.1).mpr y.2)), fun c => absurd rfl c⟩)
        · have hh := h0 c2
          refine c_bit rfl (by omega) (fun c3 => ⟨fun c => by omega, fun _ => ⟨⟨by omega, by omega⟩, ?_⟩⟩) (fun c3 => ⟨fun _ => no (fun y => c3 ((hh _ hG.2.1).mpr y.1)), fun c => absurd rfl c⟩)
          refine c_bit e1 (by omega) (fun c4 => ⟨fun _ => no (fun y => y.2 ((hh _ hG.2.2.2.1).mp c4)), fun c => by omega⟩) (fun c4 => ⟨fun c => absurd rfl c, fun _ => yes ((hh _ hG.2.1).mp c3) (fun y => c4 ((hh _ hG.2.2.2.1).mpr y))⟩)
  exact loop (bn b + 1) 0 0 (by omega) (by omega) (bP.init _)
theorem p_cut (a1 : Int) : PT (FX11_cut a1) (FX12_cut a1) := by
  intro d σc σm hd hC hM
  unfold FX11_cut FX12_cut
  have hT := okT_T0 hd.1
  refine c_isOne (fun ha => ⟨fun _ => ?_, fun c => by omega⟩) (fun ha => ⟨fun c => absurd rfl c, fun _ => ?_⟩)
  · refine c_freshWays hd hC (fun σc' hC' hw => ⟨rfl, ?_⟩)
    obtain ⟨D, hD⟩ := IsDist.ex 12 (fun v w => stT (T0 (dB d)) (xE (T0 (dB d))) w v) (bs (dB d))
    have hN := hw.2.2.2.2.2.1 D hD
    have hF := hw.2.2.2.2.2.2
    refine c_cut (S := fun v => if a1 = 0 then 0 ≤ D v else ¬ 0 ≤ dT (T0 (dB d)) (xE (T0 (dB d))) v) hd.1 hC'.1 (fun c v hv => ?_) (fun c v hv => ?_) (fun z hz => ?_)
    · rw [hN.2 v, if_pos c]
      exact ⟨fun y => y.2, fun y => ⟨hv, y⟩⟩
    · rw [hF.2 v, if_neg c, Classical.not_not]
      exact ⟨fun y => y.2, fun y => ⟨hv, y⟩⟩
    · refine m_in (fun _ _ => ⟨fun _ => ⟨fun c => ?_, fun c => ?_⟩, fun c => by omega⟩) (fun c => by omega)
      · refine m_far hd.1 hM.1 (fun σm' y k1 k2 k3 => ?_)
        refine m_cut28 (S := fun v => if a1 = 0 then 0 ≤ D v else ¬ 0 ≤ dT (T0 (dB d)) (xE (T0 (dB d))) v) hd.1 k2 (fun v hv => ?_) (fun z2 hz2 => ⟨hz.one hz2, d, hd, hC', hM.keep k1⟩)
        rw [bt_not (by omega), if_neg c, Bool.not_eq_true', ← Bool.not_eq_true, k3.2 v]
        exact ⟨fun y1 y2 => y1 ⟨hv, y2⟩, fun y1 y2 => y1 y2.2⟩
      · refine m_near hd.1 hM.1 (fun σm' y k1 k2 k3 => ?_)
        refine m_cut28 (S := fun v => if a1 = 0 then 0 ≤ D v else ¬ 0 ≤ dT (T0 (dB d)) (xE (T0 (dB d))) v) hd.1 k2 (fun v hv => ?_) (fun z2 hz2 => ⟨hz.one hz2, d, hd, hC', hM.keep k1⟩)
        rw [(k3 D hD).2 v, if_pos c]
        exact ⟨fun y => y.2, fun y => ⟨hv, y⟩⟩
  · exact m_in (fun _ _ => by omega) (fun c => ⟨fun c => absurd rfl c, fun _ => ⟨rfl, d, hd, hC, hM⟩⟩)
end Pairs2
