theorem ffn_congr {p q : Nat → Prop} : ∀ {n : Nat}, (∀ k, k < n → (p k ↔ q k)) → ffn p n = ffn q n
  | 0, _ => rfl
  | n + 1, h => by
    unfold ffn
    rw [ffn_congr (fun k hk => h k (by omega))]
    by_cases e : ffn q n < n
    · rw [if_pos e, if_pos e]
    · rw [if_neg e, if_neg e]
      by_cases e2 : q n
      · rw [if_pos e2, if_pos ((h n (by omega)).mpr e2)]
      · rw [if_neg e2, if_neg (fun z => e2 ((h n (by omega)).mp z))]
theorem nxT_congr {T : NT} {x x' d d' : Nat → Int} {v : Nat} (hN : okN 12 (tn T) (tf T) (tt T)) (hv : v < 12) (hx : ∀ e, e < tn T → x e = x' e) (hd : ∀ w, w < 12 → d w = d' w) : nxT T x d v = nxT T x' d' v := by
  unfold nxT
  have a : ffn (pF T x d v) (tn T) = ffn (pF T x' d' v) (tn T) := ffn_congr (fun e he => by
    unfold pF
    rw [hx e he, hd _ (hN e he).2.1, hd v hv])
  have b : ffn (pB T x d v) (tn T) = ffn (pB T x' d' v) (tn T) := ffn_congr (fun e he => by
    unfold pB
    rw [hx e he, hd _ (hN e he).1, hd v hv])
  rw [a, b]
/-- a step that is taken from v -/
def pS (T : NT) (x d : Nat → Int) (v c : Nat) : Prop := vfr T c = v ∧ 0 < rmc (tl T) x c ∧ d (enT T c) = d v - 1
theorem pS_F {T : NT} {x d : Nat → Int} {v e : Nat} (hn : tn T ≤ 30) (he : e < tn T) : pS T x d v (cAt (tn T) e) ↔ pF T x d v e := by
  have e1 : cAt (tn T) e = e := by unfold cAt; rw [if_pos he]
  rw [e1]
  unfold pS pF vfr enT rmc
  rw [if_pos (show e < 100 by omega), if_pos (show e < 100 by omega), if_pos (show e < 100 by omega)]
  constructor
  · intro ⟨a, b, c⟩; exact ⟨a, by omega, c⟩
  · intro ⟨a, b, c⟩; exact ⟨a, by omega, c⟩
theorem pS_B {T : NT} {x d : Nat → Int} {v e : Nat} : pS T x d v (cAt (tn T) (tn T + e)) ↔ pB T x d v e := by
  have e1 : cAt (tn T) (tn T + e) = 100 + e := by unfold cAt; rw [if_neg (by omega)]; omega
  rw [e1]
  unfold pS pB vfr enT rmc
  rw [if_neg (show ¬ 100 + e < 100 by omega), if_neg (show ¬ 100 + e < 100 by omega), if_neg (show ¬ 100 + e < 100 by omega), show 100 + e - 100 = e by omega]
theorem nxT_cAt {T : NT} {x d : Nat → Int} {v i : Nat} (hn : tn T ≤ 30) (hi : i < 2 * tn T) (hp : pS T x d v (cAt (tn T) i)) (hno : ∀ j, j < i → ¬ pS T x d v (cAt (tn T) j)) : nxT T x d v = cAt (tn T) i := by
  unfold nxT
  by_cases e : i < tn T
  · have h1 : ffn (pF T x d v) (tn T) = i := ffn_at e ((pS_F hn e).mp hp) (fun k hk z => hno k hk ((pS_F hn (by omega)).mpr z))
    rw [h1, if_pos e]
    unfold cAt
    rw [if_pos e]
  · obtain ⟨j, rfl⟩ : ∃ j, i = tn T + j := ⟨i - tn T, by omega⟩
    have h1 : ffn (pF T x d v) (tn T) = tn T := ffn_none (fun k hk z => hno k (by omega) ((pS_F hn hk).mpr z))
    have h2 : ffn (pB T x d v) (tn T) = j := ffn_at (by omega) (pS_B.mp hp) (fun k hk z => hno (tn T + k) (by omega) (pS_B.mpr z))
    rw [h1, h2, if_neg (Nat.lt_irrefl _)]
    unfold cAt
    rw [if_neg (by omega)]
    omega
theorem nxT_ex {T : NT} {x d : Nat → Int} {v : Nat} (hn : tn T ≤ 30) (hd : IsDist 12 (stT T x) (tz T) d) (hv : v < 12) (h0 : 0 < d v) : ∃ i, i < 2 * tn T ∧ pS T x d v (cAt (tn T) i) := by
  have hz : v ≠ tz T := fun e => by rw [e, hd.1] at h0; omega
  obtain ⟨w, hw, hst, h1, h2⟩ := hd.2.2.1 v hv hz (by omega)
  obtain ⟨i, a, b, c, e⟩ := stT_c hn hst
  exact ⟨i, a, b, e, by rw [c]; exact h1⟩
section MFlows
variable {T : NT} {σ : PS} {x : Nat → Int} {Φ : Int → PS → Prop}
theorem s_stepOn {iv : Int} {v : Nat} (hiv : iv = v) (hT : okT T) (hx : okX (tn T) (tl T) x) (hM : MN T σ) (hX : MX T x σ) (hd : IsDist 12 (stT T x) (tz T) (fun v => σ 5 v)) (hv : v < 12) (h0 : 0 < σ 5 v) (h : Φ (nxT T x (fun v => σ 5 v) v : Nat) σ) : FX12_stepOn iv σ Φ := by
  subst hiv
  have hn := hT.1
  unfold FX12_stepOn
  have hlt := hd.lt hT.2.2.2.2.1 hv
  have loop : ∀ (f i : Nat), i ≤ 2 * tn T → 2 * tn T - i < f → (∀ j, j < i → ¬ pS T x (fun v => σ 5 v) v (cAt (tn T) j)) → LX12_stepOn_2 f v i σ Φ := by
    intro f
    induction f with
    | zero => intro i h1 h2; omega
    | succ f ih =>
      intro i hi hf hno
      unfold LX12_stepOn_2 BX12_stepOn_2
      rw [hM.1]
      refine ⟨⟨by omega, by omega⟩, fun c => ?_, fun c => ?_⟩
      · obtain ⟨j, h1, h2⟩ := nxT_ex hn hd hv h0
        exact absurd h2 (hno j (by omega))
      · have hi2 : i < 2 * tn T := by omega
        have hc := cAt_ok hn hi2
        have h12 := stOK_end hT.2.1 (cOK_st hc)
        have go : (¬ pS T x (fun v => σ 5 v) v (cAt (tn T) i)) → LX12_stepOn_60 (fun x1 x2 σ => LX12_stepOn_2 f x1 x2 σ Φ) v i σ Φ := fun hnp => by
          unfold LX12_stepOn_60
          refine ⟨⟨by omega, by omega⟩, ?_⟩
          exact ih (i + 1) (by omega) (by omega) (fun j hj => by
            by_cases e : j = i
            · rw [e]; exact hnp
            · exact hno j (by omega))
        refine s_stepAt rfl hM hn hi2 ?_
        refine s_stepFrom rfl hM hn hc ?_
        refine ⟨fun c1 => go (fun z => c1 (by rw [z.1])), fun c1 => ?_⟩
        have hvf : vfr T (cAt (tn T) i) = v := by omega
        refine s_room rfl hM hX hT hx hc ?_
        refine ⟨fun c2 => go (fun z => by have := z.2.1; omega), fun c2 => ?_⟩
        refine s_stepTo rfl hM hn hc ?_
        rw [show ((enT T (cAt (tn T) i) : Nat) : Int).toNat = enT T (cAt (tn T) i) by omega, show ((v : Nat) : Int).toNat = v by omega]
        refine ⟨⟨by omega, by omega⟩, ⟨by omega, by omega⟩, ⟨by omega, by omega⟩, fun c3 => go (fun z => c3 z.2.2), fun c3 => ?_⟩
        have hp : pS T x (fun v => σ 5 v) v (cAt (tn T) i) := ⟨hvf, by omega, c3⟩
        rw [nxT_cAt hn hi2 hp hno] at h
        exact h
  exact ⟨2 * tn T + 1, loop (2 * tn T + 1) 0 (by omega) (by omega) (fun j hj => by omega)⟩
def MWay (T : NT) (K : Nat) (σ : PS) : Prop := ∀ k, k < K → σ 7 k = amK T k ∧ σ 8 k = dsT T k ∧ ∀ i, i < (dsT T k).toNat → σ 9 (12 * k + i) = (psK T k i : Int)
theorem amK_le {k : Nat} (hT : okT T) (hk : k < KT T) : 0 < amK T k ∧ amK T k ≤ 2000 ∧ okX (tn T) (tl T) (xT T k) ∧ dsT T k < 12 ∧ 0 < dsT T k := by
  have h0 := (KT_spec hT).2.1
  have hx := (xT_run hT k (fun j hj => h0 j (by omega))).1.1
  have hw := amK_pos hT hx (h0 k hk)
  obtain ⟨j, hj, e⟩ := hw.2.2.2.2
  have := rmc_le hT hx (hw.2.2.1 j hj).1
  exact ⟨hw.2.2.2.1, by omega, hx, (dT_is T _).lt hT.2.2.2.2.1 hT.2.2.2.1, h0 k hk⟩
theorem aX_rng {k j e : Nat} (hT : okT T) (hk : k < KT T) (hj : j ≤ (dsT T k).toNat) (he : e < tn T) : -2000 ≤ aX (xT T k) (psK T k) (amK T k) j e ∧ aX (xT T k) (psK T k) (amK T k) j e ≤ 4000 := by
  obtain ⟨h1, h2, h3, h4, h5⟩ := amK_le hT hk
  have hw := amK_pos hT h3 h5
  have hxe := h3 e he
  have hle := hT.2.2.1 e he
  by_cases q : ∃ i, i < j ∧ e = gof (psK T k i)
  · obtain ⟨i, hi, rfl⟩ := q
    rw [aX_in hw hi hj]
    by_cases c : psK T k i < 100
    · rw [if_pos c]; omega
    · rw [if_neg c]; omega
  · rw [aX_out (fun i hi z => q ⟨i, hi, z⟩)]
    omega
end MFlows
