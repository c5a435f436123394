/-! the net of the class: all that can pass -/
section Pass
variable {N n s t : Nat} {fr to : Nat → Nat} {lim x0 : Nat → Int} {σ : PS} {Φ : Int → PS → Prop}
/-- y is x0, and more from s to t -/
def MO (N n : Nat) (fr to : Nat → Nat) (lim x0 : Nat → Int) (s t : Nat) (y : Nat → Int) : Prop := okX n lim y ∧ ∀ v, v < N → v ≠ s → v ≠ t → exG n fr to y v = exG n fr to x0 v
theorem MO.ro {y : Nat → Int} (hN : okN N n fr to) (h : MO N n fr to lim x0 s t y) : RO N (rG n fr to lim x0) s t (rG n fr to lim y) (exG n fr to y s - exG n fr to x0 s) := by
  have e : ∀ v, outf N (fun u w => rG n fr to lim x0 u w - rG n fr to lim y u w) v = exG n fr to y v - exG n fr to x0 v := fun v => by
    rw [← out_cr (lim := lim) (x := y) hN v, ← out_cr (lim := lim) (x := x0) hN v]
    unfold outf
    rw [← sm_sub]
    exact sm_congr (fun w _ => by
      show rG n fr to lim x0 v w - rG n fr to lim y v w = (cG n fr to lim v w - rG n fr to lim y v w) - (cG n fr to lim v w - rG n fr to lim x0 v w)
      omega)
  refine ⟨fun u w _ _ => ?_, fun u w _ _ => rG_nn h.1 u w, fun v hv h1 h2 => ?_, e s⟩
  · have a := rG_sym (n := n) (fr := fr) (to := to) (lim := lim) (x := y) u w
    have b := rG_sym (n := n) (fr := fr) (to := to) (lim := lim) (x := x0) u w
    omega
  · rw [e, h.2 v hv h1 h2]; omega
theorem MO.le_out {y : Nat → Int} (hN : okN N n fr to) (hs : s < N) (h : MO N n fr to lim x0 s t y) : exG n fr to y s - exG n fr to x0 s ≤ outf N (rG n fr to lim x0) s := (h.ro hN).le hs
theorem MO.le_cut {y : Nat → Int} {S : Nat → Bool} (hN : okN N n fr to) (hs : s < N) (h : MO N n fr to lim x0 s t y) (h1 : S s = true) (h2 : S t = false) : exG n fr to y s - exG n fr to x0 s ≤ cutc N (rG n fr to lim x0) S := (h.ro hN).flow.le_cut hs h1 h2
theorem MO.mf {y d : Nat → Int} (hN : okN N n fr to) (hs : s < N) (h : MO N n fr to lim x0 s t y) (hd : IsDist N (fun v w => StG n fr to lim y w v) s d) (hdt : d t < 0) : IsMF N (rG n fr to lim x0) s t (exG n fr to y s - exG n fr to x0 s) := by
  refine (h.ro hN).mf (S := fun v => decide (0 ≤ d v)) hs (by simp [hd.1]) (by simpa using hdt) (fun u w hu hw e1 e2 => ?_)
  by_cases q : StG n fr to lim y u w
  · have := hd.2.2.2 w u hw hu q (by simpa using e1)
    have : d w < 0 := by simpa using e2
    omega
  · have := mt (rG_pos h.1 u w).mp q
    omega
theorem c_passLayered {lv xp : Nat → Int} (hA : okA N n fr to lim) (hs : s < N) (ht : t < N) (hst : s ≠ t) (hV : NV N n fr to lim xp σ) (hx : okX n lim xp) (hL : LV N n fr to lim xp s t lv) (h51 : ∀ v, v < N → σ 51 v = lv v)
    (hB : ∀ y, MO N n fr to lim xp s t y → exG n fr to y s - exG n fr to xp s ≤ 1000000000)
    (hΦ : ∀ (σ' : PS) (x : Nat → Int), Off [50, 51, 53, 56] σ σ' → NV N n fr to lim x σ' → PE N n fr to lim xp s t lv x → MO N n fr to lim xp s t x → 0 ≤ exG n fr to x s - exG n fr to xp s → Φ (exG n fr to x s - exG n fr to xp s) σ') : FX6_passLayered s t σ Φ := by
  obtain ⟨hN1, hn1, hN, hl⟩ := id hA
  obtain ⟨l1, l2, l3, l4, l5⟩ := id hL
  unfold FX6_passLayered
  rw [hV.1]
  refine ⟨⟨by omega, by omega, by omega, by omega, by omega⟩, fun σ2 g2 => ⟨150000, ?_⟩⟩
  have o2 : Off [50] σ σ2 := fun k hk => by
    rw [g2]
    funext i
    simp [cp2] at hk ⊢
    intro h1
    exact absurd h1 hk
  have e50 : ∀ v, v < N → σ2 50 v = pvN fr to v (2 * n) := fun v hv => by
    rw [g2]
    have := hV.2.2.2 v hv
    simp [cp2]
    rw [if_pos (by omega)]
    exact this
  have hD : DI N n fr to lim xp s t lv xp lv (fun _ => 2 * n) (fun _ => 0) 0 := ⟨hx, fun v _ => Or.inl rfl, fun v _ => ⟨Nat.le_refl _, fun e (e1 : 2 * n ≤ e) e2 => by omega⟩, fun v _ z => absurd rfl z, fun e _ hr => Or.inl hr, fun i hi => by omega⟩
  have hW := W_rng (fr := fr) (to := to) (lim := lim) (lv := lv) (x := xp) (cl := lv) hA (show 0 < N by omega)
  have h := c_layer_l (σ0 := σ) (xp := xp) (x0 := xp) (lv := lv) hA hs ht hst l1 l2 (fun y hy hc => hB y ⟨hy, hc⟩) (fun σ' x a1 a2 a3 a4 a5 => hΦ σ' x a1 a2 a3 ⟨a3.1, a4⟩ a5) 150000 σ2 xp lv (fun _ => 2 * n) (fun _ => 0) 0 0 (by omega) (by omega) (o2.mono (by simp)) ⟨hV.off o2 (by simp) (by simp) (by simp) (by simp) (by simp), fun v hv => ⟨by rw [o2 51 (by simp)]; exact h51 v hv, e50 v hv⟩, fun i hi => by omega⟩ hD (fun v _ _ _ => rfl) (by omega)
  rw [show exG n fr to xp s - exG n fr to xp s = 0 by omega] at h
  exact h
theorem c_pass_l {σ0 : PS} (hA : okA N n fr to lim) (hs : s < N) (ht : t < N) (hst : s ≠ t) (hB : ∀ y, MO N n fr to lim x0 s t y → exG n fr to y s - exG n fr to x0 s ≤ 1000000000)
    (hΦ : ∀ (σ' : PS) (x : Nat → Int), Off [50, 51, 52, 53, 56] σ0 σ' → NV N n fr to lim x σ' → MO N n fr to lim x0 s t x → IsMF N (rG n fr to lim x0) s t (exG n fr to x s - exG n fr to x0 s) → 0 ≤ exG n fr to x s - exG n fr to x0 s → Φ (exG n fr to x s - exG n fr to x0 s) σ') :
    ∀ (f i : Nat) (σ : PS) (x : Nat → Int), 108 - i < f → i ≤ 107 → Off [50, 51, 52, 53, 56] σ0 σ → NV N n fr to lim x σ → MO N n fr to lim x0 s t x → 0 ≤ exG n fr to x s - exG n fr to x0 s → (∀ lv, LV N n fr to lim x s t lv → (i : Int) < lv t) → LX6_pass_28 f s t (exG n fr to x s - exG n fr to x0 s) i σ Φ := by
  obtain ⟨hN1, hn1, hN, hl⟩ := id hA
  intro f
  induction f with
  | zero => intro i σ x h1; omega
  | succ f ih =>
    intro i σ x hf hi ho hV hM hv0 hlv
    have hvB := hB x hM
    unfold LX6_pass_28 BX6_pass_28
    refine ⟨fun c => by omega, fun _ => ?_⟩
    refine c_layered hA hs ht hst hV (fun σ' o' hd => ⟨fun _ => ?_, fun c => absurd rfl c⟩) (fun σ' o' hL => ⟨fun c => by omega, fun _ => ?_⟩)
    · obtain ⟨d, d1, d2⟩ := hd
      exact hΦ σ' x (ho.trans (o'.mono (by simp))) (hV.off o' (by simp) (by simp) (by simp) (by simp) (by simp)) hM (hM.mf hN hs d1 d2) hv0
    · have hV' := hV.off o' (by simp) (by simp) (by simp) (by simp) (by simp)
      have mo : ∀ y, MO N n fr to lim x s t y → MO N n fr to lim x0 s t y := fun y hy => ⟨hy.1, fun v hv h1 h2 => (hy.2 v hv h1 h2).trans (hM.2 v hv h1 h2)⟩
      have hti : (i : Int) < σ' 51 t := hlv _ hL
      have htN : σ' 51 t < N := (hL.2.1 t ht).2
      refine c_passLayered hA hs ht hst hV' hM.1 hL (fun v hv => rfl) (fun y hy => by have := hB y (mo y hy); omega) (fun σ3 y o3 hV3 hE hy hy0 => ?_)
      have hyB := hB y (mo y hy)
      refine ⟨⟨by omega, by omega⟩, fun v8 g8 => ⟨⟨by omega, by omega⟩, ?_⟩⟩
      have e8 : v8 = exG n fr to y s - exG n fr to x0 s := by omega
      rw [e8]
      exact ih (i + 1) σ3 y (by omega) (by omega) (ho.trans ((o'.mono (by simp)).trans (o3.mono (by simp)))) hV3 (mo y hy) (by omega) (fun lv' hL' => by
        have : σ' 51 t < lv' t := lv_more hs ht hL hE hL'
        omega)
/-- what passes in the net is the most that can pass, and the net holds a flow of that much more -/
theorem c_pass (hA : okA N n fr to lim) (hs : s < N) (ht : t < N) (hst : s ≠ t) (hV : NV N n fr to lim x0 σ) (hx : okX n lim x0) (hB' : ∀ y, MO N n fr to lim x0 s t y → exG n fr to y s - exG n fr to x0 s ≤ 1000000000)
    (hΦ : ∀ (σ' : PS) (x : Nat → Int), Off [50, 51, 52, 53, 56] σ σ' → NV N n fr to lim x σ' → MO N n fr to lim x0 s t x → IsMF N (rG n fr to lim x0) s t (exG n fr to x s - exG n fr to x0 s) → 0 ≤ exG n fr to x s - exG n fr to x0 s → Φ (exG n fr to x s - exG n fr to x0 s) σ') : FX6_pass s t σ Φ := by
  obtain ⟨hN1, hn1, hN, hl⟩ := id hA
  unfold FX6_pass
  refine c_isInNet hV.1 hs ⟨fun c => by omega, fun _ => c_isInNet hV.1 ht ⟨fun c => by omega, fun _ => ⟨fun _ => ⟨109, ?_⟩, fun c => absurd (by omega) hst⟩⟩⟩
  have h := c_pass_l (σ0 := σ) hA hs ht hst hB' hΦ 109 0 σ x0 (by omega) (by omega) Off.rf hV ⟨hx, fun _ _ _ _ => rfl⟩ (by omega) (fun lv hL => by have := hL.2.2.2.1; omega)
  rw [show exG n fr to x0 s - exG n fr to x0 s = 0 by omega] at h
  exact h
end Pass
