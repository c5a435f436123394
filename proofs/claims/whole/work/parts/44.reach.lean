/-! who is reached by when -/
def rOk (b : Bk) (t e v : Nat) : Prop := e < bn b ∧ 0 < capB b e ∧ (bB b e 4).toNat ≤ t ∧ (bB b e 1).toNat = v
def RK (b : Bk) (a : Nat) : Nat → Nat → Nat → Prop
  | 0, _, v => v = a
  | k + 1, t, v => RK b a k t v ∨ ∃ e, rOk b t e v ∧ RK b a k (t - (bB b e 4).toNat) (bB b e 0).toNat
def RT (b : Bk) (a t v : Nat) : Prop := ∃ k, RK b a k t v
theorem RK.t {b : Bk} {a : Nat} : ∀ {k t t' v : Nat}, t ≤ t' → RK b a k t v → RK b a k t' v
  | 0, _, _, _, _, h => h
  | k + 1, t, t', v, ht, h => by
    rcases h with h | ⟨e, ⟨h1, h2, h3, h4⟩, h5⟩
    · exact Or.inl (RK.t ht h)
    · exact Or.inr ⟨e, ⟨h1, h2, by omega, h4⟩, RK.t (by omega) h5⟩
theorem RT.mono {b : Bk} {a t t' v : Nat} (ht : t ≤ t') (h : RT b a t v) : RT b a t' v := by
  obtain ⟨k, h⟩ := h
  exact ⟨k, RK.t ht h⟩
theorem RT.step {b : Bk} {a t e v : Nat} (h : rOk b t e v) (g : RT b a (t - (bB b e 4).toNat) (bB b e 0).toNat) : RT b a t v := by
  obtain ⟨k, g⟩ := g
  exact ⟨k + 1, Or.inr ⟨e, h, g⟩⟩
theorem RT.cases {b : Bk} {a t v : Nat} (h : RT b a t v) : v = a ∨ ∃ e, rOk b t e v ∧ RT b a (t - (bB b e 4).toNat) (bB b e 0).toNat := by
  obtain ⟨k, h⟩ := h
  induction k with
  | zero => exact Or.inl h
  | succ k ih =>
    rcases h with h | ⟨e, h1, h2⟩
    · exact ih h
    · exact Or.inr ⟨e, h1, k, h2⟩
theorem RT.self {b : Bk} {a t : Nat} : RT b a t a := ⟨0, rfl⟩
theorem okG_d {b : Bk} (hb : okB b) {e : Nat} (he : e < bn b) : bB b e 4 = ((bB b e 4).toNat : Int) ∧ 1 ≤ (bB b e 4).toNat ∧ (bB b e 4).toNat ≤ 3 := by
  have h := hb.2.2.2.2 e he
  unfold okG at h
  omega
theorem bP.add {n w : Nat} {z : Int} {p : Nat → Prop} (h : bP n z p) (hw : w < n) (hn : n ≤ 32) : bP n (ior z (ishl 1 w)) (fun v => p v ∨ v = w) := by
  refine ⟨rg_or _ _, fun i => ?_⟩
  rw [bt_put (by omega), Bool.or_eq_true, h.2 i, decide_eq_true_eq]
  constructor
  · rintro (⟨x, c⟩ | x)
    · exact ⟨x, Or.inl c⟩
    · exact ⟨by omega, Or.inr x⟩
  · rintro ⟨x, c | c⟩
    · exact Or.inl ⟨x, c⟩
    · exact Or.inr c
section Reach
variable {d : DS} {b : Bk} {σ : PS} {Φ : Int → PS → Prop}
theorem c_reachedIn {a h : Nat} (hb : okB b) (hC : cB 1 13 b σ) (ha : a < 12) (hh : h ≤ 20) (hK : ∀ (σ' : PS) (z : Int), Off [48] σ σ' → bP 12 z (RT b a h) → Φ z σ') : FX5_reachedIn a h σ Φ := by
  have hn := hb.1
  intro σ1 g1
  refine ⟨22, ?_⟩
  have fin : ∀ σ2 : PS, Off [48] σ σ2 → bP 12 (σ2 48 h) (RT b a h) → LX5_reachedIn_145 h σ2 Φ := fun σ2 o h2 => by
    refine ⟨fun c => by omega, fun _ => ⟨fun c => by omega, fun _ => ⟨⟨by omega, by omega⟩, ?_⟩⟩⟩
    rw [show ((h : Nat) : Int).toNat = h by omega]
    exact hK σ2 _ o h2
  have outer : ∀ (f t : Nat) (σ2 : PS), 1 ≤ t → t ≤ h + 1 → h + 1 - t < f → Off [48] σ σ2 → (∀ s, s < t → bP 12 (σ2 48 s) (RT b a s)) → LX5_reachedIn_12 f h t σ2 Φ := by
    intro f
    induction f with
    | zero => intro t σ2 h0 h1 h2; omega
    | succ f ihf =>
      intro t σ2 h0 ht hf ho hv
      unfold LX5_reachedIn_12 BX5_reachedIn_12
      refine ⟨fun c => fin σ2 ho (hv h (by omega)), fun c => ⟨fun c2 => by omega, fun c2 => ⟨⟨by omega, by omega⟩, ⟨by omega, by omega⟩, ⟨by omega, by omega⟩, fun σ6 g6 => ⟨bn b + 1, ?_⟩⟩⟩⟩
      rw [show ((t : Nat) : Int).toNat = t by omega, show ((t : Int) - 1).toNat = t - 1 by omega] at g6
      have inner : ∀ (g i : Nat) (σ3 : PS), i ≤ bn b → bn b - i < g → Off [48] σ σ3 → (∀ s, s < t → bP 12 (σ3 48 s) (RT b a s)) → bP 12 (σ3 48 t) (fun v => RT b a (t - 1) v ∨ ∃ e, e < i ∧ rOk b t e v ∧ RT b a (t - (bB b e 4).toNat) (bB b e 0).toNat) → LX5_reachedIn_44 (fun x3 x4 σ => LX5_reachedIn_12 f x3 x4 σ Φ) g h t i σ3 Φ := by
        intro g
        induction g with
        | zero => intro i σ3 h1 h2; omega
        | succ g ihg =>
          intro i σ3 hi hg o3 hs3 hb3
          have hC3 : cB 1 13 b σ3 := hC.off o3 (by simp) (fun w hw => by simp; omega)
          unfold LX5_reachedIn_44 BX5_reachedIn_44
          rw [hC3.1]
          refine ⟨fun c => ⟨⟨by omega, by omega⟩, ?_⟩, fun c => ?_⟩
          · refine ihf (t + 1) σ3 (by omega) (by omega) (by omega) o3 (fun s hs => ?_)
            by_cases q : s = t
            · rw [q]
              refine hb3.iff (fun v _ => ⟨fun z => ?_, fun z => ?_⟩)
              · rcases z with z | ⟨e, z1, z2, z3⟩
                · exact z.mono (by omega)
                · exact RT.step z2 z3
              · rcases z.cases with z | ⟨e, z1, z2⟩
                · exact Or.inl (by rw [z]; exact RT.self)
                · exact Or.inr ⟨e, by have := z1.1; omega, z1, z2⟩
            · exact hs3 s (by omega)
          · have hi2 : i < bn b := by omega
            have hG := okG_n (hb.2.2.2.2 i hi2)
            have hD := okG_d hb hi2
            have e17 : σ3 17 i = ((bB b i 4).toNat : Int) := (hC3.2.2.2 i hi2 4 (by omega)).trans hD.1
            have e13 : σ3 13 i = ((bB b i 0).toNat : Int) := (hC3.2.2.2 i hi2 0 (by omega)).trans hG.1
            have e14 : σ3 14 i = ((bB b i 1).toNat : Int) := (hC3.2.2.2 i hi2 1 (by omega)).trans hG.2.2.1
            have ei : ((i : Nat) : Int).toNat = i := by omega
            have no : (¬ ∃ v, rOk b t i v ∧ RT b a (t - (bB b i 4).toNat) (bB b i 0).toNat) → LX5_reachedIn_133 (fun x3 x4 σ => LX5_reachedIn_12 f x3 x4 σ Φ) (fun x3 x4 x5 σ => LX5_reachedIn_44 (fun x3 x4 σ => LX5_reachedIn_12 f x3 x4 σ Φ) g x3 x4 x5 σ Φ) h t i σ3 Φ := fun hno => ⟨⟨by omega, by omega⟩, ihg (i + 1) σ3 (by omega) (by omega) o3 hs3 (hb3.iff (fun v _ => ⟨fun z => by
              rcases z with z | ⟨e, z1, z2⟩
              · exact Or.inl z
              · exact Or.inr ⟨e, by omega, z2⟩, fun z => by
              rcases z with z | ⟨e, z1, z2⟩
              · exact Or.inl z
              · by_cases q : e = i
                · rw [q] at z2; exact absurd ⟨v, z2⟩ hno
                · exact Or.inr ⟨e, by omega, z2⟩⟩))⟩
            have no0 : (¬ ∃ v, rOk b t i v ∧ RT b a (t - (bB b i 4).toNat) (bB b i 0).toNat) → LX5_reachedIn_78 (fun x3 x4 σ => LX5_reachedIn_12 f x3 x4 σ Φ) (fun x3 x4 x5 σ => LX5_reachedIn_44 (fun x3 x4 σ => LX5_reachedIn_12 f x3 x4 σ Φ) g x3 x4 x5 σ Φ) h t i σ3 Φ := fun hno => ⟨fun _ => no hno, fun c => absurd rfl c⟩
            refine c_usable rfl (CN_TN (lim := capB b) hb hC3) (CU_T0 hC3) hn hi2 ⟨fun c2 => no0 (fun ⟨v, z, _⟩ => ?_), fun c2 => ⟨⟨by omega, by omega⟩, ?_⟩⟩
            · have z2 : 0 < capB b i := z.2.1
              have c3 : capB b i ≤ 0 := c2
              omega
            rw [ei, e17]
            refine ⟨fun c3 => no0 (fun ⟨v, z, _⟩ => by have := z.2.2.1; omega), fun c3 => ⟨fun c => by omega, fun _ => ⟨⟨by omega, by omega⟩, ?_⟩⟩⟩
            rw [ei, e17, show ((t : Int) - ((bB b i 4).toNat : Int)).toNat = t - (bB b i 4).toNat by omega]
            refine ⟨⟨by omega, by omega⟩, ⟨by omega, by omega⟩, ⟨by omega, by omega⟩, ?_⟩
            have hst := hs3 (t - (bB b i 4).toNat) (by omega)
            refine c_bit e13 (by omega) (fun c4 => ⟨fun c => by omega, fun _ => ⟨⟨by omega, by omega⟩, ⟨by omega, by omega⟩, ⟨by omega, by omega⟩, fun σ12 g12 => ⟨⟨by omega, by omega⟩, ?_⟩⟩⟩) (fun c4 => ⟨fun _ => no (fun ⟨v, z, z2⟩ => c4 ((hst.2 _).mpr ⟨hG.2.1, z2⟩)), fun c => absurd rfl c⟩)
            have c5 : 0 < capB b i := by
              have : ¬ capB b i ≤ 0 := c2
              omega
            have r5 := ((hst.2 _).mp c4).2
            rw [e14, show ((t : Nat) : Int).toNat = t by omega] at g12
            refine ihg (i + 1) σ12 (by omega) (by omega) (by rw [g12]; exact o3.up (by simp)) (fun s hs => by rw [g12, up2_ni (by omega)]; exact hs3 s hs) ?_
            rw [g12, up2_at]
            refine (hb3.add hG.2.2.2.1 (by omega)).iff (fun v _ => ⟨fun z => ?_, fun z => ?_⟩)
            · rcases z with (z | ⟨e, z1, z2⟩) | z
              · exact Or.inl z
              · exact Or.inr ⟨e, by omega, z2⟩
              · exact Or.inr ⟨i, by omega, ⟨hi2, c5, by omega, z.symm⟩, r5⟩
            · rcases z with z | ⟨e, z1, z2⟩
              · exact Or.inl (Or.inl z)
              · by_cases q : e = i
                · rw [q] at z2; exact Or.inr z2.1.2.2.2.symm
                · exact Or.inl (Or.inr ⟨e, by omega, z2⟩)
      refine inner (bn b + 1) 0 σ6 (by omega) (by omega) (by rw [g6]; exact ho.up (by simp)) (fun s hs => by rw [g6, up2_ni (by omega)]; exact hv s hs) ?_
      rw [g6, up2_at]
      refine (hv (t - 1) (by omega)).iff (fun v _ => ⟨fun z => Or.inl z, fun z => ?_⟩)
      rcases z with z | ⟨e, z1, z2⟩
      · exact z
      · omega
  refine outer 22 1 σ1 (by omega) (by omega) (by omega) (by rw [g1]; exact Off.rf.up (by simp)) (fun s hs => ?_)
  have e : s = 0 := by omega
  subst e
  rw [g1, up2_at]
  refine ⟨rg_shl _ _, fun i => ?_⟩
  rw [bt_shl (by omega), decide_eq_true_eq]
  constructor
  · intro z; rw [z]; exact ⟨ha, RT.self⟩
  · rintro ⟨z1, z2⟩
    rcases z2.cases with z | ⟨e, z, _⟩
    · exact z
    · have := okG_d hb z.1
      have := z.2.2.1
      omega
end Reach
