/-! distances are there -/
theorem leastN (P : Nat → Prop) (h : ∃ k, P k) : ∃ k, P k ∧ ∀ j, j < k → ¬ P j := by
  obtain ⟨k, hk⟩ := h
  induction k using Nat.strongRecOn with
  | _ k ih =>
    by_cases q : ∃ j, j < k ∧ P j
    · obtain ⟨j, hj, hp⟩ := q
      exact ih j hj hp
    · exact ⟨k, hk, fun j hj hp => q ⟨j, hj, hp⟩⟩
def RR (N : Nat) (st : Nat → Nat → Prop) (t : Nat) : Nat → Nat → Prop
  | 0, v => v = t
  | k + 1, v => ∃ w, w < N ∧ st v w ∧ RR N st t k w
theorem IsDist.ex (N : Nat) (st : Nat → Nat → Prop) (t : Nat) : ∃ d, IsDist N st t d := by
  have h0 : ∀ v, ∃ z : Int, (∃ k : Nat, z = k ∧ RR N st t k v ∧ ∀ j, j < k → ¬ RR N st t j v) ∨ (z = -1 ∧ ∀ k, ¬ RR N st t k v) := fun v => by
    by_cases q : ∃ k, RR N st t k v
    · obtain ⟨k, h1, h2⟩ := leastN _ q
      exact ⟨k, Or.inl ⟨k, rfl, h1, h2⟩⟩
    · exact ⟨-1, Or.inr ⟨rfl, fun k hk => q ⟨k, hk⟩⟩⟩
  obtain ⟨d, hd⟩ := Classical.axiomOfChoice h0
  refine ⟨d, ?_, fun v _ => ?_, fun v _ hne h1 => ?_, fun v w hv hw hs h1 => ?_⟩
  · rcases hd t with ⟨k, h1, h2, h3⟩ | ⟨-, h2⟩
    · by_cases hk : k = 0
      · subst hk; simpa using h1
      · exact absurd rfl (h3 0 (by omega))
    · exact absurd rfl (h2 0)
  · rcases hd v with ⟨k, h1, -⟩ | ⟨h1, -⟩ <;> omega
  · rcases hd v with ⟨k, h2, h3, h4⟩ | ⟨h2, -⟩
    · cases k with
      | zero => exact absurd h3 hne
      | succ k =>
        obtain ⟨w, hw, hs, hr⟩ := h3
        rcases hd w with ⟨j, g1, g2, g3⟩ | ⟨-, g2⟩
        · have : j = k := by
            rcases Nat.lt_trichotomy j k with q | q | q
            · exact absurd ⟨w, hw, hs, g2⟩ (h4 (j + 1) (by omega))
            · exact q
            · exact absurd hr (g3 k q)
          exact ⟨w, hw, hs, by omega, by omega⟩
        · exact absurd hr (g2 k)
    · omega
  · rcases hd w with ⟨j, g1, g2, g3⟩ | ⟨g1, -⟩
    · have hr : RR N st t (j + 1) v := ⟨w, hw, hs, g2⟩
      rcases hd v with ⟨k, h2, h3, h4⟩ | ⟨-, h4⟩
      · have : k ≤ j + 1 := by
          rcases Nat.lt_or_ge (j + 1) k with q | q
          · exact absurd hr (h4 _ q)
          · exact q
        omega
      · exact absurd hr (h4 _)
    · omega
noncomputable def dD (N : Nat) (st : Nat → Nat → Prop) (t : Nat) : Nat → Int := Classical.choose (IsDist.ex N st t)
theorem dD_is (N : Nat) (st : Nat → Nat → Prop) (t : Nat) : IsDist N st t (dD N st t) := Classical.choose_spec (IsDist.ex N st t)
/-- the first place below n with p; n if there is none -/
noncomputable def ffn (p : Nat → Prop) : Nat → Nat
  | 0 => 0
  | n + 1 => if ffn p n < n then ffn p n else @ite _ (p n) (Classical.propDecidable _) n (n + 1)
theorem ffn_le (p : Nat → Prop) : ∀ n, ffn p n ≤ n
  | 0 => Nat.le_refl _
  | n + 1 => by
    have := ffn_le p n
    unfold ffn
    split
    · omega
    · split <;> omega
theorem ffn_at {p : Nat → Prop} : ∀ {n i : Nat}, i < n → p i → (∀ k, k < i → ¬ p k) → ffn p n = i
  | 0, _, h, _, _ => absurd h (Nat.not_lt_zero _)
  | n + 1, i, h, hp, hn => by
    unfold ffn
    by_cases e : i < n
    · rw [ffn_at e hp hn, if_pos e]
    · have e2 : i = n := by omega
      subst e2
      have h1 : ¬ ffn p i < i := fun z => by
        obtain ⟨h2, -⟩ := ffn_yes z
        exact hn _ z h2
      rw [if_neg h1, if_pos hp]
where
  ffn_yes {p : Nat → Prop} : ∀ {n : Nat}, ffn p n < n → p (ffn p n) ∧ True
  | 0, h => absurd h (Nat.not_lt_zero _)
  | n + 1, h => by
    unfold ffn at h ⊢
    by_cases e : ffn p n < n
    · rw [if_pos e]; exact ffn_yes e
    · rw [if_neg e] at h ⊢
      by_cases e2 : p n
      · rw [if_pos e2]; exact ⟨e2, trivial⟩
      · rw [if_neg e2] at h; omega
theorem ffn_none {p : Nat → Prop} : ∀ {n : Nat}, (∀ k, k < n → ¬ p k) → ffn p n = n
  | 0, _ => rfl
  | n + 1, h => by
    unfold ffn
    rw [ffn_none (fun k hk => h k (by omega)), if_neg (Nat.lt_irrefl n), if_neg (h n (by omega))]
theorem firstN {p : Nat → Prop} {n : Nat} (h : ∃ i, i < n ∧ p i) : ∃ i, i < n ∧ p i ∧ ∀ k, k < i → ¬ p k := by
  obtain ⟨i, ⟨h1, h2⟩, h3⟩ := leastN (fun i => i < n ∧ p i) h
  exact ⟨i, h1, h2, fun k hk hp => h3 k hk ⟨by omega, hp⟩⟩
/-- the least of f 0 .. f k, and b -/
def mns (b : Int) (f : Nat → Int) : Nat → Int
  | 0 => b
  | k + 1 => min (mns b f k) (f k)
theorem mns_le {b : Int} {f : Nat → Int} : ∀ {k j : Nat}, j < k → mns b f k ≤ f j
  | 0, _, h => absurd h (Nat.not_lt_zero _)
  | k + 1, j, h => by
    rw [mns]
    by_cases e : j = k
    · subst e; omega
    · have := mns_le (b := b) (f := f) (show j < k by omega)
      omega
theorem mns_in {b : Int} {f : Nat → Int} : ∀ {k : Nat}, 0 < k → (∀ j, j < k → f j ≤ b) → ∃ j, j < k ∧ f j = mns b f k
  | 0, h, _ => absurd h (Nat.lt_irrefl _)
  | k + 1, _, h => by
    rw [mns]
    by_cases e : k = 0
    · subst e
      have := h 0 (by omega)
      exact ⟨0, by omega, by rw [mns]; omega⟩
    · obtain ⟨j, h1, h2⟩ := mns_in (b := b) (f := f) (show 0 < k by omega) (fun j hj => h j (by omega))
      by_cases q : mns b f k ≤ f k
      · exact ⟨j, by omega, by omega⟩
      · exact ⟨k, by omega, by omega⟩
theorem mns_one {b a : Int} {f : Nat → Int} {k : Nat} (h0 : 0 < k) (hb : ∀ j, j < k → f j ≤ b) (h1 : ∀ j, j < k → a ≤ f j) (h2 : ∃ j, j < k ∧ f j = a) : mns b f k = a := by
  obtain ⟨j, hj, e⟩ := h2
  obtain ⟨i, hi, e2⟩ := mns_in h0 hb
  have := mns_le (b := b) (f := f) hj
  have := h1 i hi
  omega
/-! the ways, one after the other -/
abbrev NT : Type := Nat × (Nat → Nat) × (Nat → Nat) × (Nat → Int) × Nat × Nat
abbrev tn (T : NT) : Nat := T.1
abbrev tf (T : NT) : Nat → Nat := T.2.1
abbrev tt (T : NT) : Nat → Nat := T.2.2.1
abbrev tl (T : NT) : Nat → Int := T.2.2.2.1
abbrev ts (T : NT) : Nat := T.2.2.2.2.1
abbrev tz (T : NT) : Nat := T.2.2.2.2.2
def okT (T : NT) : Prop := tn T ≤ 30 ∧ okN 12 (tn T) (tf T) (tt T) ∧ (∀ e, e < tn T → 0 ≤ tl T e ∧ tl T e ≤ 2000) ∧ ts T < 12 ∧ tz T < 12 ∧ ts T ≠ tz T
abbrev stT (T : NT) (x : Nat → Int) : Nat → Nat → Prop := StG (tn T) (tf T) (tt T) (tl T) x
noncomputable def dT (T : NT) (x : Nat → Int) : Nat → Int := dD 12 (stT T x) (tz T)
theorem dT_is (T : NT) (x : Nat → Int) : IsDist 12 (stT T x) (tz T) (dT T x) := dD_is _ _ _
def pF (T : NT) (x d : Nat → Int) (v e : Nat) : Prop := tf T e = v ∧ x e < tl T e ∧ d (tt T e) = d v - 1
def pB (T : NT) (x d : Nat → Int) (v e : Nat) : Prop := tt T e = v ∧ 0 < x e ∧ d (tf T e) = d v - 1
noncomputable def nxT (T : NT) (x d : Nat → Int) (v : Nat) : Nat := if ffn (pF T x d v) (tn T) < tn T then ffn (pF T x d v) (tn T) else 100 + ffn (pB T x d v) (tn T)
def enT (T : NT) (c : Nat) : Nat := if c < 100 then tt T c else tf T (c - 100)
noncomputable def pnT (T : NT) (x d : Nat → Int) : Nat → Nat
  | 0 => ts T
  | k + 1 => enT T (nxT T x d (pnT T x d k))
noncomputable def psT (T : NT) (x d : Nat → Int) (k : Nat) : Nat := nxT T x d (pnT T x d k)
noncomputable def amT (T : NT) (x d : Nat → Int) (L : Nat) : Int := mns 100000000 (fun k => rmc (tl T) x (psT T x d k)) L
noncomputable def xT (T : NT) : Nat → Nat → Int
  | 0 => fun _ => 0
  | k + 1 => aX (xT T k) (psT T (xT T k) (dT T (xT T k))) (amT T (xT T k) (dT T (xT T k)) (dT T (xT T k) (ts T)).toNat) (dT T (xT T k) (ts T)).toNat
/-- how far it is when k ways are taken -/
noncomputable def dsT (T : NT) (k : Nat) : Int := dT T (xT T k) (ts T)
noncomputable def psK (T : NT) (k : Nat) : Nat → Nat := psT T (xT T k) (dT T (xT T k))
noncomputable def pnK (T : NT) (k : Nat) : Nat → Nat := pnT T (xT T k) (dT T (xT T k))
noncomputable def amK (T : NT) (k : Nat) : Int := amT T (xT T k) (dT T (xT T k)) (dsT T k).toNat
theorem nxT_spec {T : NT} {x d : Nat → Int} {v : Nat} (hn : tn T ≤ 30) (hd : IsDist 12 (stT T x) (tz T) d) (hv : v < 12) (h0 : 0 < d v) :
    stOK (tn T) (tf T) (tt T) (nxT T x d v) v (enT T (nxT T x d v)) ∧ 0 < rmc (tl T) x (nxT T x d v) ∧ d (enT T (nxT T x d v)) = d v - 1 := by
  have hz : v ≠ tz T := fun e => by rw [e, hd.1] at h0; omega
  obtain ⟨w, hw, ⟨e, he, hst⟩, h1, h2⟩ := hd.2.2.1 v hv hz (by omega)
  unfold nxT
  by_cases q : ∃ i, i < tn T ∧ pF T x d v i
  · obtain ⟨i, hi, hp, hk⟩ := firstN q
    rw [ffn_at hi hp hk, if_pos hi]
    obtain ⟨p1, p2, p3⟩ := hp
    unfold enT rmc
    rw [if_pos (by omega), if_pos (by omega)]
    exact ⟨Or.inl ⟨by omega, hi, p1, rfl⟩, by omega, p3⟩
  · rw [ffn_none (fun k hk hp => q ⟨k, hk, hp⟩), if_neg (Nat.lt_irrefl _)]
    have q2 : ∃ i, i < tn T ∧ pB T x d v i := by
      rcases hst with ⟨a, b, c⟩ | ⟨a, b, c⟩
      · exact absurd ⟨e, he, a, c, by rw [b]; exact h1⟩ q
      · exact ⟨e, he, a, c, by rw [b]; exact h1⟩
    obtain ⟨i, hi, hp, hk⟩ := firstN q2
    rw [ffn_at hi hp hk]
    obtain ⟨p1, p2, p3⟩ := hp
    unfold enT rmc
    rw [if_neg (by omega), if_neg (by omega), show 100 + i - 100 = i by omega]
    exact ⟨Or.inr ⟨by omega, by omega, by rw [show 100 + i - 100 = i by omega]; exact p1, by rw [show 100 + i - 100 = i by omega]⟩, p2, p3⟩
theorem stOK_end {n : Nat} {fr to : Nat → Nat} {c v w : Nat} {N : Nat} (hN : okN N n fr to) (h : stOK n fr to c v w) : v < N ∧ w < N := by
  rcases h with ⟨-, h2, h3, h4⟩ | ⟨-, h2, h3, h4⟩
  · have := hN _ h2; rw [h3, h4] at this; exact ⟨this.1, this.2.1⟩
  · have := hN _ h2; rw [h3, h4] at this; exact ⟨this.2.1, this.1⟩
theorem pnT_spec {T : NT} {x d : Nat → Int} {L : Nat} (hT : okT T) (hd : IsDist 12 (stT T x) (tz T) d) (hL : d (ts T) = L) : ∀ k, k ≤ L → pnT T x d k < 12 ∧ d (pnT T x d k) = (L : Int) - k := by
  intro k
  induction k with
  | zero => intro _; exact ⟨hT.2.2.2.1, by show d (ts T) = _; omega⟩
  | succ k ih =>
    intro hk
    obtain ⟨h1, h2⟩ := ih (by omega)
    obtain ⟨h3, h4, h5⟩ := nxT_spec hT.1 hd h1 (by omega)
    exact ⟨(stOK_end hT.2.1 h3).2, by show d (enT T (nxT T x d (pnT T x d k))) = _; omega⟩
theorem psT_lt {T : NT} {x d : Nat → Int} {L : Nat} (hT : okT T) (hd : IsDist 12 (stT T x) (tz T) d) (hL : d (ts T) = L) {k : Nat} (hk : k < L) : stOK (tn T) (tf T) (tt T) (psT T x d k) (pnT T x d k) (pnT T x d (k + 1)) ∧ 0 < rmc (tl T) x (psT T x d k) := by
  obtain ⟨h1, h2⟩ := pnT_spec hT hd hL k (by omega)
  obtain ⟨h3, h4, h5⟩ := nxT_spec hT.1 hd h1 (by omega)
  exact ⟨h3, h4⟩
theorem rmc_le {T : NT} {x : Nat → Int} {c v w : Nat} (hT : okT T) (hx : okX (tn T) (tl T) x) (h : stOK (tn T) (tf T) (tt T) c v w) : rmc (tl T) x c ≤ 2000 := by
  unfold rmc
  rcases h with ⟨h1, h2, -⟩ | ⟨h1, h2, -⟩
  · rw [if_pos h1]
    have := hx _ h2
    have := hT.2.2.1 _ h2
    omega
  · rw [if_neg (by omega)]
    have := hx _ h2
    have := hT.2.2.1 _ h2
    omega
theorem wayT {T : NT} {x d : Nat → Int} {L : Nat} (hT : okT T) (hx : okX (tn T) (tl T) x) (hd : IsDist 12 (stT T x) (tz T) d) (hL : d (ts T) = L) (hL0 : 0 < L) : WayG 12 (tn T) (tf T) (tt T) (tl T) x d (ts T) (pnT T x d) (psT T x d) L (amT T x d L) := by
  have hb : ∀ j, j < L → rmc (tl T) x (psT T x d j) ≤ 100000000 := fun j hj => by
    have := rmc_le hT hx (psT_lt hT hd hL hj).1
    omega
  obtain ⟨j, hj, he⟩ := mns_in (b := 100000000) (f := fun k => rmc (tl T) x (psT T x d k)) hL0 hb
  refine ⟨rfl, pnT_spec hT hd hL, fun k hk => ⟨(psT_lt hT hd hL hk).1, mns_le hk⟩, ?_, j, hj, he⟩
  have := (psT_lt hT hd hL hj).2
  unfold amT
  rw [← he]
  exact this
