/-! the reference's nets: all that can pass -/
def eM (M : Nat → Nat → Int) (p n : Nat) (a : Int) : Nat → Nat → Int := uM (uM M p n (M p n + -a)) n p (uM M p n (M p n + -a) n p + a)
def aM (M : Nat → Nat → Int) (pv : Nat → Nat) (a : Int) : Nat → Nat → Nat → Int
  | 0 => M
  | k + 1 => eM (aM M pv a k) (pv (k + 1)) (pv k) a
section Square2
variable {w s t : Nat} {M c : Nat → Nat → Int} {σ : PS} {Φ : Int → PS → Prop}
theorem eM_at {p n u v : Nat} {a : Int} (h : p ≠ n) : eM M p n a u v = if u = n ∧ v = p then M n p + a else if u = p ∧ v = n then M p n - a else M u v := by
  unfold eM uM
  by_cases q : u = n ∧ v = p
  · rw [if_pos q, if_pos q, if_neg (fun z => h z.1.symm)]
  · rw [if_neg q, if_neg q]
    by_cases q2 : u = p ∧ v = n
    · rw [if_pos q2, if_pos q2]; omega
    · rw [if_neg q2, if_neg q2]
theorem eM_out {p n : Nat} {a : Int} (h : p ≠ n) (hp : p < w) (hn : n < w) (y : Nat) : outf w (fun u v => c u v - eM M p n a u v) y = outf w (fun u v => c u v - M u v) y + (if y = p then a else 0) - (if y = n then a else 0) := by
  have e : (fun u v => c u v - eM M p n a u v) = fun u v => if u = n ∧ v = p then c n p - M n p - a else (fun u v => if u = p ∧ v = n then c p n - M p n + a else (fun u v => c u v - M u v) u v) u v := by
    funext u v
    show c u v - eM M p n a u v = if u = n ∧ v = p then c n p - M n p - a else if u = p ∧ v = n then c p n - M p n + a else c u v - M u v
    rw [eM_at h]
    by_cases q : u = n ∧ v = p
    · rw [if_pos q, if_pos q, q.1, q.2]; omega
    · rw [if_neg q, if_neg q]
      by_cases q2 : u = p ∧ v = n
      · rw [if_pos q2, if_pos q2, q2.1, q2.2]; omega
      · rw [if_neg q2, if_neg q2]
  rw [e, outf_upd hp, outf_upd hn]
  have e2 : (if n = p ∧ p = n then c p n - M p n + a else c n p - M n p) = c n p - M n p := if_neg (fun z => h z.2)
  by_cases q : y = n
  · have hq : ¬ y = p := fun z => h (z.symm.trans q)
    rw [if_pos q, if_pos q, if_neg hq, if_neg hq]
    show outf w (fun u v => c u v - M u v) y - (if n = p ∧ p = n then c p n - M p n + a else c n p - M n p) + (c n p - M n p - a) = _
    rw [e2]; omega
  · rw [if_neg q, if_neg q]
    by_cases q2 : y = p
    · rw [if_pos q2, if_pos q2]; omega
    · rw [if_neg q2, if_neg q2]; omega
/-- the way back from t, by parents -/
def pvB (bf : Nat → Int) (t : Nat) : Nat → Nat
  | 0 => t
  | i + 1 => (bf (pvB bf t i)).toNat
theorem pvB_is {d bf : Nat → Int} (ht : t < w) (h0 : d s = 0) (hP : PAR w M s d bf) {L : Nat} (hL : d t = L) : ∀ i, i ≤ L → pvB bf t i < w ∧ d (pvB bf t i) = (L : Int) - i ∧ (i < L → bf (pvB bf t i) = (pvB bf t (i + 1) : Int) ∧ 0 < M (pvB bf t (i + 1)) (pvB bf t i) ∧ pvB bf t i ≠ s) := by
  have one : ∀ i, i < L → pvB bf t i < w → d (pvB bf t i) = (L : Int) - i → (bf (pvB bf t i) = (pvB bf t (i + 1) : Int) ∧ 0 < M (pvB bf t (i + 1)) (pvB bf t i) ∧ pvB bf t i ≠ s) ∧ pvB bf t (i + 1) < w ∧ d (pvB bf t (i + 1)) = (L : Int) - (i + 1 : Nat) := fun i hi h1 h2 => by
    have hne : pvB bf t i ≠ s := fun z => by rw [z, h0] at h2; omega
    rcases hP _ h1 with z | ⟨z1, p, p1, p2, p3⟩
    · omega
    · have e : pvB bf t (i + 1) = p := by show (bf (pvB bf t i)).toNat = p; omega
      rw [e]
      rcases p3 with p3 | ⟨p3, p4, p5⟩
      · exact absurd p3 hne
      · exact ⟨⟨p2, p5, hne⟩, p1, by omega⟩
  intro i
  induction i with
  | zero =>
    intro _
    have h2 : d (pvB bf t 0) = (L : Int) - (0 : Nat) := by show d t = _; omega
    exact ⟨ht, h2, fun hi => (one 0 hi ht h2).1⟩
  | succ i ih =>
    intro hi
    obtain ⟨a, b, _⟩ := ih (by omega)
    obtain ⟨_, q2, q3⟩ := one i (by omega) a b
    exact ⟨q2, q3, fun hi2 => (one (i + 1) hi2 q2 q3).1⟩
theorem aM_is {pv : Nat → Nat} {d : Nat → Int} {L : Nat} {a : Int} (ha : 0 ≤ a) (hp : ∀ i, i ≤ L → pv i < w ∧ d (pv i) = (L : Int) - i) (hn : ∀ u v, u < w → v < w → 0 ≤ M u v) (hm : ∀ i, i < L → a ≤ M (pv (i + 1)) (pv i)) : ∀ k, k ≤ L → (∀ u v, aM M pv a k u v + aM M pv a k v u = M u v + M v u) ∧ (∀ u v, u < w → v < w → 0 ≤ aM M pv a k u v) ∧ (∀ y, outf w (fun u v => c u v - aM M pv a k u v) y = outf w (fun u v => c u v - M u v) y + (if y = pv k then a else 0) - (if y = pv 0 then a else 0)) ∧ ∀ i, k ≤ i → i < L → aM M pv a k (pv (i + 1)) (pv i) = M (pv (i + 1)) (pv i) := by
  intro k
  induction k with
  | zero =>
    intro _
    refine ⟨fun _ _ => rfl, hn, fun y => ?_, fun _ _ _ => rfl⟩
    show outf w (fun u v => c u v - M u v) y = _
    omega
  | succ k ih =>
    intro hk
    obtain ⟨i1, i2, i3, i4⟩ := ih (by omega)
    have h1 := hp k (by omega)
    have h2 := hp (k + 1) hk
    have hne : pv (k + 1) ≠ pv k := fun z => by rw [z] at h2; omega
    have hk4 := i4 k (Nat.le_refl _) (by omega)
    have hmk := hm k (by omega)
    refine ⟨fun u v => ?_, fun u v hu hv => ?_, fun y => ?_, fun i hi hiL => ?_⟩
    · show eM _ _ _ _ u v + eM _ _ _ _ v u = _
      rw [eM_at hne, eM_at hne]
      have := i1 u v
      by_cases q : u = pv k ∧ v = pv (k + 1)
      · rw [if_pos q, if_neg (fun z => hne (q.2.symm.trans z.1)), if_pos ⟨q.2, q.1⟩]
        rw [q.1, q.2] at this ⊢; omega
      · rw [if_neg q]
        by_cases q2 : u = pv (k + 1) ∧ v = pv k
        · rw [if_pos q2, if_pos ⟨q2.2, q2.1⟩]
          rw [q2.1, q2.2] at this ⊢; omega
        · rw [if_neg q2, if_neg (fun z => q2 ⟨z.2, z.1⟩), if_neg (fun z => q ⟨z.2, z.1⟩)]; exact this
    · show 0 ≤ eM _ _ _ _ u v
      rw [eM_at hne]
      have := i2 u v hu hv
      by_cases q : u = pv k ∧ v = pv (k + 1)
      · rw [if_pos q]
        rw [q.1, q.2] at this; omega
      · rw [if_neg q]
        by_cases q2 : u = pv (k + 1) ∧ v = pv k
        · rw [if_pos q2]; omega
        · rw [if_neg q2]; exact this
    · show outf w (fun u v => c u v - eM _ _ _ _ u v) y = _
      rw [eM_out hne h2.1 h1.1, i3]
      omega
    · show eM _ _ _ _ _ _ = _
      have g1 := hp i (by omega)
      have g2 := hp (i + 1) (by omega)
      rw [eM_at hne, if_neg (fun z => ?_), if_neg (fun z => ?_)]
      · exact i4 i (by omega) hiL
      · rw [z.1] at g2; omega
      · rw [z.1] at g2; omega
theorem m_passes_l {σ0 : PS} {B : Int} (hw : w ≤ 108) (hs : s < w) (ht : t < w) (hst : s ≠ t) (hc : ∀ u v, u < w → v < w → c u v + c v u ≤ 1000000000) (hB : outf w c s ≤ B) (hB9 : B ≤ 1000000000)
    (hΦ : ∀ (σ' : PS) (M : Nat → Nat → Int) (v : Int), Off [6, 21, 22] σ0 σ' → SQ w M σ' → RO w c s t M v → IsMF w c s t v → 0 ≤ v → Φ v σ') :
    ∀ (f : Nat) (σ : PS) (M : Nat → Nat → Int) (v : Int), (B - v).toNat < f → 0 ≤ v → Off [6, 21, 22] σ0 σ → SQ w M σ → RO w c s t M v → LX12_passes_2 f s t v σ Φ := by
  intro f
  induction f with
  | zero => intro σ M v h1; omega
  | succ f ih =>
    intro σ M v hf hv0 ho hS hR
    have hle := hR.le hs
    unfold LX12_passes_2 BX12_passes_2
    refine m_findsWay hw hs ht hst hS (fun σ' o' hd => ⟨fun _ => ?_, fun z => absurd rfl z⟩) (fun σ' d o' d0 dt dpos hP => ⟨fun z => by omega, fun _ => ?_⟩)
    · obtain ⟨d, hd1, hd2⟩ := hd
      refine hΦ σ' M v (ho.trans (o'.mono (by simp))) ⟨by rw [o' 0 (by simp)]; exact hS.1, by rw [o' 21 (by simp)]; exact hS.2⟩ hR (hR.mf (S := fun v => decide (0 ≤ d v)) hs (by simp [hd1.1]) (by simpa using hd2) (fun u w2 hu hw2 e1 e2 => ?_)) hv0
      by_cases q : 0 < M u w2
      · have := hd1.2.2.2 w2 u hw2 hu q (by simpa using e1)
        have : d w2 < 0 := by simpa using e2
        omega
      · omega
    · obtain ⟨L, hL⟩ : ∃ L : Nat, d t = L := ⟨(d t).toNat, by omega⟩
      have hLp : 0 < L := by
        have := dpos t ht (fun z => hst z.symm) dt
        omega
      have hp := pvB_is ht d0 hP hL
      generalize hpv : pvB (σ' 22) t = pv at hp
      have pv0 : pv 0 = t := by rw [← hpv]; rfl
      have pvL : pv L = s := by
        have h := hp L (Nat.le_refl _)
        by_cases q : pv L = s
        · exact q
        · have := dpos _ h.1 q (by omega)
          omega
      have oo : Off [6, 21, 22] σ0 σ' := ho.trans (o'.mono (by simp))
      have hS' : SQ w M σ' := ⟨by rw [o' 0 (by simp)]; exact hS.1, by rw [o' 21 (by simp)]; exact hS.2⟩
      have Mb : ∀ u v, u < w → v < w → 0 ≤ M u v ∧ M u v ≤ 1000000000 := fun u v hu hv => by
        have a := hR.1 u v hu hv
        have b1 := hR.2.1 u v hu hv
        have b2 := hR.2.1 v u hv hu
        have := hc u v hu hv
        omega
      have hm := fun j (hj : j < L) => mns_le2 (S := 100000000) (f := fun i => M (pv (i + 1)) (pv i)) hj
      have ha : 0 < mns 100000000 (fun i => M (pv (i + 1)) (pv i)) L ∧ mns 100000000 (fun i => M (pv (i + 1)) (pv i)) L ≤ 1000000000 := by
        rcases mns_at (S := 100000000) (f := fun i => M (pv (i + 1)) (pv i)) (k := L) with z | ⟨j, j1, j2⟩
        · rw [z]; omega
        · rw [j2]
          have h := hp j (by omega)
          have h2 := hp (j + 1) (by omega)
          exact ⟨(h.2.2 j1).2.1, (Mb _ _ h2.1 h.1).2⟩
      have l18 : ∀ (g i : Nat), i ≤ L → L - i < g → LX12_passes_18 (fun x1 x2 x3 σ => LX12_passes_2 f x1 x2 x3 σ Φ) g s t v (mns 100000000 (fun i => M (pv (i + 1)) (pv i)) i) (pv i : Nat) σ' Φ := by
        intro g
        induction g with
        | zero => intro i h1 h2; omega
        | succ g ihg =>
          intro i hi hg
          unfold LX12_passes_18 BX12_passes_18
          refine ⟨fun z => ?_, fun z => ?_⟩
          · have ei : i = L := by
              by_cases q : i < L
              · exact absurd (by omega) ((hp i hi).2.2 q).2.2
              · omega
            rw [ei]
            generalize hga : mns 100000000 (fun i => M (pv (i + 1)) (pv i)) L = a at *
            have inv := aM_is (c := c) (a := a) (pv := pv) (d := d) (L := L) (Int.le_of_lt ha.1) (fun i hi => ⟨(hp i hi).1, (hp i hi).2.1⟩) hR.2.1 hm
            have l66 : ∀ (g i : Nat) (σ1 : PS), i ≤ L → L - i < g → Off [21] σ' σ1 → SQ w (aM M pv a i) σ1 → LX12_passes_66 (fun x1 x2 x3 σ => LX12_passes_2 f x1 x2 x3 σ Φ) g s t v a (pv i : Nat) σ1 Φ := by
              intro g
              induction g with
              | zero => intro i σ1 h1 h2; omega
              | succ g ihg =>
                intro i σ1 hi hg o1 hS1
                unfold LX12_passes_66 BX12_passes_66
                refine ⟨fun z => ?_, fun z => ?_⟩
                · have ei : i = L := by
                    by_cases q : i < L
                    · exact absurd (by omega) ((hp i hi).2.2 q).2.2
                    · omega
                  rw [ei] at hS1
                  obtain ⟨q1, q2, q3, -⟩ := inv L (Nat.le_refl _)
                  have hR2 : RO w c s t (aM M pv a L) (v + a) := by
                    refine ⟨fun u v2 hu hv2 => ?_, q2, fun x hx h1 h2 => ?_, ?_⟩
                    · rw [q1]; exact hR.1 u v2 hu hv2
                    · rw [q3, hR.2.2.1 x hx h1 h2, if_neg (by rw [pvL]; exact h1), if_neg (by rw [pv0]; exact h2)]; omega
                    · rw [q3, hR.2.2.2, if_pos pvL.symm, if_neg (by rw [pv0]; exact hst)]; omega
                  have hle2 := hR2.le hs
                  refine ⟨⟨by omega, by omega⟩, fun v3 g3 => ?_⟩
                  rw [g3]
                  exact ih σ1 _ (v + a) (by omega) (by omega) (oo.trans (o1.mono (by simp))) hS1 hR2
                · have hi2 : i < L := by
                    by_cases q : i < L
                    · exact q
                    · have : i = L := by omega
                      rw [this, pvL] at z
                      exact absurd rfl z
                  obtain ⟨y1, y2, y3⟩ := hp i hi
                  obtain ⟨y4, y5, y6⟩ := y3 hi2
                  have y7 := (hp (i + 1) (by omega)).1
                  have y8 := (hp (i + 1) (by omega)).2.1
                  have hne : pv (i + 1) ≠ pv i := fun z => by rw [z] at y8; omega
                  obtain ⟨q1, q2, q3, q4⟩ := inv i hi
                  obtain ⟨r1, r2, r3, r4⟩ := inv (i + 1) (by omega)
                  have e22 : σ1 22 ((pv i : Nat) : Int).toNat = (pv (i + 1) : Int) := by
                    rw [show ((pv i : Nat) : Int).toNat = pv i by omega, o1 22 (by simp)]; exact y4
                  have m1 := q4 i (Nat.le_refl _) hi2
                  have b1 := Mb _ _ y7 y1
                  have hmi : a ≤ M (pv (i + 1)) (pv i) := hm i hi2
                  rw [e22]
                  refine ⟨⟨by omega, by omega⟩, ⟨by omega, by omega⟩, m_adds rfl rfl hw hS1 y7 y1 ⟨by omega, by omega⟩ (fun σ7 o7 hS7 => ?_)⟩
                  have e22' : σ7 22 ((pv i : Nat) : Int).toNat = (pv (i + 1) : Int) := by rw [o7 22 (by simp)]; exact e22
                  rw [e22']
                  have eR : aM M pv a (i + 1) (pv i) (pv (i + 1)) = uM (aM M pv a i) (pv (i + 1)) (pv i) (aM M pv a i (pv (i + 1)) (pv i) + -a) (pv i) (pv (i + 1)) + a := by
                    show uM _ _ _ _ _ _ = _
                    unfold uM
                    rw [if_pos ⟨rfl, rfl⟩]
                  have b2 := r2 _ _ y1 y7
                  have b3 := r2 _ _ y7 y1
                  have b4 := r1 (pv i) (pv (i + 1))
                  have b5 := hR.1 (pv i) (pv (i + 1)) y1 y7
                  have b6 := hc (pv i) (pv (i + 1)) y1 y7
                  rw [eR] at b2 b4
                  refine ⟨⟨by omega, by omega⟩, m_adds rfl rfl hw hS7 y1 y7 ⟨by omega, by omega⟩ (fun σ10 o10 hS10 => ⟨⟨by omega, by omega⟩, fun v12 g12 => ?_⟩)⟩
                  have e22'' : σ10 22 ((pv i : Nat) : Int).toNat = (pv (i + 1) : Int) := by rw [o10 22 (by simp)]; exact e22'
                  rw [g12, e22'']
                  exact ihg (i + 1) σ10 (by omega) (by omega) ((o1.trans o7).trans o10) hS10
            have := l66 (L + 1) 0 σ' (by omega) (by omega) Off.rf hS'
            rw [pv0] at this
            exact ⟨L + 1, this⟩
          · have hi2 : i < L := by
              by_cases q : i < L
              · exact q
              · have : i = L := by omega
                rw [this, pvL] at z
                exact absurd rfl z
            obtain ⟨y1, y2, y3⟩ := hp i hi
            obtain ⟨y4, y5, y6⟩ := y3 hi2
            have y7 := (hp (i + 1) (by omega)).1
            obtain ⟨j1, j2⟩ := @ix_int w (pv (i + 1)) (pv i)
            obtain ⟨x1, x2⟩ := ix_lt hw y7 y1
            have e22 : σ' 22 ((pv i : Nat) : Int).toNat = (pv (i + 1) : Int) := by
              rw [show ((pv i : Nat) : Int).toNat = pv i by omega]; exact y4
            rw [e22, hS'.1, j1, j2, show ((pv (i + 1) * w + pv i : Nat) : Int).toNat = pv (i + 1) * w + pv i by omega, hS'.2 _ _ y7 y1]
            refine ⟨⟨by omega, by omega⟩, ⟨by omega, by omega⟩, ⟨by omega, by omega⟩, ⟨by omega, by omega⟩, fun v6 g6 => ⟨⟨by omega, by omega⟩, fun v8 g8 => ?_⟩⟩
            have := ihg (i + 1) (by omega) (by omega)
            rw [mns] at this
            rw [g6, g8]
            exact this
      have := l18 (L + 1) 0 (by omega) (by omega)
      rw [pv0] at this
      exact ⟨L + 1, this⟩
theorem m_passes {x y : Int} (hx : x = s) (hy : y = t) (hw : w ≤ 108) (hs : s < w) (ht : t < w) (hst : s ≠ t) (hS : SQ w c σ) (hn : ∀ u v, u < w → v < w → 0 ≤ c u v) (hc : ∀ u v, u < w → v < w → c u v + c v u ≤ 1000000000) (hB : outf w c s ≤ 1000000000)
    (hΦ : ∀ (σ' : PS) (M : Nat → Nat → Int) (v : Int), Off [6, 21, 22] σ σ' → SQ w M σ' → RO w c s t M v → IsMF w c s t v → 0 ≤ v → Φ v σ') : FX12_passes x y σ Φ := by
  subst hx; subst hy
  unfold FX12_passes
  have h0 : 0 ≤ outf w c s := sm_nn (fun v hv => hn s v hs hv)
  exact ⟨(outf w c s - 0).toNat + 1, m_passes_l (σ0 := σ) hw hs ht hst hc (Int.le_refl _) hB hΦ _ σ c 0 (by omega) (Int.le_refl _) Off.rf hS (RO.init hn)⟩
end Square2
