/-! the net of the class: arcs with two sides each, lists of sides -/
def srN (fr to : Nat → Nat) (e : Nat) : Nat := if e % 2 = 0 then fr (e / 2) else to (e / 2)
def tgN (fr to : Nat → Nat) (e : Nat) : Nat := if e % 2 = 0 then to (e / 2) else fr (e / 2)
def rmN (lim x : Nat → Int) (e : Nat) : Int := if e % 2 = 0 then lim (e / 2) - x (e / 2) else x (e / 2)
def rvN (e : Nat) : Nat := if e % 2 = 0 then e + 1 else e - 1
def pvN (fr to : Nat → Nat) (v : Nat) : Nat → Int
  | 0 => -1
  | k + 1 => if srN fr to k = v then (k : Int) else pvN fr to v k
def okA (N n : Nat) (fr to : Nat → Nat) (lim : Nat → Int) : Prop := N ≤ 108 ∧ n ≤ 336 ∧ okN N n fr to ∧ ∀ a, a < n → 0 ≤ lim a ∧ lim a ≤ 1000000000
section Net
variable {N n : Nat} {fr to : Nat → Nat} {lim x : Nat → Int}
theorem rv_sr (e : Nat) : srN fr to (rvN e) = tgN fr to e ∧ tgN fr to (rvN e) = srN fr to e ∧ rvN (rvN e) = e ∧ rvN e ≠ e := by
  unfold srN tgN rvN
  by_cases h : e % 2 = 0
  · rw [if_pos h]
    have h1 : ¬ (e + 1) % 2 = 0 := by omega
    have h2 : (e + 1) / 2 = e / 2 := by omega
    rw [if_neg h1, if_neg h1, if_neg h1, if_pos h, if_pos h, h2]
    exact ⟨rfl, rfl, by omega, by omega⟩
  · rw [if_neg h]
    have h1 : (e - 1) % 2 = 0 := by omega
    have h2 : (e - 1) / 2 = e / 2 := by omega
    rw [if_pos h1, if_pos h1, if_pos h1, if_neg h, if_neg h, h2]
    exact ⟨rfl, rfl, by omega, by omega⟩
theorem rv_lt {e : Nat} (h : e < 2 * n) : rvN e < 2 * n := by
  unfold rvN
  split <;> omega
theorem side_N (hN : okN N n fr to) {e : Nat} (he : e < 2 * n) : srN fr to e < N ∧ tgN fr to e < N ∧ srN fr to e ≠ tgN fr to e := by
  have h := hN (e / 2) (by omega)
  unfold srN tgN
  split
  · exact h
  · exact ⟨h.2.1, h.1, fun z => h.2.2 z.symm⟩
theorem rm_nn (hx : okX n lim x) {e : Nat} (he : e < 2 * n) : 0 ≤ rmN lim x e ∧ rmN lim x e ≤ lim (e / 2) ∧ rmN lim x e + rmN lim x (rvN e) = lim (e / 2) := by
  have h := hx (e / 2) (by omega)
  unfold rmN rvN
  by_cases q : e % 2 = 0
  · rw [if_pos q, if_pos q]
    have h1 : ¬ (e + 1) % 2 = 0 := by omega
    have h2 : (e + 1) / 2 = e / 2 := by omega
    rw [if_neg h1, h2]
    omega
  · rw [if_neg q, if_neg q]
    have h1 : (e - 1) % 2 = 0 := by omega
    have h2 : (e - 1) / 2 = e / 2 := by omega
    rw [if_pos h1, h2]
    omega
theorem st_side {u w : Nat} : StG n fr to lim x u w ↔ ∃ e, e < 2 * n ∧ srN fr to e = u ∧ tgN fr to e = w ∧ 0 < rmN lim x e := by
  constructor
  · rintro ⟨g, hg, ⟨a, b, c⟩ | ⟨a, b, c⟩⟩
    · refine ⟨2 * g, by omega, ?_⟩
      unfold srN tgN rmN
      rw [if_pos (show 2 * g % 2 = 0 by omega), if_pos (show 2 * g % 2 = 0 by omega), if_pos (show 2 * g % 2 = 0 by omega), show 2 * g / 2 = g by omega]
      exact ⟨a, b, by omega⟩
    · refine ⟨2 * g + 1, by omega, ?_⟩
      unfold srN tgN rmN
      rw [if_neg (show ¬ (2 * g + 1) % 2 = 0 by omega), if_neg (show ¬ (2 * g + 1) % 2 = 0 by omega), if_neg (show ¬ (2 * g + 1) % 2 = 0 by omega), show (2 * g + 1) / 2 = g by omega]
      exact ⟨a, b, c⟩
  · rintro ⟨e, he, a, b, c⟩
    refine ⟨e / 2, by omega, ?_⟩
    unfold srN at a
    unfold tgN at b
    unfold rmN at c
    by_cases q : e % 2 = 0
    · rw [if_pos q] at a b c
      exact Or.inl ⟨a, b, by omega⟩
    · rw [if_neg q] at a b c
      exact Or.inr ⟨a, b, c⟩
theorem pv_is (v : Nat) : ∀ k : Nat, (pvN fr to v k = -1 ∧ ∀ e, e < k → srN fr to e ≠ v) ∨ ∃ e : Nat, e < k ∧ pvN fr to v k = e ∧ srN fr to e = v ∧ ∀ j, e < j → j < k → srN fr to j ≠ v
  | 0 => Or.inl ⟨rfl, fun e he => absurd he (Nat.not_lt_zero _)⟩
  | k + 1 => by
    rw [pvN]
    by_cases q : srN fr to k = v
    · rw [if_pos q]
      exact Or.inr ⟨k, by omega, rfl, q, fun j h1 h2 => by omega⟩
    · rw [if_neg q]
      rcases pv_is v k with ⟨h1, h2⟩ | ⟨e, h1, h2, h3, h4⟩
      · refine Or.inl ⟨h1, fun e he => ?_⟩
        by_cases z : e = k
        · rw [z]; exact q
        · exact h2 e (by omega)
      · refine Or.inr ⟨e, by omega, h2, h3, fun j j1 j2 => ?_⟩
        by_cases z : j = k
        · rw [z]; exact q
        · exact h4 j j1 (by omega)
theorem pv_suc {v e : Nat} (h : srN fr to e = v) : pvN fr to v (e + 1) = e := by rw [pvN, if_pos h]
/-- lists, heads, rooms -/
def NV (N n : Nat) (fr to : Nat → Nat) (lim x : Nat → Int) (σ : PS) : Prop := σ 8 8 = (N : Int) ∧ σ 8 9 = (2 * n : Nat) ∧ (∀ e, e < 2 * n → σ 55 e = (tgN fr to e : Int) ∧ σ 56 e = rmN lim x e ∧ σ 54 e = pvN fr to (srN fr to e) e) ∧ ∀ v, v < N → σ 49 v = pvN fr to v (2 * n)
theorem NV.off {σ σ' : PS} {ks : List Nat} (h : NV N n fr to lim x σ) (ho : Off ks σ σ') (h8 : 8 ∉ ks) (h1 : 49 ∉ ks) (h2 : 54 ∉ ks) (h3 : 55 ∉ ks) (h4 : 56 ∉ ks) : NV N n fr to lim x σ' := by
  unfold NV
  rw [ho 8 h8, ho 49 h1, ho 54 h2, ho 55 h3, ho 56 h4]
  exact h
theorem xor_1 : ∀ e : Nat, e < 672 → ixor (e : Int) 1 = (rvN e : Int) := by decide +kernel
theorem c_isInNet {v : Nat} {σ : PS} {P : Int → PS → Prop} (h8 : σ 8 8 = (N : Int)) (hv : v < N) (h : P 1 σ) : FX6_isInNet v σ P := by
  unfold FX6_isInNet
  rw [h8]
  exact ⟨fun c => by omega, fun _ => ⟨fun c => by omega, fun _ => h⟩⟩
end Net
/-! layers: from the source on, until the sink is met -/
def LV (N n : Nat) (fr to : Nat → Nat) (lim x : Nat → Int) (s t : Nat) (lv : Nat → Int) : Prop := lv s = 0 ∧ (∀ v, v < N → -1 ≤ lv v ∧ lv v < N) ∧ (∀ v, v < N → v ≠ s → 0 ≤ lv v → ∃ u, u < N ∧ StG n fr to lim x u v ∧ lv u = lv v - 1 ∧ 0 ≤ lv u) ∧ 0 < lv t ∧ ∀ u w, u < N → w < N → StG n fr to lim x u w → 0 ≤ lv u → lv u + 1 < lv t → 0 ≤ lv w ∧ lv w ≤ lv u + 1
section Layer
variable {N n s t : Nat} {fr to : Nat → Nat} {lim x : Nat → Int} {σ : PS} {Φ : Int → PS → Prop}
theorem lvN_lt {lv : Nat → Int} (hs : s < N) (h0 : lv s = 0) (h1 : ∀ v, v < N → -1 ≤ lv v) (h2 : ∀ v, v < N → v ≠ s → 0 ≤ lv v → ∃ u, u < N ∧ lv u = lv v - 1 ∧ 0 ≤ lv u) {v : Nat} (hv : v < N) : lv v < N := by
  have h : IsDist N (fun v w => lv v = lv w + 1 ∧ 0 ≤ lv w) s lv := ⟨h0, h1, fun v hv hne hl => by
    obtain ⟨u, u1, u2, u3⟩ := h2 v hv hne hl
    exact ⟨u, u1, ⟨by omega, u3⟩, u2, u3⟩, fun v w _ _ hst _ => by omega⟩
  exact h.lt hs hv
theorem layer_end {d : Nat → Int} {q : Nat → Nat} {many k : Nat} (hs : s < N) (ht : t < N) (hst : s ≠ t) (hB : BI N (fun v w => StG n fr to lim x w v) s d q many k (fun _ => False)) (h : 0 ≤ d t) : LV N n fr to lim x s t d := by
  obtain ⟨⟨h1, h2, h3⟩, h4, h5, h6, ⟨h7, h8⟩, h9, h10, h11, h12⟩ := hB
  have pre : ∀ v, v < N → v ≠ s → 0 ≤ d v → ∃ u, u < N ∧ StG n fr to lim x u v ∧ d u = d v - 1 ∧ 0 ≤ d u := h8
  refine ⟨h7, fun v hv => ⟨(h5 v hv).1, lvN_lt hs h7 (fun v hv => (h5 v hv).1) (fun v hv hne hl => ?_) hv⟩, pre, ?_, fun u w hu hw hst2 hl hlt => ?_⟩
  · obtain ⟨u, a, b, c, d⟩ := pre v hv hne hl
    exact ⟨u, a, c, d⟩
  · by_cases z : d t = 0
    · obtain ⟨u, a, b, c, d⟩ := pre t ht (fun z => hst z.symm) h
      omega
    · omega
  · obtain ⟨j, j1, j2⟩ := (h5 u hu).2 hl
    by_cases q : j < k
    · rw [← j2]
      exact h11 j q w hw (by rw [j2]; exact hst2)
    · obtain ⟨i, i1, i2⟩ := (h5 t ht).2 h
      have a := h10 (by omega) i i1
      have b := h9 k j (by omega) j1
      rw [i2] at a
      rw [j2] at b
      omega
theorem layer_inner {σ0 : PS} {k : Nat} {K32 : Int → Int → Int → PS → Prop} (hA : okA N n fr to lim) (hs : s < N) (ht : t < N)
    (hK : ∀ (σ' : PS) (many : Nat) (q : Nat → Nat), NV N n fr to lim x σ' → Off [51, 52] σ0 σ' → BI N (fun v w => StG n fr to lim x w v) s (fun v => σ' 51 v) q many (k + 1) (fun _ => False) → (∀ j, j < many → σ' 52 j = (q j : Int)) → K32 t many ((k : Int) + 1) σ') :
    ∀ (f i kk many : Nat) (q : Nat → Nat) (σ : PS), kk < f → i + kk ≤ 2 * n → NV N n fr to lim x σ → Off [51, 52] σ0 σ → k < many → BI N (fun v w => StG n fr to lim x w v) s (fun v => σ 51 v) q many k (fun v => ∃ e, kk ≤ e ∧ e < 2 * n ∧ srN fr to e = q k ∧ tgN fr to e = v ∧ 0 < rmN lim x e) → (∀ j, j < many → σ 52 j = (q j : Int)) → LX6_layered_75 K32 f t many k (q k : Nat) (pvN fr to (q k) kk) i σ Φ := by
  obtain ⟨hN1, hn1, hN, hl⟩ := hA
  intro f
  induction f with
  | zero => intro i kk many q σ h1; omega
  | succ f ih =>
    intro i kk many q σ hf hi hV ho hk hB hq
    have m12 : many ≤ N := holes N many q hB.1.2.2 hB.2.1
    have hqk := hB.1.2.2 k hk
    have done : (∀ e, e < kk → srN fr to e ≠ q k) → LX6_layered_171 K32 t many k σ Φ := fun hno => by
      unfold LX6_layered_171
      refine ⟨⟨by omega, by omega⟩, hK σ many q hV ho (hB.next hk (fun v _ hst => ?_)) hq⟩
      obtain ⟨e, e1, e2, e3, e4⟩ := st_side.mp hst
      refine ⟨e, ?_, e1, e2, e3, e4⟩
      by_cases z : e < kk
      · exact absurd e2 (hno e z)
      · omega
    unfold LX6_layered_75 BX6_layered_75
    rcases pv_is (fr := fr) (to := to) (q k) kk with ⟨p1, p2⟩ | ⟨e, p1, p2, p3, p4⟩
    · rw [p1]
      exact ⟨fun _ => done p2, fun _ => ⟨fun _ => done p2, fun c => by omega⟩⟩
    · have he : e < 2 * n := by omega
      obtain ⟨v1, v2, v3⟩ := hV.2.2.1 e he
      obtain ⟨s1, s2, s3⟩ := side_N hN he
      have ee : ((e : Nat) : Int).toNat = e := by omega
      rw [p2, ee, v1, v2]
      have et : ((tgN fr to e : Nat) : Int).toNat = tgN fr to e := by omega
      rw [et]
      have nx : ∀ (many' : Nat) (q' : Nat → Nat) (σ' : PS), q' k = q k → NV N n fr to lim x σ' → Off [51, 52] σ0 σ' → k < many' → BI N (fun v w => StG n fr to lim x w v) s (fun v => σ' 51 v) q' many' k (fun v => ∃ j, e ≤ j ∧ j < 2 * n ∧ srN fr to j = q k ∧ tgN fr to j = v ∧ 0 < rmN lim x j) → (∀ j, j < many' → σ' 52 j = (q' j : Int)) → LX6_layered_156 K32 (fun x2 x3 x4 x5 x6 x7 σ => LX6_layered_75 K32 f x2 x3 x4 x5 x6 x7 σ Φ) t many' k (q k : Nat) e i σ' Φ := fun many' q' σ' a0 a1 a2 a3 a4 a5 => by
        unfold LX6_layered_156
        rw [ee, (a1.2.2.1 e he).2.2, p3]
        refine ⟨⟨by omega, by omega⟩, fun v2 g2 => ⟨⟨by omega, by omega⟩, ?_⟩⟩
        rw [g2]
        have := ih (i + 1) e many' q' σ' (by omega) (by omega) a1 a2 a3 (by rw [a0]; exact a4) a5
        rw [a0] at this
        exact this
      have weak : ∀ v, (∃ j, e ≤ j ∧ j < 2 * n ∧ srN fr to j = q k ∧ tgN fr to j = v ∧ 0 < rmN lim x j) → (∃ j, kk ≤ j ∧ j < 2 * n ∧ srN fr to j = q k ∧ tgN fr to j = v ∧ 0 < rmN lim x j) ∨ (v = tgN fr to e ∧ 0 < rmN lim x e) := fun v ⟨j, j1, j2, j3, j4, j5⟩ => by
        by_cases z : j = e
        · rw [z] at j4 j5; exact Or.inr ⟨j4.symm, j5⟩
        · by_cases z2 : j < kk
          · exact absurd j3 (p4 j (by omega) z2)
          · exact Or.inl ⟨j, by omega, j2, j3, j4, j5⟩
      refine ⟨fun c => by omega, fun _ => ⟨fun c => by omega, fun _ => ⟨⟨by omega, by omega⟩, fun c => nx many q σ rfl hV ho hk (hB.weak (fun v hv => ?_)) hq, fun c => ⟨⟨by omega, by omega⟩, ⟨by omega, by omega⟩, fun c2 => nx many q σ rfl hV ho hk ((hB.skip c2).weak (fun v hv => ?_)) hq, fun c2 => ⟨fun c3 => ?_, fun c3 => ?_⟩⟩⟩⟩⟩
      · rcases weak v hv with h | h
        · exact h
        · omega
      · rcases weak v hv with h | h
        · exact Or.inl h
        · exact Or.inr h.1
      · have := hB.room s2 (show (fun v => σ 51 v) (tgN fr to e) < 0 by show σ 51 _ < 0; omega)
        omega
      · have hu : (fun v => σ 51 v) (tgN fr to e) < 0 := by show σ 51 _ < 0; omega
        have hdk : 0 ≤ σ 51 (q k) := hB.2.2.2.1 k hk
        have hdk2 : σ 51 (q k) < N + 1 := bfs_lt hB k hk
        have room := hB.room s2 hu
        rw [show ((q k : Nat) : Int).toNat = q k by omega]
        refine ⟨⟨by omega, by omega⟩, ⟨by omega, by omega⟩, ⟨by omega, by omega⟩, ⟨by omega, by omega⟩, fun σ13 g13 => ⟨⟨by omega, by omega⟩, ⟨by omega, by omega⟩, fun σ16 g16 => ⟨⟨by omega, by omega⟩, ?_⟩⟩⟩
        have o13 : Off [51] σ σ13 := by rw [g13]; exact Off.rf.up (by simp)
        rw [o13 55 (by simp), v1, show ((many : Nat) : Int).toNat = many by omega] at g16
        have o16 : Off [51, 52] σ σ16 := by rw [g16]; exact (o13.mono (by simp)).up (by simp)
        have hst : (fun v w => StG n fr to lim x w v) (tgN fr to e) (q k) := st_side.mpr ⟨e, he, p3, rfl, by omega⟩
        have hB2 := BI.lab (d' := fun v => σ16 51 v) (q' := fun j => if j = many then tgN fr to e else q j) hB hk s2 hu hst (by show σ16 51 _ = σ 51 _ + 1; rw [g16, up2_nk (by omega), g13, up2_at]) (fun v hv hne => by show σ16 51 v = σ 51 v; rw [g16, up2_nk (by omega), g13, up2_ni hne]) (by simp only [if_true]) (fun j hj => by simp only [if_neg (show ¬ j = many by omega)])
        have := nx (many + 1) (fun j => if j = many then tgN fr to e else q j) σ16 (by simp only [if_neg (show ¬ k = many by omega)]) (hV.off o16 (by simp) (by simp) (by simp) (by simp) (by simp)) (ho.trans o16) (by omega) (hB2.weak (fun v hv => ?_)) (fun j hj => ?_)
        · exact this
        · rcases weak v hv with h | h
          · exact Or.inl h
          · exact Or.inr h.1
        · rw [g16, up2_if]
          by_cases z : j = many
          · rw [if_pos z, if_pos z]
          · rw [if_neg z, if_neg z, g13, up2_nk (by omega)]; exact hq j (by omega)
theorem c_layered (hA : okA N n fr to lim) (hs : s < N) (ht : t < N) (hst : s ≠ t) (hV : NV N n fr to lim x σ) (h0 : ∀ σ' : PS, Off [51, 52] σ σ' → (∃ d, IsDist N (fun v w => StG n fr to lim x w v) s d ∧ d t < 0) → Φ 0 σ') (h1 : ∀ σ' : PS, Off [51, 52] σ σ' → LV N n fr to lim x s t (fun v => σ' 51 v) → Φ 1 σ') : FX6_layered s t σ Φ := by
  obtain ⟨hN1, hn1, hN, hl⟩ := id hA
  unfold FX6_layered
  rw [hV.1]
  refine ⟨⟨by omega, by omega, by omega⟩, fun σ2 g2 => ⟨⟨by omega, by omega⟩, fun σ4 g4 σ5 g5 => ?_⟩⟩
  rw [show ((N : Nat) : Int).toNat = N by omega] at g2
  rw [show ((s : Nat) : Int).toNat = s by omega] at g4
  have o5 : Off [51, 52] σ σ5 := by rw [g5, g4, g2]; exact ((Off.rf.fl (by simp)).up (by simp)).up (by simp)
  have fin : ∀ (σ' : PS) (many k : Nat) (q : Nat → Nat), Off [51, 52] σ σ' → BI N (fun v w => StG n fr to lim x w v) s (fun v => σ' 51 v) q many k (fun _ => False) → (many ≤ k ∨ 0 ≤ σ' 51 t) → LX6_layered_177 t σ' Φ := fun σ' many k q ho hB hor => by
    unfold LX6_layered_177
    rw [show ((t : Nat) : Int).toNat = t by omega]
    refine ⟨⟨by omega, by omega⟩, fun c => h0 σ' ho ⟨fun v => σ' 51 v, ?_, c⟩, fun c => h1 σ' ho (layer_end hs ht hst hB (by show 0 ≤ σ' 51 t; omega))⟩
    have e : k = many := by have := hB.1.1; omega
    rw [e] at hB
    exact hB.done
  have loop : ∀ (f k many : Nat) (q : Nat → Nat) (σ1 : PS), N - k < f → NV N n fr to lim x σ1 → Off [51, 52] σ σ1 → BI N (fun v w => StG n fr to lim x w v) s (fun v => σ1 51 v) q many k (fun _ => False) → (∀ j, j < many → σ1 52 j = (q j : Int)) → LX6_layered_32 f t many k σ1 Φ := by
    intro f
    induction f with
    | zero => intro k many q σ1 h1; omega
    | succ f ih =>
      intro k many q σ1 hf hV1 ho hB hq
      have m12 : many ≤ N := holes N many q hB.1.2.2 hB.2.1
      unfold LX6_layered_32 BX6_layered_32
      rw [show ((t : Nat) : Int).toNat = t by omega]
      refine ⟨fun c => fin σ1 many k q ho hB (Or.inl (by omega)), fun c => ⟨fun c0 => by omega, fun _ => ⟨⟨by omega, by omega⟩, fun c2 => fin σ1 many k q ho hB (Or.inr c2), fun c2 => ⟨⟨by omega, by omega⟩, fun v5 g5 => ?_⟩⟩⟩⟩
      have hk : k < many := by omega
      have hqk := hB.1.2.2 k hk
      rw [show ((k : Nat) : Int).toNat = k by omega, hq k hk] at g5
      rw [g5, show ((q k : Nat) : Int).toNat = q k by omega, hV1.2.2.2 _ hqk]
      refine ⟨⟨by omega, by omega⟩, fun v7 g7 => ⟨2 * n + 1, ?_⟩⟩
      rw [g7]
      refine layer_inner (σ0 := σ) hA hs ht (fun σ' many' q' a1 a2 a3 a4 => ih (k + 1) many' q' σ' (by omega) a1 a2 a3 a4) (2 * n + 1) 0 (2 * n) many q σ1 (by omega) (by omega) hV1 ho hk (hB.weak (fun v ⟨e, e1, e2, _⟩ => by omega)) hq
  refine ⟨N + 1, loop (N + 1) 0 1 (fun _ => s) σ5 (by omega) (hV.off o5 (by simp) (by simp) (by simp) (by simp) (by simp)) o5 (BI.init hs ?_ (fun v hv hne => ?_) rfl) (fun j hj => ?_)⟩
  · show σ5 51 s = 0
    rw [g5, up2_nk (by omega), g4, up2_at]
  · show σ5 51 v = -1
    rw [g5, up2_nk (by omega), g4, up2_ni hne, g2, fl2_if, if_pos ⟨by omega, hv⟩]
  · rw [show j = 0 by omega, g5, up2_at]
end Layer
