/-! the reference's nets: squares of room -/
def SQ (w : Nat) (M : Nat → Nat → Int) (σ : PS) : Prop := σ 0 25 = (w : Int) ∧ ∀ u v, u < w → v < w → σ 21 (u * w + v) = M u v
def uM (M : Nat → Nat → Int) (a b : Nat) (c : Int) : Nat → Nat → Int := fun u v => if u = a ∧ v = b then c else M u v
section Square
variable {w : Nat} {M c : Nat → Nat → Int} {σ : PS} {Φ : Int → PS → Prop}
theorem ix_lt {a b : Nat} (hw : w ≤ 108) (ha : a < w) (hb : b < w) : a * w + b < 11664 ∧ a * w ≤ 11664 := by
  have h1 : (a + 1) * w ≤ w * w := Nat.mul_le_mul (by omega) (Nat.le_refl _)
  have h2 : w * w ≤ 108 * 108 := Nat.mul_le_mul hw hw
  rw [Nat.add_mul] at h1
  omega
theorem ix_inj {a b u v : Nat} (hb : b < w) (hv : v < w) (h : u * w + v = a * w + b) : u = a ∧ v = b := by
  have h1 : (u * w + v) / w = u := by rw [Nat.mul_comm, Nat.mul_add_div (by omega), Nat.div_eq_of_lt hv]; omega
  have h2 : (a * w + b) / w = a := by rw [Nat.mul_comm, Nat.mul_add_div (by omega), Nat.div_eq_of_lt hb]; omega
  have h3 : u = a := by rw [← h1, ← h2, h]
  subst h3
  exact ⟨rfl, by omega⟩
theorem ix_int {a b : Nat} : ((a : Int) * (w : Int) + (b : Int)) = ((a * w + b : Nat) : Int) ∧ ((a : Int) * (w : Int)) = ((a * w : Nat) : Int) := by
  constructor
  · rw [Int.natCast_add, Int.natCast_mul]
  · rw [Int.natCast_mul]
theorem m_adds {a b : Nat} {x y z : Int} (hx : x = a) (hy : y = b) (hw : w ≤ 108) (hS : SQ w M σ) (ha : a < w) (hb : b < w) (hr : Rg (M a b + z)) (h : ∀ σ' : PS, Off [21] σ σ' → SQ w (uM M a b (M a b + z)) σ' → Φ 0 σ') : FX12_adds x y z σ Φ := by
  subst hx; subst hy
  obtain ⟨i1, i2⟩ := ix_lt hw ha hb
  obtain ⟨j1, j2⟩ := @ix_int w a b
  unfold FX12_adds
  rw [hS.1, j1, j2, show ((a * w + b : Nat) : Int).toNat = a * w + b by omega, hS.2 a b ha hb]
  refine ⟨⟨by omega, by omega⟩, ⟨by omega, by omega⟩, ⟨by omega, by omega⟩, hr, ⟨by omega, by omega⟩, fun σ6 g6 => ?_⟩
  refine h σ6 (by rw [g6]; exact Off.rf.up (by simp)) ⟨by rw [g6, up2_nk (by omega)]; exact hS.1, fun u v hu hv => ?_⟩
  rw [g6, up2_if]
  unfold uM
  by_cases q : u = a ∧ v = b
  · rw [if_pos (by rw [q.1, q.2]), if_pos q]
  · rw [if_neg (fun z => q (ix_inj hb hv z)), if_neg q]
    exact hS.2 u v hu hv
theorem m_clears {x : Int} (hx : x = w) (hw : w ≤ 108) (h : ∀ σ' : PS, Off [0, 21] σ σ' → (∀ i, i ≠ 25 → σ' 0 i = σ 0 i) → SQ w (fun _ _ => 0) σ' → Φ 0 σ') : FX12_clears x σ Φ := by
  subst hx
  have h2 : w * w ≤ 108 * 108 := Nat.mul_le_mul hw hw
  unfold FX12_clears
  intro σ1 g1
  have o1 : Off [0] σ σ1 := by rw [g1]; exact Off.rf.up (by simp)
  have e25 : σ1 0 25 = (w : Int) := by rw [g1, up2_at]
  have z1 : ∀ i, i ≠ 25 → σ1 0 i = σ 0 i := fun i hi => by rw [g1, up2_ni hi]
  have loop : ∀ (f i : Nat) (σ2 : PS), i ≤ w * w → w * w - i < f → Off [21] σ1 σ2 → (∀ j, j < i → σ2 21 j = 0) → LX12_clears_7 f i σ2 Φ := by
    intro f
    induction f with
    | zero => intro i σ2 a1 a2; omega
    | succ f ih =>
      intro i σ2 hi hf ho hv
      unfold LX12_clears_7 BX12_clears_7
      rw [ho 0 (by simp), e25, (show ((w : Int) * (w : Int)) = ((w * w : Nat) : Int) from by rw [Int.natCast_mul])]
      refine ⟨⟨by omega, by omega⟩, fun c => ?_, fun c => ⟨⟨by omega, by omega⟩, fun σ4 g4 => ⟨⟨by omega, by omega⟩, ?_⟩⟩⟩
      · refine h σ2 ((o1.mono (by simp)).trans (ho.mono (by simp))) (fun j hj => by rw [ho 0 (by simp)]; exact z1 j hj) ⟨by rw [ho 0 (by simp)]; exact e25, fun u v hu hv2 => ?_⟩
        refine hv _ ?_
        have h1 : (u + 1) * w ≤ w * w := Nat.mul_le_mul (by omega) (Nat.le_refl _)
        rw [Nat.add_mul] at h1
        omega
      · refine ih (i + 1) σ4 (by omega) (by omega) (by rw [g4]; exact ho.up (by simp)) (fun j hj => ?_)
        rw [g4, show ((i : Nat) : Int).toNat = i by omega, up2_if]
        by_cases q : j = i
        · rw [if_pos q]
        · rw [if_neg q]; exact hv j (by omega)
  exact ⟨w * w + 1, loop (w * w + 1) 0 σ1 (by omega) (by omega) Off.rf (fun j hj => absurd hj (Nat.not_lt_zero _))⟩
/-- parents, as the search leaves them -/
def PAR (w : Nat) (M : Nat → Nat → Int) (s : Nat) (d : Nat → Int) (bf : Nat → Int) : Prop := ∀ v, v < w → (bf v < 0 ∧ d v < 0) ∨ (0 ≤ d v ∧ ∃ p : Nat, p < w ∧ bf v = p ∧ (v = s ∨ (d p = d v - 1 ∧ 0 ≤ d p ∧ 0 < M p v)))
theorem finds_inner {σ0 : PS} {s t k : Nat} {K42 : Int → Int → Int → PS → Prop} (hw : w ≤ 108)
    (hK : ∀ (σ' : PS) (many : Nat) (q : Nat → Nat) (d : Nat → Int), Off [6, 22] σ0 σ' → BI w (fun v u => 0 < M u v) s d q many (k + 1) (fun _ => False) → PAR w M s d (σ' 22) → (∀ j, j < many → σ' 6 j = (q j : Int)) → K42 t many ((k : Int) + 1) σ') :
    ∀ (f i many : Nat) (q : Nat → Nat) (d : Nat → Int) (σ : PS), i ≤ w → w - i < f → SQ w M σ → Off [6, 22] σ0 σ → k < many → BI w (fun v u => 0 < M u v) s d q many k (fun v => v < i ∧ 0 < M (q k) v) → PAR w M s d (σ 22) → (∀ j, j < many → σ 6 j = (q j : Int)) → LX12_findsWay_60 K42 f t many k i σ Φ := by
  intro f
  induction f with
  | zero => intro i many q d σ h1 h2; omega
  | succ f ih =>
    intro i many q d σ hi hf hS ho hk hB hP hq
    have m12 : many ≤ w := holes w many q hB.1.2.2 hB.2.1
    have hqk := hB.1.2.2 k hk
    unfold LX12_findsWay_60 BX12_findsWay_60
    rw [hS.1]
    refine ⟨fun c => ⟨⟨by omega, by omega⟩, hK σ many q d ho (hB.next hk (fun v hv hst => ⟨by omega, hst⟩)) hP hq⟩, fun c => ?_⟩
    have hi2 : i < w := by omega
    have ei : ((i : Nat) : Int).toNat = i := by omega
    have ek : ((k : Nat) : Int).toNat = k := by omega
    rw [ei, ek, hq k hk]
    obtain ⟨j1, j2⟩ := @ix_int w (q k) i
    obtain ⟨x1, x2⟩ := ix_lt hw hqk hi2
    rw [j1, j2, show ((q k * w + i : Nat) : Int).toNat = q k * w + i by omega, hS.2 _ _ hqk hi2]
    have nx : ∀ (many' : Nat) (q' : Nat → Nat) (d' : Nat → Int) (σ' : PS), q' k = q k → SQ w M σ' → Off [6, 22] σ0 σ' → k < many' → BI w (fun v u => 0 < M u v) s d' q' many' k (fun v => v < i + 1 ∧ 0 < M (q k) v) → PAR w M s d' (σ' 22) → (∀ j, j < many' → σ' 6 j = (q' j : Int)) → LX12_findsWay_127 K42 (fun x2 x3 x4 x5 σ => LX12_findsWay_60 K42 f x2 x3 x4 x5 σ Φ) t many' k i σ' Φ := fun many' q' d' σ' a0 a1 a2 a3 a4 a5 a6 => by
      unfold LX12_findsWay_127
      exact ⟨⟨by omega, by omega⟩, ih (i + 1) many' q' d' σ' (by omega) (by omega) a1 a2 a3 (by rw [a0]; exact a4) a5 a6⟩
    have weak : ∀ v, v < i + 1 ∧ 0 < M (q k) v → (v < i ∧ 0 < M (q k) v) ∨ (v = i ∧ 0 < M (q k) i) := fun v hv => by
      by_cases z : v = i
      · rw [z] at hv ⊢; exact Or.inr ⟨rfl, hv.2⟩
      · exact Or.inl ⟨by omega, hv.2⟩
    have hPi := hP i hi2
    refine ⟨⟨by omega, by omega⟩, fun c1 => nx many q d σ rfl hS ho hk ((hB.skip (u := i) (by
      rcases hPi with z | z
      · omega
      · exact z.1)).weak (fun v hv => ?_)) hP hq, fun c1 => ⟨⟨by omega, by omega⟩, ⟨by omega, by omega⟩, ⟨by omega, by omega⟩, ⟨by omega, by omega⟩, fun c2 => nx many q d σ rfl hS ho hk (hB.weak (fun v hv => ?_)) hP hq, fun c2 => ?_⟩⟩
    · rcases weak v hv with z | z
      · exact Or.inl z
      · exact Or.inr z.1
    · rcases weak v hv with z | z
      · exact z
      · omega
    · have hdi : d i < 0 := by
        rcases hPi with z | z
        · exact z.2
        · obtain ⟨p, _, p2, _⟩ := z.2
          omega
      have room := hB.room hi2 hdi
      have hdk : 0 ≤ d (q k) := hB.2.2.2.1 k hk
      refine ⟨⟨by omega, by omega⟩, ⟨by omega, by omega⟩, fun σ12 g12 => ⟨⟨by omega, by omega⟩, fun σ14 g14 => ⟨⟨by omega, by omega⟩, ?_⟩⟩⟩
      rw [show ((many : Nat) : Int).toNat = many by omega] at g14
      have o14 : Off [6, 22] σ σ14 := by rw [g14, g12]; exact (Off.rf.up (by simp)).up (by simp)
      have hB2 := BI.lab (d' := fun v => if v = i then d (q k) + 1 else d v) (q' := fun j => if j = many then i else q j) hB hk hi2 hdi (show 0 < M (q k) i by omega) (by simp only [if_true]) (fun v hv hne => by simp only [if_neg hne]) (by simp only [if_true]) (fun j hj => by simp only [if_neg (show ¬ j = many by omega)])
      have e22 : ∀ v, σ14 22 v = if v = i then (q k : Int) else σ 22 v := fun v => by rw [g14, up2_nk (by omega), g12, up2_if]
      have := nx (many + 1) _ _ σ14 (by simp only [if_neg (show ¬ k = many by omega)]) ⟨by rw [o14 0 (by simp)]; exact hS.1, by rw [o14 21 (by simp)]; exact hS.2⟩ (ho.trans o14) (by omega) (hB2.weak (fun v hv => ?_)) (fun v hv => ?_) (fun j hj => ?_)
      · exact this
      · rcases weak v hv with z | z
        · exact Or.inl z
        · exact Or.inr z.1
      · rw [e22]
        have hne : q k ≠ i := fun z => by rw [z] at hdk; omega
        by_cases z : v = i
        · rw [if_pos z]
          refine Or.inr ⟨?_, q k, hqk, rfl, Or.inr ⟨?_, ?_, ?_⟩⟩
          · simp only [if_pos z]; omega
          · simp only [if_neg hne, if_pos z]; omega
          · simp only [if_neg hne]; exact hdk
          · rw [z]; omega
        · rw [if_neg z]
          simp only [if_neg z]
          rcases hP v hv with y | ⟨y1, p, p1, p2, p3⟩
          · exact Or.inl y
          · refine Or.inr ⟨y1, p, p1, p2, ?_⟩
            rcases p3 with p3 | ⟨p3, p4, p5⟩
            · exact Or.inl p3
            · have : p ≠ i := fun z => by rw [z] at p4; omega
              simp only [if_neg this]
              exact Or.inr ⟨p3, p4, p5⟩
      · rw [g14, up2_if]
        by_cases z : j = many
        · rw [if_pos z, if_pos z]
        · rw [if_neg z, if_neg z, g12, up2_nk (by omega)]; exact hq j (by omega)
theorem m_findsWay {s t : Nat} (hw : w ≤ 108) (hs : s < w) (ht : t < w) (hst : s ≠ t) (hS : SQ w M σ) (h0 : ∀ σ' : PS, Off [6, 22] σ σ' → (∃ d, IsDist w (fun v u => 0 < M u v) s d ∧ d t < 0) → Φ 0 σ') (h1 : ∀ (σ' : PS) (d : Nat → Int), Off [6, 22] σ σ' → d s = 0 → 0 ≤ d t → (∀ v, v < w → v ≠ s → 0 ≤ d v → 0 < d v) → PAR w M s d (σ' 22) → Φ 1 σ') : FX12_findsWay s t σ Φ := by
  unfold FX12_findsWay
  have fin : ∀ (σ' : PS) (many k : Nat) (q : Nat → Nat) (d : Nat → Int), Off [6, 22] σ σ' → BI w (fun v u => 0 < M u v) s d q many k (fun _ => False) → PAR w M s d (σ' 22) → (many ≤ k ∨ 0 ≤ σ' 22 t) → LX12_findsWay_139 t σ' Φ := fun σ' many k q d ho hB hP hor => by
    unfold LX12_findsWay_139
    rw [show ((t : Nat) : Int).toNat = t by omega]
    refine ⟨⟨by omega, by omega⟩, fun c => h0 σ' ho ⟨d, ?_, ?_⟩, fun c => h1 σ' d ho hB.2.2.2.2.1.1 ?_ (fun v hv hne hd => ?_) hP⟩
    · have e : k = many := by have := hB.1.1; omega
      rw [e] at hB
      exact hB.done
    · rcases hP t ht with z | ⟨z1, p, p1, p2, p3⟩
      · exact z.2
      · omega
    · rcases hP t ht with z | z
      · omega
      · exact z.1
    · obtain ⟨u, u1, u2, u3, u4⟩ := hB.2.2.2.2.1.2 v hv hne hd
      omega
  have l42 : ∀ (f k many : Nat) (q : Nat → Nat) (d : Nat → Int) (σ1 : PS), w - k < f → SQ w M σ1 → Off [6, 22] σ σ1 → BI w (fun v u => 0 < M u v) s d q many k (fun _ => False) → PAR w M s d (σ1 22) → (∀ j, j < many → σ1 6 j = (q j : Int)) → LX12_findsWay_42 f t many k σ1 Φ := by
    intro f
    induction f with
    | zero => intro k many q d σ1 h1; omega
    | succ f ih =>
      intro k many q d σ1 hf hS1 ho hB hP hq
      have m12 : many ≤ w := holes w many q hB.1.2.2 hB.2.1
      unfold LX12_findsWay_42 BX12_findsWay_42
      rw [show ((t : Nat) : Int).toNat = t by omega]
      refine ⟨fun c => fin σ1 many k q d ho hB hP (Or.inl (by omega)), fun c => ⟨⟨by omega, by omega⟩, fun c2 => fin σ1 many k q d ho hB hP (Or.inr c2), fun c2 => ⟨w + 1, ?_⟩⟩⟩
      have hk : k < many := by omega
      refine finds_inner (σ0 := σ) hw (fun σ' many' q' d' a1 a2 a3 a4 => ih (k + 1) many' q' d' σ' (by omega) ⟨by rw [a1 0 (by simp)]; exact hS.1, by rw [a1 21 (by simp)]; exact hS.2⟩ a1 a2 a3 a4) (w + 1) 0 many q d σ1 (by omega) (by omega) hS1 ho hk (hB.weak (fun v hv => by omega)) hP hq
  have l2 : ∀ (f i : Nat) (σ1 : PS), i ≤ w → w - i < f → Off [22] σ σ1 → (∀ v, v < i → σ1 22 v = -1) → LX12_findsWay_2 f s t i σ1 Φ := by
    intro f
    induction f with
    | zero => intro i σ1 h1 h2; omega
    | succ f ih =>
      intro i σ1 hi hf ho hv
      unfold LX12_findsWay_2 BX12_findsWay_2
      rw [ho 0 (by simp), hS.1]
      refine ⟨fun c => ⟨⟨by omega, by omega⟩, fun σ3 g3 σ4 g4 => ⟨w + 1, ?_⟩⟩, fun c => ⟨⟨by omega, by omega⟩, fun σ6 g6 => ⟨⟨by omega, by omega⟩, ?_⟩⟩⟩
      · rw [show ((s : Nat) : Int).toNat = s by omega] at g3
        have o4 : Off [6, 22] σ σ4 := by rw [g4, g3]; exact ((ho.mono (by simp)).up (by simp)).up (by simp)
        refine l42 (w + 1) 0 1 (fun _ => s) (fun v => if v = s then 0 else -1) σ4 (by omega) ⟨by rw [o4 0 (by simp)]; exact hS.1, by rw [o4 21 (by simp)]; exact hS.2⟩ o4 (BI.init hs (by simp only [if_true]) (fun v hv hne => by simp only [if_neg hne]) rfl) (fun v hv2 => ?_) (fun j hj => ?_)
        · rw [g4, up2_nk (by omega), g3, up2_if]
          by_cases q : v = s
          · rw [if_pos q]
            simp only [if_pos q]
            exact Or.inr ⟨Int.le_refl _, s, hs, rfl, Or.inl q⟩
          · rw [if_neg q, hv v (by omega)]
            simp only [if_neg q]
            exact Or.inl ⟨by omega, by omega⟩
        · rw [show j = 0 by omega, g4, up2_at]
      · refine ih (i + 1) σ6 (by omega) (by omega) (by rw [g6]; exact ho.up (by simp)) (fun v hv2 => ?_)
        rw [g6, show ((i : Nat) : Int).toNat = i by omega, up2_if]
        by_cases q : v = i
        · rw [if_pos q]
        · rw [if_neg q]; exact hv v (by omega)
  exact ⟨w + 1, l2 (w + 1) 0 σ (by omega) (by omega) Off.rf (fun v hv => absurd hv (Nat.not_lt_zero _))⟩
end Square
