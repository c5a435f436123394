theorem bnd_inv {α β : Type} {x : Sum Nat α} {f : α → Sum Nat β} {y : β} (h : bnd x f = .inr y) : ∃ a, x = .inr a ∧ f a = .inr y := by
  cases x with
  | inl q => cases h
  | inr a => exact ⟨a, rfl, h⟩
section Read5
variable {b : Bk} {A : List (Nat → Int)} {n p : Nat} {t : Nat → Int} {f : Int} {σ : PS} {Φ : Int → PS → Prop}
theorem exp_inv {c : Int} {p' : Nat} (h : expP n t c p = .inr p') : byT n t p = c ∧ p' = p + 1 := by
  unfold expP at h
  by_cases q : byT n t p = c
  · rw [if_pos q] at h; exact ⟨q, (Sum.inr.inj h).symm⟩
  · rw [if_neg q] at h; cases h
theorem rng_inv {lo hi bar v : Int} {p' : Nat} (h : rngP n t lo hi bar p = .inr (v, p')) : lo ≤ v ∧ v ≤ hi ∧ v ≠ bar := by
  obtain ⟨a, h1, h2⟩ := bnd_inv h
  by_cases q : lo ≤ a.1 ∧ a.1 ≤ hi ∧ a.1 ≠ bar
  · rw [if_pos q] at h2
    have e := Sum.inr.inj h2
    rw [e] at q
    exact q
  · rw [if_neg q] at h2; cases h2
/-- what a gate read says -/
def GI (n : Nat) (t : Nat → Int) (p : Nat) (r : Nat → Int) (p' : Nat) : Prop := ∃ (a : Int) (p1 p2 : Nat) (d : Int) (p3 p4 : Nat) (m : Int) (p5 : Nat) (lo kc : Int) (p6 : Nat) (v : Int) (p7 : Nat), rngP n t 0 11 (-1) p = .inr (a, p1) ∧ expP n t 62 p1 = .inr p2 ∧ rngP n t 0 11 a p2 = .inr (d, p3) ∧ expP n t 58 p3 = .inr p4 ∧ rngP n t 0 999 (-1) p4 = .inr (m, p5) ∧ ((byT n t p5 = 45 ∧ lo = m ∧ rngP n t m 999 (-1) (p5 + 1) = .inr (kc, p6)) ∨ (byT n t p5 ≠ 45 ∧ lo = 0 ∧ kc = m ∧ p6 = p5)) ∧ dlyP n t p6 = .inr (v, p7) ∧ r = rowG a d lo kc v (opnP n t p7).1 ∧ p' = (opnP n t p7).2
theorem gat_inv {r : Nat → Int} {p' : Nat} (h : gatP n t p = .inr (r, p')) : GI n t p r p' := by
  obtain ⟨a, h1, h⟩ := bnd_inv h
  obtain ⟨p2, h2, h⟩ := bnd_inv h
  obtain ⟨d, h3, h⟩ := bnd_inv h
  obtain ⟨p4, h4, h⟩ := bnd_inv h
  obtain ⟨k, h5, h⟩ := bnd_inv h
  obtain ⟨v, h6, h⟩ := bnd_inv h
  obtain ⟨m, h7, h8⟩ := bnd_inv h5
  have e := Sum.inr.inj h
  have e1 := congrArg Prod.fst e
  have e2 := congrArg Prod.snd e
  refine ⟨a.1, a.2, p2, d.1, d.2, p4, m.1, m.2, k.1, k.2.1, k.2.2, v.1, v.2, h1, h2, h3, h4, h7, ?_, h6, e1.symm, e2.symm⟩
  by_cases q : byT n t m.2 = 45
  · rw [if_pos q] at h8
    obtain ⟨k2, h9, h10⟩ := bnd_inv h8
    have e := Sum.inr.inj h10
    left
    refine ⟨q, by rw [← e], ?_⟩
    rw [← e]
    exact h9
  · rw [if_neg q] at h8
    have e := Sum.inr.inj h8
    right
    rw [← e]
    exact ⟨q, rfl, rfl, rfl⟩
theorem dly_inv {v : Int} {p' : Nat} (h : dlyP n t p = .inr (v, p')) : (byT n t p = 64 ∧ rngP n t 1 3 (-1) (p + 1) = .inr (v, p')) ∨ (byT n t p ≠ 64 ∧ v = 1 ∧ p' = p) := by
  unfold dlyP at h
  by_cases q : byT n t p = 64
  · rw [if_pos q] at h; exact Or.inl ⟨q, h⟩
  · rw [if_neg q] at h
    have e := Sum.inr.inj h
    exact Or.inr ⟨q, (congrArg Prod.fst e).symm, (congrArg Prod.snd e).symm⟩
theorem opn_is : (opnP n t p).1 = 0 ∨ (opnP n t p).1 = 1 := by
  unfold opnP
  by_cases q : byT n t p = 120
  · rw [if_pos q]; exact Or.inl rfl
  · rw [if_neg q]; exact Or.inr rfl
theorem gtp_ok {r : Nat → Int} {p' : Nat} (h : gatP n t p = .inr (r, p')) : okG r := by
  obtain ⟨a, p1, p2, d, p3, p4, m, p5, lo, kc, p6, v, p7, h1, h2, h3, h4, h5, h6, h7, h8, h9⟩ := gat_inv h
  have r1 := rng_inv h1
  have r3 := rng_inv h3
  have r5 := rng_inv h5
  have r7 : 1 ≤ v ∧ v ≤ 3 := by
    rcases dly_inv h7 with ⟨_, z⟩ | ⟨_, z, _⟩
    · have := rng_inv z; omega
    · omega
  have r6 : 0 ≤ lo ∧ lo ≤ kc ∧ kc ≤ 999 := by
    rcases h6 with ⟨_, z1, z2⟩ | ⟨_, z1, z2, _⟩
    · have := rng_inv z2; omega
    · omega
  have ro := @opn_is n p7 t
  rw [h8]
  refine ⟨r1.1, ?_, r3.1, ?_, ?_, r6.1, r6.2.1, r6.2.2, r7.1, r7.2, ro⟩
  · show a < 12
    omega
  · show d < 12
    omega
  · show a ≠ d
    omega
def taiP (n : Nat) (t : Nat → Int) (k cnt p : Nat) : Sum Nat (List (Nat → Int)) := if byT n t p = 59 then bokP n t k cnt (p + 1) else if p < n then .inl p else .inr []
theorem bok_tai {k cnt : Nat} : bokP n t (k + 1) cnt p = if 30 ≤ cnt then .inl p else bnd (gatP n t p) (fun r => bnd (taiP n t k (cnt + 1) r.2) (fun L => .inr (r.1 :: L))) := by
  rw [bokP]
  by_cases q : 30 ≤ cnt
  · rw [if_pos q, if_pos q]
  · rw [if_neg q, if_neg q]
    cases gatP n t p with
    | inl z => rfl
    | inr r =>
      show (if byT n t r.2 = 59 then _ else _) = bnd (taiP n t k (cnt + 1) r.2) _
      unfold taiP
      by_cases q2 : byT n t r.2 = 59
      · rw [if_pos q2, if_pos q2]
      · rw [if_neg q2, if_neg q2]
        by_cases q3 : r.2 < n
        · rw [if_pos q3, if_pos q3]; rfl
        · rw [if_neg q3, if_neg q3]; rfl
theorem bok_ok : ∀ (k cnt p : Nat) (L : List (Nat → Int)), bokP n t k cnt p = .inr L → cnt + L.length ≤ 30 ∧ ∀ r, r ∈ L → okG r := by
  intro k
  induction k with
  | zero => intro cnt p L h; cases h
  | succ k ih =>
    intro cnt p L h
    rw [bok_tai] at h
    by_cases q : 30 ≤ cnt
    · rw [if_pos q] at h; cases h
    · rw [if_neg q] at h
      obtain ⟨r, h1, h2⟩ := bnd_inv h
      obtain ⟨L2, h3, h4⟩ := bnd_inv h2
      have e := Sum.inr.inj h4
      have hg : okG r.1 := gtp_ok (p' := r.2) h1
      have h5 : cnt + 1 + L2.length ≤ 30 ∧ ∀ r, r ∈ L2 → okG r := by
        unfold taiP at h3
        by_cases q2 : byT n t r.2 = 59
        · rw [if_pos q2] at h3
          exact ih _ _ _ h3
        · rw [if_neg q2] at h3
          by_cases q3 : r.2 < n
          · rw [if_pos q3] at h3; cases h3
          · rw [if_neg q3] at h3
            have e := Sum.inr.inj h3
            rw [← e]
            exact ⟨by show cnt + 1 + 0 ≤ 30; omega, fun r hr => by cases hr⟩
      rw [← e]
      refine ⟨by show cnt + (L2.length + 1) ≤ 30; omega, fun s hs => ?_⟩
      rcases List.mem_cons.mp hs with z | z
      · rw [z]; exact hg
      · exact h5.2 s z
theorem ext_ok {L : List (Nat → Int)} (hb : okB b) (hl : bn b + L.length ≤ 30) (h : ∀ r, r ∈ L → okG r) : okB (extB b L) := by
  refine ⟨hl, hb.2.1, hb.2.2.1, hb.2.2.2.1, fun e he => ?_⟩
  have he : e < bn b + L.length := he
  by_cases q : e < bn b
  · have : bB (extB b L) e = bB b e := by
      funext w
      show (if e < bn b then bB b e w else _) = _
      rw [if_pos q]
    rw [this]
    exact hb.2.2.2.2 e q
  · have : bB (extB b L) e = L.getD (e - bn b) (fun _ => 0) := by
      funext w
      show (if e < bn b then bB b e w else _) = _
      rw [if_neg q]
    rw [this, List.getD_eq_getElem?_getD, List.getElem?_eq_getElem (by omega)]
    exact h _ (List.getElem_mem _)
theorem m_gate0 {k : Nat} (hS : TM n t p (-1) σ) (ht : okt n t) (hB : σ 1 2 = (bn b : Int)) (hk : σ 0 32 = (k : Int)) (h30 : bn b + k ≤ 30)
    (h1 : ∀ (r : Nat → Int) (p' : Nat) (σ' : PS), bn b + k < 30 → gatP n t p = .inr (r, p') → ON σ σ' → TM n t p' (-1) σ' → σ' 0 32 = ((k + 1 : Nat) : Int) → Φ 0 σ')
    (h0 : ∀ (q p' : Nat) (σ' : PS), ((30 ≤ bn b + k ∧ q = p) ∨ (bn b + k < 30 ∧ gatP n t p = .inl q)) → ON σ σ' → TM n t p' q σ' → Φ 0 σ') : FX12_readGate 0 σ Φ := by
  unfold FX12_readGate
  refine ⟨fun c => absurd rfl c, fun _ => ?_⟩
  rw [hB, hk]
  refine ⟨⟨by omega, by omega⟩, fun c => m_g28 hS ht hk (by omega) (fun r p' σ' e o S h => h1 r p' σ' (by omega) e o S h) (fun q p' σ' e o S h => h0 q p' σ' (Or.inr ⟨by omega, e⟩) o S), fun c => ?_⟩
  rw [hS.2.2.1]
  exact m_wrong hS (fun z => by omega) (fun _ σ5 o5 S5 => m_g28B (k := k) S5 ht (by rw [o5.2 32 (by omega) (by omega)]; exact hk) (by omega) (fun p' σ' o' S' h' => h0 p p' σ' (Or.inl ⟨by omega, rfl⟩) (o5.on.trans o') S'))
theorem m_loop0 (ht : okt n t) {σ0 : PS} {K : Sum Nat (List (Nat → Int))} (hB : σ0 1 2 = (bn b : Int)) (h1 : ∀ (L : List (Nat → Int)) (p' : Nat) (σ' : PS), K = .inr L → ON σ0 σ' → TM n t p' (-1) σ' → σ' 0 32 = (L.length : Int) → Φ 0 σ') (h0 : ∀ (q p' : Nat) (σ' : PS), K = .inl q → ON σ0 σ' → TM n t p' q σ' → Φ 0 σ') :
    (∀ (f q p : Nat) (σ : PS), 0 < f → K = .inl q → ON σ0 σ → TM n t p q σ → LX12_readBook_14 f 0 σ Φ) ∧ ∀ (f k : Nat) (A : List (Nat → Int)) (p : Nat) (σ : PS), 31 - A.length < f → bn b + A.length ≤ 30 → 31 ≤ k + (bn b + A.length) → ON σ0 σ → TM n t p (-1) σ → σ 0 32 = (A.length : Int) → K = bnd (taiP n t k (bn b + A.length) p) (fun L => .inr (A ++ L)) → LX12_readBook_14 f 0 σ Φ := by
  have bad : ∀ (f q p : Nat) (σ : PS), 0 < f → K = .inl q → ON σ0 σ → TM n t p q σ → LX12_readBook_14 f 0 σ Φ := fun f q p σ hf e o S => by
    obtain ⟨f, rfl⟩ : ∃ j, f = j + 1 := ⟨f - 1, by omega⟩
    unfold LX12_readBook_14 BX12_readBook_14
    exact m_takesB S ⟨fun _ => ⟨fun _ => h0 q p σ e o S, fun _ => m_wrongB S (fun σ' o' S' => h0 q p σ' e (o.trans o'.on) S')⟩, fun z => absurd rfl z⟩
  refine ⟨bad, ?_⟩
  intro f
  induction f with
  | zero => intro k A p σ h; omega
  | succ f ih =>
    intro k A p σ hf h30 hk ho hS hC hK
    obtain ⟨k, rfl⟩ : ∃ j, k = j + 1 := ⟨k - 1, by omega⟩
    unfold LX12_readBook_14 BX12_readBook_14
    unfold taiP at hK
    refine m_takesA hS ht (by omega) (fun σ' e o' S' => ⟨fun z => by omega, fun _ => ?_⟩) (fun e => ⟨fun _ => ?_, fun z => absurd rfl z⟩)
    · rw [if_pos e, bok_tai] at hK
      have hB' : σ' 1 2 = (bn b : Int) := by rw [o'.1 1 (by simp), ho.1 1 (by simp)]; exact hB
      refine m_gate0 S' ht hB' (by rw [o'.2 32 (by omega) (by omega)]; exact hC) h30 (fun r p2 σ2 hlt e2 o2 S2 c2 => ?_) (fun q p2 σ2 e2 o2 S2 => bad f q p2 σ2 (by omega) ?_ (ho.trans (o'.on.trans o2)) S2)
      · rw [if_neg (by omega), e2] at hK
        have hK : K = bnd (bnd (taiP n t k (bn b + A.length + 1) p2) (fun L => .inr (r :: L))) (fun L => .inr (A ++ L)) := hK
        have el : (A ++ [r]).length = A.length + 1 := by rw [List.length_append]; rfl
        refine ih k (A ++ [r]) p2 σ2 (by omega) (by omega) (by omega) (ho.trans (o'.on.trans o2)) S2 (by rw [el]; exact c2) ?_
        rw [hK, el, show bn b + (A.length + 1) = bn b + A.length + 1 by omega]
        cases taiP n t k (bn b + A.length + 1) p2 with
        | inl q => rfl
        | inr L => show Sum.inr (A ++ (r :: L)) = Sum.inr ((A ++ [r]) ++ L); rw [List.append_assoc]; rfl
      · rcases e2 with ⟨x, y⟩ | ⟨x, y⟩
        · rw [if_pos x] at hK; rw [hK, y]; rfl
        · rw [if_neg (by omega), y] at hK; rw [hK]; rfl
    · rw [if_neg e] at hK
      rw [hS.1, hS.2.2.1]
      refine ⟨fun c => ?_, fun c => ?_⟩
      · rw [if_neg (by omega)] at hK
        refine h1 A p σ ?_ ho hS hC
        rw [hK]
        show Sum.inr (A ++ []) = _
        rw [List.append_nil]
      · rw [if_pos (by omega)] at hK
        exact m_wrong hS (fun z => by omega) (fun _ σ' o' S' => h0 p p σ' hK (ho.trans o'.on) S')
theorem m_begins {P : PS → Prop} (hS : σ 0 29 = (n : Int) ∧ ∀ i, i < n → σ 23 i = t i) (h : ∀ σ' : PS, ON σ σ' → TM n t 0 (-1) σ' → σ' 0 32 = ((0 : Nat) : Int) → P σ') : FX12_begins σ (fun _ σ2 => ∀ σ3 : PS, σ3 = up2 σ2 0 32 0 → P σ3) := by
  unfold FX12_begins
  intro σ1 g1 σ2 g2 σ3 g3
  refine h σ3 ⟨by rw [g3, g2, g1]; exact ((Off.rf.up (by simp)).up (by simp)).up (by simp), fun i x y z => by rw [g3, up2_ni z, g2, up2_ni y, g1, up2_ni x]⟩ ⟨?_, fun i hi => ?_, ?_, ?_, by omega⟩ ?_
  · rw [g3, up2_ni (by omega), g2, up2_ni (by omega), g1, up2_ni (by omega)]; exact hS.1
  · rw [g3, up2_nk (by omega), g2, up2_nk (by omega), g1, up2_nk (by omega)]; exact hS.2 i hi
  · rw [g3, up2_ni (by omega), g2, up2_ni (by omega), g1, up2_at]; rfl
  · rw [g3, up2_ni (by omega), g2, up2_at]
  · rw [g3, up2_at]; rfl
theorem m_book0 (ht : okt n t) (hB : σ 1 2 = (bn b : Int)) (h30 : bn b ≤ 30) (hS : σ 0 29 = (n : Int) ∧ ∀ i, i < n → σ 23 i = t i) (h1 : ∀ (L : List (Nat → Int)) (p' : Nat) (σ' : PS), bokP n t 31 (bn b) 0 = .inr L → ON σ σ' → TM n t p' (-1) σ' → σ' 0 32 = (L.length : Int) → Φ 0 σ') (h0 : ∀ (q p' : Nat) (σ' : PS), bokP n t 31 (bn b) 0 = .inl q → ON σ σ' → TM n t p' q σ' → Φ 0 σ') : FX12_readBook 0 σ Φ := by
  unfold FX12_readBook
  refine m_begins hS (fun σ3 o3 S3 c3 => ?_)
  obtain ⟨bad, loop⟩ := m_loop0 (b := b) ht (σ0 := σ) hB h1 h0
  have hK := @bok_tai n 0 t 30 (bn b)
  refine m_gate0 (b := b) (k := 0) S3 ht (by rw [o3.1 1 (by simp)]; exact hB) c3 h30 (fun r p' σ' hlt e o' S' c' => ⟨40, ?_⟩) (fun q p' σ' e o' S' => ⟨1, ?_⟩)
  · rw [if_neg (by omega), e] at hK
    exact loop 40 30 [r] p' σ' (by show 31 - 1 < 40; omega) hlt (by show 31 ≤ 30 + (bn b + 1); omega) (o3.trans o') S' c' hK
  · refine bad 1 q p' σ' (by omega) ?_ (o3.trans o') S'
    rcases e with ⟨x, y⟩ | ⟨x, y⟩
    · rw [if_pos (by omega)] at hK; rw [y]; exact hK
    · rw [if_neg (by omega), y] at hK; rw [hK]; rfl
end Read5
