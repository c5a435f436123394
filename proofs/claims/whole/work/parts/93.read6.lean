/-- all places lie on the tape -/
def LEr {α : Type} (n : Nat) (pos : α → Nat) (x : Sum Nat α) : Prop := match x with
  | .inl q => q ≤ n
  | .inr a => pos a ≤ n
theorem le_bnd {α β : Type} {n : Nat} {pos : α → Nat} {pos2 : β → Nat} {x : Sum Nat α} {f : α → Sum Nat β} (h : LEr n pos x) (g : ∀ a, pos a ≤ n → LEr n pos2 (f a)) : LEr n pos2 (bnd x f) := by
  cases x with
  | inl q => exact h
  | inr a => exact g a h
theorem le_rng {n p : Nat} {t : Nat → Int} {lo hi bar : Int} (ht : okt n t) (hp : p ≤ n) : LEr n (fun r : Int × Nat => r.2) (rngP n t lo hi bar p) := by
  have hr := nuP_is ht hp
  refine le_bnd (pos := fun r : Int × Nat => r.2) ?_ (fun a ha => ?_)
  · unfold numP
    by_cases q : (nuP n t p).1 = p
    · rw [if_pos q]; exact hp
    · rw [if_neg q]; exact hr.1.2
  · by_cases q : lo ≤ a.1 ∧ a.1 ≤ hi ∧ a.1 ≠ bar
    · rw [if_pos q]; exact ha
    · rw [if_neg q]; exact hp
theorem le_exp {n p : Nat} {t : Nat → Int} {c : Int} (ht : okt n t) (hc : 0 < c) (hp : p ≤ n) : LEr n (fun r : Nat => r) (expP n t c p) := by
  unfold expP
  have := (by_rng ht p).2.2
  by_cases q : byT n t p = c
  · rw [if_pos q]
    have := this (by omega)
    show p + 1 ≤ n
    omega
  · rw [if_neg q]; exact hp
theorem le_gat {n p : Nat} {t : Nat → Int} (ht : okt n t) (hp : p ≤ n) : LEr n (fun r : (Nat → Int) × Nat => r.2) (gatP n t p) := by
  have step : ∀ {c : Int} {p : Nat}, byT n t p = c → 0 < c → p + 1 ≤ n := fun {c p} e hc => (by_rng ht p).2.2 (by omega)
  refine le_bnd (le_rng ht hp) (fun a ha => le_bnd (le_exp ht (by omega) ha) (fun p2 h2 => le_bnd (le_rng ht h2) (fun c hc => le_bnd (le_exp ht (by omega) hc) (fun p4 h4 => le_bnd (pos := fun r : Int × Int × Nat => r.2.2) ?_ (fun k hk => le_bnd (pos := fun r : Int × Nat => r.2) ?_ (fun v hv => ?_))))))
  · refine le_bnd (le_rng ht h4) (fun r hr => ?_)
    by_cases q : byT n t r.2 = 45
    · rw [if_pos q]
      exact le_bnd (le_rng ht (step q (by omega))) (fun k hk => hk)
    · rw [if_neg q]; exact hr
  · unfold dlyP
    by_cases q : byT n t k.2.2 = 64
    · rw [if_pos q]; exact le_rng ht (step q (by omega))
    · rw [if_neg q]; exact hk
  · show (opnP n t v.2).2 ≤ n
    unfold opnP
    by_cases q : byT n t v.2 = 120
    · rw [if_pos q]; exact step q (by omega)
    · rw [if_neg q]; exact hv
theorem bok_le {n : Nat} {t : Nat → Int} (ht : okt n t) : ∀ (k cnt p : Nat) {q : Nat}, p ≤ n → bokP n t k cnt p = .inl q → q ≤ n := by
  intro k
  induction k with
  | zero => intro cnt p q hp h; cases h; exact hp
  | succ k ih =>
    intro cnt p q hp h
    rw [bok_tai] at h
    by_cases z : 30 ≤ cnt
    · rw [if_pos z] at h; cases h; exact hp
    · rw [if_neg z] at h
      have lg := le_gat ht hp
      cases hg : gatP n t p with
      | inl q2 =>
        rw [hg] at h lg
        have h : (Sum.inl q2 : Sum Nat (List (Nat → Int))) = Sum.inl q := h
        cases h
        exact lg
      | inr r =>
        rw [hg] at h lg
        have lg : r.2 ≤ n := lg
        have h : bnd (taiP n t k (cnt + 1) r.2) (fun L => .inr (r.1 :: L)) = .inl q := h
        unfold taiP at h
        by_cases z2 : byT n t r.2 = 59
        · rw [if_pos z2] at h
          have := (by_rng ht r.2).2.2 (by omega)
          cases hb : bokP n t k (cnt + 1) (r.2 + 1) with
          | inl q3 =>
            rw [hb] at h
            have h : (Sum.inl q3 : Sum Nat (List (Nat → Int))) = Sum.inl q := h
            cases h
            exact ih _ _ (by omega) hb
          | inr L => rw [hb] at h; cases h
        · rw [if_neg z2] at h
          by_cases z3 : r.2 < n
          · rw [if_pos z3] at h
            have h : (Sum.inl r.2 : Sum Nat (List (Nat → Int))) = Sum.inl q := h
            cases h
            exact lg
          · rw [if_neg z3] at h; cases h
/-- what the second reading moves -/
def OR2 (σ σ' : PS) : Prop := Off [0, 1] σ σ' ∧ ∀ i, i ≠ 30 → i ≠ 31 → i ≠ 32 → σ' 0 i = σ 0 i
theorem OR2.trans {a c e : PS} (h : OR2 a c) (g : OR2 c e) : OR2 a e := ⟨h.1.trans g.1, fun i h1 h2 h3 => (g.2 i h1 h2 h3).trans (h.2 i h1 h2 h3)⟩
theorem ON.r2 {a c : PS} (h : ON a c) : OR2 a c := ⟨h.1.mono (by simp), h.2⟩
theorem OM.r2 {a c : PS} (h : OM a c) : OR2 a c := h.on.r2
section Read6
variable {d : DS} {b : Bk} {A : List (Nat → Int)} {n p : Nat} {t : Nat → Int} {f : Int} {σ σ' : PS} {Φ : Int → PS → Prop}
theorem ext_put {k : Nat} {a c lo kc v o : Int} (h : mB k (bput (extB b A) (g6 a c lo kc v o)) σ) : mB k (extB b (A ++ [rowG a c lo kc v o])) σ := by
  have el : (A ++ [rowG a c lo kc v o]).length = A.length + 1 := by rw [List.length_append]; rfl
  obtain ⟨h1, h2, h3, h4⟩ := h
  refine ⟨?_, h2, h3, fun e he w hw => ?_⟩
  · have h1 : σ k 2 = ((bn b + A.length + 1 : Nat) : Int) := h1
    show σ k 2 = ((bn b + (A ++ [rowG a c lo kc v o]).length : Nat) : Int)
    rw [h1, el]; omega
  · have he : e < bn b + (A ++ [rowG a c lo kc v o]).length := he
    rw [el] at he
    rw [h4 e (by show e < bn b + A.length + 1; omega) w hw, ext_at he]
    show (if e = bn b + A.length then g6 a c lo kc v o w else bB (extB b A) e w) = _
    by_cases q : e = bn b + A.length
    · rw [if_pos q, if_pos q]
      rcases (show w = 0 ∨ w = 1 ∨ w = 2 ∨ w = 3 ∨ w = 4 ∨ w = 5 by omega) with z | z | z | z | z | z <;> subst z <;> rfl
    · rw [if_neg q, if_neg q]
theorem m_numI {lo hi bar v : Int} {p' : Nat} (e : rngP n t lo hi bar p = .inr (v, p')) (hS : TM n t p (-1) σ) (ht : okt n t) (h : ∀ σ' : PS, OM σ σ' → TM n t p' (-1) σ' → Φ v σ') : FX12_number lo hi bar σ Φ :=
  m_numA hS ht (fun v2 p2 σ2 e2 _ o S => by rw [e] at e2; cases e2; exact h σ2 o S) (fun _ _ _ _ e2 _ _ => by rw [e] at e2; cases e2)
theorem m_mustI {c : Int} {p' : Nat} (e : expP n t c p = .inr p') (hS : TM n t p (-1) σ) (ht : okt n t) (hc : 0 < c) (h : ∀ σ' : PS, OM σ σ' → TM n t p' (-1) σ' → Φ 0 σ') : FX12_must c σ Φ :=
  m_mustA hS ht hc (fun p2 σ2 e2 o S => by rw [e] at e2; cases e2; exact h σ2 o S) (fun _ _ _ e2 _ _ => by rw [e] at e2; cases e2)
/-- the second reading of a gate adds it -/
theorem m_gate1 {r : Nat → Int} {p' : Nat} (e : gatP n t p = .inr (r, p')) (hS : TM n t p (-1) σ) (ht : okt n t) (hM : mB 1 (extB b A) σ) (h30 : bn b + A.length < 30) (hk : σ 0 32 = (A.length : Int))
    (h : ∀ σ' : PS, OR2 σ σ' → TM n t p' (-1) σ' → mB 1 (extB b (A ++ [r])) σ' → σ' 0 32 = ((A.length + 1 : Nat) : Int) → Φ 0 σ') : FX12_readGate 1 σ Φ := by
  obtain ⟨a, p1, p2, d, p3, p4, m, p5, lo, kc, p6, v, p7, h1, h2, h3, h4, h5, h6, h7, h8, h9⟩ := gat_inv e
  subst h8
  have fin : ∀ (o : Int) (σ2 : PS), opnP n t p7 = (o, p') → OM σ σ2 → TM n t p' (-1) σ2 → LX12_readGate_150 a d lo kc v o σ2 Φ := fun o σ2 eo o2 S2 => by
    rw [eo] at h
    unfold LX12_readGate_150
    refine m_comes (hM.keep (o2.1 1 (by simp))) h30 (fun σ3 o3 h3 => ?_)
    have e32 : σ3 0 32 = (A.length : Int) := by rw [o3 0 (by simp), o2.2 32 (by omega) (by omega)]; exact hk
    rw [e32]
    refine ⟨⟨by omega, by omega⟩, fun σ4 g4 => ?_⟩
    obtain ⟨x1, x2, x3⟩ := m_more32 (S2.off o3 (by simp) (by simp)) e32 g4
    exact h σ4 ((o2.r2.trans ⟨o3.mono (by simp), fun i _ _ _ => by rw [o3 0 (by simp)]⟩).trans x1.r2) x2 ((ext_put h3).keep (x1.1 1 (by simp))) x3
  have t117 : ∀ σ2 : PS, OM σ σ2 → TM n t p7 (-1) σ2 → LX12_readGate_117 1 a d lo kc v σ2 Φ := fun σ2 o2 S2 => by
    unfold LX12_readGate_117
    refine m_takesA S2 ht (by omega) (fun σ3 e3 o3 S3 => ⟨fun z => by omega, fun _ => ⟨fun z => by omega, fun _ => ?_⟩⟩) (fun e3 => ⟨fun z => by omega, fun _ => ⟨fun _ => ?_, fun z => absurd rfl z⟩⟩)
    · have eo : opnP n t p7 = (0, p7 + 1) := by unfold opnP; rw [if_pos e3]
      rw [eo] at h9
      have h9 : p' = p7 + 1 := h9
      subst h9
      exact fin 0 σ3 eo (o2.trans o3) S3
    · have eo : opnP n t p7 = (1, p7) := by unfold opnP; rw [if_neg e3]
      rw [eo] at h9
      have h9 : p' = p7 := h9
      subst h9
      exact fin 1 σ2 eo o2 S2
  have t97 : ∀ σ2 : PS, OM σ σ2 → TM n t p6 (-1) σ2 → LX12_readGate_97 1 a d lo kc σ2 Φ := fun σ2 o2 S2 => by
    unfold LX12_readGate_97
    refine m_takesA S2 ht (by omega) (fun σ3 e3 o3 S3 => ⟨fun z => by omega, fun _ => ?_⟩) (fun e3 => ⟨fun _ => ?_, fun z => absurd rfl z⟩)
    · rcases dly_inv h7 with ⟨_, z⟩ | ⟨z, _⟩
      · exact m_numI z S3 ht (fun σ4 o4 S4 => t117 σ4 (o2.trans (o3.trans o4)) S4)
      · exact absurd e3 z
    · rcases dly_inv h7 with ⟨z, _⟩ | ⟨_, z1, z2⟩
      · exact absurd z e3
      · subst z1
        subst z2
        exact t117 σ2 o2 S2
  unfold FX12_readGate
  refine ⟨fun _ => ?_, fun c => by omega⟩
  unfold LX12_readGate_28
  refine m_numI h1 hS ht (fun σ1 o1 S1 => m_mustI h2 S1 ht (by omega) (fun σ2 o2 S2 => m_numI h3 S2 ht (fun σ3 o3 S3 => m_mustI h4 S3 ht (by omega) (fun σ4 o4 S4 => m_numI h5 S4 ht (fun σ5 o5 S5 => ?_)))))
  have o05 : OM σ σ5 := o1.trans (o2.trans (o3.trans (o4.trans o5)))
  refine m_takesA S5 ht (by omega) (fun σ6 e6 o6 S6 => ⟨fun z => by omega, fun _ => ?_⟩) (fun e6 => ⟨fun _ => ?_, fun z => absurd rfl z⟩)
  · rcases h6 with ⟨_, z1, z2⟩ | ⟨z, _⟩
    · subst z1
      exact m_numI z2 S6 ht (fun σ7 o7 S7 => t97 σ7 (o05.trans (o6.trans o7)) S7)
    · exact absurd e6 z
  · rcases h6 with ⟨z, _⟩ | ⟨_, z1, z2, z3⟩
    · exact absurd z e6
    · subst z1
      subst z2
      subst z3
      exact t97 σ5 o05 S5
theorem m_loop1 (ht : okt n t) {σ0 : PS} {L : List (Nat → Int)} (hL : bn b + L.length ≤ 30) (h : ∀ (p' : Nat) (σ' : PS), OR2 σ0 σ' → TM n t p' (-1) σ' → mB 1 (extB b L) σ' → σ' 0 32 = (L.length : Int) → Φ 0 σ') :
    ∀ (f k : Nat) (A L2 : List (Nat → Int)) (p : Nat) (σ : PS), 31 - A.length < f → 31 ≤ k + (bn b + A.length) → A ++ L2 = L → OR2 σ0 σ → TM n t p (-1) σ → mB 1 (extB b A) σ → σ 0 32 = (A.length : Int) → taiP n t k (bn b + A.length) p = .inr L2 → LX12_readBook_14 f 1 σ Φ := by
  intro f
  induction f with
  | zero => intro k A L2 p σ h; omega
  | succ f ih =>
    intro k A L2 p σ hf hk hAL ho hS hM hC hK
    have hA : A.length + L2.length = L.length := by rw [← hAL, List.length_append]
    obtain ⟨k, rfl⟩ : ∃ j, k = j + 1 := ⟨k - 1, by omega⟩
    unfold LX12_readBook_14 BX12_readBook_14
    unfold taiP at hK
    refine m_takesA hS ht (by omega) (fun σ' e o' S' => ⟨fun z => by omega, fun _ => ?_⟩) (fun e => ⟨fun _ => ?_, fun z => absurd rfl z⟩)
    · rw [if_pos e, bok_tai] at hK
      by_cases q : 30 ≤ bn b + A.length
      · rw [if_pos q] at hK; cases hK
      · rw [if_neg q] at hK
        obtain ⟨r, e1, e2⟩ := bnd_inv hK
        obtain ⟨L3, e3, e4⟩ := bnd_inv e2
        have e5 := Sum.inr.inj e4
        have el : (A ++ [r.1]).length = A.length + 1 := by rw [List.length_append]; rfl
        refine m_gate1 (p' := r.2) (r := r.1) e1 S' ht (hM.keep (o'.1 1 (by simp))) (by omega) (by rw [o'.2 32 (by omega) (by omega)]; exact hC) (fun σ2 o2 S2 M2 c2 => ?_)
        refine ih k (A ++ [r.1]) L3 r.2 σ2 (by omega) (by omega) ?_ (ho.trans (o'.r2.trans o2)) S2 M2 (by rw [el]; exact c2) ?_
        · rw [List.append_assoc, ← hAL, ← e5]; rfl
        · rw [el]; exact e3
    · rw [if_neg e] at hK
      rw [hS.1, hS.2.2.1]
      by_cases q : p < n
      · rw [if_pos q] at hK; cases hK
      · rw [if_neg q] at hK
        have e5 := Sum.inr.inj hK
        rw [← e5, List.append_nil] at hAL
        subst hAL
        exact ⟨fun _ => h p σ ho hS hM hC, fun c => by omega⟩
theorem m_book1 (ht : okt n t) {L : List (Nat → Int)} (hK : bokP n t 31 (bn b) 0 = .inr L) (hM : mB 1 b σ) (hS : σ 0 29 = (n : Int) ∧ ∀ i, i < n → σ 23 i = t i) (h : ∀ (p' : Nat) (σ' : PS), OR2 σ σ' → TM n t p' (-1) σ' → mB 1 (extB b L) σ' → σ' 0 32 = (L.length : Int) → Φ 0 σ') : FX12_readBook 1 σ Φ := by
  have hL := (bok_ok _ _ _ _ hK).1
  unfold FX12_readBook
  refine m_begins hS (fun σ3 o3 S3 c3 => ?_)
  have hK2 := hK
  rw [show (31 : Nat) = 30 + 1 from rfl, bok_tai] at hK2
  by_cases q : 30 ≤ bn b
  · rw [if_pos q] at hK2; cases hK2
  · rw [if_neg q] at hK2
    obtain ⟨r, e1, e2⟩ := bnd_inv hK2
    obtain ⟨L3, e3, e4⟩ := bnd_inv e2
    have e5 := Sum.inr.inj e4
    have hM0 : mB 1 (extB b []) σ3 := by
      have hM3 : mB 1 b σ3 := hM.keep (o3.1 1 (by simp))
      refine ⟨hM3.1, hM3.2.1, hM3.2.2.1, fun e he w hw => ?_⟩
      have he : e < bn b := he
      show _ = if e < bn b then bB b e w else _
      rw [if_pos he]
      exact hM3.2.2.2 e he w hw
    refine m_gate1 (p' := r.2) (r := r.1) (b := b) (A := []) e1 S3 ht hM0 (by show bn b < 30; omega) c3 (fun σ2 o2 S2 M2 c2 => ⟨40, ?_⟩)
    exact m_loop1 (b := b) ht (σ0 := σ) hL h 40 30 [r.1] L3 r.2 σ2 (by show 31 - 1 < 40; omega) (by show 31 ≤ 30 + (bn b + 1); omega) e5 (o3.r2.trans o2) S2 M2 c2 e3
theorem MR.read {b' : Bk} (h : MR d σ) (ho : Off [0, 1] σ σ') (hi : ∀ i, i ≠ 29 → i ≠ 30 → i ≠ 31 → i ≠ 32 → σ' 0 i = σ 0 i) (hb : mB 1 b' σ') (h29 : σ' 0 29 = 0) : MR (b', dI d, (0, dTb d), d.2.2.2) σ' := by
  obtain ⟨h1, h2, h3, h4, h5⟩ := h
  refine ⟨hb, h2.keep (hi 2 (by omega) (by omega) (by omega) (by omega)) (ho 2 (by simp)), ⟨h29, fun i hi => absurd hi (by show ¬ i < 0; omega)⟩, ?_, ?_⟩
  · rw [hi 36 (by omega) (by omega) (by omega) (by omega), ho 24 (by simp)]; exact h4
  · rw [ho 25 (by simp), ho 26 (by simp)]; exact h5
theorem CR.read {b' : Bk} (h : CR d σ) (ho : Off [0, 1, 9, 13, 14, 15, 16, 17, 18] σ σ') (h0 : σ' 0 2 = σ 0 2) (hb : cB 1 13 b' σ') (h91 : σ' 9 1 = 0) (hc : CCa b' σ') : CR (b', dI d, (0, dTb d), d.2.2.2) σ' := by
  obtain ⟨h1, h2, h3, h4, h5, h6⟩ := h
  refine ⟨hb, h2.off ho h0 (by simp), ⟨h91, fun i hi => absurd hi (by show ¬ i < 0; omega)⟩, ?_, ?_, hc⟩
  · rw [ho 11 (by simp), ho 61 (by simp)]; exact h4
  · rw [ho 62 (by simp), ho 63 (by simp)]; exact h5
theorem m_readX (hd : okD d) (hM : MR d σ) (h1 : ∀ (L : List (Nat → Int)) (σ' : PS), bokP (dTn d) (dTb d) 31 (bn (dB d)) 0 = .inr L → MR (extB (dB d) L, dI d, (0, dTb d), d.2.2.2) σ' → Φ (L.length : Int) σ') (h0 : ∀ (q : Nat) (σ' : PS), q ≤ 90 → bokP (dTn d) (dTb d) 31 (bn (dB d)) 0 = .inl q → MR (dB d, dI d, (0, dTb d), d.2.2.2) σ' → Φ ((-100) - (q : Int)) σ') (hq : ∀ q, bokP (dTn d) (dTb d) 31 (bn (dB d)) 0 = .inl q → q ≤ 90) : FX12_read σ Φ := by
  unfold FX12_read
  refine m_book0 (b := dB d) hd.2.2.1 hM.1.1 hd.1.1 hM.2.2.1 (fun L p' σ2 e o2 S2 c2 => ?_) (fun q p' σ2 e o2 S2 => ?_)
  · rw [S2.2.2.2.1]
    refine ⟨fun c => by omega, fun _ => ?_⟩
    unfold LX12_read_17
    refine ⟨fun c => by omega, fun _ => ?_⟩
    refine m_book1 (b := dB d) hd.2.2.1 e (hM.1.keep (o2.1 1 (by simp))) ?_ (fun p3 σ3 o3 S3 M3 c3 => ?_)
    · rw [o2.2 29 (by omega) (by omega) (by omega), o2.1 23 (by simp)]
      exact hM.2.2.1
    · unfold LX12_read_27
      intro σ4 g4
      refine ⟨fun c => by omega, fun _ => ?_⟩
      have e4 : σ4 0 32 = (L.length : Int) := by rw [g4, up2_ni (by omega)]; exact c3
      rw [e4]
      refine h1 L σ4 e (hM.read ?_ (fun i x y z w => ?_) (M3.keep (by rw [g4]; exact up2_row (by omega))) (by rw [g4, up2_at]))
      · rw [g4]
        exact ((o2.r2.trans o3).1).trans (Off.rf.up (by simp))
      · rw [g4, up2_ni x]
        exact (o2.r2.trans o3).2 i y z w
  · rw [S2.2.2.2.1]
    refine ⟨fun _ => ?_, fun c => by omega⟩
    unfold LX12_read_17
    refine ⟨fun _ => ?_, fun c => absurd rfl c⟩
    unfold LX12_read_27
    intro σ4 g4
    have e4 : σ4 0 31 = (q : Int) := by rw [g4, up2_ni (by omega)]; exact S2.2.2.2.1
    have := hq q e
    rw [e4]
    refine ⟨fun _ => ⟨⟨by omega, by omega⟩, h0 q σ4 this e (hM.read ?_ (fun i x y z w => ?_) (hM.1.keep ?_) (by rw [g4, up2_at]))⟩, fun c => absurd rfl c⟩
    · rw [g4]
      exact (o2.r2.1).trans (Off.rf.up (by simp))
    · rw [g4, up2_ni x]
      exact o2.2 i y z w
    · rw [g4, up2_row (by omega), o2.1 1 (by simp)]
theorem p_read : PT FX11_read FX12_read := by
  intro d σc σm hd hC hM
  have hn := hd.1.1
  unfold FX11_read
  intro v1 g1
  rw [hC.1.1] at g1
  unfold FX9_begin
  intro σ2 g2 σ3 g3
  have o3 : Off [9] σc σ3 := by rw [g3, g2]; exact (Off.rf.up (by simp)).up (by simp)
  have S3 : TC (dTn d) (dTb d) 0 (-1) σ3 := by
    refine ⟨?_, fun i hi => ?_, ?_, ?_, by omega⟩
    · rw [g3, up2_ni (by omega), g2, up2_ni (by omega)]; exact hC.2.2.1.1
    · rw [g3, up2_nk (by omega), g2, up2_nk (by omega)]; exact hC.2.2.1.2 i hi
    · rw [g3, up2_ni (by omega), g2, up2_at]; rfl
    · rw [g3, up2_at]
  have hB3 : cB 1 13 (extB (dB d) []) σ3 := by
    have h3 : cB 1 13 (dB d) σ3 := hC.1.off o3 (by simp) (fun w hw => by simp; omega)
    refine ⟨h3.1, h3.2.1, h3.2.2.1, fun e he w hw => ?_⟩
    have he : e < bn (dB d) := he
    show _ = if e < bn (dB d) then bB (dB d) e w else _
    rw [if_pos he]
    exact h3.2.2.2 e he w hw
  unfold FX11_readBook
  have eK : bokP (dTn d) (dTb d) 31 (bn (dB d)) 0 = bnd (bokP (dTn d) (dTb d) 31 (bn (dB d) + ([] : List (Nat → Int)).length) 0) (fun L => .inr ([] ++ L)) := by
    show _ = bnd (bokP (dTn d) (dTb d) 31 (bn (dB d)) 0) (fun L => .inr L)
    cases bokP (dTn d) (dTb d) 31 (bn (dB d)) 0 <;> rfl
  refine ⟨40, c_readBook (b := dB d) hd.2.2.1 (σ0 := σ3) (fun L p' σ5 e h30 o5 S5 B5 => ?_) (fun q p' A' σ5 e o5 S5 B5 => ?_) 40 31 [] 0 σ3 (by show 31 - 0 < 40; omega) hn (by omega) Off.rf S3 hB3 eK⟩
  · intro σ6 g6'
    have e6 : σ6 9 3 = -1 := by rw [g6', up2_ni (by omega)]; exact S5.2.2.2.1
    rw [e6]
    have o6 : Off [0, 1, 9, 13, 14, 15, 16, 17, 18] σc σ6 := by
      rw [g6']
      exact ((o3.mono (by simp)).trans (o5.mono (by simp))).trans (Off.rf.up (by simp))
    have B6 : cB 1 13 (extB (dB d) L) σ6 := B5.off (show Off [9] σ5 σ6 by rw [g6']; exact Off.rf.up (by simp)) (by simp) (fun w hw => by simp; omega)
    refine ⟨fun _ => c_forget (fun σ9 o9' h2 hf => ?_), fun c => by omega⟩
    have B9 : cB 1 13 (extB (dB d) L) σ9 := B6.off o9' (by simp) (fun w hw => by simp)
    have e9 : σ9 1 6 = ((bn (dB d) + L.length : Nat) : Int) := B9.1
    have hL := bok_ok _ _ _ _ e
    rw [e9, g1]
    refine ⟨⟨by omega, by omega⟩, m_readX hd hM (fun L2 σm' e2 M2 => ?_) (fun q σm' _ e2 M2 => by rw [e] at e2; cases e2) (fun q e2 => by rw [e] at e2; cases e2)⟩
    rw [e] at e2
    have e2 := Sum.inr.inj e2
    subst e2
    refine ⟨by omega, _, ?_, hC.read (o6.trans (o9'.mono (by simp))) ?_ B9 ?_ ⟨fun c => absurd hf.1 c, fun c => absurd hf.2.1 c, fun c => absurd hf.2.2.1 c, fun c => absurd hf.2.2.2 c⟩, M2⟩
    · exact ⟨ext_ok hd.1 hL.1 hL.2, hd.2.1, ⟨by show 0 ≤ 90; omega, fun i hi => absurd hi (by show ¬ i < 0; omega)⟩, hd.2.2.2⟩
    · rw [h2, g6', up2_nk (by omega), o5 0 (by simp), o3 0 (by simp)]
    · rw [o9' 9 (by simp), g6', up2_at]
  · intro σ6 g6'
    have e6 : σ6 9 3 = (q : Int) := by rw [g6', up2_ni (by omega)]; exact S5.2.2.2.1
    rw [e6]
    refine ⟨fun c => by omega, fun _ σ11 g11 => ?_⟩
    have e11 : σ11 9 3 = (q : Int) := by rw [g11, up2_nk (by omega)]; exact e6
    rw [e11]
    have oG : Off GC σc σ11 := by
      rw [g11, g6']
      exact (((o3.mono (by simp)).trans o5).trans (Off.rf.up (by simp))).trans (Off.rf.up (by simp))
    have hq : q ≤ 90 := Nat.le_trans (bok_le hd.2.2.1 _ _ _ (by omega) e) hd.2.2.1.1
    refine ⟨⟨by omega, by omega⟩, m_readX hd hM (fun L2 σm' e2 M2 => by rw [e] at e2; cases e2) (fun q2 σm' _ e2 M2 => ?_) (fun q2 e2 => by rw [e] at e2; cases e2; exact hq)⟩
    rw [e] at e2
    have e2 := Sum.inl.inj e2
    subst e2
    refine ⟨rfl, _, ?_, hC.read (oG.mono (by simp)) (by rw [oG 0 (by simp)]) ?_ ?_ ?_, M2⟩
    · exact ⟨hd.1, hd.2.1, ⟨by show 0 ≤ 90; omega, fun i hi => absurd hi (by show ¬ i < 0; omega)⟩, hd.2.2.2⟩
    · refine ⟨by rw [g11, up2_at, g1], ?_, ?_, fun e he w hw => ?_⟩
      · rw [g11, up2_ni (by omega), g6', up2_nk (by omega)]; exact B5.2.1
      · rw [g11, up2_ni (by omega), g6', up2_nk (by omega)]; exact B5.2.2.1
      · have := B5.2.2.2 e (by show e < bn (dB d) + A'.length; omega) w hw
        rw [g11, up2_nk (by omega), g6', up2_nk (by omega), this]
        show (if e < bn (dB d) then bB (dB d) e w else _) = _
        rw [if_pos he]
    · rw [g11, up2_nk (by omega), g6', up2_at]
    · exact hC.2.2.2.2.2.off oG (fun i _ => by rw [oG 0 (by simp)]) (by simp)
end Read6
