section Read3
variable {b : Bk} {A : List (Nat → Int)} {n p : Nat} {t : Nat → Int} {f : Int} {σ : PS} {Φ : Int → PS → Prop}
theorem c_readBook (ht : okt n t) {σ0 : PS} {K : Sum Nat (List (Nat → Int))} (h1 : ∀ (L : List (Nat → Int)) (p' : Nat) (σ' : PS), K = .inr L → bn b + L.length ≤ 30 → Off GC σ0 σ' → TC n t p' (-1) σ' → cB 1 13 (extB b L) σ' → Φ 0 σ') (h0 : ∀ (q p' : Nat) (A' : List (Nat → Int)) (σ' : PS), K = .inl q → Off GC σ0 σ' → TC n t p' q σ' → cB 1 13 (extB b A') σ' → Φ 0 σ') :
    ∀ (f k : Nat) (A : List (Nat → Int)) (p : Nat) (σ : PS), 31 - A.length < f → bn b + A.length ≤ 30 → 31 ≤ k + (bn b + A.length) → Off GC σ0 σ → TC n t p (-1) σ → cB 1 13 (extB b A) σ → K = bnd (bokP n t k (bn b + A.length) p) (fun L => .inr (A ++ L)) → LX11_readBook_2 f A.length σ Φ := by
  intro f
  induction f with
  | zero => intro k A p σ h; omega
  | succ f ih =>
    intro k A p σ hf h30 hk ho hS hC hK
    obtain ⟨k, rfl⟩ : ∃ j, k = j + 1 := ⟨k - 1, by omega⟩
    rw [bokP] at hK
    have endF : ∀ (q p' : Nat) (σ' : PS), K = .inl q → Off GC σ0 σ' → TC n t p' q σ' → cB 1 13 (extB b A) σ' → LX11_readBook_38 σ' Φ := fun q p' σ' e o' h' hc => by
      unfold LX11_readBook_38
      exact ⟨fun _ => h0 q p' A σ' e o' h' hc, fun _ => c_failB h' (h0 q p' A σ' e o' h' hc)⟩
    unfold LX11_readBook_2 BX11_readBook_2
    refine ⟨fun c => by omega, fun _ => ?_⟩
    refine c_readGate hS ht hC h30 (fun r p' σ' hlt e o' h' hc => ?_) (fun q p' σ' e o' h' hc => ?_)
    · rw [if_neg (by omega), e] at hK
      have hK : K = bnd (if byT n t p' = 59 then bnd (bokP n t k (bn b + A.length + 1) (p' + 1)) (fun L => .inr (r :: L)) else if p' < n then .inl p' else .inr [r]) (fun L => .inr (A ++ L)) := hK
      have o1 : Off GC σ0 σ' := ho.trans o'
      rw [h'.2.2.2.1]
      refine ⟨fun c => by omega, fun _ => c_takes h' ht (by omega) (fun σ2 e2 o2 h2 => ⟨fun _ => ⟨⟨by omega, by omega⟩, ?_⟩, fun z => by omega⟩) (fun e2 => ⟨fun z => absurd rfl z, fun _ => ?_⟩)⟩
      · rw [if_pos e2] at hK
        have el : (A ++ [r]).length = A.length + 1 := by rw [List.length_append]; rfl
        have := ih k (A ++ [r]) (p' + 1) σ2 (by omega) (by omega) (by omega) (o1.trans (o9 o2)) h2 (cX9 hc o2) (by
          rw [hK, el, show bn b + (A.length + 1) = bn b + A.length + 1 by omega]
          cases bokP n t k (bn b + A.length + 1) (p' + 1) with
          | inl q => rfl
          | inr L => show Sum.inr (A ++ (r :: L)) = Sum.inr ((A ++ [r]) ++ L); rw [List.append_assoc]; rfl)
        rw [el] at this
        rw [show ((A.length : Nat) : Int) + 1 = ((A.length + 1 : Nat) : Int) by omega]
        exact this
      · rw [if_neg e2] at hK
        unfold LX11_readBook_38
        rw [h'.1, h'.2.2.1]
        refine ⟨fun c => ?_, fun c => ?_⟩
        · rw [if_neg (by omega)] at hK
          exact h1 (A ++ [r]) p' σ' hK (by rw [List.length_append]; show bn b + (A.length + 1) ≤ 30; omega) o1 h' hc
        · rw [if_pos (by omega)] at hK
          exact c_fail h' (fun z => by omega) (fun _ σ2 o2 h2 => h0 p' p' (A ++ [r]) σ2 hK (o1.trans (o9 o2)) h2 (cX9 hc o2))
    · have hK2 : K = .inl q := by
        rcases e with ⟨e1, e2⟩ | ⟨e1, e2⟩
        · rw [if_pos e1] at hK
          rw [hK, e2]; rfl
        · rw [if_neg (by omega), e2] at hK
          rw [hK]; rfl
      rw [h'.2.2.2.1]
      exact ⟨fun _ => endF q p' σ' hK2 (ho.trans o') h' hc, fun c => by omega⟩
/-! the reference -/
theorem TM.off {σ' : PS} {ks : List Nat} (h : TM n t p f σ) (ho : Off ks σ σ') (h1 : 0 ∉ ks) (h2 : 23 ∉ ks) : TM n t p f σ' := by
  unfold TM
  rw [ho 0 h1, ho 23 h2]
  exact h
/-- only the reader's place and fault move -/
def OM (σ σ' : PS) : Prop := Off [0] σ σ' ∧ ∀ i, i ≠ 30 → i ≠ 31 → σ' 0 i = σ 0 i
theorem OM.rf : OM σ σ := ⟨Off.rf, fun _ _ _ => rfl⟩
theorem OM.trans {a c e : PS} (h : OM a c) (g : OM c e) : OM a e := ⟨h.1.trans g.1, fun i h1 h2 => (g.2 i h1 h2).trans (h.2 i h1 h2)⟩
theorem m_here (hS : TM n t p f σ) (hn : n ≤ 90) (h1 : p < n → Φ (t p) σ) (h0 : ¬ p < n → Φ (-1) σ) : FX12_here σ Φ := by
  unfold FX12_here
  rw [hS.1, hS.2.2.1]
  refine ⟨fun c => h0 (by omega), fun c => ⟨⟨by omega, by omega⟩, ?_⟩⟩
  rw [show ((p : Nat) : Int).toNat = p by omega, hS.2.1 p (by omega)]
  exact h1 (by omega)
theorem m_wrong {x : Int} (hS : TM n t p f σ) (h1 : 0 ≤ f → ∀ σ' : PS, OM σ σ' → TM n t p f σ' → Φ 0 σ') (h0 : ¬ 0 ≤ f → ∀ σ' : PS, OM σ σ' → TM n t p x σ' → Φ 0 σ') : FX12_wrong x σ Φ := by
  unfold FX12_wrong
  have go : ∀ (v : Int) (σ' : PS), σ' = up2 σ 0 31 v → OM σ σ' ∧ TM n t p v σ' := fun v σ' g => by
    refine ⟨⟨by rw [g]; exact Off.rf.up (by simp), fun i _ h31 => by rw [g, up2_ni h31]⟩, ?_, fun i hi => ?_, ?_, ?_, hS.2.2.2.2⟩
    · rw [g, up2_ni (by omega)]; exact hS.1
    · rw [g, up2_nk (by omega)]; exact hS.2.1 i hi
    · rw [g, up2_ni (by omega)]; exact hS.2.2.1
    · rw [g, up2_at]
  rw [hS.2.2.2.1]
  refine ⟨fun c σ2 g2 => ?_, fun c σ2 g2 => ?_⟩
  · obtain ⟨a, b⟩ := go _ σ2 g2
    exact h1 c σ2 a b
  · obtain ⟨a, b⟩ := go _ σ2 g2
    exact h0 c σ2 a b
theorem m_wrongB {x : Int} {q : Nat} (hS : TM n t p q σ) (h : ∀ σ' : PS, OM σ σ' → TM n t p q σ' → Φ 0 σ') : FX12_wrong x σ Φ := m_wrong hS (fun _ => h) (fun c => absurd (by omega) c)
theorem m_up30 {σ' : PS} {p' : Nat} (hS : TM n t p f σ) (hp : p' ≤ n) (g : σ' = up2 σ 0 30 (p' : Int)) : OM σ σ' ∧ TM n t p' f σ' := by
  refine ⟨⟨by rw [g]; exact Off.rf.up (by simp), fun i h30 _ => by rw [g, up2_ni h30]⟩, ?_, fun i hi => ?_, ?_, ?_, hp⟩
  · rw [g, up2_ni (by omega)]; exact hS.1
  · rw [g, up2_nk (by omega)]; exact hS.2.1 i hi
  · rw [g, up2_at]
  · rw [g, up2_ni (by omega)]; exact hS.2.2.2.1
theorem m_takesA {c : Int} (hS : TM n t p (-1) σ) (ht : okt n t) (hc : 0 < c) (h1 : ∀ σ' : PS, byT n t p = c → OM σ σ' → TM n t (p + 1) (-1) σ' → Φ 1 σ') (h0 : byT n t p ≠ c → Φ 0 σ) : FX12_takes_ c σ Φ := by
  have hn := ht.1
  unfold FX12_takes_
  rw [hS.2.2.2.1]
  refine ⟨fun z => by omega, fun _ => m_here hS hn (fun hp => ?_) (fun hp => ?_)⟩
  · have e : byT n t p = t p := by unfold byT; rw [if_pos hp]
    rw [hS.2.2.1]
    refine ⟨fun z => ⟨⟨by omega, by omega⟩, fun σ5 g5 => ?_⟩, fun z => h0 (by rw [e]; exact z)⟩
    obtain ⟨a, b⟩ := m_up30 (p' := p + 1) hS (by omega) g5
    exact h1 σ5 (by rw [e]; exact z) a b
  · have e : byT n t p = 0 := by unfold byT; rw [if_neg hp]
    exact ⟨fun z => by omega, fun z => h0 (by omega)⟩
theorem m_takesB {c : Int} {q : Nat} (hS : TM n t p q σ) (h : Φ 0 σ) : FX12_takes_ c σ Φ := by
  unfold FX12_takes_
  rw [hS.2.2.2.1]
  exact ⟨fun _ => h, fun z => absurd (by omega) z⟩
end Read3
