/-! a push -/
def psX (x : Nat → Int) (c : Nat) (a : Int) : Nat → Int := fun e => if e = gof c then (if c < 100 then x e + a else x e - a) else x e
def psE (T : NT) (ex : Nat → Int) (c : Nat) (a : Int) : Nat → Int := fun u => if u = enT T c then ex u + a else if u = vfr T c then ex u - a else ex u
noncomputable def psW (T : NT) (W : List Nat) (w : Nat) : List Nat := @ite _ (w = ts T ∨ w = tz T ∨ w ∈ W) (Classical.propDecidable _) W (W ++ [w])
/-- the reference's heights: numbers, heights, excess, lifted, served, those that wait, pushes -/
def HM (T : NT) (x hh ex li sv : Nat → Int) (W : List Nat) (pu : Int) (σ : PS) : Prop := MN T σ ∧ MX T x σ ∧ (∀ v, v < 12 → σ 10 v = hh v ∧ σ 11 v = ex v ∧ σ 12 v = li v ∧ σ 13 v = sv v) ∧ (σ 0 16 = (W.length : Int) ∧ ∀ i, i < W.length → σ 14 i = (W.getD i 0 : Nat)) ∧ σ 0 17 = pu
def HO (σ σ' : PS) : Prop := Off [0, 4, 10, 11, 12, 13, 14] σ σ' ∧ ∀ i, i ≠ 16 → i ≠ 17 → σ' 0 i = σ 0 i
theorem HO.trans {a b c : PS} (h : HO a b) (g : HO b c) : HO a c := ⟨h.1.trans g.1, fun i h1 h2 => (g.2 i h1 h2).trans (h.2 i h1 h2)⟩
section HPush
variable {T : NT} {σ : PS} {x hh ex li sv : Nat → Int} {W : List Nat} {pu : Int} {Φ : Int → PS → Prop}
theorem getD_appN {P Q : List Nat} {i : Nat} : (P ++ Q).getD i 0 = if i < P.length then P.getD i 0 else Q.getD (i - P.length) 0 := by
  by_cases h : i < P.length
  · rw [if_pos h, List.getD_eq_getElem?_getD, List.getElem?_append_left h, ← List.getD_eq_getElem?_getD]
  · rw [if_neg h, List.getD_eq_getElem?_getD, List.getElem?_append_right (by omega), ← List.getD_eq_getElem?_getD]
theorem mem_getD {w : Nat} : w ∈ W ↔ ∃ i, i < W.length ∧ W.getD i 0 = w := by
  rw [List.mem_iff_getElem]
  constructor
  · rintro ⟨i, hi, h⟩
    exact ⟨i, hi, by rw [List.getD_eq_getElem?_getD, List.getElem?_eq_getElem hi]; exact h⟩
  · rintro ⟨i, hi, h⟩
    refine ⟨i, hi, ?_⟩
    rw [List.getD_eq_getElem?_getD, List.getElem?_eq_getElem hi] at h
    exact h
/-- the end of pushes: whether it waits -/
theorem m_wait {w : Nat} {s0 : Int} (hW : σ 0 16 = (W.length : Int) ∧ ∀ i, i < W.length → σ 14 i = (W.getD i 0 : Nat)) (h01 : s0 = 0 ∨ s0 = 1) (hroom : s0 = 0 → w ∉ W → W.length < 12) (hlen : W.length ≤ 12) (h1 : (s0 = 1 ∨ w ∈ W) → Φ 0 σ) (h0 : s0 = 0 → w ∉ W → Φ 0 (up2 (up2 σ 14 W.length w) 0 16 (W.length + 1 : Int))) : LX12_pushes_89 w s0 σ Φ := by
  refine ⟨W.length + 1, ?_⟩
  have loop : ∀ (f i : Nat) (z : Int), i ≤ W.length → W.length - i < f → ((z = 1 ∧ (s0 = 1 ∨ w ∈ W)) ∨ (z = 0 ∧ s0 = 0 ∧ ∀ j, j < i → W.getD j 0 ≠ w)) → LX12_pushes_94 f w z i σ Φ := by
    intro f
    induction f with
    | zero => intro i z a1 a2; omega
    | succ f ih =>
      intro i z hi hf hz
      unfold LX12_pushes_94 BX12_pushes_94
      rw [hW.1]
      refine ⟨fun c => ⟨fun c2 => ?_, fun c2 => ?_⟩, fun c => ⟨⟨by omega, by omega⟩, ?_⟩⟩
      · rcases hz with ⟨z1, z2⟩ | ⟨z1, z2⟩
        · exact h1 z2
        · exact absurd z1 c2
      · rcases hz with ⟨z1, z2⟩ | ⟨z1, z2, z3⟩
        · omega
        · have hno : w ∉ W := fun q => by
            obtain ⟨j, j1, j2⟩ := mem_getD.mp q
            exact z3 j (by omega) j2
          have hl := hroom z2 hno
          refine ⟨⟨by omega, by omega⟩, fun σ4 g4 => ?_⟩
          have e4 : σ4 0 16 = (W.length : Int) := by rw [g4, up2_nk (by omega)]; exact hW.1
          rw [e4]
          refine ⟨⟨by omega, by omega⟩, fun σ6 g6 => ?_⟩
          rw [g6, g4, show ((W.length : Nat) : Int).toNat = W.length by omega]
          exact h0 z2 hno
      · have hi2 : i < W.length := by omega
        rw [show ((i : Nat) : Int).toNat = i by omega, hW.2 i hi2]
        refine ⟨fun c2 v1 g1 => ⟨⟨by omega, by omega⟩, ?_⟩, fun c2 v1 g1 => ⟨⟨by omega, by omega⟩, ?_⟩⟩
        · have e : v1 = z := by
            rw [g1]
            exact ior_0 (by rcases hz with z1 | z1 <;> constructor <;> omega)
          rw [e]
          refine ih (i + 1) z (by omega) (by omega) ?_
          rcases hz with z1 | ⟨z1, z2, z3⟩
          · exact Or.inl z1
          · refine Or.inr ⟨z1, z2, fun j hj => ?_⟩
            by_cases q : j = i
            · rw [q]; intro y; exact c2 (by rw [y])
            · exact z3 j (by omega)
        · have e : v1 = 1 := by
            rw [g1]
            rcases hz with z1 | z1 <;> rw [z1.1] <;> decide +kernel
          rw [e]
          exact ih (i + 1) 1 (by omega) (by omega) (Or.inl ⟨rfl, Or.inr (mem_getD.mpr ⟨i, hi2, by omega⟩)⟩)
  refine loop (W.length + 1) 0 s0 (by omega) (by omega) ?_
  rcases h01 with q | q
  · exact Or.inr ⟨q, q, fun j hj => by omega⟩
  · exact Or.inl ⟨q, Or.inl q⟩
end HPush
