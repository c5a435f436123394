/-! lay -/
def layV (nu li : Nat → Int) (B g : Nat) : Nat → Int := fun p => if B ≤ p ∧ p < B + g then nu (p - B) else li p
section Lay
variable {d : DS} {σ : PS} {Φ : Int → PS → Prop}
theorem c_lay_l {l k : Nat} {i : Int} (hd : okD d) (hC : CR d σ) (hl : l < 4) (hi : Rg i) (hk : k = 25 ∨ k = 32) (hK : ∀ (σ' : PS) (g : Nat) (r : Int), Off [62] σ σ' → (∀ p, σ' 62 p = layV (σ k) (σ 62) (40 * l + i.toNat) g p) → (g = 0 ∨ (0 ≤ i ∧ i + g ≤ dLn d l)) → ((g = bn (dB d) ∧ r = bn (dB d)) ∨ (g < bn (dB d) ∧ r = -13 ∧ ¬ (0 ≤ i ∧ i + g < dLn d l))) → Φ r σ') : ∀ (f g : Nat) (σ1 : PS), g ≤ bn (dB d) → bn (dB d) - g < f → Off [62] σ σ1 → (∀ p, σ1 62 p = layV (σ k) (σ 62) (40 * l + i.toNat) g p) → (g = 0 ∨ (0 ≤ i ∧ i + g ≤ dLn d l)) → LX11_lay_56 f l i k g σ1 Φ := by
  intro f
  induction f with
  | zero => intro g σ1 h1 h2; omega
  | succ f ih =>
    intro g σ1 hg hf ho hv hgi
    have hn := hd.1.1
    have b4 := hd.2.2.2.2 l hl
    unfold LX11_lay_56 BX11_lay_56
    rw [ho 1 (by simp), hC.1.1]
    have ew : iwrap (i + (g : Int)) = i + g := iwrap_id (by omega)
    rw [ew]
    have e63 : σ1 63 l = dLn d l := by rw [ho 63 (by simp)]; exact (hC.2.2.2.2.1 l hl).1
    refine ⟨fun c => hK σ1 g _ ho hv hgi (Or.inl ⟨by omega, rfl⟩), fun c => ?_⟩
    refine c_hasPlace hl e63 (fun x y => ⟨fun _ => ?_, fun c2 => by omega⟩) (fun hno => ⟨fun c2 => absurd rfl c2, fun _ => hK σ1 g _ ho hv hgi (Or.inr ⟨by omega, rfl, fun z => hno ⟨by omega, z.2⟩⟩)⟩)
    refine ⟨by omega, ⟨by omega, by omega⟩, ?_⟩
    unfold FX4_put
    refine c_hasPlace hl e63 (fun _ _ => ⟨fun c2 => by omega, fun _ => ⟨⟨by omega, by omega⟩, ⟨by omega, by omega⟩, ⟨by omega, by omega⟩, fun σ7 g7 => ⟨⟨by omega, by omega⟩, ?_⟩⟩⟩) (fun hno => absurd ⟨x, y⟩ hno)
    have hi0 : 0 ≤ i := by omega
    have ep : ((l : Int) * 40 + (i + (g : Int))).toNat = 40 * l + i.toNat + g := by omega
    rw [ep, show ((k : Nat) : Int).toNat = k by omega, show ((g : Nat) : Int).toNat = g by omega, ho k (by rcases hk with z | z <;> rw [z] <;> simp)] at g7
    refine ih (g + 1) σ7 (by omega) (by omega) (by rw [g7]; exact ho.up (by simp)) (fun p => ?_) (Or.inr ⟨hi0, by omega⟩)
    rw [g7, up2_if, hv p]
    unfold layV
    by_cases q : p = 40 * l + i.toNat + g
    · rw [if_pos q, if_pos ⟨by omega, by omega⟩, q, show 40 * l + i.toNat + g - (40 * l + i.toNat) = g by omega]
    · rw [if_neg q]
      by_cases q2 : 40 * l + i.toNat ≤ p ∧ p < 40 * l + i.toNat + g
      · rw [if_pos q2, if_pos ⟨by omega, by omega⟩]
      · rw [if_neg q2, if_neg (by omega)]
theorem m_lay_l {l : Nat} {i : Int} {nu : Nat → Int} (hd : okD d) (hM : MR d σ) (hl : l < 4) (hi : Rg i) (hi0 : 0 ≤ i) (hz : 0 ≤ dLn d l) (h4 : ∀ e, e < bn (dB d) → σ 4 e = nu e) (hK : ∀ (σ' : PS) (g : Nat) (r : Int), Off [26] σ σ' → (∀ p, σ' 26 p = layV nu (σ 26) (40 * l + i.toNat) g p) → (g = 0 ∨ (0 ≤ i ∧ i + g ≤ dLn d l)) → ((g = bn (dB d) ∧ r = bn (dB d)) ∨ (g < bn (dB d) ∧ r = -13 ∧ ¬ (0 ≤ i ∧ i + g < dLn d l))) → Φ r σ') : ∀ (f g : Nat) (σ1 : PS), g ≤ bn (dB d) → bn (dB d) - g < f → Off [26] σ σ1 → (∀ p, σ1 26 p = layV nu (σ 26) (40 * l + i.toNat) g p) → (g = 0 ∨ (0 ≤ i ∧ i + g ≤ dLn d l)) → LX12_lay_69 f l i g σ1 Φ := by
  intro f
  induction f with
  | zero => intro g σ1 h1 h2; omega
  | succ f ih =>
    intro g σ1 hg hf ho hv hgi
    have hn := hd.1.1
    have b4 := hd.2.2.2.2 l hl
    unfold LX12_lay_69 BX12_lay_69 LX12_lay_120
    rw [ho 1 (by simp), hM.1.1, ho 25 (by simp), show ((l : Nat) : Int).toNat = l by omega, (hM.2.2.2.2 l hl).1]
    refine ⟨fun c => ⟨fun _ => hK σ1 g _ ho hv hgi (Or.inl ⟨by omega, by omega⟩), fun c2 => by omega⟩, fun c => ⟨⟨by omega, by omega⟩, ⟨by omega, by omega⟩, fun c2 => ⟨fun c3 => by omega, fun _ => hK σ1 g _ ho hv hgi (Or.inr ⟨by omega, rfl, by omega⟩)⟩, fun c2 => ?_⟩⟩
    refine ⟨⟨by omega, by omega⟩, ⟨by omega, by omega⟩, ⟨by omega, by omega⟩, ⟨by omega, by omega⟩, ⟨by omega, by omega⟩, fun σ7 g7 => ⟨⟨by omega, by omega⟩, ?_⟩⟩
    have ep : (40 * (l : Int) + i + (g : Int)).toNat = 40 * l + i.toNat + g := by omega
    rw [ep, show ((g : Nat) : Int).toNat = g by omega, ho 4 (by simp), h4 g (by omega)] at g7
    refine ih (g + 1) σ7 (by omega) (by omega) (by rw [g7]; exact ho.up (by simp)) (fun p => ?_) (Or.inr ⟨hi0, by omega⟩)
    rw [g7, up2_if, hv p]
    unfold layV
    by_cases q : p = 40 * l + i.toNat + g
    · rw [if_pos q, if_pos ⟨by omega, by omega⟩, q, show 40 * l + i.toNat + g - (40 * l + i.toNat) = g by omega]
    · rw [if_neg q]
      by_cases q2 : 40 * l + i.toNat ≤ p ∧ p < 40 * l + i.toNat + g
      · rw [if_pos q2, if_pos ⟨by omega, by omega⟩]
      · rw [if_neg q2, if_neg (by omega)]
/-- both lay what is the same -/
theorem lay_both {σc σm : PS} {l k : Nat} {i : Int} (hd : okD d) (hC : CR d σc) (hM : MR d σm) (hl : l < 4) (hi : Rg i) (hi0 : 0 ≤ i) (hz : 0 ≤ dLn d l) (hk : k = 25 ∨ k = 32) {G : PS → (Int → PS → Prop) → Prop} (hG : ∀ P : Int → PS → Prop, (∀ σm' : PS, MR d σm' → (∀ e, e < bn (dB d) → σm' 4 e = σc k e) → LX12_lay_66 l i σm' P) → G σm P) : LX11_lay_51 l i k σc (fun r σc' => G σm (fun r2 σm' => r = r2 ∧ ∃ d', okD d' ∧ CR d' σc' ∧ MR d' σm')) := by
  unfold LX11_lay_51
  refine ⟨bn (dB d) + 1, c_lay_l hd hC hl hi hk (fun σ' g r o1 v1 g1 r1 => hG _ (fun σm' hM' h4 => ?_)) (bn (dB d) + 1) 0 σc (by omega) (by omega) Off.rf (fun p => ?_) (Or.inl rfl)⟩
  · unfold LX12_lay_66
    refine ⟨bn (dB d) + 1, m_lay_l hd hM' hl hi hi0 hz h4 (fun σ2 g' r' o2 v2 g2 r2 => ?_) (bn (dB d) + 1) 0 σm' (by omega) (by omega) Off.rf (fun p => ?_) (Or.inl rfl)⟩
    · have eg : g' = g := by omega
      subst eg
      refine ⟨by omega, _, hd.lists (ls := dLn d) (li := layV (σc k) (dLi d) (40 * l + i.toNat) g') hd.2.2.2.2, hC.lists (o1.mono (by simp)) (fun l2 hl2 => ?_), hM'.lists (o2.mono (by simp)) (fun l2 hl2 => ?_)⟩
      · obtain ⟨a, b'⟩ := hC.2.2.2.2.1 l2 hl2
        refine ⟨by rw [o1 63 (by simp)]; exact a, fun j hj => ?_⟩
        rw [v1]
        unfold layV
        split
        · rfl
        · exact b' j hj
      · obtain ⟨a, b'⟩ := hM'.2.2.2.2 l2 hl2
        refine ⟨by rw [o2 25 (by simp)]; exact a, fun j hj => ?_⟩
        rw [v2]
        unfold layV
        split
        · rfl
        · exact b' j hj
    · unfold layV
      rw [if_neg (by omega)]
  · unfold layV
    rw [if_neg (by omega)]
theorem c_lay_neg {σc : PS} {l k : Nat} {i : Int} (hd : okD d) (hC : CR d σc) (hl : l < 4) (hi : Rg i) (hi0 : i < 0) (hk : k = 25 ∨ k = 32) (h : Φ (if bn (dB d) = 0 then 0 else -13) σc) : LX11_lay_51 l i k σc Φ := by
  unfold LX11_lay_51
  refine ⟨1, ?_⟩
  unfold LX11_lay_56 BX11_lay_56
  rw [hC.1.1]
  have ew : iwrap (i + 0) = i + 0 := iwrap_id (by omega)
  rw [ew]
  refine ⟨fun c => ?_, fun c => ?_⟩
  · rw [if_pos (by omega)] at h
    rw [show ((bn (dB d) : Nat) : Int) = 0 by omega]
    exact h
  · rw [if_neg (by omega)] at h
    exact c_hasPlace hl (hC.2.2.2.2.1 l hl).1 (fun x y => by omega) (fun hno => ⟨fun c2 => absurd rfl c2, fun _ => h⟩)
theorem p_lay (a1 a2 a3 : Int) (r2 : Rg a2) : PT (FX11_lay a1 a2 a3) (FX12_lay a1 a2 a3) := by
  intro d σc σm hd hC hM
  unfold FX11_lay
  refine c_isList (fun l hl ha => ⟨fun c => by omega, fun _ => ?_⟩) (fun hno => ⟨fun _ => ?_, fun c => absurd rfl c⟩)
  · subst ha
    have el : ((l : Nat) : Int).toNat = l := by omega
    have eM : σm 25 l = dLn d l := (hM.2.2.2.2 l hl).1
    have eM2 : σm 1 2 = (bn (dB d) : Int) := hM.1.1
    unfold FX11_isOneOrZero
    have pre : (a3 = 0 ∨ a3 = 1) → ∀ P : Int → PS → Prop, (0 ≤ dLn d l → (0 ≤ a2 → ((¬ a3 = 0 → FX12_flowsByHeights σm (fun z11 σ12 => LX12_lay_66 l a2 σ12 P)) ∧ (a3 = 0 → FX12_flowsNow σm (fun z13 σ14 => LX12_lay_66 l a2 σ14 P)))) ∧ (a2 < 0 → P (if bn (dB d) = 0 then 0 else -13) σm)) → (dLn d l < 0 → P (-11) σm) → FX12_lay l a2 a3 σm P := fun h01 P h1 h0 => by
      unfold FX12_lay
      refine m_isList (fun _ _ _ => ⟨fun c => by omega, fun _ => ?_⟩) (fun c => by omega)
      refine m_in (fun _ _ => ⟨fun _ => ⟨⟨by omega, by omega⟩, ?_⟩, fun c => by omega⟩) (fun c => by omega)
      rw [el, eM, eM2]
      refine ⟨fun c => ⟨fun c2 => (h1 c).1 c2, fun c2 => ?_⟩, fun c => h0 (by omega)⟩
      have h2 := (h1 c).2 (by omega)
      exact ⟨fun c3 => by rw [if_neg (by omega)] at h2; exact h2, fun c3 => by rw [if_pos (by omega)] at h2; exact h2⟩
    have main : (a3 = 0 ∨ a3 = 1) → ((¬ (1 : Int) = 0 → FX4_holds l σc (fun z7 σ8 => ((¬ z7 = 0 → ((¬ a3 = 0 → FX11_freshHeights σ8 (fun z11 σ12 => z11 = 4 ∧ (LX11_lay_51 l a2 32 σ12 (fun r σc' => FX12_lay l a2 a3 σm (fun r2 σm' => r = r2 ∧ ∃ d', okD d' ∧ CR d' σc' ∧ MR d' σm'))))) ∧ (a3 = 0 → FX11_freshWays σ8 (fun z13 σ14 => z13 = 3 ∧ (LX11_lay_51 l a2 25 σ14 (fun r σc' => FX12_lay l a2 a3 σm (fun r2 σm' => r = r2 ∧ ∃ d', okD d' ∧ CR d' σc' ∧ MR d' σm'))))))) ∧ (z7 = 0 → FX12_lay l a2 a3 σm (fun r2 σm' => -11 = r2 ∧ ∃ d', okD d' ∧ CR d' σ8 ∧ MR d' σm'))))) ∧ ((1 : Int) = 0 → FX12_lay l a2 a3 σm (fun r2 σm' => -1 = r2 ∧ ∃ d', okD d' ∧ CR d' σc ∧ MR d' σm'))) := fun h01 => by
      refine ⟨fun _ => c_holds hl hC (fun hz => ⟨fun _ => ⟨fun c => ?_, fun c => ?_⟩, fun c => by omega⟩) (fun hz => ⟨fun c => absurd rfl c, fun _ => ?_⟩), fun c => by omega⟩
      · refine c_freshHeights hd hC (fun σc' hC' hw => ⟨rfl, ?_⟩)
        by_cases q : 0 ≤ a2
        · refine lay_both hd hC' hM hl r2 q hz (Or.inr rfl) (G := FX12_lay l a2 a3) (fun P hP => pre h01 P (fun _ => ⟨fun _ => ⟨fun _ => ?_, fun c2 => absurd c2 c⟩, fun c2 => by omega⟩) (fun c2 => by omega))
          exact hw σm _ hM.1 (fun σm' k k1 k2 k3 => hP σm' (hM.keep k) k1)
        · refine c_lay_neg hd hC' hl r2 (by omega) (Or.inr rfl) (pre h01 _ (fun _ => ⟨fun c2 => absurd c2 q, fun _ => ⟨rfl, d, hd, hC', hM⟩⟩) (fun c2 => by omega))
      · refine c_freshWays hd hC (fun σc' hC' hw => ⟨rfl, ?_⟩)
        by_cases q : 0 ≤ a2
        · refine lay_both hd hC' hM hl r2 q hz (Or.inl rfl) (G := FX12_lay l a2 a3) (fun P hP => pre h01 P (fun _ => ⟨fun _ => ⟨fun c2 => absurd c c2, fun _ => ?_⟩, fun c2 => by omega⟩) (fun c2 => by omega))
          refine m_flowsNow hd.1 hM.1 (fun σm' k1 k2 k3 k4 k5 k6 k7 => hP σm' (hM.keep k1) (fun e he => ?_))
          rw [k6 e he, hw.2.2.2.1 e he]
        · refine c_lay_neg hd hC' hl r2 (by omega) (Or.inl rfl) (pre h01 _ (fun _ => ⟨fun c2 => absurd c2 q, fun _ => ⟨rfl, d, hd, hC', hM⟩⟩) (fun c2 => by omega))
      · exact pre h01 _ (fun c2 => by omega) (fun _ => ⟨rfl, d, hd, hC, hM⟩)
    refine ⟨fun c => main (Or.inl c), fun c => ⟨fun c2 => ⟨fun c3 => absurd rfl c3, fun _ => ?_⟩, fun c2 => main (Or.inr c2)⟩⟩
    unfold FX12_lay
    refine m_isList (fun _ _ _ => ⟨fun c => by omega, fun _ => ?_⟩) (fun c => by omega)
    exact m_in (fun _ _ => by omega) (fun _ => ⟨fun c => absurd rfl c, fun _ => ⟨rfl, d, hd, hC, hM⟩⟩)
  · unfold FX12_lay
    exact m_isList (fun _ _ _ => by omega) (fun _ => ⟨fun _ => ⟨rfl, d, hd, hC, hM⟩, fun c => absurd rfl c⟩)
end Lay
