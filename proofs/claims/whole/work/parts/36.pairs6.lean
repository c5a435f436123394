theorem cp2_k {σ : PS} {j k n i : Nat} (h : i < n) : cp2 σ j k 0 0 n k i = σ j i := by
  unfold cp2
  rw [if_pos ⟨rfl, by omega, by omega⟩]
  congr 1
  omega
theorem cp2_nk {σ : PS} {j k k' n i : Nat} (h : k' ≠ k) : cp2 σ j k 0 0 n k' i = σ k' i := by
  unfold cp2
  rw [if_neg (fun z => h z.1)]
theorem Off.cp {ks : List Nat} {a b : PS} {j k n : Nat} (h : Off ks a b) (hk : k ∈ ks) : Off ks a (cp2 b j k 0 0 n) := fun m hm => by
  have e : cp2 b j k 0 0 n m = b m := by
    funext i
    exact cp2_nk (fun z => hm (by rw [z]; exact hk))
  rw [e]
  exact h m hm
section Pairs6
variable {d : DS} {b : Bk} {σ : PS} {Φ : Int → PS → Prop}
theorem c_copyFrom (hb : okB b) (hC : cB 1 13 b σ) (h : ∀ σ' : PS, Off [2, 19, 20, 21, 22, 23, 24] σ σ' → cB 2 19 b σ' → Φ 0 σ') : FX3_copyFrom σ Φ := by
  obtain ⟨p1, p2, p3, p4⟩ := hC
  have hn := hb.1
  intro s1 g1 s2 g2 s3 g3 s4 g4 s5 g5 s6 g6 s7 g7 s8 g8 s9 g9
  have o6 : Off [19, 20, 21, 22, 23, 24] σ s6 := by
    rw [g6, g5, g4, g3, g2, g1]
    exact (((((Off.rf.cp (by simp)).cp (by simp)).cp (by simp)).cp (by simp)).cp (by simp)).cp (by simp)
  have e1 : s6 1 = σ 1 := o6 1 (by simp)
  rw [e1] at g7
  have e7 : s7 1 = σ 1 := by funext i; rw [g7, up2_nk (by omega), e1]
  rw [e7] at g8
  have e8 : s8 1 = σ 1 := by funext i; rw [g8, up2_nk (by omega), e7]
  rw [e8] at g9
  refine h s9 ?_ ⟨?_, ?_, ?_, fun e he w hw => ?_⟩
  · rw [g9, g8, g7]
    exact (((o6.mono (by simp)).up (by simp)).up (by simp)).up (by simp)
  · rw [g9, up2_ni (by omega), g8, up2_ni (by omega), g7, up2_at, p1]
  · rw [g9, up2_ni (by omega), g8, up2_at, p2]
  · rw [g9, up2_at, p3]
  · rw [← p4 e he w hw, g9, up2_nk (by omega), g8, up2_nk (by omega), g7, up2_nk (by omega), g6, g5, g4, g3, g2, g1]
    rcases w6 hw with z | z | z | z | z | z <;> subst z
    · rw [cp2_nk (by omega), cp2_nk (by omega), cp2_nk (by omega), cp2_nk (by omega), cp2_nk (by omega), cp2_k (by omega)]
    · rw [cp2_nk (by omega), cp2_nk (by omega), cp2_nk (by omega), cp2_nk (by omega), cp2_k (by omega), cp2_nk (by omega)]
    · rw [cp2_nk (by omega), cp2_nk (by omega), cp2_nk (by omega), cp2_k (by omega), cp2_nk (by omega), cp2_nk (by omega)]
    · rw [cp2_nk (by omega), cp2_nk (by omega), cp2_k (by omega), cp2_nk (by omega), cp2_nk (by omega), cp2_nk (by omega)]
    · rw [cp2_nk (by omega), cp2_k (by omega), cp2_nk (by omega), cp2_nk (by omega), cp2_nk (by omega), cp2_nk (by omega)]
    · rw [cp2_k (by omega), cp2_nk (by omega), cp2_nk (by omega), cp2_nk (by omega), cp2_nk (by omega), cp2_nk (by omega)]
theorem c_copyFrom_v2 (hb : okB b) (hC : cB 2 19 b σ) (h : ∀ σ' : PS, Off [1, 13, 14, 15, 16, 17, 18] σ σ' → cB 1 13 b σ' → Φ 0 σ') : FX3_copyFrom_v2 σ Φ := by
  obtain ⟨p1, p2, p3, p4⟩ := hC
  have hn := hb.1
  intro s1 g1 s2 g2 s3 g3 s4 g4 s5 g5 s6 g6 s7 g7 s8 g8 s9 g9
  have o6 : Off [13, 14, 15, 16, 17, 18] σ s6 := by
    rw [g6, g5, g4, g3, g2, g1]
    exact (((((Off.rf.cp (by simp)).cp (by simp)).cp (by simp)).cp (by simp)).cp (by simp)).cp (by simp)
  have e1 : s6 2 = σ 2 := o6 2 (by simp)
  rw [e1] at g7
  have e7 : s7 2 = σ 2 := by funext i; rw [g7, up2_nk (by omega), e1]
  rw [e7] at g8
  have e8 : s8 2 = σ 2 := by funext i; rw [g8, up2_nk (by omega), e7]
  rw [e8] at g9
  refine h s9 ?_ ⟨?_, ?_, ?_, fun e he w hw => ?_⟩
  · rw [g9, g8, g7]
    exact (((o6.mono (by simp)).up (by simp)).up (by simp)).up (by simp)
  · rw [g9, up2_ni (by omega), g8, up2_ni (by omega), g7, up2_at, p1]
  · rw [g9, up2_ni (by omega), g8, up2_at, p2]
  · rw [g9, up2_at, p3]
  · rw [← p4 e he w hw, g9, up2_nk (by omega), g8, up2_nk (by omega), g7, up2_nk (by omega), g6, g5, g4, g3, g2, g1]
    rcases w6 hw with z | z | z | z | z | z <;> subst z
    · rw [cp2_nk (by omega), cp2_nk (by omega), cp2_nk (by omega), cp2_nk (by omega), cp2_nk (by omega), cp2_k (by omega)]
    · rw [cp2_nk (by omega), cp2_nk (by omega), cp2_nk (by omega), cp2_nk (by omega), cp2_k (by omega), cp2_nk (by omega)]
    · rw [cp2_nk (by omega), cp2_nk (by omega), cp2_nk (by omega), cp2_k (by omega), cp2_nk (by omega), cp2_nk (by omega)]
    · rw [cp2_nk (by omega), cp2_nk (by omega), cp2_k (by omega), cp2_nk (by omega), cp2_nk (by omega), cp2_nk (by omega)]
    · rw [cp2_nk (by omega), cp2_k (by omega), cp2_nk (by omega), cp2_nk (by omega), cp2_nk (by omega), cp2_nk (by omega)]
    · rw [cp2_k (by omega), cp2_nk (by omega), cp2_nk (by omega), cp2_nk (by omega), cp2_nk (by omega), cp2_nk (by omega)]
theorem m_image (hb : okB b) (hM : mB 1 b σ) (h : ∀ σ' : PS, Off [0, 2] σ σ' → (∀ i, i ≠ 2 → σ' 0 i = σ 0 i) → σ' 0 2 = 1 → mB 2 b σ' → Φ (bn b) σ') : FX12_image σ Φ := by
  have hn := hb.1
  refine ⟨184, ?_⟩
  have loop : ∀ (f i : Nat) (σ1 : PS), i ≤ 183 → 183 - i < f → Off [2] σ σ1 → (∀ j, j < i → σ1 2 j = σ 1 j) → LX12_image_2 f i σ1 Φ := by
    intro f
    induction f with
    | zero => intro i σ1 h1 h2; omega
    | succ f ih =>
      intro i σ1 hi hf ho hv
      unfold LX12_image_2 BX12_image_2
      refine ⟨fun c σ2 g2 => ?_, fun c => ⟨⟨by omega, by omega⟩, ⟨by omega, by omega⟩, fun σ5 g5 => ⟨⟨by omega, by omega⟩, ?_⟩⟩⟩
      · have e1 : σ2 1 = σ 1 := by funext j; rw [g2, up2_nk (by omega), ho 1 (by simp)]
        rw [e1, hM.1]
        have e2 : ∀ j, j < 183 → σ2 2 j = σ 1 j := fun j hj => by rw [g2, up2_nk (by omega)]; exact hv j (by omega)
        refine h σ2 (by rw [g2]; exact (ho.mono (by simp)).up (by simp)) (fun j hj => by rw [g2, up2_ni hj, ho 0 (by simp)]) (by rw [g2, up2_at]) ⟨?_, ?_, ?_, fun e he w hw => ?_⟩
        · rw [e2 2 (by omega)]; exact hM.1
        · rw [e2 0 (by omega)]; exact hM.2.1
        · rw [e2 1 (by omega)]; exact hM.2.2.1
        · rw [e2 _ (by omega)]; exact hM.2.2.2 e he w hw
      · rw [show ((i : Nat) : Int).toNat = i by omega, ho 1 (by simp)] at g5
        refine ih (i + 1) σ5 (by omega) (by omega) (by rw [g5]; exact ho.up (by simp)) (fun j hj => ?_)
        rw [g5, up2_if]
        by_cases q : j = i
        · rw [if_pos q, q]
        · rw [if_neg q]; exact hv j (by omega)
  exact loop 184 0 σ (by omega) (by omega) Off.rf (fun j hj => by omega)
theorem m_undo (hb : okB b) (hM : mB 2 b σ) (h2 : ¬ σ 0 2 = 0) (h : ∀ σ' : PS, Off [1] σ σ' → mB 1 b σ' → Φ (bn b) σ') : FX12_undo σ Φ := by
  have hn := hb.1
  unfold FX12_undo
  refine ⟨fun _ => ⟨184, ?_⟩, fun c => absurd c h2⟩
  have loop : ∀ (f i : Nat) (σ1 : PS), i ≤ 183 → 183 - i < f → Off [1] σ σ1 → (∀ j, j < i → σ1 1 j = σ 2 j) → LX12_undo_12 f i σ1 Φ := by
    intro f
    induction f with
    | zero => intro i σ1 h1 h2; omega
    | succ f ih =>
      intro i σ1 hi hf ho hv
      unfold LX12_undo_12 BX12_undo_12
      refine ⟨fun c => ?_, fun c => ⟨⟨by omega, by omega⟩, ⟨by omega, by omega⟩, fun σ5 g5 => ⟨⟨by omega, by omega⟩, ?_⟩⟩⟩
      · have e2 : ∀ j, j < 183 → σ1 1 j = σ 2 j := fun j hj => hv j (by omega)
        rw [e2 2 (by omega), hM.1]
        refine h σ1 ho ⟨?_, ?_, ?_, fun e he w hw => ?_⟩
        · rw [e2 2 (by omega)]; exact hM.1
        · rw [e2 0 (by omega)]; exact hM.2.1
        · rw [e2 1 (by omega)]; exact hM.2.2.1
        · rw [e2 _ (by omega)]; exact hM.2.2.2 e he w hw
      · rw [show ((i : Nat) : Int).toNat = i by omega, ho 2 (by simp)] at g5
        refine ih (i + 1) σ5 (by omega) (by omega) (by rw [g5]; exact ho.up (by simp)) (fun j hj => ?_)
        rw [g5, up2_if]
        by_cases q : j = i
        · rw [if_pos q, q]
        · rw [if_neg q]; exact hv j (by omega)
  exact loop 184 0 σ (by omega) (by omega) Off.rf (fun j hj => by omega)
theorem CCa.off {b : Bk} {σ σ' : PS} {ks : List Nat} (h : CCa b σ) (ho : Off ks σ σ') (h0 : ∀ i, i ∈ [4, 6, 8, 10] → σ' 0 i = σ 0 i) (hk : ∀ k, k ∈ [3, 25, 26, 27, 28, 29, 4, 32, 33, 34, 35, 5, 40, 41, 42, 43, 6] → k ∉ ks) : CCa b σ' := by
  obtain ⟨h6, h7, h8, h10⟩ := h
  refine ⟨fun c => ?_, fun c => ?_, fun c => ?_, fun c => ?_⟩
  · rw [h0 4 (by simp)] at c; exact (h6 c).off ho (fun k hk2 => hk k (by simp at hk2 ⊢; omega))
  · rw [h0 6 (by simp)] at c; exact (h7 c).off ho (fun k hk2 => hk k (by simp at hk2 ⊢; omega))
  · rw [h0 8 (by simp)] at c; exact (h8 c).off ho (fun k hk2 => hk k (by simp at hk2 ⊢; omega))
  · rw [h0 10 (by simp)] at c; exact (h10 c).off ho (fun k hk2 => hk k (by simp at hk2 ⊢; omega))
theorem p_image : PT FX11_image FX12_image := by
  intro d σc σm hd hC hM
  unfold FX11_image
  obtain ⟨h1, h2, h3, h4, h5, h6⟩ := id hC
  obtain ⟨i1, i2, i3, i4, i5⟩ := id hM
  refine c_copyFrom hd.1 h1 (fun σ2 o2 hB2 σ3 g3 => ?_)
  have o3 : Off [0] σ2 σ3 := by rw [g3]; exact Off.rf.up (by simp)
  have o : Off [0, 2, 19, 20, 21, 22, 23, 24] σc σ3 := (o2.mono (by simp)).trans (o3.mono (by simp))
  refine m_image hd.1 hM.1 (fun σm' oM e0 e2 hM2 => ?_)
  refine ⟨?_, (dB d, some (dB d), d.2.2), ⟨hd.1, fun b hb => ?_, hd.2.2⟩, ⟨h1.off o (by simp) (fun w hw => by simp; omega), ⟨?_, hB2.off o3 (by simp) (fun w hw => by simp)⟩, ?_, ?_, ?_, h6.off o (fun i hi => ?_) (by simp)⟩, ⟨i1.keep (oM 1 (by simp)), ⟨by omega, hM2⟩, ?_, ?_, ?_⟩⟩
  · rw [o 1 (by simp)]; exact h1.1
  · have hb2 : some (dB d) = some b := hb
    have : dB d = b := Option.some.inj hb2
    rw [← this]; exact hd.1
  · rw [g3, up2_at]; omega
  · rw [o 9 (by simp), o 57 (by simp)]; exact h3
  · rw [o 11 (by simp), o 61 (by simp)]; exact h4
  · rw [o 62 (by simp), o 63 (by simp)]; exact h5
  · rw [g3, up2_ni (by simp at hi; omega), o2 0 (by simp)]
  · rw [e0 29 (by omega), oM 23 (by simp)]; exact i3
  · rw [e0 36 (by omega), oM 24 (by simp)]; exact i4
  · rw [oM 25 (by simp), oM 26 (by simp)]; exact i5
theorem p_undo : PT FX11_undo FX12_undo := by
  intro d σc σm hd hC hM
  have h2 := hC.2.1
  have i2 := hM.2.1
  have hok := hd.2.1
  unfold FX11_undo
  unfold cImg at h2
  unfold mImg at i2
  cases hI : dI d with
  | none =>
    rw [hI] at h2 i2
    simp only at h2 i2
    refine ⟨fun c => absurd h2 c, fun _ => ?_⟩
    unfold FX12_undo
    exact ⟨fun c => absurd i2 c, fun _ => ⟨rfl, d, hd, hC, hM⟩⟩
  | some b2 =>
    rw [hI] at h2 i2
    simp only at h2 i2
    have hb2 := hok b2 hI
    refine ⟨fun _ => ?_, fun c => absurd c h2.1⟩
    refine c_copyFrom_v2 hb2 h2.2 (fun σ3 o3 hB3 => c_forget (fun σ5 o5 e5 hf => ?_))
    refine m_undo hb2 i2.2 i2.1 (fun σm' oM hM' => ⟨?_, (b2, d.2), hd.gates hb2, hC.gates ((o3.mono (by simp)).trans (o5.mono (by simp))) (by rw [e5, o3 0 (by simp)]) hf (hB3.off o5 (by simp) (fun w hw => by simp)), hM.gates oM hM'⟩)
    rw [o5 1 (by simp)]
    exact hB3.1
end Pairs6
