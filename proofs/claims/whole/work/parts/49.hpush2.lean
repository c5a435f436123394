section HPush2
variable {T : NT} {σ : PS} {x hh ex li sv : Nat → Int} {W : List Nat} {pu : Int} {Φ : Int → PS → Prop}
theorem m_pushes {c : Nat} {a : Int} (hT : okT T) (hH : HM T x hh ex li sv W pu σ) (hc : cOK T c) (ha : 0 ≤ a ∧ a ≤ 2000) (hxr : ∀ e, e < tn T → -100000 ≤ x e ∧ x e ≤ 100000) (hex : ∀ v, v < 12 → -1000000 ≤ ex v ∧ ex v ≤ 1000000) (hpu : 0 ≤ pu ∧ pu ≤ 100000000) (hW : W.length < 12)
    (h : ∀ σ' : PS, HO σ σ' → HM T (psX x c a) hh (psE T ex c a) li sv (psW T W (enT T c)) (pu + 1) σ' → Φ 0 σ') : FX12_pushes c a σ Φ := by
  have hn := hT.1
  obtain ⟨hM, hX, hV, hQ, hP⟩ := hH
  have h12 := stOK_end hT.2.1 (cOK_st hc)
  obtain ⟨g1, g2⟩ := gof_c hc hn
  have hne : vfr T c ≠ enT T c := by
    have := hT.2.1 _ g2
    rcases gof_ends (cOK_st hc) with ⟨p, q⟩ | ⟨p, q⟩ <;> omega
  unfold FX12_pushes
  refine s_stepTo rfl hM hn hc ?_
  have hxg := hxr _ g2
  have hxv := hX _ g2
  have main : ∀ s3 : Int, x (gof c) + s3 = psX x c a (gof c) → -2000 ≤ s3 ∧ s3 ≤ 2000 → LX12_pushes_28 c a (enT T c : Nat) (gof c : Nat) (x (gof c)) s3 σ Φ := by
    intro s3 hs3 hs4
    unfold LX12_pushes_28
    rw [hs3, show ((gof c : Nat) : Int).toNat = gof c by omega]
    refine ⟨⟨by omega, by omega⟩, ⟨by omega, by omega⟩, fun σ3 q3 => ?_⟩
    have o3 : Off [4] σ σ3 := by rw [q3]; exact Off.rf.up (by simp)
    have hM3 := hM.off o3 (by simp) (by simp)
    refine s_stepFrom rfl hM3 hn hc ?_
    rw [show ((vfr T c : Nat) : Int).toNat = vfr T c by omega, show ((enT T c : Nat) : Int).toNat = enT T c by omega, o3 11 (by simp), (hV _ h12.1).2.1]
    have b1 := hex _ h12.1
    have b2 := hex _ h12.2
    refine ⟨⟨by omega, by omega⟩, ⟨by omega, by omega⟩, ⟨by omega, by omega⟩, fun σ9 q9 => ?_⟩
    have e9 : σ9 11 (enT T c) = ex (enT T c) := by rw [q9, up2_ni (fun z => hne z.symm), o3 11 (by simp)]; exact (hV _ h12.2).2.1
    rw [e9]
    refine ⟨⟨by omega, by omega⟩, ⟨by omega, by omega⟩, ⟨by omega, by omega⟩, fun σ13 q13 => ?_⟩
    have o13 : Off [4, 11] σ σ13 := by rw [q13, q9]; exact ((o3.mono (by simp)).up (by simp)).up (by simp)
    rw [o13 0 (by simp), hP]
    refine ⟨⟨by omega, by omega⟩, fun σ15 q15 => ?_⟩
    have o15 : Off [0, 4, 11] σ σ15 := by rw [q15]; exact (o13.mono (by simp)).up (by simp)
    have z15 : ∀ i, i ≠ 17 → σ15 0 i = σ 0 i := fun i hi => by rw [q15, up2_ni hi, o13 0 (by simp)]
    have r4 : ∀ e, e < tn T → σ15 4 e = psX x c a e := fun e he => by
      rw [q15, up2_nk (by omega), q13, up2_nk (by omega), q9, up2_nk (by omega), q3, up2_if]
      by_cases q : e = gof c
      · rw [if_pos q, q]
      · rw [if_neg q, hX e he]
        unfold psX
        rw [if_neg q]
    have r11 : ∀ v, v < 12 → σ15 11 v = psE T ex c a v := fun v hv => by
      rw [q15, up2_nk (by omega), q13, up2_if, q9]
      unfold psE
      by_cases q : v = enT T c
      · rw [if_pos q, if_pos q, q]
      · rw [if_neg q, if_neg q, up2_if]
        by_cases q2 : v = vfr T c
        · rw [if_pos q2, if_pos q2, q2]
        · rw [if_neg q2, if_neg q2, o3 11 (by simp)]; exact (hV v hv).2.1
    have hQ15 : σ15 0 16 = (W.length : Int) ∧ ∀ i, i < W.length → σ15 14 i = (W.getD i 0 : Nat) := by
      rw [z15 16 (by omega), o15 14 (by simp)]; exact hQ
    have hM15 : MN T σ15 := hM.off o15 (by simp) (by simp)
    have h17 : σ15 0 17 = pu + 1 := by rw [q15, up2_at]
    -- it goes on as before
    have stay : psW T W (enT T c) = W → Φ 0 σ15 := fun hw => by
      refine h σ15 ⟨o15.mono (by simp), fun i _ hi => z15 i hi⟩ ⟨hM15, r4, fun v hv => ⟨?_, r11 v hv, ?_, ?_⟩, ?_, h17⟩
      · rw [o15 10 (by simp)]; exact (hV v hv).1
      · rw [o15 12 (by simp)]; exact (hV v hv).2.2.1
      · rw [o15 13 (by simp)]; exact (hV v hv).2.2.2
      · rw [hw]; exact hQ15
    have in_ : (enT T c = ts T ∨ enT T c = tz T ∨ enT T c ∈ W) → psW T W (enT T c) = W := fun q => by unfold psW; rw [if_pos q]
    have wait : ∀ s0 : Int, (s0 = 0 ∨ s0 = 1) → (s0 = 1 ↔ (enT T c = ts T ∨ enT T c = tz T)) → LX12_pushes_89 (enT T c : Nat) s0 σ15 Φ := fun s0 h01 hs => by
      refine m_wait hQ15 h01 (fun _ _ => hW) (by omega) (fun q => stay (in_ ?_)) (fun q1 q2 => ?_)
      · rcases q with q | q
        · rcases hs.mp q with y | y
          · exact Or.inl y
          · exact Or.inr (Or.inl y)
        · exact Or.inr (Or.inr q)
      · have nw : psW T W (enT T c) = W ++ [enT T c] := by
          unfold psW
          refine if_neg (fun y => ?_)
          rcases y with y | y | y
          · have := hs.mpr (Or.inl y); omega
          · have := hs.mpr (Or.inr y); omega
          · exact q2 y
        have oo : Off [0, 14] σ15 (up2 (up2 σ15 14 W.length (enT T c : Nat)) 0 16 (W.length + 1 : Int)) := (Off.rf.up (by simp)).up (by simp)
        refine h _ ⟨(o15.mono (by simp)).trans (oo.mono (by simp)), fun i hi hi2 => by rw [up2_ni hi, up2_nk (by omega)]; exact z15 i hi2⟩ ⟨hM15.off oo (by simp) (by simp), fun e he => by rw [oo 4 (by simp)]; exact r4 e he, fun v hv => ⟨?_, ?_, ?_, ?_⟩, ⟨?_, fun i hi => ?_⟩, ?_⟩
        · rw [oo 10 (by simp), o15 10 (by simp)]; exact (hV v hv).1
        · rw [oo 11 (by simp)]; exact r11 v hv
        · rw [oo 12 (by simp), o15 12 (by simp)]; exact (hV v hv).2.2.1
        · rw [oo 13 (by simp), o15 13 (by simp)]; exact (hV v hv).2.2.2
        · rw [nw, up2_at, List.length_append, List.length_singleton]; omega
        · rw [nw, List.length_append, List.length_singleton] at hi
          rw [nw, up2_nk (by omega), up2_if, getD_appN]
          by_cases q : i < W.length
          · rw [if_neg (by omega), if_pos q]; exact hQ15.2 i q
          · rw [if_pos (by omega), if_neg q, show i - W.length = 0 by omega]; rfl
        · rw [up2_ni (by omega), up2_nk (by omega)]; exact h17
    rw [hM15.2.1, hM15.2.2.1]
    refine ⟨fun c1 => ?_, fun c1 => ⟨fun c2 => ?_, fun c2 => ?_⟩⟩
    · unfold LX12_pushes_84
      exact wait 1 (Or.inr rfl) ⟨fun _ => Or.inl (by omega), fun _ => rfl⟩
    · exact wait 0 (Or.inl rfl) ⟨fun z => by omega, fun z => by omega⟩
    · unfold LX12_pushes_84
      exact wait 1 (Or.inr rfl) ⟨fun _ => Or.inr (by omega), fun _ => rfl⟩
  rw [g1, show ((gof c : Nat) : Int).toNat = gof c by omega, hxv]
  refine ⟨by omega, ⟨by omega, by omega⟩, fun c1 => ⟨⟨by omega, by omega⟩, main _ ?_ (by omega)⟩, fun c1 => main _ ?_ (by omega)⟩
  · unfold psX
    rw [if_pos rfl, if_neg (by omega)]; omega
  · unfold psX
    rw [if_pos rfl, if_pos (by omega)]
end HPush2
