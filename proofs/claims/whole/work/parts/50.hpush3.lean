/-- the class's heights, as HM is the reference's -/
def HC (T : NT) (x hh ex li sv : Nat → Int) (W : List Nat) (pu : Int) (σ : PS) : Prop := CN T σ ∧ HX T x σ ∧ (∀ v, v < 12 → σ 33 v = hh v ∧ σ 37 v = ex v ∧ σ 34 v = li v ∧ σ 35 v = sv v) ∧ (∃ fi : Nat, fi < 12 ∧ σ 4 8 = (fi : Int) ∧ σ 4 9 = (W.length : Int) ∧ ∀ i, i < W.length → σ 38 ((fi + i) % 12) = (W.getD i 0 : Nat)) ∧ (∀ v, v < 12 → (v ∈ W → ¬ σ 39 v = 0) ∧ (v ∉ W → σ 39 v = 0)) ∧ σ 4 10 = pu
section HPush3
variable {T : NT} {σ : PS} {x hh ex li sv : Nat → Int} {W : List Nat} {pu : Int} {Φ : Int → PS → Prop}
theorem c_push {c : Nat} {a : Int} (hT : okT T) (hH : HC T x hh ex li sv W pu σ) (hc : cOK T c) (ha : 0 ≤ a ∧ a ≤ 2000) (hxr : ∀ e, e < tn T → -100000 ≤ x e ∧ x e ≤ 100000) (hex : ∀ v, v < 12 → -1000000 ≤ ex v ∧ ex v ≤ 1000000) (hpu : 0 ≤ pu ∧ pu ≤ 100000000) (hW : W.length < 12)
    (h : ∀ σ' : PS, Off [4, 32, 37, 38, 39] σ σ' → HC T (psX x c a) hh (psE T ex c a) li sv (psW T W (enT T c)) (pu + 1) σ' → Φ 0 σ') : FX0_push c a σ Φ := by
  have hn := hT.1
  obtain ⟨hM, hX, hV, ⟨fi, f1, f2, f3, f4⟩, hQ, hP⟩ := hH
  have h12 := stOK_end hT.2.1 (cOK_st hc)
  obtain ⟨g1, g2⟩ := gof_c hc hn
  have hN := hT.2.1 _ g2
  have hne : vfr T c ≠ enT T c := by
    rcases gof_ends (cOK_st hc) with ⟨p, q⟩ | ⟨p, q⟩ <;> omega
  have hxg := hxr _ g2
  have main : ∀ s3 : Int, x (gof c) + s3 = psX x c a (gof c) → -2000 ≤ s3 ∧ s3 ≤ 2000 → LX0_push_95 a (vfr T c : Nat) (enT T c : Nat) (gof c : Nat) (x (gof c)) s3 σ Φ := by
    intro s3 hs3 hs4
    unfold LX0_push_95
    rw [hs3, show ((gof c : Nat) : Int).toNat = gof c by omega]
    refine ⟨⟨by omega, by omega⟩, ⟨by omega, by omega⟩, fun σ3 q3 => ?_⟩
    have o3 : Off [32] σ σ3 := by rw [q3]; exact Off.rf.up (by simp)
    rw [show ((vfr T c : Nat) : Int).toNat = vfr T c by omega, show ((enT T c : Nat) : Int).toNat = enT T c by omega, o3 37 (by simp), (hV _ h12.1).2.1]
    have b1 := hex _ h12.1
    have b2 := hex _ h12.2
    refine ⟨⟨by omega, by omega⟩, ⟨by omega, by omega⟩, ⟨by omega, by omega⟩, fun σ9 q9 => ?_⟩
    have e9 : σ9 37 (enT T c) = ex (enT T c) := by rw [q9, up2_ni (fun z => hne z.symm), o3 37 (by simp)]; exact (hV _ h12.2).2.1
    rw [e9]
    refine ⟨⟨by omega, by omega⟩, ⟨by omega, by omega⟩, ⟨by omega, by omega⟩, fun σ13 q13 => ?_⟩
    have o13 : Off [32, 37] σ σ13 := by rw [q13, q9]; exact ((o3.mono (by simp)).up (by simp)).up (by simp)
    rw [o13 4 (by simp), hP]
    refine ⟨⟨by omega, by omega⟩, fun σ15 q15 => ?_⟩
    have o15 : Off [4, 32, 37] σ σ15 := by rw [q15]; exact (o13.mono (by simp)).up (by simp)
    have z15 : ∀ i, i ≠ 10 → σ15 4 i = σ 4 i := fun i hi => by rw [q15, up2_ni hi, o13 4 (by simp)]
    have r4 : ∀ e, e < tn T → σ15 32 e = psX x c a e := fun e he => by
      rw [q15, up2_nk (by omega), q13, up2_nk (by omega), q9, up2_nk (by omega), q3, up2_if]
      by_cases q : e = gof c
      · rw [if_pos q, q]
      · rw [if_neg q, hX e he]
        unfold psX
        rw [if_neg q]
    have r11 : ∀ v, v < 12 → σ15 37 v = psE T ex c a v := fun v hv => by
      rw [q15, up2_nk (by omega), q13, up2_if, q9]
      unfold psE
      by_cases q : v = enT T c
      · rw [if_pos q, if_pos q, q]
      · rw [if_neg q, if_neg q, up2_if]
        by_cases q2 : v = vfr T c
        · rw [if_pos q2, if_pos q2, q2]
        · rw [if_neg q2, if_neg q2, o3 37 (by simp)]; exact (hV v hv).2.1
    have hM15 : CN T σ15 := hM.off o15 (by simp) (by simp) (by simp)
    have h10 : σ15 4 10 = pu + 1 := by rw [q15, up2_at]
    have stay : psW T W (enT T c) = W → Φ 0 σ15 := fun hw => by
      refine h σ15 (o15.mono (by simp)) ⟨hM15, r4, fun v hv => ⟨?_, r11 v hv, ?_, ?_⟩, ?_, ?_, h10⟩
      · rw [o15 33 (by simp)]; exact (hV v hv).1
      · rw [o15 34 (by simp)]; exact (hV v hv).2.2.1
      · rw [o15 35 (by simp)]; exact (hV v hv).2.2.2
      · rw [hw]; exact ⟨fi, f1, by rw [z15 8 (by omega)]; exact f2, by rw [z15 9 (by omega)]; exact f3, fun i hi => by rw [o15 38 (by simp)]; exact f4 i hi⟩
      · rw [hw, o15 39 (by simp)]; exact hQ
    have in_ : (enT T c = ts T ∨ enT T c = tz T ∨ enT T c ∈ W) → psW T W (enT T c) = W := fun q => by unfold psW; rw [if_pos q]
    rw [hM15.2.1, hM15.2.2.1]
    refine ⟨fun c1 => stay (in_ (Or.inl (by omega))), fun c1 => ⟨fun c2 => stay (in_ (Or.inr (Or.inl (by omega)))), fun c2 => ⟨⟨by omega, by omega⟩, ?_⟩⟩⟩
    rw [o15 39 (by simp), z15 9 (by omega), z15 8 (by omega), f2, f3]
    refine ⟨fun c3 => stay (in_ (Or.inr (Or.inr (Classical.byContradiction (fun y => c3 ((hQ _ h12.2).2 y)))))), fun c3 => ⟨fun c4 => by omega, fun c4 => ⟨⟨by omega, by omega⟩, by omega, ⟨by omega, by omega⟩, fun σ22 q22 => ?_⟩⟩⟩
    have hno : enT T c ∉ W := fun y => (hQ _ h12.2).1 y c3
    have nw : psW T W (enT T c) = W ++ [enT T c] := by
      unfold psW
      refine if_neg (fun y => ?_)
      rcases y with y | y | y
      · omega
      · omega
      · exact hno y
    have e22 : σ22 4 9 = (W.length : Int) := by rw [q22, up2_nk (by omega), z15 9 (by omega)]; exact f3
    rw [e22]
    refine ⟨⟨by omega, by omega⟩, fun σ24 q24 => ⟨⟨by omega, by omega⟩, fun σ26 q26 => ?_⟩⟩
    have oo : Off [4, 38, 39] σ15 σ26 := by rw [q26, q24, q22]; exact ((Off.rf.up (by simp)).up (by simp)).up (by simp)
    rw [show (((fi : Int) + (W.length : Int)) % 12).toNat = (fi + W.length) % 12 by omega] at q22
    refine h σ26 ((o15.mono (by simp)).trans (oo.mono (by simp))) ⟨hM15.off oo (by simp) (by simp) (by simp), fun e he => by rw [oo 32 (by simp)]; exact r4 e he, fun v hv => ⟨?_, ?_, ?_, ?_⟩, ⟨fi, f1, ?_, ?_, fun i hi => ?_⟩, fun v hv => ?_, ?_⟩
    · rw [oo 33 (by simp), o15 33 (by simp)]; exact (hV v hv).1
    · rw [oo 37 (by simp)]; exact r11 v hv
    · rw [oo 34 (by simp), o15 34 (by simp)]; exact (hV v hv).2.2.1
    · rw [oo 35 (by simp), o15 35 (by simp)]; exact (hV v hv).2.2.2
    · rw [q26, up2_nk (by omega), q24, up2_ni (by omega), q22, up2_nk (by omega), z15 8 (by omega)]; exact f2
    · rw [nw, q26, up2_nk (by omega), q24, up2_at, List.length_append, List.length_singleton]; omega
    · rw [nw, List.length_append, List.length_singleton] at hi
      rw [nw, q26, up2_nk (by omega), q24, up2_nk (by omega), q22, up2_if, getD_appN]
      by_cases q : i < W.length
      · rw [if_neg (by omega), if_pos q, o15 38 (by simp)]; exact f4 i q
      · have ei : i = W.length := by omega
        rw [if_pos (by rw [ei]), if_neg q, show i - W.length = 0 by omega]; rfl
    · rw [nw, q26, up2_if]
      by_cases q : v = enT T c
      · rw [if_pos q]
        exact ⟨fun _ => by omega, fun y => absurd (List.mem_append.mpr (Or.inr (by rw [q]; exact List.mem_singleton.mpr rfl))) y⟩
      · rw [if_neg q, q24, up2_nk (by omega), q22, up2_nk (by omega), o15 39 (by simp)]
        refine ⟨fun y => (hQ v hv).1 ?_, fun y => (hQ v hv).2 (fun y2 => y (List.mem_append.mpr (Or.inl y2)))⟩
        rcases List.mem_append.mp y with y | y
        · exact y
        · exact absurd (List.mem_singleton.mp y) q
    · rw [q26, up2_nk (by omega), q24, up2_ni (by omega), q22, up2_nk (by omega)]; exact h10
  unfold FX0_push LX0_push_11 LX0_push_26 LX0_push_50 LX0_push_74
  rcases hc with ⟨a1, a2⟩ | ⟨a1, a2⟩
  · have eg : gof c = c := by unfold gof; rw [if_pos a1]
    have ev : vfr T c = tf T c := by unfold vfr; rw [if_pos a1]
    have ee : enT T c = tt T c := by unfold enT; rw [if_pos a1]
    rw [eg, ev, ee] at main
    rw [show ((c : Nat) : Int).toNat = c by omega, (hM.2.2.2 _ a2).1, (hM.2.2.2 _ a2).2, hX _ a2]
    refine ⟨fun c1 => by omega, fun _ => ⟨fun c1 => by omega, fun _ => ⟨fun c1 => by omega, fun _ => ⟨⟨by omega, by omega⟩, fun c1 => by omega, fun _ => ⟨⟨by omega, by omega⟩, ⟨by omega, by omega⟩, fun c1 => by omega, fun _ => main a ?_ (by omega)⟩⟩⟩⟩⟩
    unfold psX
    rw [if_pos eg.symm, if_pos a1]
  · have eg : gof c = c - 100 := by unfold gof; rw [if_neg (by omega)]
    have ev : vfr T c = tt T (c - 100) := by unfold vfr; rw [if_neg (by omega)]
    have ee : enT T c = tf T (c - 100) := by unfold enT; rw [if_neg (by omega)]
    rw [eg, ev, ee] at main
    have e100 : ((c : Int) - 100) = ((c - 100 : Nat) : Int) := by omega
    rw [e100, show ((c - 100 : Nat) : Int).toNat = c - 100 by omega, (hM.2.2.2 _ a2).1, (hM.2.2.2 _ a2).2, hX _ a2]
    refine ⟨fun _ => ⟨fun _ => ⟨⟨by omega, by omega⟩, fun _ => ⟨⟨by omega, by omega⟩, fun _ => ⟨⟨by omega, by omega⟩, ⟨by omega, by omega⟩, fun _ => ⟨⟨by omega, by omega⟩, main (-a) ?_ (by omega)⟩, fun c1 => absurd rfl c1⟩, fun c1 => absurd rfl c1⟩, fun c1 => absurd rfl c1⟩, fun c1 => absurd rfl c1⟩, fun c1 => by omega⟩
    unfold psX
    rw [if_pos eg.symm, if_neg (by omega)]; omega
end HPush3
