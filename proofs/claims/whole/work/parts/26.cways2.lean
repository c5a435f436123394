section CWays2
variable {T : NT} {σ : PS} {Φ : Int → PS → Prop}
/-- what the class's ByWays holds when it is fresh -/
def CWD (T : NT) (σ : PS) : Prop := σ 3 7 = (KT T : Int) ∧ σ 3 8 = mostT T ∧ CWay T (KT T) σ ∧ QX T (xE T) σ ∧ CL 29 T σ ∧ bRe T (xE T) (ts T) (σ 3 9) ∧ bP 12 (σ 3 10) (fun v => 0 ≤ dT T (xE T) v)
theorem c_run_end {σ0 : PS} (hT : okT T) (hI : CI T σ0 σ) (h37 : σ 3 7 = (KT T : Int)) (h38 : σ 3 8 = mostT T) (hW : CWay T (KT T) σ) (hX : QX T (xE T) σ) (hd : IsDist 12 (stT T (xE T)) (tz T) (fun v => σ 30 v))
    (h : ∀ σ' : PS, CI T σ0 σ' → CWD T σ' → Φ 0 σ') : LX1_run_76 σ Φ := by
  unfold LX1_run_76
  have hs := hT.2.2.2.1
  rw [hI.1.2.1]
  refine c_spread hT hI.1 hX hI.2.1 hs (fun b hb σ3 g3 σ4 g4 => ⟨13, ?_⟩)
  have loop : ∀ (f i : Nat) (σ' : PS), i ≤ 12 → 12 - i < f → Off [3] σ σ' → CI T σ0 σ' → σ' 3 7 = (KT T : Int) → σ' 3 8 = mostT T → σ' 3 9 = b → bP i (σ' 3 10) (fun v => 0 ≤ dT T (xE T) v) → LX1_run_96 f i σ' Φ := by
    intro f
    induction f with
    | zero => intro i σ' h1 h2; omega
    | succ f ih =>
      intro i σ' hi hf ho hI' a7 a8 a9 a10
      unfold LX1_run_96 BX1_run_96
      refine ⟨fun c => ?_, fun c => ⟨⟨by omega, by omega⟩, ?_⟩⟩
      · have e : i = 12 := by omega
        subst e
        refine h σ' hI' ⟨a7, a8, fun k hk => ?_, hX.off ho (by simp), hI'.2.1, by rw [a9]; exact hb, a10⟩
        rw [ho 26 (by simp), ho 27 (by simp), ho 28 (by simp)]
        exact hW k hk
      · have go : ∀ z : Int, bP (i + 1) (ior (σ' 3 10) z) (fun v => 0 ≤ dT T (xE T) v) → LX1_run_123 (fun x2 σ => LX1_run_96 f x2 σ Φ) i (σ' 3 10) z σ' Φ := fun z hz σ1 g1 => by
          refine ⟨⟨by omega, by omega⟩, ?_⟩
          rw [g1]
          have o1 : Off [3] σ' (up2 σ' 3 10 (ior (σ' 3 10) z)) := Off.rf.up (by simp)
          refine ih (i + 1) _ (by omega) (by omega) (ho.trans o1) (hI'.up3 (by omega)) ?_ ?_ ?_ ?_
          · rw [up2_ni (by omega), a7]
          · rw [up2_ni (by omega), a8]
          · rw [up2_ni (by omega), a9]
          · rw [up2_at]; exact hz
        rw [show ((i : Nat) : Int).toNat = i by omega, ho 30 (by simp)]
        have e : σ 30 i = dT T (xE T) i := hd.one (dT_is T _) (by omega)
        rw [e]
        refine ⟨fun c2 => go 0 ?_, fun c2 => go _ (a10.put (by omega) (by show 0 ≤ _; omega))⟩
        rw [ior_0 a10.1]
        exact a10.no (by show ¬ 0 ≤ _; omega)
  have o4 : Off [3] σ σ4 := by rw [g4, g3]; exact (Off.rf.up (by simp)).up (by simp)
  refine loop 13 0 σ4 (by omega) (by omega) o4 (by rw [g4, g3]; exact (hI.up3 (by omega)).up3 (by omega)) ?_ ?_ ?_ ?_
  · rw [g4, up2_ni (by omega), g3, up2_ni (by omega), h37]
  · rw [g4, up2_ni (by omega), g3, up2_ni (by omega), h38]
  · rw [g4, up2_ni (by omega), g3, up2_at]
  · rw [g4, up2_at]; exact bP.init _
theorem c_run (hT : okT T) (hM : CN T σ) (hU : CU T σ) (h : ∀ σ' : PS, CI T σ σ' → CWD T σ' → Φ 0 σ') : FX1_run σ Φ := by
  have hn := hT.1
  have hKT := KT_spec hT
  unfold FX1_run
  refine c_copyUsable hM hU hn (fun σ2 o2 hL2 σ3 g3 σ4 g4 => ?_)
  have o3 : Off [25, 29] σ σ3 := by rw [g3]; exact (o2.mono (by simp)).fl (by simp)
  have o4 : Off [3, 25, 29] σ σ4 := by rw [g4]; exact (o3.mono (by simp)).up (by simp)
  have o24 : Off [3, 25] σ2 σ4 := by rw [g4, g3]; exact (Off.rf.fl (by simp)).up (by simp)
  have hM4 := hM.off o4 (by simp) (by simp) (by simp)
  have hL4 := hL2.off o24 (by simp)
  have hX4 : QX T (xT T 0) σ4 := fun e he => by
    rw [g4, up2_nk (by omega), g3]
    unfold fl2
    rw [if_pos ⟨rfl, by omega, by omega⟩]
    rfl
  have hI4 : CI T σ σ4 := ⟨hM4, hL4, o4.mono (by simp), fun i hi => by rw [g4, up2_ni (by omega), o3 3 (by simp)]⟩
  refine c_measure hT hM4 hX4 hL4 (fun σ6 o6 hd6 σ7 g7 => ⟨KT T + 1, ?_⟩)
  have o7 : Off [3] σ6 σ7 := by rw [g7]; exact Off.rf.up (by simp)
  have hI7 : CI T σ σ7 := by rw [g7]; exact (hI4.more (o6.mono (by simp))).up3 (by omega)
  have main : ∀ (f k : Nat) (σ' : PS), k ≤ KT T → KT T - k < f → CI T σ σ' → σ' 3 7 = (k : Int) → σ' 3 8 = sm (amK T) k → CWay T k σ' → QX T (xT T k) σ' → IsDist 12 (stT T (xT T k)) (tz T) (fun v => σ' 30 v) → LX1_run_31 f σ' Φ := by
    intro f
    induction f with
    | zero => intro k σ' h1 h2; omega
    | succ f ih =>
      intro k σ' hk hf hI h37 h38 hW hX hd
      have hs := hT.2.2.2.1
      unfold LX1_run_31 BX1_run_31
      rw [hI.1.2.1, show ((ts T : Nat) : Int).toNat = ts T by omega, h37]
      have e1 : σ' 30 (ts T) = dsT T k := hd.one (dT_is T _) hs
      rw [e1]
      refine ⟨fun c => by omega, fun c => ⟨⟨by omega, by omega⟩, fun c2 => ?_, fun c2 => ?_⟩⟩
      · have e : k = KT T := by
          by_cases q : k < KT T
          · have := hKT.2.1 k q; omega
          · omega
        rw [e] at h37 h38 hW hX hd
        exact c_run_end hT hI h37 h38 hW hX hd h
      · have hlt : k < KT T := by
          by_cases q : k < KT T
          · exact q
          · have e : k = KT T := by omega
            rw [e] at c2
            exact absurd (by omega) hKT.2.2
        refine c_takeWay hT hlt hI h37 h38 hW hX hd (fun σ5 b1 b2 b3 b4 b5 => ?_)
        refine c_measure hT b1.1 b5 b1.2.1 (fun σ8 o8 hd8 => ?_)
        rw [o8 3 (by simp), b2]
        refine ⟨⟨by omega, by omega⟩, fun σ9 g9 => ?_⟩
        have o9 : Off [3] σ8 σ9 := by rw [g9]; exact Off.rf.up (by simp)
        have hI9 : CI T σ σ9 := by rw [g9]; exact (b1.more (o8.mono (by simp))).up3 (by omega)
        refine ih (k + 1) σ9 (by omega) (by omega) hI9 ?_ ?_ (fun i hi => ?_) ((b5.off o8 (by simp)).off o9 (by simp)) ?_
        · rw [g9, up2_at]; omega
        · rw [g9, up2_ni (by omega), o8 3 (by simp), b3]
        · rw [o9 26 (by simp), o9 27 (by simp), o9 28 (by simp), o8 26 (by simp), o8 27 (by simp), o8 28 (by simp)]
          exact b4 i hi
        · have e : (fun v => σ9 30 v) = fun v => σ8 30 v := by rw [o9 30 (by simp)]
          rw [e]
          exact hd8
  refine main (KT T + 1) 0 σ7 (by omega) (by omega) hI7 (by rw [g7, up2_at]; rfl) ?_ (fun i hi => by omega) ((hX4.off o6 (by simp)).off o7 (by simp)) ?_
  · rw [g7, up2_ni (by omega), o6 3 (by simp), g4, up2_at]
    rfl
  · have e : (fun v => σ7 30 v) = fun v => σ6 30 v := by rw [o7 30 (by simp)]
    rw [e]
    exact hd6
end CWays2
