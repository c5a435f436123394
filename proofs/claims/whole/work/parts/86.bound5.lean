/-! bounds: the reference's net as flows -/
def RB (b : Bk) : Nat → AL
  | 0 => []
  | e + 1 => RB b e ++ (if bB b e 5 = 1 then [(tf (T0 b) e, tt (T0 b) e, liC b e), (12, tt (T0 b) e, loB b e), (tf (T0 b) e, 13, loB b e)] else [])
def RF (b : Bk) : AL := RB b (bn b) ++ [(bz b, 14, 100000000), (14, bs b, 100000000), (bs b, 14, 100000000), (14, bz b, 100000000)]
def lpB (b : Bk) (u v : Nat) : Int := (if bz b = u ∧ 14 = v then 100000000 else 0) + ((if 14 = u ∧ bs b = v then 100000000 else 0) + ((if bs b = u ∧ 14 = v then 100000000 else 0) + (if 14 = u ∧ bz b = v then 100000000 else 0)))
def R1 (b : Bk) (u v : Nat) : Int := C0 b u v + ((if u = 12 then inB b (bn b) v else 0) + (if v = 13 then ouB b (bn b) u else 0)) + lpB b u v
def gXR (b : Bk) (f : Nat → Nat → Int) (u v : Nat) : Int := (if u < 12 ∧ v < 12 then f u v else 0) + (((if u = 12 then inB b (bn b) v else 0) - (if v = 12 then inB b (bn b) u else 0)) + ((if v = 13 then ouB b (bn b) u else 0) - (if u = 13 then ouB b (bn b) v else 0))) + (((if u = 14 ∧ v = bs b then FM b f else 0) - (if v = 14 ∧ u = bs b then FM b f else 0)) + ((if v = 14 ∧ u = bz b then FM b f else 0) - (if u = 14 ∧ v = bz b then FM b f else 0)))
section Bound5
variable {b : Bk} {σ : PS} {Φ : Int → PS → Prop}
theorem in_out (hb : okB b) {v : Nat} (hv : 12 ≤ v) : inB b (bn b) v = 0 ∧ ouB b (bn b) v = 0 := by
  constructor
  · exact sm_0 (fun e he => if_neg (fun z => by have := ((okT_T0 hb).2.1 e he).2.1; omega))
  · exact sm_0 (fun e he => if_neg (fun z => by have := ((okT_T0 hb).2.1 e he).1; omega))
theorem RB_is (hb : okB b) : ∀ e, e ≤ bn b → okLs 15 (RB b e) ∧ (∀ u v, matL (RB b e) u v = cG e (tf (T0 b)) (tt (T0 b)) (liC b) u v + ((if u = 12 then inB b e v else 0) + (if v = 13 then ouB b e u else 0))) ∧ ∀ x, 0 ≤ outL x (RB b e) ∧ outL x (RB b e) ≤ e * 2000 := by
  intro e
  induction e with
  | zero => intro _; exact ⟨okLs.nil, fun u v => by show (0 : Int) = 0 + ((if u = 12 then 0 else 0) + (if v = 13 then 0 else 0)); split <;> split <;> rfl, fun x => ⟨Int.le_refl _, by show (0 : Int) ≤ (0 : Nat) * 2000; omega⟩⟩
  | succ e ih =>
    intro he
    obtain ⟨h1, h3, h4⟩ := ih (by omega)
    have hN := (okT_T0 hb).2.1 e he
    have hl := lo_rng hb he
    have ee : RB b (e + 1) = RB b e ++ (if bB b e 5 = 1 then [(tf (T0 b) e, tt (T0 b) e, liC b e), (12, tt (T0 b) e, loB b e), (tf (T0 b) e, 13, loB b e)] else []) := rfl
    have i1 : ∀ v, inB b (e + 1) v = inB b e v + (if tt (T0 b) e = v then loB b e else 0) := fun _ => rfl
    have i2 : ∀ v, ouB b (e + 1) v = ouB b e v + (if tf (T0 b) e = v then loB b e else 0) := fun _ => rfl
    rw [ee]
    by_cases q : bB b e 5 = 1
    · rw [if_pos q]
      have hli : 0 ≤ liC b e ∧ liC b e ≤ 999 := by unfold liC; omega
      refine ⟨h1.app (fun r hr => ?_), fun u v => ?_, fun x => ?_⟩
      · simp only [List.mem_cons, List.not_mem_nil, or_false] at hr
        rcases hr with hr | hr | hr <;> rw [hr]
        · exact ⟨⟨by show tf (T0 b) e < 15; omega, by show tt (T0 b) e < 15; omega, hN.2.2⟩, hli.1, by show liC b e ≤ _; omega⟩
        · exact ⟨⟨by show 12 < 15; omega, by show tt (T0 b) e < 15; omega, by show 12 ≠ tt (T0 b) e; omega⟩, hl.1, by show loB b e ≤ _; omega⟩
        · exact ⟨⟨by show tf (T0 b) e < 15; omega, by show 13 < 15; omega, by show tf (T0 b) e ≠ 13; omega⟩, hl.1, by show loB b e ≤ _; omega⟩
      · rw [matL_app, h3, cG_s, i1, i2]
        show _ + ((if tf (T0 b) e = u ∧ tt (T0 b) e = v then liC b e else 0) + ((if 12 = u ∧ tt (T0 b) e = v then loB b e else 0) + ((if tf (T0 b) e = u ∧ 13 = v then loB b e else 0) + 0))) = _
        have a1 : (if 12 = u ∧ tt (T0 b) e = v then loB b e else 0) = if u = 12 then (if tt (T0 b) e = v then loB b e else 0) else 0 := by
          by_cases p : u = 12
          · by_cases p2 : tt (T0 b) e = v
            · rw [if_pos ⟨p.symm, p2⟩, if_pos p, if_pos p2]
            · rw [if_neg (fun z => p2 z.2), if_pos p, if_neg p2]
          · rw [if_neg (fun z => p z.1.symm), if_neg p]
        have a2 : (if tf (T0 b) e = u ∧ 13 = v then loB b e else 0) = if v = 13 then (if tf (T0 b) e = u then loB b e else 0) else 0 := by
          by_cases p : v = 13
          · by_cases p2 : tf (T0 b) e = u
            · rw [if_pos ⟨p2, p.symm⟩, if_pos p, if_pos p2]
            · rw [if_neg (fun z => p2 z.1), if_pos p, if_neg p2]
          · rw [if_neg (fun z => p z.2.symm), if_neg p]
        rw [a1, a2]
        by_cases p : u = 12 <;> by_cases p2 : v = 13 <;> simp only [p, p2, if_true, if_false] <;> omega
      · rw [outL_app]
        show 0 ≤ outL x (RB b e) + ((if tf (T0 b) e = x then liC b e else 0) + ((if 12 = x then loB b e else 0) + ((if tf (T0 b) e = x then loB b e else 0) + 0))) ∧ outL x (RB b e) + ((if tf (T0 b) e = x then liC b e else 0) + ((if 12 = x then loB b e else 0) + ((if tf (T0 b) e = x then loB b e else 0) + 0))) ≤ ((e + 1 : Nat) : Int) * 2000
        have := h4 x
        have hc : liC b e + loB b e ≤ 999 := by unfold liC; omega
        split <;> split <;> omega
    · rw [if_neg q, List.append_nil]
      have z1 : loB b e = 0 := by unfold loB; rw [if_neg q]
      have z2 : liC b e = 0 := by unfold liC capB; rw [if_neg q, z1]; rfl
      refine ⟨h1, fun u v => ?_, fun x => by have := h4 x; omega⟩
      rw [h3, cG_s, i1, i2, z1, z2]
      have a0 : (if tf (T0 b) e = u ∧ tt (T0 b) e = v then (0 : Int) else 0) = 0 := by split <;> rfl
      have a1 : (if tt (T0 b) e = v then (0 : Int) else 0) = 0 := by split <;> rfl
      have a2 : (if tf (T0 b) e = u then (0 : Int) else 0) = 0 := by split <;> rfl
      rw [a0, a1, a2]
      by_cases p : u = 12 <;> by_cases p2 : v = 13 <;> simp only [p, p2, if_true, if_false] <;> omega
theorem R1_12 (hb : okB b) {v : Nat} (hv : v < 15) : R1 b 12 v = inB b (bn b) v := by
  have hs := hb.2.1
  have hz := hb.2.2.1
  unfold R1 lpB
  rw [C0_out hb (Or.inl (Nat.le_refl _)), if_pos rfl, if_neg (show ¬ (bz b = 12 ∧ 14 = v) by omega), if_neg (show ¬ (14 = 12 ∧ bs b = v) by omega), if_neg (show ¬ (bs b = 12 ∧ 14 = v) by omega), if_neg (show ¬ (14 = 12 ∧ bz b = v) by omega), (in_out hb (Nat.le_refl 12)).2]
  split <;> omega
theorem R1_13 (hb : okB b) {u : Nat} (hu : u < 15) : R1 b u 13 = ouB b (bn b) u := by
  have hs := hb.2.1
  have hz := hb.2.2.1
  unfold R1 lpB
  rw [C0_out hb (Or.inr (by omega)), if_neg (show ¬ (bz b = u ∧ 14 = 13) by omega), if_neg (show ¬ (14 = u ∧ bs b = 13) by omega), if_neg (show ¬ (bs b = u ∧ 14 = 13) by omega), if_neg (show ¬ (14 = u ∧ bz b = 13) by omega), (in_out hb (show 12 ≤ 13 by omega)).1, if_pos rfl]
  split <;> omega
theorem R1_in {u v : Nat} (hu : u < 12) (hv : v < 12) : R1 b u v = C0 b u v := by
  unfold R1 lpB
  rw [if_neg (show ¬ u = 12 by omega), if_neg (show ¬ v = 13 by omega), if_neg (show ¬ (bz b = u ∧ 14 = v) by omega), if_neg (show ¬ (14 = u ∧ bs b = v) by omega), if_neg (show ¬ (bs b = u ∧ 14 = v) by omega), if_neg (show ¬ (14 = u ∧ bz b = v) by omega)]
  omega
theorem R1_t12 (hb : okB b) {u : Nat} (hu : u ≠ 12) : R1 b u 12 = 0 := by
  have hs := hb.2.1
  have hz := hb.2.2.1
  unfold R1 lpB
  rw [C0_out hb (Or.inr (Nat.le_refl _)), if_neg hu, if_neg (show ¬ 12 = 13 by omega), if_neg (show ¬ (bz b = u ∧ 14 = 12) by omega), if_neg (show ¬ (14 = u ∧ bs b = 12) by omega), if_neg (show ¬ (bs b = u ∧ 14 = 12) by omega), if_neg (show ¬ (14 = u ∧ bz b = 12) by omega)]
  rfl
theorem R1_14 (hb : okB b) {u : Nat} (hu : u < 12) : R1 b u 14 = (if u = bs b then 100000000 else 0) + (if u = bz b then 100000000 else 0) ∧ R1 b 14 u = (if u = bs b then 100000000 else 0) + (if u = bz b then 100000000 else 0) := by
  have hs := hb.2.1
  have hz := hb.2.2.1
  have hsz := hb.2.2.2.1
  unfold R1 lpB
  rw [C0_out hb (Or.inr (by omega)), C0_out hb (Or.inl (by omega)), if_neg (show ¬ u = 12 by omega), if_neg (show ¬ 14 = 13 by omega), if_neg (show ¬ 14 = 12 by omega), if_neg (show ¬ u = 13 by omega), if_neg (show ¬ (14 = u ∧ bs b = 14) by omega), if_neg (show ¬ (14 = u ∧ bz b = 14) by omega), if_neg (show ¬ (bz b = 14 ∧ 14 = u) by omega), if_neg (show ¬ (bs b = 14 ∧ 14 = u) by omega)]
  by_cases p : u = bs b
  · rw [if_pos p, if_neg (show ¬ u = bz b from fun z => hsz (p.symm.trans z)), if_neg (show ¬ (bz b = u ∧ 14 = 14) from fun z => hsz (p.symm.trans z.1.symm)), if_pos (show bs b = u ∧ 14 = 14 from ⟨p.symm, rfl⟩), if_pos (show 14 = 14 ∧ bs b = u from ⟨rfl, p.symm⟩), if_neg (show ¬ (14 = 14 ∧ bz b = u) from fun z => hsz (p.symm.trans z.2.symm))]
    exact ⟨by omega, by omega⟩
  · rw [if_neg p, if_neg (show ¬ (bs b = u ∧ 14 = 14) from fun z => p z.1.symm), if_neg (show ¬ (14 = 14 ∧ bs b = u) from fun z => p z.2.symm)]
    by_cases p2 : u = bz b
    · rw [if_pos p2, if_pos (show bz b = u ∧ 14 = 14 from ⟨p2.symm, rfl⟩), if_pos (show 14 = 14 ∧ bz b = u from ⟨rfl, p2.symm⟩)]
      exact ⟨by omega, by omega⟩
    · rw [if_neg p2, if_neg (show ¬ (bz b = u ∧ 14 = 14) from fun z => p2 z.1.symm), if_neg (show ¬ (14 = 14 ∧ bz b = u) from fun z => p2 z.2.symm)]
      exact ⟨by omega, by omega⟩
theorem RF_is (hb : okB b) : okLs 15 (RF b) ∧ (∀ u v, matL (RF b) u v = R1 b u v) ∧ ∀ x, outL x (RF b) ≤ 460000000 := by
  have hn := hb.1
  obtain ⟨h1, h3, h4⟩ := RB_is hb _ (Nat.le_refl _)
  have hs := hb.2.1
  have hz := hb.2.2.1
  unfold RF
  refine ⟨h1.app (fun r hr => ?_), fun u v => ?_, fun x => ?_⟩
  · simp only [List.mem_cons, List.not_mem_nil, or_false] at hr
    rcases hr with hr | hr | hr | hr <;> rw [hr]
    · exact ⟨⟨by show bz b < 15; omega, by show 14 < 15; omega, by show bz b ≠ 14; omega⟩, by show (0 : Int) ≤ 100000000; omega, by show (100000000 : Int) ≤ _; omega⟩
    · exact ⟨⟨by show 14 < 15; omega, by show bs b < 15; omega, by show 14 ≠ bs b; omega⟩, by show (0 : Int) ≤ 100000000; omega, by show (100000000 : Int) ≤ _; omega⟩
    · exact ⟨⟨by show bs b < 15; omega, by show 14 < 15; omega, by show bs b ≠ 14; omega⟩, by show (0 : Int) ≤ 100000000; omega, by show (100000000 : Int) ≤ _; omega⟩
    · exact ⟨⟨by show 14 < 15; omega, by show bz b < 15; omega, by show 14 ≠ bz b; omega⟩, by show (0 : Int) ≤ 100000000; omega, by show (100000000 : Int) ≤ _; omega⟩
  · rw [matL_app, h3]
    unfold R1 lpB
    show C0 b u v + _ + ((if bz b = u ∧ 14 = v then 100000000 else 0) + ((if 14 = u ∧ bs b = v then 100000000 else 0) + ((if bs b = u ∧ 14 = v then 100000000 else 0) + ((if 14 = u ∧ bz b = v then 100000000 else 0) + 0)))) = _
    omega
  · rw [outL_app]
    show outL x (RB b (bn b)) + ((if bz b = x then 100000000 else 0) + ((if 14 = x then 100000000 else 0) + ((if bs b = x then 100000000 else 0) + ((if 14 = x then 100000000 else 0) + 0)))) ≤ 460000000
    have := h4 x
    split <;> split <;> split <;> omega
theorem sm_15 (g : Nat → Int) : sm g 15 = sm g 12 + g 12 + g 13 + g 14 := rfl
theorem outR_12 (hb : okB b) : outf 15 (R1 b) 12 = sm (loB b) (bn b) := by
  unfold outf
  have e : sm (fun w => R1 b 12 w) 15 = sm (inB b (bn b)) 15 := sm_congr (fun v hv => R1_12 hb hv)
  rw [e, sm_15, (in_out hb (Nat.le_refl 12)).1, (in_out hb (show 12 ≤ 13 by omega)).1, (in_out hb (show 12 ≤ 14 by omega)).1, (io_sum hb _ (Nat.le_refl _)).1]
  omega
theorem br_full {M : Nat → Nat → Int} {V : Int} (hb : okB b) (h : RO 15 (R1 b) 12 13 M V) (hV : V = sm (loB b) (bn b)) : FeasM b (fun u v => C0 b u v - M u v) ∧ FM b (fun u v => C0 b u v - M u v) = M (bs b) 14 - 100000000 := by
  have hs := hb.2.1
  have hz := hb.2.2.1
  have hsz := hb.2.2.2.1
  have hf := h.flow
  have hd : ∀ u v, u < 15 → v < 15 → (fun u w => R1 b u w - M u w) u v = -(fun u w => R1 b u w - M u w) v u := hf.1
  have o12 := h.2.2.2
  have r12 : ∀ v, v < 15 → M 12 v = 0 := by
    have e : sm (fun v => -M 12 v) 15 = 0 := by
      have e1 : outf 15 (fun u w => R1 b u w - M u w) 12 = outf 15 (R1 b) 12 - sm (M 12) 15 := sm_sub _ _ 15
      rw [outR_12 hb, o12] at e1
      rw [sm_neg]
      omega
    exact fun v hv => by
      have := sm_z (fun k hk => by have := h.2.1 12 k (by omega) hk; show -M 12 k ≤ 0; omega) e v hv
      have this : -M 12 v = 0 := this
      omega
  have o13 : outf 15 (fun u w => R1 b u w - M u w) 13 = -V := by
    have h1 : sm (fun u => outf 15 (fun u w => R1 b u w - M u w) u) 15 = 0 := anti_0 hf.1
    rw [sm_two (i := 12) (j := 13) (by omega) (by omega) (by omega) (fun k hk n1 n2 => h.2.2.1 k hk n1 n2), o12] at h1
    omega
  have r13 : ∀ v, v < 15 → M v 13 = 0 := by
    have e1 : outf 15 (fun u w => R1 b u w - M u w) 13 = sm (fun v => M v 13 - R1 b v 13) 15 := sm_congr (fun v hv => by
      have := hd 13 v (by omega) hv
      have this : R1 b 13 v - M 13 v = -(R1 b v 13 - M v 13) := this
      show R1 b 13 v - M 13 v = M v 13 - R1 b v 13
      omega)
    have e2 : sm (fun v => R1 b v 13) 15 = sm (loB b) (bn b) := by
      have e : sm (fun w => R1 b w 13) 15 = sm (ouB b (bn b)) 15 := sm_congr (fun v hv => R1_13 hb hv)
      rw [e, sm_15, (in_out hb (Nat.le_refl 12)).2, (in_out hb (show 12 ≤ 13 by omega)).2, (in_out hb (show 12 ≤ 14 by omega)).2, (io_sum hb _ (Nat.le_refl _)).2]
      omega
    have e3 : sm (fun v => M v 13 - R1 b v 13) 15 = sm (fun v => M v 13) 15 - sm (fun v => R1 b v 13) 15 := sm_sub _ _ 15
    have e : sm (fun v => -M v 13) 15 = 0 := by
      rw [sm_neg]
      omega
    exact fun v hv => by
      have := sm_z (fun k hk => by have := h.2.1 k 13 hk (by omega); show -M k 13 ≤ 0; omega) e v hv
      have this : -M v 13 = 0 := this
      omega
  have key : ∀ v, v < 12 → outf 12 (fun u v => C0 b u v - M u v) v + hX b v + (R1 b v 14 - M v 14) = 0 := fun v hv => by
    have ov := h.2.2.1 v (by omega) (by omega) (by omega)
    have e : outf 15 (fun u w => R1 b u w - M u w) v = outf 12 (fun u w => R1 b u w - M u w) v + (R1 b v 12 - M v 12) + (R1 b v 13 - M v 13) + (R1 b v 14 - M v 14) := sm_15 _
    have e2 : outf 12 (fun u w => R1 b u w - M u w) v = outf 12 (fun u v => C0 b u v - M u v) v := sm_congr (fun w hw => by
      show R1 b v w - M v w = C0 b v w - M v w
      rw [R1_in hv hw])
    have a1 := hd v 12 (by omega) (by omega)
    have a1 : R1 b v 12 - M v 12 = -(R1 b 12 v - M 12 v) := a1
    rw [R1_12 hb (by omega), r12 v (by omega)] at a1
    have a2 := r13 v (by omega)
    have a3 := @R1_13 b hb v (by omega)
    unfold hX
    omega
  refine ⟨⟨fun u v hu hv => ?_, fun u v hu hv => ?_, fun v hv n1 n2 => ?_⟩, ?_⟩
  · have := hd u v (by omega) (by omega)
    have this : R1 b u v - M u v = -(R1 b v u - M v u) := this
    rw [R1_in hu hv, R1_in hv hu] at this
    exact this
  · have := h.2.1 u v (by omega) (by omega)
    show C0 b u v - M u v ≤ C0 b u v
    omega
  · have k := key v hv
    have a := h.1 v 14 (by omega) (by omega)
    have p1 := h.2.1 v 14 (by omega) (by omega)
    have p2 := h.2.1 14 v (by omega) (by omega)
    have r := R1_14 hb hv
    rw [if_neg n1, if_neg n2] at r
    omega
  · have k := key (bs b) hs
    have r := R1_14 hb hs
    rw [if_pos rfl, if_neg hsz] at r
    unfold FM
    omega
theorem br_ex {f : Nat → Nat → Int} (hb : okB b) (h : FeasM b f) : IsFlow 15 (R1 b) 12 13 (gXR b f) (sm (loB b) (bn b)) := by
  have hbd := FM_bd hb h
  have hs := hb.2.1
  have hz := hb.2.2.1
  have hsz := hb.2.2.2.1
  have i12 := in_out hb (Nat.le_refl 12)
  have i13 := in_out hb (show 12 ≤ 13 by omega)
  have i14 := in_out hb (show 12 ≤ 14 by omega)
  refine ⟨fun u v hu hv => ?_, fun u v hu hv => ?_, fun v hv n1 n2 => ?_, ?_⟩
  · unfold gXR
    by_cases p : u < 12 ∧ v < 12
    · have := h.1 u v p.1 p.2
      rw [if_pos p, if_pos (show v < 12 ∧ u < 12 from ⟨p.2, p.1⟩)]
      omega
    · rw [if_neg p, if_neg (show ¬ (v < 12 ∧ u < 12) from fun z => p ⟨z.2, z.1⟩)]
      omega
  · unfold gXR
    by_cases p : u < 12 ∧ v < 12
    · rw [R1_in p.1 p.2, if_pos p, if_neg (show ¬ u = 12 by omega), if_neg (show ¬ v = 12 by omega), if_neg (show ¬ v = 13 by omega), if_neg (show ¬ u = 13 by omega), if_neg (show ¬ (u = 14 ∧ v = bs b) by omega), if_neg (show ¬ (v = 14 ∧ u = bs b) by omega), if_neg (show ¬ (v = 14 ∧ u = bz b) by omega), if_neg (show ¬ (u = 14 ∧ v = bz b) by omega)]
      have := h.2.1 u v p.1 p.2
      omega
    · rw [if_neg p]
      have c0 := (C0_rng hb u v).1
      have n1 : 0 ≤ (if v = 12 then inB b (bn b) u else 0) := by have := io_rng hb (Nat.le_refl _) u; split <;> omega
      have n2 : 0 ≤ (if u = 13 then ouB b (bn b) v else 0) := by have := io_rng hb (Nat.le_refl _) v; split <;> omega
      unfold R1 lpB
      have l1 : ((if u = 14 ∧ v = bs b then FM b f else 0) - (if v = 14 ∧ u = bs b then FM b f else 0)) + ((if v = 14 ∧ u = bz b then FM b f else 0) - (if u = 14 ∧ v = bz b then FM b f else 0)) ≤ (if bz b = u ∧ 14 = v then 100000000 else 0) + ((if 14 = u ∧ bs b = v then 100000000 else 0) + ((if bs b = u ∧ 14 = v then 100000000 else 0) + (if 14 = u ∧ bz b = v then 100000000 else 0))) := by
        by_cases q1 : u = 14
        · by_cases q2 : v = bs b
          · rw [if_pos ⟨q1, q2⟩, if_neg (show ¬ (v = 14 ∧ u = bs b) by omega), if_neg (show ¬ (v = 14 ∧ u = bz b) by omega), if_neg (show ¬ (u = 14 ∧ v = bz b) by omega), if_pos (show 14 = u ∧ bs b = v from ⟨q1.symm, q2.symm⟩), if_neg (show ¬ (bz b = u ∧ 14 = v) by omega), if_neg (show ¬ (bs b = u ∧ 14 = v) by omega), if_neg (show ¬ (14 = u ∧ bz b = v) by omega)]
            omega
          · rw [if_neg (show ¬ (u = 14 ∧ v = bs b) from fun z => q2 z.2), if_neg (show ¬ (v = 14 ∧ u = bs b) by omega), if_neg (show ¬ (v = 14 ∧ u = bz b) by omega), if_neg (show ¬ (14 = u ∧ bs b = v) from fun z => q2 z.2.symm), if_neg (show ¬ (bz b = u ∧ 14 = v) by omega), if_neg (show ¬ (bs b = u ∧ 14 = v) by omega)]
            by_cases q3 : v = bz b
            · rw [if_pos ⟨q1, q3⟩, if_pos (show 14 = u ∧ bz b = v from ⟨q1.symm, q3.symm⟩)]; omega
            · rw [if_neg (fun z => q3 z.2), if_neg (show ¬ (14 = u ∧ bz b = v) from fun z => q3 z.2.symm)]; omega
        · rw [if_neg (show ¬ (u = 14 ∧ v = bs b) from fun z => q1 z.1), if_neg (show ¬ (u = 14 ∧ v = bz b) from fun z => q1 z.1), if_neg (show ¬ (14 = u ∧ bs b = v) from fun z => q1 z.1.symm), if_neg (show ¬ (14 = u ∧ bz b = v) from fun z => q1 z.1.symm)]
          by_cases q2 : v = 14 ∧ u = bs b
          · rw [if_pos q2, if_neg (show ¬ (v = 14 ∧ u = bz b) by omega), if_neg (show ¬ (bz b = u ∧ 14 = v) by omega), if_pos (show bs b = u ∧ 14 = v from ⟨q2.2.symm, q2.1.symm⟩)]; omega
          · rw [if_neg q2, if_neg (show ¬ (bs b = u ∧ 14 = v) from fun z => q2 ⟨z.2.symm, z.1.symm⟩)]
            by_cases q3 : v = 14 ∧ u = bz b
            · rw [if_pos q3, if_pos (show bz b = u ∧ 14 = v from ⟨q3.2.symm, q3.1.symm⟩)]; omega
            · rw [if_neg q3, if_neg (show ¬ (bz b = u ∧ 14 = v) from fun z => q3 ⟨z.2.symm, z.1.symm⟩)]; omega
      omega
  · by_cases p : v < 12
    · have e : ∀ w, w < 15 → (gXR b f) v w = (if w < 12 then f v w else 0) + ((if w = 12 then -inB b (bn b) v else 0) + (if w = 13 then ouB b (bn b) v else 0) + (if w = 14 then (if v = bz b then FM b f else 0) - (if v = bs b then FM b f else 0) else 0)) := fun w hw => by
        show (if v < 12 ∧ w < 12 then f v w else 0) + (((if v = 12 then inB b (bn b) w else 0) - (if w = 12 then inB b (bn b) v else 0)) + ((if w = 13 then ouB b (bn b) v else 0) - (if v = 13 then ouB b (bn b) w else 0))) + (((if v = 14 ∧ w = bs b then FM b f else 0) - (if w = 14 ∧ v = bs b then FM b f else 0)) + ((if w = 14 ∧ v = bz b then FM b f else 0) - (if v = 14 ∧ w = bz b then FM b f else 0))) = _
        rw [if_neg (show ¬ v = 12 by omega), if_neg (show ¬ v = 13 by omega), if_neg (show ¬ (v = 14 ∧ w = bs b) by omega), if_neg (show ¬ (v = 14 ∧ w = bz b) by omega)]
        by_cases q : w < 12
        · simp only [if_pos (show v < 12 ∧ w < 12 from ⟨p, q⟩), if_pos q, if_neg (show ¬ w = 12 by omega), if_neg (show ¬ w = 13 by omega), if_neg (show ¬ (w = 14 ∧ v = bs b) by omega), if_neg (show ¬ (w = 14 ∧ v = bz b) by omega), if_neg (show ¬ w = 14 by omega)]
          omega
        · rw [if_neg (show ¬ (v < 12 ∧ w < 12) from fun z => q z.2), if_neg q]
          by_cases q2 : w = 12
          · simp only [if_pos q2, if_neg (show ¬ w = 13 by omega), if_neg (show ¬ (w = 14 ∧ v = bs b) by omega), if_neg (show ¬ (w = 14 ∧ v = bz b) by omega), if_neg (show ¬ w = 14 by omega)]
            omega
          · simp only [if_neg q2]
            by_cases q3 : w = 13
            · simp only [if_pos q3, if_neg (show ¬ (w = 14 ∧ v = bs b) by omega), if_neg (show ¬ (w = 14 ∧ v = bz b) by omega), if_neg (show ¬ w = 14 by omega)]
              omega
            · have q4 : w = 14 := by omega
              simp only [if_neg q3, if_pos q4]
              by_cases q5 : v = bs b
              · rw [if_pos (show w = 14 ∧ v = bs b from ⟨q4, q5⟩), if_pos q5, if_neg (show ¬ (w = 14 ∧ v = bz b) by omega), if_neg (show ¬ v = bz b by omega)]; omega
              · rw [if_neg (show ¬ (w = 14 ∧ v = bs b) from fun z => q5 z.2), if_neg q5]
                by_cases q6 : v = bz b
                · rw [if_pos (show w = 14 ∧ v = bz b from ⟨q4, q6⟩), if_pos q6]; omega
                · rw [if_neg (show ¬ (w = 14 ∧ v = bz b) from fun z => q6 z.2), if_neg q6]; omega
      unfold outf
      rw [sm_congr e, sm_15]
      have e1 : sm (fun w => (if w < 12 then f v w else 0) + ((if w = 12 then -inB b (bn b) v else 0) + (if w = 13 then ouB b (bn b) v else 0) + (if w = 14 then (if v = bz b then FM b f else 0) - (if v = bs b then FM b f else 0) else 0))) 12 = outf 12 f v := sm_congr (fun w hw => by
        rw [if_pos hw, if_neg (show ¬ w = 12 by omega), if_neg (show ¬ w = 13 by omega), if_neg (show ¬ w = 14 by omega)]; omega)
      rw [e1]
      show outf 12 f v + (0 + (-inB b (bn b) v + 0 + 0)) + (0 + (0 + ouB b (bn b) v + 0)) + (0 + (0 + 0 + ((if v = bz b then FM b f else 0) - (if v = bs b then FM b f else 0)))) = 0
      by_cases q1 : v = bz b
      · have hzz := h.z hb
        rw [if_pos q1, if_neg (show ¬ v = bs b from fun z => hsz (z.symm.trans q1))]
        unfold hX at hzz
        rw [q1]
        omega
      · rw [if_neg q1]
        by_cases q2 : v = bs b
        · rw [if_pos q2]
          unfold FM hX
          rw [q2]
          omega
        · rw [if_neg q2]
          have := h.2.2 v p q2 q1
          unfold hX at this
          omega
    · have q4 : v = 14 := by omega
      subst q4
      have e : ∀ w, w < 15 → (gXR b f) 14 w = (if w = bs b then FM b f else 0) - (if w = bz b then FM b f else 0) := fun w hw => by
        show (if 14 < 12 ∧ w < 12 then f 14 w else 0) + (((if 14 = 12 then inB b (bn b) w else 0) - (if w = 12 then inB b (bn b) 14 else 0)) + ((if w = 13 then ouB b (bn b) 14 else 0) - (if 14 = 13 then ouB b (bn b) w else 0))) + (((if 14 = 14 ∧ w = bs b then FM b f else 0) - (if w = 14 ∧ 14 = bs b then FM b f else 0)) + ((if w = 14 ∧ 14 = bz b then FM b f else 0) - (if 14 = 14 ∧ w = bz b then FM b f else 0))) = _
        have z1 : (if w = 12 then inB b (bn b) 14 else 0) = 0 := by rw [i14.1]; split <;> rfl
        have z2 : (if w = 13 then ouB b (bn b) 14 else 0) = 0 := by rw [i14.2]; split <;> rfl
        have z3 : (if 14 = 14 ∧ w = bs b then FM b f else 0) = if w = bs b then FM b f else 0 := by
          by_cases q : w = bs b
          · rw [if_pos ⟨rfl, q⟩, if_pos q]
          · rw [if_neg (fun z => q z.2), if_neg q]
        have z4 : (if 14 = 14 ∧ w = bz b then FM b f else 0) = if w = bz b then FM b f else 0 := by
          by_cases q : w = bz b
          · rw [if_pos ⟨rfl, q⟩, if_pos q]
          · rw [if_neg (fun z => q z.2), if_neg q]
        rw [z1, z2, z3, z4, if_neg (show ¬ (14 < 12 ∧ w < 12) by omega), if_neg (show ¬ 14 = 12 by omega), if_neg (show ¬ 14 = 13 by omega), if_neg (show ¬ (w = 14 ∧ 14 = bs b) by omega), if_neg (show ¬ (w = 14 ∧ 14 = bz b) by omega)]
        omega
      unfold outf
      rw [sm_congr e, sm_sub, sm_one (show bs b < 15 by omega) (fun k _ hk => if_neg hk), sm_one (show bz b < 15 by omega) (fun k _ hk => if_neg hk), if_pos rfl, if_pos rfl]
      omega
  · have e : ∀ w, w < 15 → (gXR b f) 12 w = R1 b 12 w := fun w hw => by
      show (if 12 < 12 ∧ w < 12 then f 12 w else 0) + (((if 12 = 12 then inB b (bn b) w else 0) - (if w = 12 then inB b (bn b) 12 else 0)) + ((if w = 13 then ouB b (bn b) 12 else 0) - (if 12 = 13 then ouB b (bn b) w else 0))) + (((if 12 = 14 ∧ w = bs b then FM b f else 0) - (if w = 14 ∧ 12 = bs b then FM b f else 0)) + ((if w = 14 ∧ 12 = bz b then FM b f else 0) - (if 12 = 14 ∧ w = bz b then FM b f else 0))) = _
      have z1 : (if w = 12 then inB b (bn b) 12 else 0) = 0 := by rw [i12.1]; split <;> rfl
      have z2 : (if w = 13 then ouB b (bn b) 12 else 0) = 0 := by rw [i12.2]; split <;> rfl
      rw [z1, z2, R1_12 hb hw, if_neg (show ¬ (12 < 12 ∧ w < 12) by omega), if_pos (show 12 = 12 from rfl), if_neg (show ¬ 12 = 13 by omega), if_neg (show ¬ (12 = 14 ∧ w = bs b) by omega), if_neg (show ¬ (w = 14 ∧ 12 = bs b) by omega), if_neg (show ¬ (w = 14 ∧ 12 = bz b) by omega), if_neg (show ¬ (12 = 14 ∧ w = bz b) by omega)]
      omega
    have := outR_12 hb
    unfold outf at this ⊢
    rw [sm_congr e]
    exact this
end Bound5
