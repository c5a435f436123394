/-! bounds: the class's net -/
def psB (b : Bk) (v : Nat) : Int := max 0 (-hX b v)
def ngB (b : Bk) (v : Nat) : Int := max 0 (hX b v)
def C1 (b : Bk) (u v : Nat) : Int := C0 b u v + (if u = bz b ∧ v = bs b then 1000000000 else 0) + ((if u = 12 ∧ v < 12 then psB b v else 0) + (if v = 13 ∧ u < 12 then ngB b u else 0))
section Bound2
variable {b : Bk} {σ : PS} {Φ : Int → PS → Prop}
theorem hX_rng (hb : okB b) (v : Nat) : (-29970 ≤ hX b v ∧ hX b v ≤ 29970) ∧ (0 ≤ psB b v ∧ psB b v ≤ 29970) ∧ (0 ≤ ngB b v ∧ ngB b v ≤ 29970) ∧ psB b v - ngB b v = -hX b v := by
  have := io_rng hb (Nat.le_refl _) v
  unfold psB ngB hX
  omega
theorem C0_out (hb : okB b) {u v : Nat} (h : 12 ≤ u ∨ 12 ≤ v) : C0 b u v = 0 := sm_0 (fun e he => if_neg (fun z => by
  have hN := (okT_T0 hb).2.1 e he
  omega))
theorem C1_in {u v : Nat} (hu : u < 12) (hv : v < 12) : C1 b u v = C0 b u v + if u = bz b ∧ v = bs b then 1000000000 else 0 := by
  unfold C1
  rw [if_neg (show ¬ (u = 12 ∧ v < 12) by omega), if_neg (show ¬ (v = 13 ∧ u < 12) by omega)]
  omega
theorem C1_12 (hb : okB b) {v : Nat} : C1 b 12 v = if v < 12 then psB b v else 0 := by
  unfold C1
  rw [C0_out hb (Or.inl (Nat.le_refl _)), if_neg (show ¬ (12 = bz b ∧ v = bs b) from fun z => by have := hb.2.2.1; omega), if_neg (show ¬ (v = 13 ∧ 12 < 12) by omega)]
  by_cases q : v < 12
  · rw [if_pos ⟨rfl, q⟩, if_pos q]; omega
  · rw [if_neg (fun z => q z.2), if_neg q]; rfl
theorem C1_13 (hb : okB b) {u : Nat} : C1 b u 13 = if u < 12 then ngB b u else 0 := by
  unfold C1
  rw [C0_out hb (Or.inr (by omega)), if_neg (show ¬ (u = bz b ∧ 13 = bs b) from fun z => by have := hb.2.1; omega), if_neg (show ¬ (u = 12 ∧ 13 < 12) by omega)]
  by_cases q : u < 12
  · rw [if_pos ⟨rfl, q⟩, if_pos q]; omega
  · rw [if_neg (fun z => q z.2), if_neg q]; rfl
theorem C1_t12 (hb : okB b) {u : Nat} (hu : u ≠ 12) : C1 b u 12 = 0 := by
  unfold C1
  rw [C0_out hb (Or.inr (Nat.le_refl _)), if_neg (show ¬ (u = bz b ∧ 12 = bs b) from fun z => by have := hb.2.1; omega), if_neg (show ¬ (u = 12 ∧ 12 < 12) by omega), if_neg (show ¬ (12 = 13 ∧ u < 12) by omega)]
  rfl
theorem C1_f13 (hb : okB b) {v : Nat} (hv : v ≠ 13) : C1 b 13 v = 0 := by
  unfold C1
  rw [C0_out hb (Or.inl (by omega)), if_neg (show ¬ (13 = bz b ∧ v = bs b) from fun z => by have := hb.2.2.1; omega), if_neg (show ¬ (13 = 12 ∧ v < 12) by omega), if_neg (show ¬ (v = 13 ∧ 13 < 12) by omega)]
  rfl
theorem sm_14 (g : Nat → Int) : sm g 14 = sm g 12 + g 12 + g 13 := rfl
theorem pn_sum (hb : okB b) : sm (psB b) 12 = sm (ngB b) 12 := by
  have h := hX_sum hb
  have e : sm (fun v => psB b v - ngB b v) 12 = sm (fun v => -hX b v) 12 := sm_congr (fun v _ => (hX_rng hb v).2.2.2)
  rw [sm_sub, sm_neg, h] at e
  omega
theorem out_12 (hb : okB b) : outf 14 (C1 b) 12 = sm (psB b) 12 := by
  unfold outf
  rw [sm_14, C1_12 hb, C1_12 hb, if_neg (by omega), if_neg (by omega)]
  have : sm (fun w => C1 b 12 w) 12 = sm (psB b) 12 := sm_congr (fun v hv => by rw [C1_12 hb, if_pos hv])
  omega
theorem bc_full {M : Nat → Nat → Int} {V : Int} (hb : okB b) (h : RO 14 (C1 b) 12 13 M V) (hV : V = sm (psB b) 12) : (∀ v, v < 14 → M 12 v = 0) ∧ (∀ v, v < 14 → M v 13 = 0) ∧ ∀ v, v < 12 → outf 12 (fun u w => C1 b u w - M u w) v + hX b v = 0 := by
  have hf := h.flow
  have hd : ∀ u v, u < 14 → v < 14 → (fun u w => C1 b u w - M u w) u v = -(fun u w => C1 b u w - M u w) v u := hf.1
  have o12 := h.2.2.2
  -- all that the giver can give is given
  have r12 : ∀ v, v < 14 → M 12 v = 0 := by
    have e : sm (fun v => -M 12 v) 14 = 0 := by
      have e1 : outf 14 (fun u w => C1 b u w - M u w) 12 = outf 14 (C1 b) 12 - sm (M 12) 14 := sm_sub _ _ 14
      rw [out_12 hb, o12] at e1
      rw [sm_neg]
      omega
    exact fun v hv => by
      have := sm_z (fun k hk => by have := h.2.1 12 k (by omega) hk; show -M 12 k ≤ 0; omega) e v hv
      have this : -M 12 v = 0 := this
      omega
  have o13 : outf 14 (fun u w => C1 b u w - M u w) 13 = -V := by
    have h1 : sm (fun u => outf 14 (fun u w => C1 b u w - M u w) u) 14 = 0 := anti_0 hf.1
    rw [sm_two (i := 12) (j := 13) (by omega) (by omega) (by omega) (fun k hk n1 n2 => h.2.2.1 k hk n1 n2), o12] at h1
    omega
  have r13 : ∀ v, v < 14 → M v 13 = 0 := by
    have e1 : outf 14 (fun u w => C1 b u w - M u w) 13 = sm (fun v => M v 13 - C1 b v 13) 14 := sm_congr (fun v hv => by
      have := hd 13 v (by omega) hv
      have this : C1 b 13 v - M 13 v = -(C1 b v 13 - M v 13) := this
      show C1 b 13 v - M 13 v = M v 13 - C1 b v 13
      omega)
    have e2 : sm (fun v => C1 b v 13) 14 = sm (ngB b) 12 := by
      rw [sm_14, C1_13 hb, C1_13 hb, if_neg (by omega), if_neg (by omega)]
      have : sm (fun w => C1 b w 13) 12 = sm (ngB b) 12 := sm_congr (fun v hv => by rw [C1_13 hb, if_pos hv])
      omega
    have e3 : sm (fun v => M v 13 - C1 b v 13) 14 = sm (fun v => M v 13) 14 - sm (fun v => C1 b v 13) 14 := sm_sub _ _ 14
    have hp := pn_sum hb
    have e : sm (fun v => -M v 13) 14 = 0 := by
      rw [sm_neg]
      omega
    exact fun v hv => by
      have := sm_z (fun k hk => by have := h.2.1 k 13 hk (by omega); show -M k 13 ≤ 0; omega) e v hv
      have this : -M v 13 = 0 := this
      omega
  refine ⟨r12, r13, fun v hv => ?_⟩
  have ov := h.2.2.1 v (by omega) (by omega) (by omega)
  have e : outf 14 (fun u w => C1 b u w - M u w) v = outf 12 (fun u w => C1 b u w - M u w) v + (C1 b v 12 - M v 12) + (C1 b v 13 - M v 13) := sm_14 _
  have a1 := hd v 12 (by omega) (by omega)
  have a1 : C1 b v 12 - M v 12 = -(C1 b 12 v - M 12 v) := a1
  rw [C1_12 hb, if_pos hv, r12 v (by omega)] at a1
  have a2 := r13 v (by omega)
  have a3 := @C1_13 b hb v
  rw [if_pos hv] at a3
  have := (hX_rng hb v).2.2.2
  omega
theorem bc_ex {f : Nat → Nat → Int} (hb : okB b) (h : FeasM b f) (h0 : 0 ≤ FM b f) : IsFlow 14 (C1 b) 12 13 (fun u v => (if u < 12 ∧ v < 12 then f u v + (if u = bz b ∧ v = bs b then FM b f else 0) - (if u = bs b ∧ v = bz b then FM b f else 0) else 0) + ((if u = 12 ∧ v < 12 then psB b v else 0) - (if v = 12 ∧ u < 12 then psB b u else 0) + ((if v = 13 ∧ u < 12 then ngB b u else 0) - (if u = 13 ∧ v < 12 then ngB b v else 0)))) (sm (psB b) 12) := by
  have hbd := FM_bd hb h
  have hsz := hb.2.2.2.1
  refine ⟨fun u v hu hv => ?_, fun u v hu hv => ?_, fun v hv n1 n2 => ?_, ?_⟩
  · show _ = -_
    by_cases p : u < 12 ∧ v < 12
    · have := h.1 u v p.1 p.2
      simp only [if_pos p, if_pos (And.intro p.2 p.1), if_neg (show ¬ (u = 12 ∧ v < 12) by omega), if_neg (show ¬ (v = 12 ∧ u < 12) by omega), if_neg (show ¬ (v = 13 ∧ u < 12) by omega), if_neg (show ¬ (u = 13 ∧ v < 12) by omega)]
      split <;> split <;> split <;> split <;> omega
    · simp only [if_neg p, if_neg (show ¬ (v < 12 ∧ u < 12) from fun z => p ⟨z.2, z.1⟩)]
      omega
  · show _ ≤ _
    by_cases p : u < 12 ∧ v < 12
    · have := h.2.1 u v p.1 p.2
      rw [C1_in p.1 p.2]
      simp only [if_pos p, if_neg (show ¬ (u = 12 ∧ v < 12) by omega), if_neg (show ¬ (v = 12 ∧ u < 12) by omega), if_neg (show ¬ (v = 13 ∧ u < 12) by omega), if_neg (show ¬ (u = 13 ∧ v < 12) by omega)]
      split <;> split <;> omega
    · have c0 := (C0_rng hb u v).1
      have p1 := (hX_rng hb u).2.1.1
      have p2 := (hX_rng hb v).2.2.1.1
      unfold C1
      simp only [if_neg p]
      have z1 : 0 ≤ (if u = bz b ∧ v = bs b then (1000000000 : Int) else 0) := by split <;> omega
      have z2 : 0 ≤ (if v = 12 ∧ u < 12 then psB b u else 0) := by split <;> omega
      have z3 : 0 ≤ (if u = 13 ∧ v < 12 then ngB b v else 0) := by split <;> omega
      omega
  · have hv2 : v < 12 := by omega
    have e : outf 14 (fun u v => (if u < 12 ∧ v < 12 then f u v + (if u = bz b ∧ v = bs b then FM b f else 0) - (if u = bs b ∧ v = bz b then FM b f else 0) else 0) + ((if u = 12 ∧ v < 12 then psB b v else 0) - (if v = 12 ∧ u < 12 then psB b u else 0) + ((if v = 13 ∧ u < 12 then ngB b u else 0) - (if u = 13 ∧ v < 12 then ngB b v else 0)))) v = sm (fun w => f v w + (if v = bz b ∧ w = bs b then FM b f else 0) - (if v = bs b ∧ w = bz b then FM b f else 0)) 12 + -psB b v + ngB b v := by
      unfold outf
      rw [sm_14]
      have e1 : sm (fun w => (if v < 12 ∧ w < 12 then f v w + (if v = bz b ∧ w = bs b then FM b f else 0) - (if v = bs b ∧ w = bz b then FM b f else 0) else 0) + ((if v = 12 ∧ w < 12 then psB b w else 0) - (if w = 12 ∧ v < 12 then psB b v else 0) + ((if w = 13 ∧ v < 12 then ngB b v else 0) - (if v = 13 ∧ w < 12 then ngB b w else 0)))) 12 = sm (fun w => f v w + (if v = bz b ∧ w = bs b then FM b f else 0) - (if v = bs b ∧ w = bz b then FM b f else 0)) 12 := sm_congr (fun w hw => by
        rw [if_pos ⟨hv2, hw⟩, if_neg (show ¬ (v = 12 ∧ w < 12) by omega), if_neg (show ¬ (w = 12 ∧ v < 12) by omega), if_neg (show ¬ (w = 13 ∧ v < 12) by omega), if_neg (show ¬ (v = 13 ∧ w < 12) by omega)]
        omega)
      rw [e1]
      show sm (fun w => f v w + (if v = bz b ∧ w = bs b then FM b f else 0) - (if v = bs b ∧ w = bz b then FM b f else 0)) 12 + ((if v < 12 ∧ 12 < 12 then f v 12 + (if v = bz b ∧ 12 = bs b then FM b f else 0) - (if v = bs b ∧ 12 = bz b then FM b f else 0) else 0) + ((if v = 12 ∧ 12 < 12 then psB b 12 else 0) - (if 12 = 12 ∧ v < 12 then psB b v else 0) + ((if 12 = 13 ∧ v < 12 then ngB b v else 0) - (if v = 13 ∧ 12 < 12 then ngB b 12 else 0)))) + ((if v < 12 ∧ 13 < 12 then f v 13 + (if v = bz b ∧ 13 = bs b then FM b f else 0) - (if v = bs b ∧ 13 = bz b then FM b f else 0) else 0) + ((if v = 12 ∧ 13 < 12 then psB b 13 else 0) - (if 13 = 12 ∧ v < 12 then psB b v else 0) + ((if 13 = 13 ∧ v < 12 then ngB b v else 0) - (if v = 13 ∧ 13 < 12 then ngB b 13 else 0)))) = _
      rw [if_neg (show ¬ (v < 12 ∧ 12 < 12) by omega), if_neg (show ¬ (v = 12 ∧ 12 < 12) by omega), if_pos (show 12 = 12 ∧ v < 12 from ⟨rfl, hv2⟩), if_neg (show ¬ (12 = 13 ∧ v < 12) by omega), if_neg (show ¬ (v = 13 ∧ 12 < 12) by omega), if_neg (show ¬ (v < 12 ∧ 13 < 12) by omega), if_neg (show ¬ (v = 12 ∧ 13 < 12) by omega), if_neg (show ¬ (13 = 12 ∧ v < 12) by omega), if_pos (show 13 = 13 ∧ v < 12 from ⟨rfl, hv2⟩), if_neg (show ¬ (v = 13 ∧ 13 < 12) by omega)]
      omega
    rw [e, sm_sub, sm_add]
    have b1 : sm (fun w => if v = bz b ∧ w = bs b then FM b f else 0) 12 = if v = bz b then FM b f else 0 := by
      rw [sm_one hb.2.1 (fun k _ hk => if_neg (fun z => hk z.2))]
      by_cases q : v = bz b
      · rw [if_pos q, if_pos ⟨q, rfl⟩]
      · rw [if_neg q, if_neg (fun z => q z.1)]
    have b2 : sm (fun w => if v = bs b ∧ w = bz b then FM b f else 0) 12 = if v = bs b then FM b f else 0 := by
      rw [sm_one hb.2.2.1 (fun k _ hk => if_neg (fun z => hk z.2))]
      by_cases q : v = bs b
      · rw [if_pos q, if_pos ⟨q, rfl⟩]
      · rw [if_neg q, if_neg (fun z => q z.1)]
    rw [b1, b2]
    have hx := (hX_rng hb v).2.2.2
    have eo : sm (fun w => f v w) 12 = outf 12 f v := rfl
    rw [eo]
    by_cases q1 : v = bz b
    · have hz := h.z hb
      rw [if_pos q1, if_neg (fun z => hsz (z.symm.trans q1))]
      rw [q1] at hx ⊢
      omega
    · rw [if_neg q1]
      by_cases q2 : v = bs b
      · rw [if_pos q2]
        unfold FM
        rw [q2] at hx ⊢
        omega
      · rw [if_neg q2]
        have := h.2.2 v hv2 q2 q1
        omega
  · unfold outf
    rw [sm_14]
    have e1 : sm (fun w => (if 12 < 12 ∧ w < 12 then f 12 w + (if 12 = bz b ∧ w = bs b then FM b f else 0) - (if 12 = bs b ∧ w = bz b then FM b f else 0) else 0) + ((if 12 = 12 ∧ w < 12 then psB b w else 0) - (if w = 12 ∧ 12 < 12 then psB b 12 else 0) + ((if w = 13 ∧ 12 < 12 then ngB b 12 else 0) - (if 12 = 13 ∧ w < 12 then ngB b w else 0)))) 12 = sm (psB b) 12 := sm_congr (fun w hw => by
      rw [if_neg (show ¬ (12 < 12 ∧ w < 12) by omega), if_pos (show 12 = 12 ∧ w < 12 from ⟨rfl, hw⟩), if_neg (show ¬ (w = 12 ∧ 12 < 12) by omega), if_neg (show ¬ (w = 13 ∧ 12 < 12) by omega), if_neg (show ¬ (12 = 13 ∧ w < 12) by omega)]
      omega)
    rw [e1]
    simp
end Bound2
