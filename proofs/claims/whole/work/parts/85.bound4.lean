section Bound4
variable {b : Bk} {σ : PS} {Φ : Int → PS → Prop}
/-- the second question to the net: more of it, or less of it -/
theorem c_more2 {m : Nat} {fr to : Nat → Nat} {lim x : Nat → Int} {V : Int} {a c : Nat} {xa xc : Int} (hb : okB b) (hA : okA 14 m fr to lim) (hV : NV 14 m fr to (fun k => if k = bn b then 0 else lim k) (fun k => if k = bn b then 0 else x k) σ) (hx : okX m lim x) (hn : bn b < m) (hf : fr (bn b) = bz b ∧ to (bn b) = bs b ∧ lim (bn b) = 1000000000) (hR : RO 14 (C1 b) 12 13 (rG m fr to lim x) V) (hVn : V = sm (psB b) 12) (hxa : xa = a) (hxc : xc = c) (hac : (a = bs b ∧ c = bz b) ∨ (a = bz b ∧ c = bs b))
    (hΦ : ∀ (σ' : PS) (w : Int) (f : Nat → Nat → Int), Off [50, 51, 52, 53, 56] σ σ' → FeasM b f → FM b f = x (bn b) → TopF (fun u v => C0 b u v - f u v) a c w → 0 ≤ w → w ≤ 1000000 → Φ w σ') : FX6_pass xa xc σ Φ := by
  subst hxa; subst hxc
  have hs := hb.2.1
  have hz := hb.2.2.1
  have hsz := hb.2.2.2.1
  obtain ⟨hN1, hm, hN, hl⟩ := id hA
  obtain ⟨f12, f13, fc⟩ := bc_full hb hR hVn
  have hx' : okX m (fun k => if k = bn b then 0 else lim k) (fun k => if k = bn b then 0 else x k) := fun g hg => by
    by_cases q : g = bn b
    · simp only [if_pos q]; exact ⟨Int.le_refl _, Int.le_refl _⟩
    · simp only [if_neg q]; exact hx g hg
  have hA' : okA 14 m fr to (fun k => if k = bn b then 0 else lim k) := ⟨hN1, hm, hN, fun g hg => by
    by_cases q : g = bn b
    · simp only [if_pos q]; omega
    · simp only [if_neg q]; exact hl g hg⟩
  have M2 : ∀ u w, rG m fr to (fun k => if k = bn b then 0 else lim k) (fun k => if k = bn b then 0 else x k) u w = rG m fr to lim x u w - ((if u = bz b ∧ w = bs b then 1000000000 - x (bn b) else 0) + (if u = bs b ∧ w = bz b then x (bn b) else 0)) := fun u w => by
    rw [rG_cl hn, hf.1, hf.2.1, hf.2.2]
    congr 1
    congr 1
    · by_cases p : u = bz b ∧ w = bs b
      · rw [if_pos p, if_pos (show bz b = u ∧ bs b = w from ⟨p.1.symm, p.2.symm⟩)]
      · rw [if_neg p, if_neg (show ¬ (bz b = u ∧ bs b = w) from fun z => p ⟨z.1.symm, z.2.symm⟩)]
    · by_cases p : u = bs b ∧ w = bz b
      · rw [if_pos p, if_pos (show bz b = w ∧ bs b = u from ⟨p.2.symm, p.1.symm⟩)]
      · rw [if_neg p, if_neg (show ¬ (bz b = w ∧ bs b = u) from fun z => p ⟨z.2.symm, z.1.symm⟩)]
  have M2nn : ∀ u w, 0 ≤ rG m fr to (fun k => if k = bn b then 0 else lim k) (fun k => if k = bn b then 0 else x k) u w := fun u w => rG_nn hx' u w
  generalize hM2 : rG m fr to (fun k => if k = bn b then 0 else lim k) (fun k => if k = bn b then 0 else x k) = R2 at M2 M2nn
  -- what flows in the gates
  have feas : FeasM b (fun u v => C0 b u v - R2 u v) ∧ FM b (fun u v => C0 b u v - R2 u v) = x (bn b) := by
    have pt : ∀ u v, u < 12 → v < 12 → C0 b u v - R2 u v = (C1 b u v - rG m fr to lim x u v) - (if u = bz b ∧ v = bs b then x (bn b) else 0) + (if u = bs b ∧ v = bz b then x (bn b) else 0) := fun u v hu hv => by
      rw [M2, C1_in hu hv]
      split <;> split <;> omega
    have ou : ∀ v, v < 12 → outf 12 (fun u v => C0 b u v - R2 u v) v + hX b v = (if v = bs b then x (bn b) else 0) - (if v = bz b then x (bn b) else 0) := fun v hv => by
      have e : outf 12 (fun u v => C0 b u v - R2 u v) v = sm (fun w => (C1 b v w - rG m fr to lim x v w) - (if v = bz b ∧ w = bs b then x (bn b) else 0) + (if v = bs b ∧ w = bz b then x (bn b) else 0)) 12 := sm_congr (fun w hw => pt v w hv hw)
      have b1 : sm (fun w => if v = bz b ∧ w = bs b then x (bn b) else 0) 12 = if v = bz b then x (bn b) else 0 := by
        rw [sm_one hs (fun k _ hk => if_neg (fun z => hk z.2))]
        by_cases q : v = bz b
        · rw [if_pos q, if_pos ⟨q, rfl⟩]
        · rw [if_neg q, if_neg (fun z => q z.1)]
      have b2 : sm (fun w => if v = bs b ∧ w = bz b then x (bn b) else 0) 12 = if v = bs b then x (bn b) else 0 := by
        rw [sm_one hz (fun k _ hk => if_neg (fun z => hk z.2))]
        by_cases q : v = bs b
        · rw [if_pos q, if_pos ⟨q, rfl⟩]
        · rw [if_neg q, if_neg (fun z => q z.1)]
      rw [e, sm_add, sm_sub, b1, b2]
      have := fc v hv
      have eo : sm (fun w => C1 b v w - rG m fr to lim x v w) 12 = outf 12 (fun u w => C1 b u w - rG m fr to lim x u w) v := rfl
      rw [eo]
      omega
    refine ⟨⟨fun u v hu hv => ?_, fun u v hu hv => ?_, fun v hv n1 n2 => ?_⟩, ?_⟩
    · have a1 := pt u v hu hv
      have a2 := pt v u hv hu
      have a3 := hR.1 u v (by omega) (by omega)
      show C0 b u v - R2 u v = -(C0 b v u - R2 v u)
      rw [a1, a2]
      split <;> split <;> split <;> split <;> omega
    · have := M2nn u v
      show C0 b u v - R2 u v ≤ C0 b u v
      omega
    · rw [ou v hv, if_neg n1, if_neg n2]; rfl
    · unfold FM
      rw [ou _ hs, if_pos rfl, if_neg hsz]; omega
  have ha12 : a < 12 := by omega
  have hc12 : c < 12 := by omega
  have R12 : ∀ v, v < 14 → R2 12 v = 0 := fun v hv => by
    rw [M2, f12 v hv, if_neg (by omega), if_neg (by omega)]; rfl
  have R13 : ∀ v, v < 14 → R2 v 13 = 0 := fun v hv => by
    rw [M2, f13 v hv, if_neg (by omega), if_neg (by omega)]; rfl
  have Rb : ∀ u v, u < 12 → v < 14 → R2 u v ≤ 60000 := fun u v hu hv => by
    by_cases p : v < 12
    · have h1 := feas.1.2.1 v u p hu
      have h2 := feas.1.1 u v hu p
      have h1 : C0 b v u - R2 v u ≤ C0 b v u := h1
      have h2 : C0 b u v - R2 u v = -(C0 b v u - R2 v u) := h2
      have := M2nn v u
      have := C0_rng hb u v
      have := C0_rng hb v u
      omega
    · by_cases q : v = 12
      · have h1 := hR.1 u 12 (by omega) (by omega)
        have h2 := f12 u (by omega)
        rw [C1_t12 hb (by omega), C1_12 hb, if_pos hu] at h1
        have := (hX_rng hb u).2.1
        rw [q, M2, if_neg (by omega), if_neg (by omega)]
        omega
      · rw [show v = 13 by omega, R13 u (by omega)]; omega
  have hout : outf 14 R2 a ≤ 840000 := by
    have : outf 14 R2 a ≤ (14 : Nat) * 60000 := sm_ub (fun v hv => Rb a v ha12 hv)
    omega
  refine c_pass hA' (by omega) (by omega) (by omega) hV hx' (fun y hy => ?_) (fun σ' y o' _ hM hF h0 => ?_)
  · have := hy.le_out hN (show a < 14 by omega)
    rw [hM2] at this
    omega
  · have hle := hM.le_out hN (show a < 14 by omega)
    rw [hM2] at hF hle
    refine hΦ σ' _ _ o' feas.1 feas.2 ?_ h0 (by omega)
    have e : (fun u v => C0 b u v - (fun u v => C0 b u v - R2 u v) u v) = R2 := by
      funext u v
      show C0 b u v - (C0 b u v - R2 u v) = R2 u v
      omega
    rw [e]
    refine top_of (m := 2) ha12 hc12 hF (fun u w _ _ => M2nn u w) (fun g w hg u k hu h1 h2 => ?_)
    obtain ⟨g1, g2, g3, g4⟩ := hg
    by_cases q : k = 12
    · have z := sm_z (fun k hk => by have := g2 12 k (by omega) hk; rw [R12 k hk] at this; exact this) (g3 12 (by omega) (by omega) (by omega)) u (by omega)
      rw [q, g1 u 12 (by omega) (by omega), z]; rfl
    · have qk : k = 13 := by omega
      have z0 : sm (fun v => -g 13 v) (12 + 2) = 0 := by
        rw [sm_neg]
        have := g3 13 (by omega) (by omega) (by omega)
        have this : sm (g 13) (12 + 2) = 0 := this
        omega
      have z := sm_z (fun k hk => by
        have a1 := g2 k 13 hk (by omega)
        have a2 := g1 13 k (by omega) hk
        rw [R13 k hk] at a1
        show -g 13 k ≤ 0
        omega) z0 u (by omega)
      have z : -g 13 u = 0 := z
      rw [qk, g1 u 13 (by omega) (by omega)]
      exact z
theorem c_boundValue {what : Nat} {x2 : Int} (hw : what = 0 ∨ what = 1) (hx : (what = 0 → ¬ x2 = 0) ∧ (what = 1 → x2 = 0)) (hb : okB b) (hC : cB 1 13 b σ) (hΦ : ∀ (σ' : PS) (r : Int), Off [8, 47, 49, 50, 51, 52, 53, 54, 55, 56] σ σ' → BA b what r → Φ r σ') : FX5_boundValue x2 σ Φ := by
  have hn := hb.1
  have hs := hb.2.1
  have hz := hb.2.2.1
  have hsz := hb.2.2.2.1
  have hC' : ∀ σ1 : PS, Off [8, 47, 49, 50, 51, 52, 53, 54, 55, 56] σ σ1 → cB 1 13 b σ1 := fun σ1 ho => hC.off ho (by simp) (fun w hw => by simp; omega)
  unfold FX5_boundValue
  refine c_begin (N := 14) (fr := fun _ => 0) (to := fun _ => 0) (lim := fun _ => 0) (x := fun _ => 0) (by omega) (fun σ2 o2 hV2 => ?_)
  have hNX2 : NX 14 (LG b 0) σ2 := ⟨_, _, _, hV2, fun g hg => absurd hg (Nat.not_lt_zero _), fun g hg => absurd hg (Nat.not_lt_zero _), fun _ _ => rfl, fun g hg => absurd hg (Nat.not_lt_zero _)⟩
  -- the needs
  have l46 : ∀ (f v : Nat) (x6 : Int) (σ1 : PS), v ≤ 12 → 12 - v < f → Off [8, 47, 49, 50, 51, 52, 53, 54, 55, 56] σ σ1 → NX 14 (LB b v) σ1 → (∀ u, u < 12 → σ1 47 u = -hX b u) → x6 = sm (psB b) v → LX5_boundValue_46 f x2 12 13 ((2 * bn b : Nat) : Int) x6 v σ1 Φ := by
    intro f
    induction f with
    | zero => intro v x6 σ1 h1 h2; omega
    | succ f ih =>
      intro v x6 σ1 hv hf ho hN h47 h6
      obtain ⟨L1, L2, L3, L4⟩ := LB_is hb hv
      have p6 : 0 ≤ sm (psB b) v ∧ sm (psB b) v ≤ 400000 := by
        have a := sm_nn (f := psB b) (n := v) (fun k _ => (hX_rng hb k).2.1.1)
        have c : sm (psB b) v ≤ (v : Int) * 29970 := sm_ub (fun k _ => (hX_rng hb k).2.1.2)
        omega
      unfold LX5_boundValue_46 BX5_boundValue_46
      refine ⟨fun c => ?_, fun c => ?_⟩
      · have ev : v = 12 := by omega
        subst ev
        obtain ⟨fr, to, lim, n1, n2, n3, n4, n5⟩ := hN
        have hA : okA 14 (LB b 12).length fr to lim := ⟨by omega, by omega, n2, n3⟩
        have e0 : rG (LB b 12).length fr to lim (fun _ => 0) = C1 b := by
          funext u w
          rw [rG_0, n4, LB_mat hb]
        have hx0 : okX (LB b 12).length lim (fun _ => 0) := fun g hg => ⟨Int.le_refl _, (n3 g hg).1⟩
        refine c_pass (s := 12) (t := 13) hA (by omega) (by omega) (by omega) n1 hx0 (fun y hy => ?_) (fun σ3 x o3 hV3 hM hF h0 => ?_)
        · have := hy.le_out n2 (show 12 < 14 by omega)
          rw [e0, out_12 hb] at this
          omega
        · have hro := hM.ro n2
          have hle := hM.le_out n2 (show 12 < 14 by omega)
          rw [e0] at hF hro hle
          rw [out_12 hb] at hle
          have o3' : Off [8, 47, 49, 50, 51, 52, 53, 54, 55, 56] σ σ3 := ho.trans (o3.mono (by simp))
          have hf5 : fr (bn b) = bz b ∧ to (bn b) = bs b ∧ lim (bn b) = 1000000000 := by
            have z := n5 (bn b) L4
            rw [L3] at z
            exact z
          refine ⟨fun c1 => ?_, fun c1 => ?_⟩
          · refine c_close hV3 L4 (by omega) (fun σ4 o4 hV4 => ?_)
            have o4' : Off [8, 47, 49, 50, 51, 52, 53, 54, 55, 56] σ σ4 := o3'.trans (o4.mono (by simp))
            have hC4 := hC' σ4 o4'
            have hxn := hM.1 (bn b) L4
            rw [hf5.2.2] at hxn
            rw [hC4.2.1, hC4.2.2.1]
            refine ⟨fun c2 => ?_, fun c2 => ?_⟩
            · have w1 : what = 1 := by
                rcases hw with z | z
                · exact absurd c2 (hx.1 z)
                · exact z
              refine c_more2 (a := bz b) (c := bs b) hb hA hV4 hM.1 L4 hf5 hro (by omega) rfl rfl (Or.inr ⟨rfl, rfl⟩) (fun σ5 w f o5 hFe hFM hT hw0 hw1 => ⟨⟨by omega, by omega⟩, hΦ σ5 _ (o4'.trans (o5.mono (by simp))) (Or.inl ⟨⟨f, hFe, by omega⟩, Or.inr ⟨w1, _, res_min hb hFe (fun _ _ _ _ => rfl) hT, by rw [hFM]⟩⟩)⟩)
            · have w0 : what = 0 := by
                rcases hw with z | z
                · exact z
                · exact absurd (hx.2 z) c2
              refine c_more2 (a := bs b) (c := bz b) hb hA hV4 hM.1 L4 hf5 hro (by omega) rfl rfl (Or.inl ⟨rfl, rfl⟩) (fun σ5 w f o5 hFe hFM hT hw0 hw1 => ⟨⟨by omega, by omega⟩, hΦ σ5 _ (o4'.trans (o5.mono (by simp))) (Or.inl ⟨⟨f, hFe, by omega⟩, Or.inl ⟨w0, ?_⟩⟩)⟩)
              have := res_max hb hFe (fun _ _ _ _ => rfl) hT
              rw [hFM] at this
              exact this
          · refine hΦ σ3 _ o3' (Or.inr ⟨fun f hFe => ?_, rfl⟩)
            by_cases q : FM b f < 0
            · exact q
            · exfalso
              have := hF.ge (by omega) (bc_ex hb hFe (by omega))
              omega
      · have hv2 : v < 12 := by omega
        have e0 : ((v : Nat) : Int).toNat = v := by omega
        have hr := hX_rng hb v
        rw [e0, h47 v hv2]
        have eL : LB b (v + 1) = LB b v ++ (if 0 < -hX b v then [(12, v, -hX b v)] else if -hX b v < 0 then [(v, 13, hX b v)] else []) := by
          unfold LB
          rw [ndB, ← List.append_assoc, ← List.append_assoc, ← List.append_assoc]
        have eS : sm (psB b) (v + 1) = sm (psB b) v + psB b v := rfl
        have nx : ∀ (x6' : Int) (σ' : PS), Off [8, 47, 49, 50, 51, 52, 53, 54, 55, 56] σ σ' → NX 14 (LB b (v + 1)) σ' → (∀ u, u < 12 → σ' 47 u = -hX b u) → x6' = sm (psB b) (v + 1) → LX5_boundValue_126 (fun x2 x3 x4 x5 x6 x7 σ => LX5_boundValue_46 f x2 x3 x4 x5 x6 x7 σ Φ) x2 12 13 ((2 * bn b : Nat) : Int) x6' v σ' Φ := fun x6' σ' a1 a2 a3 a4 => by
          unfold LX5_boundValue_126
          exact ⟨⟨by omega, by omega⟩, ih (v + 1) x6' σ' (by omega) (by omega) a1 a2 a3 a4⟩
        refine ⟨⟨by omega, by omega⟩, fun c1 => ⟨⟨by omega, by omega⟩, fun c2 => ?_, fun c2 => ⟨⟨by omega, by omega⟩, ⟨by omega, by omega⟩, ?_⟩⟩, fun c1 => ⟨⟨by omega, by omega⟩, ?_⟩⟩
        · refine nx x6 σ1 ho ?_ h47 ?_
          · rw [eL, if_neg (by omega), if_neg (by omega), List.append_nil]; exact hN
          · rw [eS, h6]; unfold psB; omega
        · refine c_joinX (a := v) (c := 13) rfl rfl hN (by omega) (by omega) (by omega) (by omega) (by omega) (by omega) (fun σ' o' hN' => nx x6 σ' (ho.trans (o'.mono (by simp))) ?_ (fun u hu => by rw [o' 47 (by simp)]; exact h47 u hu) ?_)
          · rw [eL, if_neg (by omega), if_pos (by omega)]
            have : - -hX b v = hX b v := by omega
            rw [this] at hN'
            exact hN'
          · rw [eS, h6]; unfold psB; omega
        · refine c_joinX (a := 12) (c := v) rfl rfl hN (by omega) (by omega) (by omega) (by omega) (by omega) (by omega) (fun σ' o' hN' => ?_)
          rw [o' 47 (by simp), h47 v hv2]
          refine ⟨⟨by omega, by omega⟩, ⟨by omega, by omega⟩, fun v27 g27 => nx v27 σ' (ho.trans (o'.mono (by simp))) ?_ (fun u hu => by rw [o' 47 (by simp)]; exact h47 u hu) ?_⟩
          · rw [eL, if_pos (by omega)]; exact hN'
          · rw [g27, eS, h6]; unfold psB; omega
  -- the gates above their bounds
  unfold FX5_joinAboveLeast
  intro σ3 g3
  have o3 : Off [8, 47, 49] σ σ3 := by rw [g3]; exact (o2.mono (by simp)).fl (by simp)
  have l10 : ∀ (f e : Nat) (σ1 : PS), e ≤ bn b → bn b - e < f → Off [8, 47, 49, 50, 51, 52, 53, 54, 55, 56] σ σ1 → NX 14 (LG b e) σ1 → (∀ v, v < 12 → σ1 47 v = inB b e v - ouB b e v) → LX5_joinAboveLeast_10 f e σ1 (fun z3 σ4 => FX6_join (σ4 1 8) (σ4 1 7) 1000000000 σ4 (fun z5 σ6 => ∃ n, LX5_boundValue_46 n x2 12 13 z5 0 0 σ6 Φ)) := by
    intro f
    induction f with
    | zero => intro e σ1 h1 h2; omega
    | succ f ih =>
      intro e σ1 he hf ho hN h47
      have hC1 := hC' σ1 ho
      obtain ⟨G1, G2, G3⟩ := LG_is hb e he
      unfold LX5_joinAboveLeast_10 BX5_joinAboveLeast_10
      rw [hC1.1]
      refine ⟨fun c => ?_, fun c => ?_⟩
      · have ee : e = bn b := by omega
        subst ee
        show FX6_join (σ1 1 8) (σ1 1 7) 1000000000 σ1 _
        rw [hC1.2.1, hC1.2.2.1]
        refine c_joinX (a := bz b) (c := bs b) rfl rfl hN (by omega) (by omega) (by omega) (by omega) (fun z => hsz z.symm) (by omega) (fun σ' o' hN' => ⟨13, ?_⟩)
        rw [G2]
        refine l46 13 0 0 σ' (by omega) (by omega) (ho.trans (o'.mono (by simp))) ?_ (fun u hu => ?_) rfl
        · have : LB b 0 = LG b (bn b) ++ [(bz b, bs b, 1000000000)] := by unfold LB; rfl
          rw [this]; exact hN'
        · rw [o' 47 (by simp), h47 u hu]; unfold hX; omega
      · have he2 : e < bn b := by omega
        have hT := (okT_T0 hb).2.1 e he2
        have hl := lo_rng hb he2
        have hCN := CN_TN (lim := capB b) hb hC1
        have e0 : ((e : Nat) : Int).toNat = e := by omega
        have i1 := io_rng hb (show e ≤ bn b by omega) (tt (T0 b) e)
        have i2 := io_rng hb (show e ≤ bn b by omega) (tf (T0 b) e)
        refine c_usableLeast hb hC1 he2 ⟨⟨by omega, by omega⟩, ⟨by omega, by omega⟩, c_usable rfl hCN (CU_T0 hC1) hn he2 ?_⟩
        have et : tl (T0 b) e = capB b e := rfl
        have f1 : σ1 13 e = (tf (T0 b) e : Int) := (hCN.2.2.2 e he2).1
        have f2 : σ1 14 e = (tt (T0 b) e : Int) := (hCN.2.2.2 e he2).2
        rw [et, e0, f1, f2]
        refine ⟨⟨by omega, by omega⟩, c_joinX (a := tf (T0 b) e) (c := tt (T0 b) e) rfl rfl hN (by omega) (by omega) (by omega) (by omega) hT.2.2 (by omega) (fun σ4 o4 hN4 => ?_)⟩
        rw [o4 14 (by simp), f2, show ((tt (T0 b) e : Nat) : Int).toNat = tt (T0 b) e by omega, o4 47 (by simp), h47 _ hT.2.1]
        refine ⟨⟨by omega, by omega⟩, ⟨by omega, by omega⟩, ⟨by omega, by omega⟩, ⟨by omega, by omega⟩, fun σ15 g15 => ?_⟩
        have o15 : Off [47] σ4 σ15 := by rw [g15]; exact Off.rf.up (by simp)
        have h15 : σ15 47 (tf (T0 b) e) = inB b e (tf (T0 b) e) - ouB b e (tf (T0 b) e) := by
          rw [g15, up2_ni hT.2.2, o4 47 (by simp)]; exact h47 _ hT.1
        rw [o15 13 (by simp), o4 13 (by simp), f1, show ((tf (T0 b) e : Nat) : Int).toNat = tf (T0 b) e by omega, h15]
        refine ⟨⟨by omega, by omega⟩, ⟨by omega, by omega⟩, ⟨by omega, by omega⟩, ⟨by omega, by omega⟩, fun σ20 g20 => ⟨⟨by omega, by omega⟩, ?_⟩⟩
        have o20 : Off [47] σ4 σ20 := by rw [g20]; exact o15.up (by simp)
        refine ih (e + 1) σ20 (by omega) (by omega) (ho.trans ((o4.mono (by simp)).trans (o20.mono (by simp)))) (hN4.off o20 (by simp) (by simp) (by simp) (by simp) (by simp)) (fun v hv => ?_)
        have s1 : inB b (e + 1) v = inB b e v + (if tt (T0 b) e = v then loB b e else 0) := rfl
        have s2 : ouB b (e + 1) v = ouB b e v + (if tf (T0 b) e = v then loB b e else 0) := rfl
        have hne := hT.2.2
        rw [s1, s2, g20, up2_if, g15, up2_if, o4 47 (by simp), h47 v hv]
        by_cases p : v = tf (T0 b) e
        · rw [if_pos p, if_neg (show ¬ tt (T0 b) e = v from fun z => hne (p.symm.trans z.symm)), if_pos (show tf (T0 b) e = v from p.symm), p]; omega
        · rw [if_neg p, if_neg (show ¬ tf (T0 b) e = v from fun z => p z.symm)]
          by_cases q : v = tt (T0 b) e
          · rw [if_pos q, if_pos (show tt (T0 b) e = v from q.symm), q]; omega
          · rw [if_neg q, if_neg (show ¬ tt (T0 b) e = v from fun z => q z.symm)]; omega
  refine ⟨bn b + 1, l10 (bn b + 1) 0 σ3 (by omega) (by omega) (o3.mono (by simp)) ?_ (fun v hv => ?_)⟩
  · have o23 : Off [47] σ2 σ3 := by rw [g3]; exact Off.rf.fl (by simp)
    exact hNX2.off o23 (by simp) (by simp) (by simp) (by simp) (by simp)
  · rw [g3, fl2_if, if_pos ⟨by omega, hv⟩]; rfl
end Bound4
