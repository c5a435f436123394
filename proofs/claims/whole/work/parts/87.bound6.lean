/-! bounds: the reference answers -/
section Bound6
variable {b : Bk} {d : DS} {σ : PS} {Φ : Int → PS → Prop}
theorem m_parts {w p : Nat} {M : Nat → Nat → Int} {x : Int} (hx : x = p) (hw : w ≤ 108) (hS : SQ w M σ) (hp : p < w) (h : ∀ σ' : PS, Off [21] σ σ' → SQ w (fun u v => if u = p ∨ v = p then 0 else M u v) σ' → Φ 0 σ') : FX12_parts x σ Φ := by
  subst hx
  unfold FX12_parts
  have loop : ∀ (f i : Nat) (σ1 : PS), i ≤ w → w - i < f → Off [21] σ σ1 → SQ w (fun u v => if (u = p ∧ v < i) ∨ (v = p ∧ u < i) then 0 else M u v) σ1 → LX12_parts_2 f p i σ1 Φ := by
    intro f
    induction f with
    | zero => intro i σ1 h1 h2; omega
    | succ f ih =>
      intro i σ1 hi hf ho hS1
      unfold LX12_parts_2 BX12_parts_2
      rw [hS1.1]
      refine ⟨fun c => ?_, fun c => ?_⟩
      · refine h σ1 ho ⟨hS1.1, fun u v hu hv => ?_⟩
        rw [hS1.2 u v hu hv]
        show (if (u = p ∧ v < i) ∨ (v = p ∧ u < i) then 0 else M u v) = (if u = p ∨ v = p then 0 else M u v)
        by_cases q : u = p ∨ v = p
        · rw [if_pos q, if_pos (by omega)]
        · rw [if_neg q, if_neg (by omega)]
      · have hi2 : i < w := by omega
        obtain ⟨j1, j2⟩ := @ix_int w p i
        obtain ⟨k1, k2⟩ := @ix_int w i p
        have l1 := ix_lt hw hp hi2
        have l2 := ix_lt hw hi2 hp
        rw [j1, j2, show ((p * w + i : Nat) : Int).toNat = p * w + i by omega]
        refine ⟨⟨by omega, by omega⟩, ⟨by omega, by omega⟩, ⟨by omega, by omega⟩, fun σ5 g5 => ?_⟩
        have e5 : σ5 0 25 = (w : Int) := by rw [g5, up2_nk (by omega)]; exact hS1.1
        rw [e5, k1, k2, show ((i * w + p : Nat) : Int).toNat = i * w + p by omega]
        refine ⟨⟨by omega, by omega⟩, ⟨by omega, by omega⟩, ⟨by omega, by omega⟩, fun σ9 g9 => ⟨⟨by omega, by omega⟩, ?_⟩⟩
        refine ih (i + 1) σ9 (by omega) (by omega) (by rw [g9, g5]; exact (ho.up (by simp)).up (by simp)) ⟨by rw [g9, up2_nk (by omega)]; exact e5, fun u v hu hv => ?_⟩
        show _ = (if (u = p ∧ v < i + 1) ∨ (v = p ∧ u < i + 1) then 0 else M u v)
        rw [g9, up2_if, g5, up2_if]
        by_cases q1 : u = i ∧ v = p
        · rw [if_pos (by rw [q1.1, q1.2]), if_pos (by omega)]
        · rw [if_neg (fun z => q1 (ix_inj hp hv z))]
          by_cases q2 : u = p ∧ v = i
          · rw [if_pos (by rw [q2.1, q2.2]), if_pos (by omega)]
          · rw [if_neg (fun z => q2 (ix_inj hi2 hv z)), hS1.2 u v hu hv]
            show (if (u = p ∧ v < i) ∨ (v = p ∧ u < i) then 0 else M u v) = _
            by_cases q : (u = p ∧ v < i) ∨ (v = p ∧ u < i)
            · rw [if_pos q, if_pos (by omega)]
            · rw [if_neg q, if_neg (by omega)]
  exact ⟨w + 1, loop (w + 1) 0 σ (by omega) (by omega) Off.rf ⟨hS.1, fun u v hu hv => by show _ = (if (u = p ∧ v < 0) ∨ (v = p ∧ u < 0) then 0 else M u v); rw [if_neg (by omega)]; exact hS.2 u v hu hv⟩⟩
theorem m_isOpen {e : Nat} {i : Int} (hi : i = e) (hb : okB b) (hM : mB 1 b σ) (he : e < bn b) (h1 : bB b e 5 = 1 → Φ 1 σ) (h0 : ¬ bB b e 5 = 1 → Φ 0 σ) : FX12_isOpen i σ Φ := by
  unfold FX12_isOpen
  exact m_at (w := 5) hi rfl hb hM he (by omega) ⟨h0, fun c => h1 (by omega)⟩
/-- the second way through the square -/
theorem m_more2 {M : Nat → Nat → Int} {V : Int} {a c : Nat} {xa xc : Int} (hb : okB b) (hS : SQ 15 (fun u v => if u = 14 ∨ v = 14 then 0 else if u = 13 ∨ v = 13 then 0 else if u = 12 ∨ v = 12 then 0 else M u v) σ) (hR : RO 15 (R1 b) 12 13 M V) (hV : V = sm (loB b) (bn b)) (hxa : xa = a) (hxc : xc = c) (hac : (a = bs b ∧ c = bz b) ∨ (a = bz b ∧ c = bs b)) (hΦ : ∀ (σ' : PS) (w : Int), Off [6, 21, 22] σ σ' → TopF (fun u v => C0 b u v - (fun u v => C0 b u v - M u v) u v) a c w → 0 ≤ w → w ≤ 1000000 → Φ w σ') : FX12_passes xa xc σ Φ := by
  have hs := hb.2.1
  have hz := hb.2.2.1
  have hsz := hb.2.2.2.1
  have ha12 : a < 12 := by omega
  have hc12 : c < 12 := by omega
  have in_ : ∀ u v, u < 12 → v < 12 → (fun u v => if u = 14 ∨ v = 14 then 0 else if u = 13 ∨ v = 13 then 0 else if u = 12 ∨ v = 12 then 0 else M u v) u v = M u v := fun u v hu hv => by
    show (if u = 14 ∨ v = 14 then 0 else if u = 13 ∨ v = 13 then 0 else if u = 12 ∨ v = 12 then 0 else M u v) = M u v
    rw [if_neg (by omega), if_neg (by omega), if_neg (by omega)]
  have out_ : ∀ u v, u < 15 → v < 15 → ¬ (u < 12 ∧ v < 12) → (fun u v => if u = 14 ∨ v = 14 then 0 else if u = 13 ∨ v = 13 then 0 else if u = 12 ∨ v = 12 then 0 else M u v) u v = 0 := fun u v hu hv hn => by
    show (if u = 14 ∨ v = 14 then 0 else if u = 13 ∨ v = 13 then 0 else if u = 12 ∨ v = 12 then 0 else M u v) = 0
    by_cases p1 : u = 14 ∨ v = 14
    · rw [if_pos p1]
    · rw [if_neg p1]
      by_cases p2 : u = 13 ∨ v = 13
      · rw [if_pos p2]
      · rw [if_neg p2, if_pos (by omega)]
  generalize hM2 : (fun u v => if u = 14 ∨ v = 14 then 0 else if u = 13 ∨ v = 13 then 0 else if u = 12 ∨ v = 12 then 0 else M u v) = R2 at hS in_ out_
  have nn : ∀ u v, u < 15 → v < 15 → 0 ≤ R2 u v ∧ R2 u v ≤ 60000 := fun u v hu hv => by
    by_cases p : u < 12 ∧ v < 12
    · rw [in_ u v p.1 p.2]
      have h1 := hR.1 u v hu hv
      have h2 := hR.2.1 u v hu hv
      have h3 := hR.2.1 v u hv hu
      rw [R1_in p.1 p.2, R1_in p.2 p.1] at h1
      have := C0_rng hb u v
      have := C0_rng hb v u
      omega
    · rw [out_ u v hu hv p]; omega
  have hout : outf 15 R2 a ≤ 900000 := by
    have : outf 15 R2 a ≤ (15 : Nat) * 60000 := sm_ub (fun v hv => (nn a v (by omega) hv).2)
    omega
  refine m_passes (w := 15) hxa hxc (by omega) (by omega) (by omega) (by omega) hS (fun u v hu hv => (nn u v hu hv).1) (fun u v hu hv => by have := nn u v hu hv; have := nn v u hv hu; omega) (by omega) (fun σ' M' w o' _ hR' hF hw => hΦ σ' w o' ?_ hw (by have := hR'.le (show a < 15 by omega); omega))
  have ht := top_of (m := 3) ha12 hc12 hF (fun u w hu hw => (nn u w hu hw).1) (fun g w hg u k hu h1 h2 => by
    have a1 := hg.2.1 u k (by omega) h2
    have a2 := hg.2.1 k u h2 (by omega)
    have a3 := hg.1 u k (by omega) h2
    rw [out_ u k (by omega) h2 (by omega)] at a1
    rw [out_ k u h2 (by omega) (by omega)] at a2
    omega)
  -- on the twelve nodes it is the same room
  have fl : ∀ g w, IsFlow 12 R2 a c g w ↔ IsFlow 12 (fun u v => C0 b u v - (fun u v => C0 b u v - M u v) u v) a c g w := fun g w => by
    have e : ∀ u v, u < 12 → v < 12 → R2 u v = (fun u v => C0 b u v - (fun u v => C0 b u v - M u v) u v) u v := fun u v hu hv => by
      rw [in_ u v hu hv]
      show M u v = C0 b u v - (C0 b u v - M u v)
      omega
    constructor
    · rintro ⟨g1, g2, g3, g4⟩
      exact ⟨g1, fun u v hu hv => by rw [← e u v hu hv]; exact g2 u v hu hv, g3, g4⟩
    · rintro ⟨g1, g2, g3, g4⟩
      exact ⟨g1, fun u v hu hv => by rw [e u v hu hv]; exact g2 u v hu hv, g3, g4⟩
  obtain ⟨⟨g, hg⟩, h2⟩ := ht
  exact ⟨⟨g, (fl g w).mp hg⟩, fun g w hg => h2 g w ((fl g w).mpr hg)⟩
theorem m_bound_v2 {what : Nat} {x : Int} (hx : x = what) (hw : what = 0) (hb : okB b) (hM : mB 1 b σ) (hΦ : ∀ (σ' : PS) (r : Int), MK σ σ' → mB 1 b σ' → BA b what r → Φ r σ') : FX12_bound_v2 x σ Φ := by
  subst hx
  have hn := hb.1
  have hs := hb.2.1
  have hz := hb.2.2.1
  unfold FX12_bound_v2
  refine m_in (fun _ _ => ⟨fun _ => ?_, fun c => by omega⟩) (fun c => by omega)
  refine m_clearsL (w := 15) rfl (by omega) (fun σ2 o2 z2 hS2 => ⟨bn b + 1, ?_⟩)
  have k2 : MK σ σ2 := ⟨fun j hj => o2 j (by simp at hj ⊢; omega), z2 2 (by omega), z2 29 (by omega), z2 36 (by omega)⟩
  have loop : ∀ (f e : Nat) (due : Int) (σ1 : PS), e ≤ bn b → bn b - e < f → MK σ σ1 → mB 1 b σ1 → SA 15 (RB b e) σ1 → due = sm (loB b) e → LX12_bound_v2_33 f what 12 13 14 due e σ1 Φ := by
    intro f
    induction f with
    | zero => intro e due σ1 h1 h2; omega
    | succ f ih =>
      intro e due σ1 he hf hk hM1 hS hd
      obtain ⟨L1, L2, L3⟩ := RB_is hb e he
      have hd9 : 0 ≤ sm (loB b) e ∧ sm (loB b) e ≤ 29970 := by
        have a := sm_nn (f := loB b) (n := e) (fun g hg => (lo_rng hb (show g < bn b by omega)).1)
        have c : sm (loB b) e ≤ (e : Int) * 999 := sm_ub (fun g hg => by have := lo_rng hb (show g < bn b by omega); omega)
        omega
      unfold LX12_bound_v2_33 BX12_bound_v2_33
      rw [hM1.1]
      refine ⟨fun c => ?_, fun c => ?_⟩
      · have ee : e = bn b := by omega
        subst ee
        obtain ⟨F1, F2, F3⟩ := RF_is hb
        rw [hM1.2.2.1]
        have ob : ∀ x, outL x (RB b (bn b)) ≤ 60000 := fun x => by have := L3 x; omega
        have ok1 : okLs 15 [(bz b, 14, (100000000 : Int))] := okLs.one (by omega) (by omega) (by omega) (by omega)
        have ok2 : okLs 15 [(14, bs b, (100000000 : Int))] := okLs.one (by omega) (by omega) (by omega) (by omega)
        have ok3 : okLs 15 [(bs b, 14, (100000000 : Int))] := okLs.one (by omega) (by omega) (by omega) (by omega)
        refine m_addsL (a := bz b) (b := 14) rfl rfl hS L1 (by omega) (by omega) (by omega) (by omega) (by have := ob (bz b); omega) (fun σ3 o3 hS3 => ?_)
        have hM3 := hM1.keep (o3 1 (by simp))
        rw [hM3.2.1]
        refine m_addsL (a := 14) (b := bs b) rfl rfl hS3 (L1.app ok1) (by omega) (by omega) (by omega) (by omega) (by rw [outL_app, outL_one]; have := ob 14; split <;> omega) (fun σ5 o5 hS5 => ?_)
        have hM5 := hM3.keep (o5 1 (by simp))
        rw [hM5.2.1]
        refine m_addsL (a := bs b) (b := 14) rfl rfl hS5 ((L1.app ok1).app ok2) (by omega) (by omega) (by omega) (by omega) (by rw [outL_app, outL_app, outL_one, outL_one]; have := ob (bs b); split <;> split <;> omega) (fun σ7 o7 hS7 => ?_)
        have hM7 := hM5.keep (o7 1 (by simp))
        rw [hM7.2.2.1]
        refine m_addsL (a := 14) (b := bz b) rfl rfl hS7 (((L1.app ok1).app ok2).app ok3) (by omega) (by omega) (by omega) (by omega) (by rw [outL_app, outL_app, outL_app, outL_one, outL_one, outL_one]; have := ob 14; split <;> split <;> split <;> omega) (fun σ9 o9 hS9 => ?_)
        have hM9 := hM7.keep (o9 1 (by simp))
        have eR : RB b (bn b) ++ [(bz b, 14, 100000000)] ++ [(14, bs b, 100000000)] ++ [(bs b, 14, 100000000)] ++ [(14, bz b, 100000000)] = RF b := by
          unfold RF
          simp only [List.append_assoc]
          rfl
        rw [eR] at hS9
        have eM : matL (RF b) = R1 b := by
          funext u v
          exact F2 u v
        have k9 : MK σ σ9 := hk.trans (MK.off (o3.trans (o5.trans (o7.trans o9))) (by simp) (by simp))
        refine m_passesL (s := 12) (t := 13) rfl rfl hS9 F1 (by omega) (by omega) (by omega) (by omega) (fun u _ => by have := F3 u; omega) (fun σ11 M V o11 hQ hR hF hV0 => ?_)
        rw [eM] at hR hF
        have hle := hR.le (show 12 < 15 by omega)
        rw [outR_12 hb] at hle
        have k11 : MK σ σ11 := k9.trans (MK.off o11 (by simp) (by simp))
        have hM11 := hM9.keep (o11 1 (by simp))
        refine ⟨fun c1 => ?_, fun c1 => ?_⟩
        · obtain ⟨hFe, hFM⟩ := br_full hb hR (by omega)
          have hbd := FM_bd hb hFe
          have h14 : 0 ≤ M (bs b) 14 ∧ M (bs b) 14 ≤ 200000000 := by
            have a1 := hR.1 (bs b) 14 (by omega) (by omega)
            have a2 := hR.2.1 (bs b) 14 (by omega) (by omega)
            have a3 := hR.2.1 14 (bs b) (by omega) (by omega)
            have r := R1_14 hb hs
            rw [if_pos rfl, if_neg hb.2.2.2.1] at r
            omega
          obtain ⟨j1, j2⟩ := @ix_int 15 (bs b) 14
          have lx := ix_lt (w := 15) (by omega) (show bs b < 15 by omega) (show 14 < 15 by omega)
          have j1' : ((bs b : Nat) : Int) * ((15 : Nat) : Int) + 14 = ((bs b * 15 + 14 : Nat) : Int) := j1
          rw [hM11.2.1, hQ.1, j1', j2, show ((bs b * 15 + 14 : Nat) : Int).toNat = bs b * 15 + 14 by omega, hQ.2 (bs b) 14 (by omega) (by omega)]
          refine ⟨⟨by omega, by omega⟩, ⟨by omega, by omega⟩, ⟨by omega, by omega⟩, ⟨by omega, by omega⟩, fun v17 g17 => ?_⟩
          refine m_parts (p := 12) rfl (by omega) hQ (by omega) (fun σ19 o19 hQ19 => m_parts (p := 13) rfl (by omega) hQ19 (by omega) (fun σ21 o21 hQ21 => m_parts (p := 14) rfl (by omega) hQ21 (by omega) (fun σ23 o23 hQ23 => ?_)))
          have o1123 : Off [21] σ11 σ23 := o19.trans (o21.trans o23)
          have k23 : MK σ σ23 := k11.trans (MK.off o1123 (by simp) (by simp))
          have hM23 := hM11.keep (o1123 1 (by simp))
          rw [hM23.2.1, hM23.2.2.1]
          refine ⟨fun c2 => ?_, fun c2 => ?_⟩
          · exact absurd (by omega) c2
          · have w0 : what = 0 := by omega
            refine m_more2 (a := bs b) (c := bz b) hb hQ23 hR (by omega) rfl rfl (Or.inl ⟨rfl, rfl⟩) (fun σ26 w o26 hT hw0 hw1 => ⟨⟨by omega, by omega⟩, fun v36 g36 => ?_⟩)
            have k26 : MK σ σ26 := k23.trans (MK.off o26 (by simp) (by simp))
            have hM26 := hM23.keep (o26 1 (by simp))
            have hmax := res_max hb hFe (fun _ _ _ _ => rfl) hT
            have e36 : v36 = FM b (fun u v => C0 b u v - M u v) + w := by omega
            refine ⟨fun c3 => hΦ σ26 _ k26 hM26 (Or.inl ⟨?_, Or.inl ⟨w0, ?_⟩⟩), fun c3 => hΦ σ26 _ k26 hM26 (Or.inr ⟨fun f hf => ?_, rfl⟩)⟩
            · obtain ⟨⟨f, f1, f2⟩, _⟩ := hmax
              exact ⟨f, f1, by omega⟩
            · rw [e36]; exact hmax
            · have := hmax.2 f hf
              omega
        · refine hΦ σ11 _ k11 hM11 (Or.inr ⟨fun f hFe => ?_, rfl⟩)
          exfalso
          have := hF.ge (by omega) (br_ex hb hFe)
          omega
      · have he2 : e < bn b := by omega
        have hN := (okT_T0 hb).2.1 e he2
        have hl := lo_rng hb he2
        have nx : ∀ (due' : Int) (σ' : PS), MK σ σ' → mB 1 b σ' → SA 15 (RB b (e + 1)) σ' → due' = sm (loB b) (e + 1) → LX12_bound_v2_136 (fun x1 x2 x3 x4 x5 x6 σ => LX12_bound_v2_33 f x1 x2 x3 x4 x5 x6 σ Φ) what 12 13 14 due' e σ' Φ := fun due' σ' a1 a2 a3 a4 => by
          unfold LX12_bound_v2_136
          exact ⟨⟨by omega, by omega⟩, ih (e + 1) due' σ' (by omega) (by omega) a1 a2 a3 a4⟩
        have ee : RB b (e + 1) = RB b e ++ (if bB b e 5 = 1 then [(tf (T0 b) e, tt (T0 b) e, liC b e), (12, tt (T0 b) e, loB b e), (tf (T0 b) e, 13, loB b e)] else []) := rfl
        have es : sm (loB b) (e + 1) = sm (loB b) e + loB b e := rfl
        refine m_isOpen rfl hb hM1 he2 (fun q => ⟨fun z => by omega, fun _ => ?_⟩) (fun q => ⟨fun _ => nx due σ1 hk hM1 ?_ ?_, fun z => absurd rfl z⟩)
        · have l2 : bB b e 2 = loB b e := by unfold loB; rw [if_pos q]
          have l3 : bB b e 3 = capB b e := by unfold capB; rw [if_pos q]
          refine m_at (w := 0) rfl rfl hb hM1 he2 (by omega) (m_at (w := 1) rfl rfl hb hM1 he2 (by omega) (m_at (w := 3) rfl rfl hb hM1 he2 (by omega) (m_at (w := 2) rfl rfl hb hM1 he2 (by omega) ?_)))
          rw [(bB_n (w := 0) hb he2).1, (bB_n (w := 0) hb he2).2, l2, l3]
          refine ⟨⟨by omega, by omega⟩, m_addsL (a := tf (T0 b) e) (b := tt (T0 b) e) rfl rfl hS L1 (by omega) (by omega) (by omega) (by omega) (by have := L3 (tf (T0 b) e); omega) (fun σ3 o3 hS3 => ?_)⟩
          have hM3 := hM1.keep (o3 1 (by simp))
          refine m_at (w := 1) rfl rfl hb hM3 he2 (by omega) (m_at (w := 2) rfl rfl hb hM3 he2 (by omega) ?_)
          rw [(bB_n (w := 0) hb he2).2, l2]
          have ok1 : okLs 15 [(tf (T0 b) e, tt (T0 b) e, capB b e - loB b e)] := okLs.one (by omega) (by omega) hN.2.2 (by omega)
          have ok2 : okLs 15 [(12, tt (T0 b) e, loB b e)] := okLs.one (by omega) (by omega) (by omega) (by omega)
          refine m_addsL (a := 12) (b := tt (T0 b) e) rfl rfl hS3 (L1.app ok1) (by omega) (by omega) (by omega) (by omega) (by rw [outL_app, outL_one]; have := L3 12; split <;> omega) (fun σ5 o5 hS5 => ?_)
          have hM5 := hM3.keep (o5 1 (by simp))
          refine m_at (w := 0) rfl rfl hb hM5 he2 (by omega) (m_at (w := 2) rfl rfl hb hM5 he2 (by omega) ?_)
          rw [(bB_n (w := 0) hb he2).1, l2]
          refine m_addsL (a := tf (T0 b) e) (b := 13) rfl rfl hS5 ((L1.app ok1).app ok2) (by omega) (by omega) (by omega) (by omega) (by rw [outL_app, outL_app, outL_one, outL_one]; have := L3 (tf (T0 b) e); split <;> split <;> omega) (fun σ7 o7 hS7 => ?_)
          have hM7 := hM5.keep (o7 1 (by simp))
          refine m_at (w := 2) rfl rfl hb hM7 he2 (by omega) ?_
          rw [l2]
          refine ⟨⟨by omega, by omega⟩, fun v67 g67 => nx v67 σ7 (hk.trans (MK.off (o3.trans (o5.trans o7)) (by simp) (by simp))) hM7 ?_ (by omega)⟩
          rw [ee, if_pos q]
          have e3 : RB b e ++ [(tf (T0 b) e, tt (T0 b) e, capB b e - loB b e)] ++ [(12, tt (T0 b) e, loB b e)] ++ [(tf (T0 b) e, 13, loB b e)] = RB b e ++ [(tf (T0 b) e, tt (T0 b) e, liC b e), (12, tt (T0 b) e, loB b e), (tf (T0 b) e, 13, loB b e)] := by
            simp only [List.append_assoc]
            rfl
          rw [e3] at hS7
          exact hS7
        · rw [ee, if_neg q, List.append_nil]; exact hS
        · have : loB b e = 0 := by unfold loB; rw [if_neg q]
          omega
  exact loop (bn b + 1) 0 0 σ2 (by omega) (by omega) k2 (hM.keep (k2.1 1 (by simp))) hS2 rfl
theorem m_bound {what : Nat} {x : Int} (hx : x = what) (hw : what = 0 ∨ what = 1) (hb : okB b) (hM : mB 1 b σ) (hΦ : ∀ (σ' : PS) (r : Int), MK σ σ' → mB 1 b σ' → BA b what r → Φ r σ') : FX12_bound x σ Φ := by
  subst hx
  have hn := hb.1
  have hs := hb.2.1
  have hz := hb.2.2.1
  unfold FX12_bound
  refine m_in (fun _ _ => ⟨fun _ => ?_, fun c => by omega⟩) (fun c => by omega)
  refine m_clearsL (w := 15) rfl (by omega) (fun σ2 o2 z2 hS2 => ⟨bn b + 1, ?_⟩)
  have k2 : MK σ σ2 := ⟨fun j hj => o2 j (by simp at hj ⊢; omega), z2 2 (by omega), z2 29 (by omega), z2 36 (by omega)⟩
  have loop : ∀ (f e : Nat) (due : Int) (σ1 : PS), e ≤ bn b → bn b - e < f → MK σ σ1 → mB 1 b σ1 → SA 15 (RB b e) σ1 → due = sm (loB b) e → LX12_bound_33 f what 12 13 14 due e σ1 Φ := by
    intro f
    induction f with
    | zero => intro e due σ1 h1 h2; omega
    | succ f ih =>
      intro e due σ1 he hf hk hM1 hS hd
      obtain ⟨L1, L2, L3⟩ := RB_is hb e he
      have hd9 : 0 ≤ sm (loB b) e ∧ sm (loB b) e ≤ 29970 := by
        have a := sm_nn (f := loB b) (n := e) (fun g hg => (lo_rng hb (show g < bn b by omega)).1)
        have c : sm (loB b) e ≤ (e : Int) * 999 := sm_ub (fun g hg => by have := lo_rng hb (show g < bn b by omega); omega)
        omega
      unfold LX12_bound_33 BX12_bound_33
      rw [hM1.1]
      refine ⟨fun c => ?_, fun c => ?_⟩
      · have ee : e = bn b := by omega
        subst ee
        obtain ⟨F1, F2, F3⟩ := RF_is hb
        rw [hM1.2.2.1]
        have ob : ∀ x, outL x (RB b (bn b)) ≤ 60000 := fun x => by have := L3 x; omega
        have ok1 : okLs 15 [(bz b, 14, (100000000 : Int))] := okLs.one (by omega) (by omega) (by omega) (by omega)
        have ok2 : okLs 15 [(14, bs b, (100000000 : Int))] := okLs.one (by omega) (by omega) (by omega) (by omega)
        have ok3 : okLs 15 [(bs b, 14, (100000000 : Int))] := okLs.one (by omega) (by omega) (by omega) (by omega)
        refine m_addsL (a := bz b) (b := 14) rfl rfl hS L1 (by omega) (by omega) (by omega) (by omega) (by have := ob (bz b); omega) (fun σ3 o3 hS3 => ?_)
        have hM3 := hM1.keep (o3 1 (by simp))
        rw [hM3.2.1]
        refine m_addsL (a := 14) (b := bs b) rfl rfl hS3 (L1.app ok1) (by omega) (by omega) (by omega) (by omega) (by rw [outL_app, outL_one]; have := ob 14; split <;> omega) (fun σ5 o5 hS5 => ?_)
        have hM5 := hM3.keep (o5 1 (by simp))
        rw [hM5.2.1]
        refine m_addsL (a := bs b) (b := 14) rfl rfl hS5 ((L1.app ok1).app ok2) (by omega) (by omega) (by omega) (by omega) (by rw [outL_app, outL_app, outL_one, outL_one]; have := ob (bs b); split <;> split <;> omega) (fun σ7 o7 hS7 => ?_)
        have hM7 := hM5.keep (o7 1 (by simp))
        rw [hM7.2.2.1]
        refine m_addsL (a := 14) (b := bz b) rfl rfl hS7 (((L1.app ok1).app ok2).app ok3) (by omega) (by omega) (by omega) (by omega) (by rw [outL_app, outL_app, outL_app, outL_one, outL_one, outL_one]; have := ob 14; split <;> split <;> split <;> omega) (fun σ9 o9 hS9 => ?_)
        have hM9 := hM7.keep (o9 1 (by simp))
        have eR : RB b (bn b) ++ [(bz b, 14, 100000000)] ++ [(14, bs b, 100000000)] ++ [(bs b, 14, 100000000)] ++ [(14, bz b, 100000000)] = RF b := by
          unfold RF
          simp only [List.append_assoc]
          rfl
        rw [eR] at hS9
        have eM : matL (RF b) = R1 b := by
          funext u v
          exact F2 u v
        have k9 : MK σ σ9 := hk.trans (MK.off (o3.trans (o5.trans (o7.trans o9))) (by simp) (by simp))
        refine m_passesL (s := 12) (t := 13) rfl rfl hS9 F1 (by omega) (by omega) (by omega) (by omega) (fun u _ => by have := F3 u; omega) (fun σ11 M V o11 hQ hR hF hV0 => ?_)
        rw [eM] at hR hF
        have hle := hR.le (show 12 < 15 by omega)
        rw [outR_12 hb] at hle
        have k11 : MK σ σ11 := k9.trans (MK.off o11 (by simp) (by simp))
        have hM11 := hM9.keep (o11 1 (by simp))
        refine ⟨fun c1 => ?_, fun c1 => ?_⟩
        · obtain ⟨hFe, hFM⟩ := br_full hb hR (by omega)
          have hbd := FM_bd hb hFe
          have h14 : 0 ≤ M (bs b) 14 ∧ M (bs b) 14 ≤ 200000000 := by
            have a1 := hR.1 (bs b) 14 (by omega) (by omega)
            have a2 := hR.2.1 (bs b) 14 (by omega) (by omega)
            have a3 := hR.2.1 14 (bs b) (by omega) (by omega)
            have r := R1_14 hb hs
            rw [if_pos rfl, if_neg hb.2.2.2.1] at r
            omega
          obtain ⟨j1, j2⟩ := @ix_int 15 (bs b) 14
          have lx := ix_lt (w := 15) (by omega) (show bs b < 15 by omega) (show 14 < 15 by omega)
          have j1' : ((bs b : Nat) : Int) * ((15 : Nat) : Int) + 14 = ((bs b * 15 + 14 : Nat) : Int) := j1
          rw [hM11.2.1, hQ.1, j1', j2, show ((bs b * 15 + 14 : Nat) : Int).toNat = bs b * 15 + 14 by omega, hQ.2 (bs b) 14 (by omega) (by omega)]
          refine ⟨⟨by omega, by omega⟩, ⟨by omega, by omega⟩, ⟨by omega, by omega⟩, ⟨by omega, by omega⟩, fun v17 g17 => ?_⟩
          refine m_parts (p := 12) rfl (by omega) hQ (by omega) (fun σ19 o19 hQ19 => m_parts (p := 13) rfl (by omega) hQ19 (by omega) (fun σ21 o21 hQ21 => m_parts (p := 14) rfl (by omega) hQ21 (by omega) (fun σ23 o23 hQ23 => ?_)))
          have o1123 : Off [21] σ11 σ23 := o19.trans (o21.trans o23)
          have k23 : MK σ σ23 := k11.trans (MK.off o1123 (by simp) (by simp))
          have hM23 := hM11.keep (o1123 1 (by simp))
          rw [hM23.2.1, hM23.2.2.1]
          refine ⟨fun c2 => ?_, fun c2 => ?_⟩
          · have w1 : what = 1 := by omega
            refine m_more2 (a := bz b) (c := bs b) hb hQ23 hR (by omega) rfl rfl (Or.inr ⟨rfl, rfl⟩) (fun σ26 w o26 hT hw0 hw1 => ⟨⟨by omega, by omega⟩, fun v28 g28 => ?_⟩)
            have k26 : MK σ σ26 := k23.trans (MK.off o26 (by simp) (by simp))
            have hM26 := hM23.keep (o26 1 (by simp))
            have hmin := res_min hb hFe (fun _ _ _ _ => rfl) hT
            have e28 : v28 = FM b (fun u v => C0 b u v - M u v) - w := by omega
            rw [← e28] at hmin
            refine ⟨fun c3 => ?_, fun c3 => hΦ σ26 _ k26 hM26 (Or.inl ⟨?_, Or.inr ⟨w1, v28, hmin, by omega⟩⟩)⟩
            · refine m_bound_v2 (what := 0) rfl rfl hb hM26 (fun σ31 r k31 hM31 hBA => ⟨fun c4 => hΦ σ31 _ (k26.trans k31) hM31 (Or.inl ⟨?_, Or.inr ⟨w1, v28, hmin, by omega⟩⟩), fun c4 => hΦ σ31 _ (k26.trans k31) hM31 (Or.inr ⟨?_, rfl⟩)⟩)
              · rcases hBA with ⟨a1, _⟩ | ⟨_, a2⟩
                · exact a1
                · omega
              · rcases hBA with ⟨⟨g, g1, g2⟩, a1⟩ | ⟨a1, _⟩
                · rcases a1 with ⟨_, a1⟩ | ⟨a1, _⟩
                  · have := a1.2 g g1
                    omega
                  · omega
                · exact a1
            · obtain ⟨⟨f, f1, f2⟩, _⟩ := hmin
              exact ⟨f, f1, by omega⟩
          · have w0 : what = 0 := by omega
            refine m_more2 (a := bs b) (c := bz b) hb hQ23 hR (by omega) rfl rfl (Or.inl ⟨rfl, rfl⟩) (fun σ26 w o26 hT hw0 hw1 => ⟨⟨by omega, by omega⟩, fun v36 g36 => ?_⟩)
            have k26 : MK σ σ26 := k23.trans (MK.off o26 (by simp) (by simp))
            have hM26 := hM23.keep (o26 1 (by simp))
            have hmax := res_max hb hFe (fun _ _ _ _ => rfl) hT
            have e36 : v36 = FM b (fun u v => C0 b u v - M u v) + w := by omega
            refine ⟨fun c3 => hΦ σ26 _ k26 hM26 (Or.inl ⟨?_, Or.inl ⟨w0, ?_⟩⟩), fun c3 => hΦ σ26 _ k26 hM26 (Or.inr ⟨fun f hf => ?_, rfl⟩)⟩
            · obtain ⟨⟨f, f1, f2⟩, _⟩ := hmax
              exact ⟨f, f1, by omega⟩
            · rw [e36]; exact hmax
            · have := hmax.2 f hf
              omega
        · refine hΦ σ11 _ k11 hM11 (Or.inr ⟨fun f hFe => ?_, rfl⟩)
          exfalso
          have := hF.ge (by omega) (br_ex hb hFe)
          omega
      · have he2 : e < bn b := by omega
        have hN := (okT_T0 hb).2.1 e he2
        have hl := lo_rng hb he2
        have nx : ∀ (due' : Int) (σ' : PS), MK σ σ' → mB 1 b σ' → SA 15 (RB b (e + 1)) σ' → due' = sm (loB b) (e + 1) → LX12_bound_136 (fun x1 x2 x3 x4 x5 x6 σ => LX12_bound_33 f x1 x2 x3 x4 x5 x6 σ Φ) what 12 13 14 due' e σ' Φ := fun due' σ' a1 a2 a3 a4 => by
          unfold LX12_bound_136
          exact ⟨⟨by omega, by omega⟩, ih (e + 1) due' σ' (by omega) (by omega) a1 a2 a3 a4⟩
        have ee : RB b (e + 1) = RB b e ++ (if bB b e 5 = 1 then [(tf (T0 b) e, tt (T0 b) e, liC b e), (12, tt (T0 b) e, loB b e), (tf (T0 b) e, 13, loB b e)] else []) := rfl
        have es : sm (loB b) (e + 1) = sm (loB b) e + loB b e := rfl
        refine m_isOpen rfl hb hM1 he2 (fun q => ⟨fun z => by omega, fun _ => ?_⟩) (fun q => ⟨fun _ => nx due σ1 hk hM1 ?_ ?_, fun z => absurd rfl z⟩)
        · have l2 : bB b e 2 = loB b e := by unfold loB; rw [if_pos q]
          have l3 : bB b e 3 = capB b e := by unfold capB; rw [if_pos q]
          refine m_at (w := 0) rfl rfl hb hM1 he2 (by omega) (m_at (w := 1) rfl rfl hb hM1 he2 (by omega) (m_at (w := 3) rfl rfl hb hM1 he2 (by omega) (m_at (w := 2) rfl rfl hb hM1 he2 (by omega) ?_)))
          rw [(bB_n (w := 0) hb he2).1, (bB_n (w := 0) hb he2).2, l2, l3]
          refine ⟨⟨by omega, by omega⟩, m_addsL (a := tf (T0 b) e) (b := tt (T0 b) e) rfl rfl hS L1 (by omega) (by omega) (by omega) (by omega) (by have := L3 (tf (T0 b) e); omega) (fun σ3 o3 hS3 => ?_)⟩
          have hM3 := hM1.keep (o3 1 (by simp))
          refine m_at (w := 1) rfl rfl hb hM3 he2 (by omega) (m_at (w := 2) rfl rfl hb hM3 he2 (by omega) ?_)
          rw [(bB_n (w := 0) hb he2).2, l2]
          have ok1 : okLs 15 [(tf (T0 b) e, tt (T0 b) e, capB b e - loB b e)] := okLs.one (by omega) (by omega) hN.2.2 (by omega)
          have ok2 : okLs 15 [(12, tt (T0 b) e, loB b e)] := okLs.one (by omega) (by omega) (by omega) (by omega)
          refine m_addsL (a := 12) (b := tt (T0 b) e) rfl rfl hS3 (L1.app ok1) (by omega) (by omega) (by omega) (by omega) (by rw [outL_app, outL_one]; have := L3 12; split <;> omega) (fun σ5 o5 hS5 => ?_)
          have hM5 := hM3.keep (o5 1 (by simp))
          refine m_at (w := 0) rfl rfl hb hM5 he2 (by omega) (m_at (w := 2) rfl rfl hb hM5 he2 (by omega) ?_)
          rw [(bB_n (w := 0) hb he2).1, l2]
          refine m_addsL (a := tf (T0 b) e) (b := 13) rfl rfl hS5 ((L1.app ok1).app ok2) (by omega) (by omega) (by omega) (by omega) (by rw [outL_app, outL_app, outL_one, outL_one]; have := L3 (tf (T0 b) e); split <;> split <;> omega) (fun σ7 o7 hS7 => ?_)
          have hM7 := hM5.keep (o7 1 (by simp))
          refine m_at (w := 2) rfl rfl hb hM7 he2 (by omega) ?_
          rw [l2]
          refine ⟨⟨by omega, by omega⟩, fun v67 g67 => nx v67 σ7 (hk.trans (MK.off (o3.trans (o5.trans o7)) (by simp) (by simp))) hM7 ?_ (by omega)⟩
          rw [ee, if_pos q]
          have e3 : RB b e ++ [(tf (T0 b) e, tt (T0 b) e, capB b e - loB b e)] ++ [(12, tt (T0 b) e, loB b e)] ++ [(tf (T0 b) e, 13, loB b e)] = RB b e ++ [(tf (T0 b) e, tt (T0 b) e, liC b e), (12, tt (T0 b) e, loB b e), (tf (T0 b) e, 13, loB b e)] := by
            simp only [List.append_assoc]
            rfl
          rw [e3] at hS7
          exact hS7
        · rw [ee, if_neg q, List.append_nil]; exact hS
        · have : loB b e = 0 := by unfold loB; rw [if_neg q]
          omega
  exact loop (bn b + 1) 0 0 σ2 (by omega) (by omega) k2 (hM.keep (k2.1 1 (by simp))) hS2 rfl
theorem p_bound (a1 : Int) : PT (FX11_bound a1) (FX12_bound a1) := by
  intro d σc σm hd hC hM
  have same : ∀ r r2 : Int, r = r2 → r = r2 ∧ ∃ d', okD d' ∧ CR d' σc ∧ MR d' σm := fun r r2 e => ⟨e, d, hd, hC, hM⟩
  have go : ∀ (k : Nat) (x2 : Int), (k = 0 ∨ k = 1) → a1 = k → ((k = 0 → ¬ x2 = 0) ∧ (k = 1 → x2 = 0)) → LX11_bound_24 x2 σc (fun r σc' => FX12_bound a1 σm (fun r2 σm' => r = r2 ∧ ∃ d', okD d' ∧ CR d' σc' ∧ MR d' σm')) := fun k x2 hk ha hx => by
    unfold LX11_bound_24
    refine c_boundValue hk hx hd.1 hC.1 (fun σ' r o' hBA => ?_)
    have hC1 : CR d σ' := hC.off o' (fun i _ => by rw [o' 0 (by simp)]) (by rw [o' 9 (by simp)]) (fun k hk => by simp at hk ⊢; omega)
    exact m_bound ha hk hd.1 hM.1 (fun σm' r2 k2 _ hBA2 => ⟨hBA.one hBA2, d, hd, hC1, hM.keep k2⟩)
  have no : ¬ (0 ≤ a1 ∧ a1 ≤ 1) → FX12_bound a1 σm (fun r2 σm' => -1 = r2 ∧ ∃ d', okD d' ∧ CR d' σc ∧ MR d' σm') := fun hno => by
    unfold FX12_bound
    exact m_in (fun x y => absurd ⟨x, y⟩ hno) (fun _ => ⟨fun c => absurd rfl c, fun _ => same _ _ rfl⟩)
  unfold FX11_bound FX11_isOneOrZero
  refine ⟨fun c => ⟨fun c2 => by omega, fun _ => ⟨fun c2 => absurd c c2, fun _ => go 0 1 (Or.inl rfl) c ⟨fun _ => by omega, fun z => by omega⟩⟩⟩, fun c => ⟨fun c2 => ⟨fun _ => no (by omega), fun c3 => absurd rfl c3⟩, fun c2 => ⟨fun c3 => by omega, fun _ => ⟨fun _ => go 1 0 (Or.inr rfl) c2 ⟨fun z => by omega, fun _ => rfl⟩, fun c3 => absurd c3 c⟩⟩⟩⟩
end Bound6
