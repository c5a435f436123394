/-! heights: the measure that every step lessens -/
def ph2 (T : NT) (hh ex : Nat → Int) (u : Nat) : Int := if u ≠ ts T ∧ u ≠ tz T ∧ 0 < ex u then hh u else 0
def PP (T : NT) (x hh ex : Nat → Int) : Int := 24 * TT (tn T) (tf T) (tt T) (tl T) x hh + sm (ph2 T hh ex) 12 + 722 * sm (fun u => 23 - hh u) 12
theorem sm_le2 {f g : Nat → Int} {v w : Nat} {K L : Int} (hv : v < 12) (hw : w < 12) (h : ∀ u, u < 12 → f u ≤ g u + (if u = w then K else 0) + (if u = v then L else 0)) : sm f 12 ≤ sm g 12 + K + L := by
  have h1 := sm_le h
  have h2 : sm (fun u => g u + (if u = w then K else 0) + (if u = v then L else 0)) 12 = sm g 12 + K + L := by
    rw [sm_add, sm_add, sm_one (i := w) hw (fun k _ hk => if_neg hk), sm_one (i := v) hv (fun k _ hk => if_neg hk), if_pos rfl, if_pos rfl]
  omega
section HMeas
variable {T : NT} {x hh ex : Nat → Int}
theorem PP_rng (hT : okT T) (h : okH T x hh ex) : 0 ≤ PP T x hh ex ∧ PP T x hh ex ≤ 200268 := by
  have h6 := h.2.2.2.2.2
  have a1 := TT_le (n := tn T) (fr := tf T) (to := tt T) (lim := tl T) (x := x) hh
  have a2 := TT_nn (n := tn T) (fr := tf T) (to := tt T) (lim := tl T) (x := x) hh
  have hn := hT.1
  have b : ∀ u, u < 12 → 0 ≤ ph2 T hh ex u ∧ ph2 T hh ex u ≤ 23 := fun u hu => by
    have := h6 u hu
    unfold ph2
    split <;> omega
  have b1 : 0 ≤ sm (ph2 T hh ex) 12 := sm_nn (fun u hu => (b u hu).1)
  have b2 : sm (ph2 T hh ex) 12 ≤ (12 : Nat) * 23 := sm_ub (fun u hu => (b u hu).2)
  have c1 : 0 ≤ sm (fun u => 23 - hh u) 12 := sm_nn (fun u hu => by have := h6 u hu; show 0 ≤ 23 - hh u; omega)
  have c2 : sm (fun u => 23 - hh u) 12 ≤ (12 : Nat) * 23 := sm_ub (fun u hu => by have := h6 u hu; show 23 - hh u ≤ 23; omega)
  unfold PP
  omega
theorem PP_lift {v : Nat} {lv : Int} (hT : okT T) (h : okH T x hh ex) (hv : v < 12) (hvs : v ≠ ts T) (hvz : v ≠ tz T) (he : 0 < ex v) (hno : ¬ canDn T x hh v) (hl : isLow T x hh v lv) : PP T x (fun u => if u = v then lv + 1 else hh u) ex < PP T x hh ex := by
  have hlow := canDn_low hT h hv hno hl
  have hn := hT.1
  have a1 := TT_le (n := tn T) (fr := tf T) (to := tt T) (lim := tl T) (x := x) (fun u => if u = v then lv + 1 else hh u)
  have a2 := TT_nn (n := tn T) (fr := tf T) (to := tt T) (lim := tl T) (x := x) hh
  have b : sm (ph2 T (fun u => if u = v then lv + 1 else hh u) ex) 12 ≤ sm (ph2 T hh ex) 12 + (lv + 1 - hh v) + 0 := sm_le2 (v := v) (w := v) hv hv (fun u hu => by
    unfold ph2
    by_cases q : u = v
    · simp only [if_pos q]
      rw [q, if_pos (show v ≠ ts T ∧ v ≠ tz T ∧ 0 < ex v from ⟨hvs, hvz, he⟩), if_pos (show v ≠ ts T ∧ v ≠ tz T ∧ 0 < ex v from ⟨hvs, hvz, he⟩)]
      omega
    · simp only [if_neg q]; omega)
  have c : sm (fun u => 23 - (if u = v then lv + 1 else hh u)) 12 ≤ sm (fun u => 23 - hh u) 12 + -(lv + 1 - hh v) + 0 := sm_le2 (v := v) (w := v) hv hv (fun u hu => by
    by_cases q : u = v
    · rw [if_pos q, if_pos q, if_pos q, q]; omega
    · rw [if_neg q, if_neg q, if_neg q]; omega)
  have c' : sm (fun u => 23 - (fun u => if u = v then lv + 1 else hh u) u) 12 ≤ sm (fun u => 23 - hh u) 12 + -(lv + 1 - hh v) + 0 := c
  unfold PP
  omega
theorem PP_push {c : Nat} {a : Int} (hT : okT T) (h : okH T x hh ex) (hc : cOK T c) (ha : 0 < a) (hae : a = min (ex (vfr T c)) (rmc (tl T) x c)) (hvs : vfr T c ≠ ts T) (hvz : vfr T c ≠ tz T) (hd : hh (enT T c) = hh (vfr T c) - 1) : PP T (psX x c a) hh (psE T ex c a) < PP T x hh ex := by
  have g2 := (gof_c hc hT.1).2
  have h12 := stOK_end hT.2.1 (cOK_st hc)
  have hN := hT.2.1 _ g2
  have hne : vfr T c ≠ enT T c := by
    rcases gof_ends (cOK_st hc) with ⟨p, q⟩ | ⟨p, q⟩ <;> omega
  have h6 := h.2.2.2.2.2
  have hw0 := h6 _ h12.2
  have hv0 := h6 _ h12.1
  have hxg := h.1 _ g2
  -- gates but this one are as they were
  have old : ∀ e, e < tn T → e ≠ gof c → tightG (tf T) (tt T) (tl T) (psX x c a) hh e = tightG (tf T) (tt T) (tl T) x hh e := fun e _ hne => by
    unfold tightG psX
    rw [if_neg hne]
  have was : tightG (tf T) (tt T) (tl T) x hh (gof c) = 1 := by
    unfold tightG
    refine if_pos ?_
    unfold gof rmc at *
    unfold vfr enT at hd
    unfold enT at hw0
    rcases hc with ⟨p, q⟩ | ⟨p, q⟩
    · simp only [if_pos p] at *
      exact Or.inl ⟨by omega, by omega, by omega⟩
    · simp only [if_neg (show ¬ c < 100 by omega)] at *
      exact Or.inr ⟨by omega, by omega, by omega⟩
  have l01 := tightG_01 (fr := tf T) (to := tt T) (lim := tl T) (x := psX x c a) hh (gof c)
  have leT : TT (tn T) (tf T) (tt T) (tl T) (psX x c a) hh ≤ TT (tn T) (tf T) (tt T) (tl T) x hh := sm_le (fun e he => by
    by_cases q : e = gof c
    · rw [q, was]; exact l01.2
    · rw [old e he q]; exact Int.le_refl _)
  have k0 : ∀ L : Int, (0 < psE T ex c a (vfr T c) → 0 ≤ L) → (¬ 0 < psE T ex c a (vfr T c) → -hh (vfr T c) ≤ L) → sm (ph2 T hh (psE T ex c a)) 12 ≤ sm (ph2 T hh ex) 12 + hh (enT T c) + L := fun L hL1 hL2 => sm_le2 h12.1 h12.2 (fun u hu => by
    have hu6 := h6 u hu
    by_cases q : u = enT T c
    · rw [if_pos q, if_neg (fun z => hne (z.symm.trans q))]
      unfold ph2
      rw [q]
      split <;> split <;> omega
    · rw [if_neg q]
      by_cases q2 : u = vfr T c
      · rw [if_pos q2]
        have hev : 0 < ex (vfr T c) := by omega
        unfold ph2
        rw [q2, if_pos (show vfr T c ≠ ts T ∧ vfr T c ≠ tz T ∧ 0 < ex (vfr T c) from ⟨hvs, hvz, hev⟩)]
        by_cases y : 0 < psE T ex c a (vfr T c)
        · rw [if_pos ⟨hvs, hvz, y⟩]
          have := hL1 y
          omega
        · rw [if_neg (fun z => y z.2.2)]
          have := hL2 y
          omega
      · rw [if_neg q2]
        have e : psE T ex c a u = ex u := by unfold psE; rw [if_neg q, if_neg q2]
        unfold ph2
        rw [e]
        omega)
  have ev : psE T ex c a (vfr T c) = ex (vfr T c) - a := by
    unfold psE
    rw [if_neg hne, if_pos rfl]
  by_cases full : a = rmc (tl T) x c
  · have now : tightG (tf T) (tt T) (tl T) (psX x c a) hh (gof c) = 0 := by
      unfold tightG
      refine if_neg (fun z => ?_)
      unfold psX at z
      rw [if_pos rfl] at z
      unfold gof rmc at *
      unfold vfr enT at hd
      rcases hc with ⟨p, q⟩ | ⟨p, q⟩
      · simp only [if_pos p] at *
        omega
      · simp only [if_neg (show ¬ c < 100 by omega)] at *
        omega
    have ltT : TT (tn T) (tf T) (tt T) (tl T) (psX x c a) hh < TT (tn T) (tf T) (tt T) (tl T) x hh := sm_lt (i := gof c) (fun e he => by
      by_cases q : e = gof c
      · rw [q, was]; exact l01.2
      · rw [old e he q]; exact Int.le_refl _) g2 (by rw [was, now]; omega)
    have := k0 0 (fun _ => Int.le_refl _) (fun _ => by omega)
    unfold PP
    omega
  · have := k0 (-hh (vfr T c)) (fun y => by rw [ev] at y; omega) (fun _ => Int.le_refl _)
    unfold PP
    omega
end HMeas
