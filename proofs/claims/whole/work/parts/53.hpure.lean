/-! heights: what holds between two steps -/
def okH (T : NT) (x hh ex : Nat → Int) : Prop := okX (tn T) (tl T) x ∧ (∀ u, u < 12 → u ≠ ts T → ex u = -exG (tn T) (tf T) (tt T) x u ∧ 0 ≤ ex u) ∧ (∀ u w, u < 12 → w < 12 → stT T x u w → hh u ≤ hh w + 1) ∧ hh (ts T) = 12 ∧ hh (tz T) = 0 ∧ ∀ u, u < 12 → 0 ≤ hh u ∧ hh u ≤ 23
section HPure
variable {T : NT} {x hh ex : Nat → Int}
theorem psX_ex {c y : Nat} {a : Int} (hT : okT T) (hc : cOK T c) : exG (tn T) (tf T) (tt T) (psX x c a) y = exG (tn T) (tf T) (tt T) x y + (if y = vfr T c then a else 0) - (if y = enT T c then a else 0) := by
  have g2 := (gof_c hc hT.1).2
  have hN := hT.2.1 _ g2
  have e : psX x c a = fun e => if e = gof c then (if c < 100 then x (gof c) + a else x (gof c) - a) else x e := by
    funext e
    unfold psX
    by_cases q : e = gof c
    · rw [if_pos q, if_pos q, q]
    · rw [if_neg q, if_neg q]
  rw [e, exG_upd g2]
  unfold vfr enT gof
  unfold gof at hN
  by_cases h : c < 100
  · simp only [if_pos h] at hN ⊢
    by_cases p : tf T c = y <;> by_cases q : tt T c = y
    · omega
    · rw [if_pos p, if_neg q, if_pos p.symm, if_neg (fun z => q z.symm)]; omega
    · rw [if_neg p, if_pos q, if_neg (fun z => p z.symm), if_pos q.symm]; omega
    · rw [if_neg p, if_neg q, if_neg (fun z => p z.symm), if_neg (fun z => q z.symm)]
  · simp only [if_neg h] at hN ⊢
    by_cases p : tf T (c - 100) = y <;> by_cases q : tt T (c - 100) = y
    · omega
    · rw [if_pos p, if_neg q, if_neg (fun z => q z.symm), if_pos p.symm]; omega
    · rw [if_neg p, if_pos q, if_pos q.symm, if_neg (fun z => p z.symm)]; omega
    · rw [if_neg p, if_neg q, if_neg (fun z => q z.symm), if_neg (fun z => p z.symm)]
theorem psX_st {c u w : Nat} {a : Int} (ha : 0 ≤ a) (h : stT T (psX x c a) u w) : stT T x u w ∨ (u = enT T c ∧ w = vfr T c) := by
  obtain ⟨e, he, hs⟩ := h
  unfold psX at hs
  by_cases q : e = gof c
  · rw [if_pos q] at hs
    unfold enT vfr
    unfold gof at q
    by_cases h : c < 100
    · rw [if_pos h] at q
      rw [if_pos h] at hs
      rw [if_pos h, if_pos h]
      subst q
      rcases hs with ⟨p1, p2, p3⟩ | ⟨p1, p2, p3⟩
      · exact Or.inl ⟨e, he, Or.inl ⟨p1, p2, by omega⟩⟩
      · exact Or.inr ⟨p1.symm, p2.symm⟩
    · rw [if_neg h] at q
      rw [if_neg h] at hs
      rw [if_neg h, if_neg h]
      subst q
      rcases hs with ⟨p1, p2, p3⟩ | ⟨p1, p2, p3⟩
      · exact Or.inr ⟨p1.symm, p2.symm⟩
      · exact Or.inl ⟨c - 100, he, Or.inr ⟨p1, p2, by omega⟩⟩
  · rw [if_neg q] at hs
    exact Or.inl ⟨e, he, hs⟩
theorem okH.push {c : Nat} {a : Int} (hT : okT T) (h : okH T x hh ex) (hc : cOK T c) (ha : 0 ≤ a) (ha2 : a ≤ rmc (tl T) x c) (hv : vfr T c ≠ ts T) (hae : a ≤ ex (vfr T c)) (hd : hh (enT T c) = hh (vfr T c) - 1) : okH T (psX x c a) hh (psE T ex c a) := by
  obtain ⟨h1, h2, h3, h4, h5, h6⟩ := h
  have g2 := (gof_c hc hT.1).2
  have h12 := stOK_end hT.2.1 (cOK_st hc)
  have hne : vfr T c ≠ enT T c := by
    have := hT.2.1 _ g2
    rcases gof_ends (cOK_st hc) with ⟨p, q⟩ | ⟨p, q⟩ <;> omega
  refine ⟨fun e he => ?_, fun u hu hus => ?_, fun u w hu hw hst => ?_, h4, h5, h6⟩
  · have := h1 e he
    unfold psX
    by_cases q : e = gof c
    · rw [if_pos q]
      unfold rmc at ha2
      unfold gof at q
      by_cases z : c < 100
      · rw [if_pos z] at q ha2
        rw [if_pos z]
        subst q
        omega
      · rw [if_neg z] at q ha2
        rw [if_neg z]
        subst q
        omega
    · rw [if_neg q]; exact this
  · obtain ⟨p, q⟩ := h2 u hu hus
    rw [psX_ex hT hc]
    unfold psE
    by_cases z : u = enT T c
    · rw [if_pos z, if_pos z, if_neg (fun y => hne (y.symm.trans z))]; omega
    · rw [if_neg z, if_neg z]
      by_cases z2 : u = vfr T c
      · rw [if_pos z2, if_pos z2]
        rw [← z2] at hae
        omega
      · rw [if_neg z2, if_neg z2]; omega
  · rcases psX_st ha hst with y | ⟨y1, y2⟩
    · exact h3 u w hu hw y
    · rw [y1, y2, hd]; omega
theorem canDn_low {v : Nat} {lv : Int} (hT : okT T) (h : okH T x hh ex) (hv : v < 12) (hno : ¬ canDn T x hh v) (hl : isLow T x hh v lv) : hh v ≤ lv := by
  obtain ⟨⟨w, w1, w2, w3⟩, -⟩ := hl
  have a := h.2.2.1 v w hv w1 w2
  obtain ⟨i, i1, i2, i3, i4⟩ := stT_c hT.1 w2
  by_cases q : hh w = hh v - 1
  · exact absurd ⟨i, i1, i2, i4, by rw [i3]; exact q⟩ hno
  · omega
theorem okH.lift {v : Nat} {lv : Int} (hT : okT T) (h : okH T x hh ex) (hv : v < 12) (hvs : v ≠ ts T) (hvz : v ≠ tz T) (he : 0 < ex v) (hno : ¬ canDn T x hh v) (hl : isLow T x hh v lv) : okH T x (fun u => if u = v then lv + 1 else hh u) ex := by
  have hlow := canDn_low hT h hv hno hl
  obtain ⟨h1, h2, h3, h4, h5, h6⟩ := h
  have val : ∀ u w, u < 12 → w < 12 → stT T x u w → (fun u => if u = v then lv + 1 else hh u) u ≤ (fun u => if u = v then lv + 1 else hh u) w + 1 := fun u w hu hw hst => by
    show (if u = v then lv + 1 else hh u) ≤ (if w = v then lv + 1 else hh w) + 1
    by_cases p : u = v
    · rw [if_pos p]
      by_cases q : w = v
      · rw [if_pos q]; omega
      · rw [if_neg q]
        have := hl.2 w hw (by rw [← p]; exact hst)
        omega
    · rw [if_neg p]
      have := h3 u w hu hw hst
      by_cases q : w = v
      · rw [if_pos q]; rw [q] at this; omega
      · rw [if_neg q]; exact this
  refine ⟨h1, h2, val, by show (if ts T = v then _ else _) = _; rw [if_neg (fun z => hvs z.symm)]; exact h4, by show (if tz T = v then _ else _) = _; rw [if_neg (fun z => hvz z.symm)]; exact h5, fun u hu => ?_⟩
  show 0 ≤ (if u = v then _ else _) ∧ (if u = v then _ else _) ≤ (23 : Int)
  by_cases p : u = v
  · rw [if_pos p]
    have hb := high_ex (N := 12) hT.2.1 h1 (fun e he => (hT.2.2.1 e he).1) hT.2.2.2.1 hv (fun y hy hys => by have := h2 y hy hys; omega) (by have := h2 v hv hvs; omega) val
    rw [if_pos rfl, if_neg (fun z => hvs z.symm), h4] at hb
    have := h6 v hv
    omega
  · rw [if_neg p]; exact h6 u hu
end HPure
