/-! bounds: the class -/
def LG (b : Bk) : Nat → AL
  | 0 => []
  | e + 1 => LG b e ++ [(tf (T0 b) e, tt (T0 b) e, liC b e)]
def ndB (b : Bk) : Nat → AL
  | 0 => []
  | v + 1 => ndB b v ++ (if 0 < -hX b v then [(12, v, -hX b v)] else if -hX b v < 0 then [(v, 13, hX b v)] else [])
def LB (b : Bk) (k : Nat) : AL := LG b (bn b) ++ ([(bz b, bs b, 1000000000)] ++ ndB b k)
def NX (N : Nat) (L : AL) (σ : PS) : Prop := ∃ (fr to : Nat → Nat) (lim : Nat → Int), NV N L.length fr to lim (fun _ => 0) σ ∧ okN N L.length fr to ∧ (∀ g, g < L.length → 0 ≤ lim g ∧ lim g ≤ 1000000000) ∧ (∀ u v, cG L.length fr to lim u v = matL L u v) ∧ ∀ g, g < L.length → fr g = (L.getD g (0, 0, 0)).1 ∧ to g = (L.getD g (0, 0, 0)).2.1 ∧ lim g = (L.getD g (0, 0, 0)).2.2
section Bound3
variable {N : Nat} {L : AL} {b : Bk} {σ : PS} {Φ : Int → PS → Prop}
theorem NX.off {σ' : PS} {ks : List Nat} (h : NX N L σ) (ho : Off ks σ σ') (h8 : 8 ∉ ks) (h1 : 49 ∉ ks) (h2 : 54 ∉ ks) (h3 : 55 ∉ ks) (h4 : 56 ∉ ks) : NX N L σ' := by
  obtain ⟨fr, to, lim, a, b⟩ := h
  exact ⟨fr, to, lim, a.off ho h8 h1 h2 h3 h4, b⟩
theorem getD_appA {P Q : AL} {i : Nat} : (P ++ Q).getD i (0, 0, 0) = if i < P.length then P.getD i (0, 0, 0) else Q.getD (i - P.length) (0, 0, 0) := by
  by_cases h : i < P.length
  · rw [if_pos h, List.getD_eq_getElem?_getD, List.getElem?_append_left h, ← List.getD_eq_getElem?_getD]
  · rw [if_neg h, List.getD_eq_getElem?_getD, List.getElem?_append_right (by omega), ← List.getD_eq_getElem?_getD]
theorem c_joinX {a c : Nat} {x y w : Int} (hx : x = a) (hy : y = c) (hV : NX N L σ) (hn : L.length + 1 ≤ 336) (hN : N ≤ 108) (ha : a < N) (hc : c < N) (hac : a ≠ c) (hw : 0 ≤ w ∧ w ≤ 1000000000) (hΦ : ∀ σ' : PS, Off [8, 49, 54, 55, 56] σ σ' → NX N (L ++ [(a, c, w)]) σ' → Φ ((2 * L.length : Nat) : Int) σ') : FX6_join x y w σ Φ := by
  subst hx; subst hy
  obtain ⟨fr, to, lim, h1, h2, h3, h4, h5⟩ := hV
  refine c_join h1 hn hN ha hc (fun σ' o' hV' => hΦ σ' o' ?_)
  have e0 : (fun g => if g = L.length then 0 else (fun _ : Nat => (0 : Int)) g) = fun _ => 0 := by
    funext g
    split <;> rfl
  rw [e0] at hV'
  have el : (L ++ [(a, c, w)]).length = L.length + 1 := by rw [List.length_append]; rfl
  refine ⟨_, _, _, by rw [el]; exact hV', by rw [el]; exact okN_put h2 ha hc hac, fun g hg => ?_, fun u v => ?_, fun g hg => ?_⟩
  · rw [el] at hg
    by_cases q : g = L.length
    · simp only [if_pos q]; exact hw
    · simp only [if_neg q]; exact h3 g (by omega)
  · rw [el, cG_put, h4, matL_app]
    show _ = _ + ((if a = u ∧ c = v then w else 0) + 0)
    omega
  · rw [el] at hg
    by_cases q : g = L.length
    · have e1 : (L ++ [(a, c, w)]).getD g (0, 0, 0) = (a, c, w) := by
        rw [getD_appA, q, if_neg (Nat.lt_irrefl _), Nat.sub_self]
        rfl
      rw [e1]
      simp only [if_pos q]
      exact ⟨trivial, trivial, trivial⟩
    · have e1 : (L ++ [(a, c, w)]).getD g (0, 0, 0) = L.getD g (0, 0, 0) := by
        rw [getD_appA, if_pos (by omega)]
      rw [e1]
      simp only [if_neg q]
      exact h5 g (by omega)
theorem c_usableLeast {e : Nat} (hb : okB b) (hC : cB 1 13 b σ) (he : e < bn b) (h : Φ (loB b e) σ) : FX3_usableLeast e σ Φ := by
  have hn := hb.1
  have a2 := hC.2.2.2 e he 2 (by omega)
  have a5 := hC.2.2.2 e he 5 (by omega)
  rw [show 13 + 2 = 15 from rfl] at a2
  rw [show 13 + 5 = 18 from rfl] at a5
  unfold FX3_usableLeast
  unfold loB at h
  refine c_has (T := T0 b) rfl (CN_TN hb hC) he ⟨fun c => by omega, fun _ => ⟨⟨by omega, by omega⟩, ?_⟩⟩
  rw [show ((e : Nat) : Int).toNat = e by omega, a5, a2]
  refine ⟨fun c => ?_, fun c => ⟨⟨by omega, by omega⟩, ?_⟩⟩
  · rw [if_neg c] at h; exact h
  · rw [if_pos c] at h; exact h
theorem LG_is (hb : okB b) : ∀ e, e ≤ bn b → okLs 14 (LG b e) ∧ (LG b e).length = e ∧ ∀ u v, matL (LG b e) u v = cG e (tf (T0 b)) (tt (T0 b)) (liC b) u v := by
  intro e
  induction e with
  | zero => intro _; exact ⟨okLs.nil, rfl, fun _ _ => rfl⟩
  | succ e ih =>
    intro he
    obtain ⟨h1, h2, h3⟩ := ih (by omega)
    have hN := (okT_T0 hb).2.1 e he
    have hl := lo_rng hb he
    have ee : LG b (e + 1) = LG b e ++ [(tf (T0 b) e, tt (T0 b) e, liC b e)] := rfl
    rw [ee]
    refine ⟨h1.app (okLs.one (by omega) (by omega) hN.2.2 (by unfold liC; omega)), by rw [List.length_append, h2]; rfl, fun u v => ?_⟩
    rw [matL_app, h3, cG_s]
    show _ + ((if tf (T0 b) e = u ∧ tt (T0 b) e = v then liC b e else 0) + 0) = _
    omega
theorem ndB_is (hb : okB b) : ∀ k, k ≤ 12 → okLs 14 (ndB b k) ∧ (ndB b k).length ≤ k ∧ ∀ u v, matL (ndB b k) u v = (if u = 12 ∧ v < k then psB b v else 0) + (if v = 13 ∧ u < k then ngB b u else 0) := by
  intro k
  induction k with
  | zero => intro _; exact ⟨okLs.nil, Nat.le_refl _, fun u v => by rw [if_neg (by omega), if_neg (by omega)]; rfl⟩
  | succ k ih =>
    intro hk
    obtain ⟨h1, h2, h3⟩ := ih (by omega)
    have hx := hX_rng hb k
    have ee : ndB b (k + 1) = ndB b k ++ (if 0 < -hX b k then [(12, k, -hX b k)] else if -hX b k < 0 then [(k, 13, hX b k)] else []) := rfl
    have step : ∀ u v, (if u = 12 ∧ v < k + 1 then psB b v else 0) = (if u = 12 ∧ v < k then psB b v else 0) + (if u = 12 ∧ v = k then psB b k else 0) := fun u v => by
      by_cases p : u = 12
      · by_cases q : v = k
        · rw [if_pos ⟨p, by omega⟩, if_neg (by omega), if_pos ⟨p, q⟩, q]; omega
        · by_cases q2 : v < k
          · rw [if_pos ⟨p, by omega⟩, if_pos ⟨p, q2⟩, if_neg (fun z => q z.2)]; omega
          · rw [if_neg (by omega), if_neg (fun z => q2 z.2), if_neg (fun z => q z.2)]; rfl
      · rw [if_neg (fun z => p z.1), if_neg (fun z => p z.1), if_neg (fun z => p z.1)]; rfl
    have step2 : ∀ u v, (if v = 13 ∧ u < k + 1 then ngB b u else 0) = (if v = 13 ∧ u < k then ngB b u else 0) + (if v = 13 ∧ u = k then ngB b k else 0) := fun u v => by
      by_cases p : v = 13
      · by_cases q : u = k
        · rw [if_pos ⟨p, by omega⟩, if_neg (by omega), if_pos ⟨p, q⟩, q]; omega
        · by_cases q2 : u < k
          · rw [if_pos ⟨p, by omega⟩, if_pos ⟨p, q2⟩, if_neg (fun z => q z.2)]; omega
          · rw [if_neg (by omega), if_neg (fun z => q2 z.2), if_neg (fun z => q z.2)]; rfl
      · rw [if_neg (fun z => p z.1), if_neg (fun z => p z.1), if_neg (fun z => p z.1)]; rfl
    rw [ee]
    by_cases q1 : 0 < -hX b k
    · have e1 : psB b k = -hX b k ∧ ngB b k = 0 := by unfold psB ngB; omega
      rw [if_pos q1]
      refine ⟨h1.app (okLs.one (by omega) (by omega) (by omega) (by omega)), by rw [List.length_append, List.length_singleton]; omega, fun u v => ?_⟩
      rw [matL_app, h3, step, step2, e1.1, e1.2]
      show _ + ((if 12 = u ∧ k = v then -hX b k else 0) + 0) = _
      by_cases p : u = 12 ∧ v = k
      · rw [if_pos p, if_pos (show 12 = u ∧ k = v from ⟨p.1.symm, p.2.symm⟩)]
        split <;> split <;> omega
      · rw [if_neg p, if_neg (show ¬ (12 = u ∧ k = v) from fun z => p ⟨z.1.symm, z.2.symm⟩)]
        split <;> split <;> split <;> omega
    · rw [if_neg q1]
      by_cases q2 : -hX b k < 0
      · have e1 : psB b k = 0 ∧ ngB b k = hX b k := by unfold psB ngB; omega
        rw [if_pos q2]
        refine ⟨h1.app (okLs.one (by omega) (by omega) (by omega) (by omega)), by rw [List.length_append, List.length_singleton]; omega, fun u v => ?_⟩
        rw [matL_app, h3, step, step2, e1.1, e1.2]
        show _ + ((if k = u ∧ 13 = v then hX b k else 0) + 0) = _
        by_cases p : v = 13 ∧ u = k
        · rw [if_pos p, if_pos (show k = u ∧ 13 = v from ⟨p.2.symm, p.1.symm⟩)]
          split <;> split <;> split <;> omega
        · rw [if_neg p, if_neg (show ¬ (k = u ∧ 13 = v) from fun z => p ⟨z.2.symm, z.1.symm⟩)]
          split <;> split <;> split <;> omega
      · have e1 : psB b k = 0 ∧ ngB b k = 0 := by unfold psB ngB; omega
        rw [if_neg q2, List.append_nil]
        refine ⟨h1, by omega, fun u v => ?_⟩
        rw [h3, step, step2, e1.1, e1.2]
        split <;> split <;> split <;> split <;> omega
theorem LB_is (hb : okB b) {k : Nat} (hk : k ≤ 12) : okLs 14 (LB b k) ∧ (LB b k).length ≤ 31 + k ∧ (LB b k).getD (bn b) (0, 0, 0) = (bz b, bs b, 1000000000) ∧ bn b < (LB b k).length := by
  have hn := hb.1
  obtain ⟨g1, g2, g3⟩ := LG_is hb _ (Nat.le_refl _)
  obtain ⟨d1, d2, d3⟩ := ndB_is hb k hk
  have hs := hb.2.1
  have hz := hb.2.2.1
  unfold LB
  refine ⟨g1.app ((okLs.one (by omega) (by omega) (fun z => hb.2.2.2.1 z.symm) (by omega)).app d1), ?_, ?_, ?_⟩
  · rw [List.length_append, List.length_append, List.length_singleton]; omega
  · rw [getD_appA, if_neg (by omega), g2, Nat.sub_self]
    rfl
  · rw [List.length_append, List.length_append, List.length_singleton]; omega
theorem LB_mat (hb : okB b) (u v : Nat) : matL (LB b 12) u v = C1 b u v := by
  obtain ⟨g1, g2, g3⟩ := LG_is hb _ (Nat.le_refl _)
  obtain ⟨d1, d2, d3⟩ := ndB_is hb 12 (Nat.le_refl _)
  unfold LB C1
  rw [matL_app, matL_app, g3, d3]
  show C0 b u v + ((if bz b = u ∧ bs b = v then 1000000000 else 0) + 0 + _) = _
  by_cases p : u = bz b ∧ v = bs b
  · rw [if_pos p, if_pos (show bz b = u ∧ bs b = v from ⟨p.1.symm, p.2.symm⟩)]; omega
  · rw [if_neg p, if_neg (show ¬ (bz b = u ∧ bs b = v) from fun z => p ⟨z.1.symm, z.2.symm⟩)]; omega
theorem rG_cl {m g : Nat} {fr to : Nat → Nat} {lim x : Nat → Int} (hg : g < m) (u w : Nat) : rG m fr to (fun k => if k = g then 0 else lim k) (fun k => if k = g then 0 else x k) u w = rG m fr to lim x u w - ((if fr g = u ∧ to g = w then lim g - x g else 0) + (if fr g = w ∧ to g = u then x g else 0)) := by
  have h := sm_upd (f := fun e => (if fr e = u ∧ to e = w then lim e - x e else 0) + (if fr e = w ∧ to e = u then x e else 0)) (v := 0) hg
  have e : rG m fr to (fun k => if k = g then 0 else lim k) (fun k => if k = g then 0 else x k) u w = sm (fun k => if k = g then 0 else (if fr k = u ∧ to k = w then lim k - x k else 0) + (if fr k = w ∧ to k = u then x k else 0)) m := sm_congr (fun k _ => by
    by_cases q : k = g
    · simp only [if_pos q]
      split <;> split <;> omega
    · simp only [if_neg q])
  rw [e, h]
  show rG m fr to lim x u w - _ + 0 = _
  omega
theorem c_close {m g : Nat} {fr to : Nat → Nat} {lim x : Nat → Int} (hV : NV N m fr to lim x σ) (hg : g < m) (hm : m ≤ 336) (hΦ : ∀ σ' : PS, Off [56] σ σ' → NV N m fr to (fun k => if k = g then 0 else lim k) (fun k => if k = g then 0 else x k) σ' → Φ (x g) σ') : FX6_close ((2 * g : Nat) : Int) σ Φ := by
  have e1 : (((2 * g : Nat) : Int) + 1) = ((2 * g + 1 : Nat) : Int) := by omega
  unfold FX6_close
  rw [e1, hV.2.1]
  refine ⟨fun c => by omega, fun _ => ⟨⟨by omega, by omega⟩, fun _ => ⟨⟨by omega, by omega⟩, ⟨by omega, by omega⟩, fun v6 g6 => ⟨⟨by omega, by omega⟩, fun σ8 g8 => ⟨⟨by omega, by omega⟩, ⟨by omega, by omega⟩, fun σ11 g11 => ?_⟩⟩⟩, fun c => by omega⟩⟩
  rw [show ((2 * g + 1 : Nat) : Int).toNat = 2 * g + 1 by omega, (hV.2.2.1 (2 * g + 1) (by omega)).2.1] at g6
  rw [show ((2 * g : Nat) : Int).toNat = 2 * g by omega] at g8
  rw [show ((2 * g + 1 : Nat) : Int).toNat = 2 * g + 1 by omega] at g11
  have e6 : v6 = x g := by
    rw [g6]
    unfold rmN
    rw [if_neg (by omega), show (2 * g + 1) / 2 = g by omega]
  rw [e6]
  have o11 : Off [56] σ σ11 := by rw [g11, g8]; exact (Off.rf.up (by simp)).up (by simp)
  obtain ⟨v1, v2, v3, v4⟩ := hV
  refine hΦ σ11 o11 ⟨by rw [o11 8 (by simp)]; exact v1, by rw [o11 8 (by simp)]; exact v2, fun e he => ⟨?_, ?_, ?_⟩, by rw [o11 49 (by simp)]; exact v4⟩
  · rw [o11 55 (by simp)]; exact (v3 e he).1
  · rw [g11, up2_if, g8, up2_if]
    show _ = (if e % 2 = 0 then (if e / 2 = g then 0 else lim (e / 2)) - (if e / 2 = g then 0 else x (e / 2)) else (if e / 2 = g then 0 else x (e / 2)))
    by_cases p : e = 2 * g + 1
    · rw [if_pos p, if_neg (by omega), if_pos (by omega)]
    · rw [if_neg p]
      by_cases q : e = 2 * g
      · rw [if_pos q, if_pos (by omega), if_pos (by omega), if_pos (by omega)]; rfl
      · rw [if_neg q, (v3 e he).2.1]
        unfold rmN
        by_cases r : e % 2 = 0
        · rw [if_pos r, if_pos r, if_neg (by omega), if_neg (by omega)]
        · rw [if_neg r, if_neg r, if_neg (by omega)]
  · rw [o11 54 (by simp)]; exact (v3 e he).2.2
end Bound3
