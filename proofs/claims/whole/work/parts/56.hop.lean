section Hop
variable {T : NT} {s : HS} {v : Nat}
theorem canDn_nx {x hh : Nat → Int} (hT : okT T) (h : canDn T x hh v) : cOK T (nxT T x hh v) ∧ pS T x hh v (nxT T x hh v) := by
  obtain ⟨i, h1, h2, h3⟩ := firstN h
  rw [nxT_cAt hT.1 h1 h2 h3]
  exact ⟨cAt_ok hT.1 h1, h2⟩
theorem hop_y (h : canDn T s.1 s.2.1 v) : hop T v s = (psX s.1 (nxT T s.1 s.2.1 v) (min (s.2.2.1 v) (rmc (tl T) s.1 (nxT T s.1 s.2.1 v))), s.2.1, psE T s.2.2.1 (nxT T s.1 s.2.1 v) (min (s.2.2.1 v) (rmc (tl T) s.1 (nxT T s.1 s.2.1 v))), s.2.2.2.1, s.2.2.2.2.1 + 1, psW T s.2.2.2.2.2 (enT T (nxT T s.1 s.2.1 v))) := by
  unfold hop
  exact if_pos h
theorem hop_n (h : ¬ canDn T s.1 s.2.1 v) : hop T v s = (s.1, (fun u => if u = v then lowT T s.1 s.2.1 v + 1 else s.2.1 u), s.2.2.1, (fun u => if u = v then s.2.2.2.1 u + 1 else s.2.2.2.1 u), s.2.2.2.2.1, s.2.2.2.2.2) := by
  unfold hop
  exact if_neg h
theorem hop_ok (hT : okT T) (h : okH T s.1 s.2.1 s.2.2.1) (hv : v < 12) (hvs : v ≠ ts T) (hvz : v ≠ tz T) (he : 0 < s.2.2.1 v) : okH T (hop T v s).1 (hop T v s).2.1 (hop T v s).2.2.1 ∧ PP T (hop T v s).1 (hop T v s).2.1 (hop T v s).2.2.1 < PP T s.1 s.2.1 s.2.2.1 := by
  by_cases q : canDn T s.1 s.2.1 v
  · obtain ⟨hc, p1, p2, p3⟩ := canDn_nx hT q
    rw [hop_y q]
    refine ⟨h.push hT hc (by omega) (by omega) (by rw [p1]; exact hvs) (by rw [p1]; omega) (by rw [p1]; exact p3), PP_push hT h hc (by omega) (by rw [p1]) (by rw [p1]; exact hvs) (by rw [p1]; exact hvz) (by rw [p1]; exact p3)⟩
  · have hex : ∃ w, stT T s.1 v w := out_step hT.2.1 h.1 (by have := h.2.1 v hv hvs; omega)
    obtain ⟨lv, hl⟩ := low_ex (hh := s.2.1) hT hex
    rw [hop_n q, lowT_is hl]
    exact ⟨h.lift hT hv hvs hvz he q hl, PP_lift hT h hv hvs hvz he q hl⟩
end Hop
