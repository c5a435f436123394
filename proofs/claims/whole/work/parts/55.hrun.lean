/-! heights: the run as a function, by fuel -/
theorem low_ex {T : NT} {x hh : Nat → Int} {v : Nat} (hT : okT T) (hex : ∃ w, stT T x v w) : ∃ lv, isLow T x hh v lv := by
  have h : ∀ m : Nat, (∃ w, w < m ∧ stT T x v w) → ∃ lv, (∃ w, w < m ∧ stT T x v w ∧ hh w = lv) ∧ ∀ w, w < m → stT T x v w → lv ≤ hh w := by
    intro m
    induction m with
    | zero => rintro ⟨w, hw, _⟩; omega
    | succ m ih =>
      rintro ⟨w, hw, hs⟩
      by_cases q : ∃ w, w < m ∧ stT T x v w
      · obtain ⟨lv, ⟨u, u1, u2, u3⟩, h2⟩ := ih q
        by_cases p : stT T x v m ∧ hh m < lv
        · refine ⟨hh m, ⟨m, by omega, p.1, rfl⟩, fun y hy hst => ?_⟩
          by_cases z : y = m
          · rw [z]; exact Int.le_refl _
          · have := h2 y (by omega) hst
            omega
        · refine ⟨lv, ⟨u, by omega, u2, u3⟩, fun y hy hst => ?_⟩
          by_cases z : y = m
          · rw [z] at hst ⊢
            exact Int.not_lt.mp (fun y2 => p ⟨hst, y2⟩)
          · exact h2 y (by omega) hst
      · have e : w = m := by
          by_cases z : w < m
          · exact absurd ⟨w, z, hs⟩ q
          · omega
        refine ⟨hh m, ⟨m, by omega, by rw [← e]; exact hs, rfl⟩, fun y hy hst => ?_⟩
        by_cases z : y = m
        · rw [z]; exact Int.le_refl _
        · exact absurd ⟨y, by omega, hst⟩ q
  obtain ⟨w, hw⟩ := hex
  have hw12 : w < 12 := by
    obtain ⟨e, he, hs⟩ := id hw
    have hN := hT.2.1 e he
    rcases hs with ⟨_, p, _⟩ | ⟨_, p, _⟩ <;> omega
  exact h 12 ⟨w, hw12, hw⟩
noncomputable def lowT (T : NT) (x hh : Nat → Int) (v : Nat) : Int := @dite _ (∃ lv, isLow T x hh v lv) (Classical.propDecidable _) (fun h => Classical.choose h) (fun _ => 0)
theorem lowT_is {T : NT} {x hh : Nat → Int} {v : Nat} {lv : Int} (h : isLow T x hh v lv) : lowT T x hh v = lv := by
  unfold lowT
  rw [dif_pos ⟨lv, h⟩]
  exact (Classical.choose_spec (⟨lv, h⟩ : ∃ lv, isLow T x hh v lv)).one h
/-- numbers, heights, excess, lifted, pushes, those that wait -/
abbrev HS : Type := (Nat → Int) × (Nat → Int) × (Nat → Int) × (Nat → Int) × Int × List Nat
noncomputable def hop (T : NT) (v : Nat) (s : HS) : HS :=
  @ite _ (canDn T s.1 s.2.1 v) (Classical.propDecidable _)
    (psX s.1 (nxT T s.1 s.2.1 v) (min (s.2.2.1 v) (rmc (tl T) s.1 (nxT T s.1 s.2.1 v))), s.2.1, psE T s.2.2.1 (nxT T s.1 s.2.1 v) (min (s.2.2.1 v) (rmc (tl T) s.1 (nxT T s.1 s.2.1 v))), s.2.2.2.1, s.2.2.2.2.1 + 1, psW T s.2.2.2.2.2 (enT T (nxT T s.1 s.2.1 v)))
    (s.1, (fun u => if u = v then lowT T s.1 s.2.1 v + 1 else s.2.1 u), s.2.2.1, (fun u => if u = v then s.2.2.2.1 u + 1 else s.2.2.2.1 u), s.2.2.2.2.1, s.2.2.2.2.2)
noncomputable def srv (T : NT) (v : Nat) : Nat → HS → HS
  | 0, s => s
  | n + 1, s => if s.2.2.1 v ≤ 0 then s else srv T v n (hop T v s)
