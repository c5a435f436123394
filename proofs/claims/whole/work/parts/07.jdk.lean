def mi_fill : MI := (cJ7_fill_53178, RJ7, 4, 1, none, 0)
def mi_fill4 : MI := (cJ7_fill_fda19, RJ7, 5, 3, none, 0)
def mi_bitCount : MI := (cJ6_bitCount_0f7a4, RJ6, 1, 1, (some .int), 1)
def mi_Slength : MI := (cJ0_length_8abf5, RJ0, 1, 7, (some .int), 1)
def mi_ScharAt : MI := (cJ0_charAt_5068e, RJ0, 2, 7, (some .char), 1)
theorem nm_bitCount : ynm yJ6_bitCount_0f7a4 1 := ⟨⟨by decide +kernel, by decide +kernel⟩, by decide +kernel⟩
def ibits (a : Int) : Int := (((((iz a).toBitVec.toNat : Nat).repr.length : Nat)) : Int)
def slen (k : Nat) : Int := (kLen.getD k 0 : Nat)
def schr (k i : Nat) : Int := ((kByt.getD k []).getD i 0).toInt
theorem Rg_schr (k i : Nat) : Rg (schr k i) := Rg_of _
theorem Rg_slen {k : Nat} (h : k < 9) : Rg (slen k) := by
  have : ∀ k : Nat, k < 9 → Rg (slen k) := by decide +kernel
  exact this k h
theorem C_bitCount {lay : List LE} {E : EV} (hE : eOK lay E) (a : Int) (ra : Rg a) (σ : PS) (hs : RS σ) : CT lay E yJ6_bitCount_0f7a4 mi_bitCount [.int (iz a)] σ (fun z σ1 => z = ibits a ∧ σ1 = σ) := sorry
section Jdk
variable {lay : List LE} {E : EV} {M : MI} {Φ : Int → PS → Prop} {pc : Nat} {lv lv' : List (Option Value)} {st : List Value} {σ : PS} {x : CX}
theorem r_fill {idx k n : Nat} {v : Int} (d : decode M.1 pc = .ok (.invokestatic idx, 3)) (cw : CWS M.2.1 idx yJ7_fill_53178 mi_fill) (hk : lay[k]? = some (.inl (0, n))) (hn : Nat.ble n 1000000 = true) (hv : Rg v) (hlv : 2 ≤ M.2.2.2.1) (hcat : Nat.ble ((st.map fun v => v.category).sum) 8 = true) (kk : RW lay E M Φ (pc + 3) lv st (fl2 σ k 0 n v) x) : RW lay E M Φ pc lv (.int (iz v) :: .ref (eA E k) :: st) σ x := sorry
theorem r_fill4 {idx k n : Nat} {lo hi v N : Int} (d : decode M.1 pc = .ok (.invokestatic idx, 3)) (cw : CWS M.2.1 idx yJ7_fill_fda19 mi_fill4) (hk : lay[k]? = some (.inl (0, n))) (hN : (n : Int) = N) (hn : Nat.ble n 1000000 = true) (rlo : Rg lo) (rhi : Rg hi) (hv : Rg v) (h : 0 ≤ lo ∧ lo ≤ hi ∧ hi ≤ N) (hlv : 4 ≤ M.2.2.2.1) (hcat : Nat.ble ((st.map fun v => v.category).sum) 8 = true) (kk : RW lay E M Φ (pc + 3) lv st (fl2 σ k lo.toNat hi.toNat v) x) : RW lay E M Φ pc lv (.int (iz v) :: .int (iz hi) :: .int (iz lo) :: .ref (eA E k) :: st) σ x := sorry
theorem st_ldcwS {p : Program} {l : Launch} {e : Env} {R : Room} {s : State} {m : MethodId} {args : Array Value} {below : List Frame} {meth : Method} {c : Code} {T : State} {locs : List Loc} {cells slots : Nat}
    (X : Stand p l e R s m args below meth c T locs cells slots) (hexec : p.tables.exec = Jvm.exec) {own text : String} {index : Nat} {a : Addr} (hown : s.vm.findClass own = some m.cls)
    (hconst : (Cond.stringRef own index text).before args s = true) (hev : (Term.string own index).eval args s none [] s = some (.ref a)) {g : JFrame} (hg : g.method = m) (hdg : decode c.code g.pc = .ok (.ldc_w index, 3)) :
    ∀ target, Steps p.tables e below (T.setTop { g with pc := g.pc + 3, stack := .ref a :: g.stack }) target → Steps p.tables e below (T.setTop g) target := by
  obtain ⟨k, cf, i, a', hk, hcf, hcp, -, hr, hev'⟩ := Cond.stringRef_spec hown hconst
  cases hev.symm.trans hev'
  obtain ⟨k', hk', he⟩ := X.warmed.alike.2.2 _ _ hk
  have hr' : k'.resolved[index]? = some (some (.string a)) := by
    rcases X.warmed.entry hk hk' index with h | ⟨h, -⟩
    · rw [h]; exact hr
    · rw [hr] at h; cases h
  intro target hrest
  subst hg
  jvm_step X.here [hexec, hdg, ldc_w.wp_string (e := e) (s := T) (f := g) X.here.top hk' (by rw [he]; exact hcf) hcp hr']
  exact hrest
theorem r_ldcwS {i q : Nat} {tx : String} (d : decode M.1 pc = .ok (.ldc_w i, 3)) (hw : (M.2.1, i, tx, q) ∈ kRef) (k : RW lay E M Φ (pc + 3) lv (.ref (eS E q) :: st) σ x) : RW lay E M Φ pc lv st σ x := by
  obtain ⟨p, e, R, s, m, args, below, meth, c⟩ := x
  intro ok hσ H locs ls hP hS hl
  obtain ⟨hx, hb, -, hown, -, -, -, hE, -⟩ := id ok
  intro T hT X
  obtain ⟨t, a1, b1⟩ := k ok hσ H locs ls hP hS hl T hT X
  have hZ := hE.2.1 _ hw
  exact ⟨t, st_ldcwS X hx hown (text := tx) (a := eS E q) hZ.1 hZ.2 (g := F0 m pc ls st) rfl (by rw [hb]; exact d) t a1, b1⟩
theorem r_strlen {idx k : Nat} (d : decode M.1 pc = .ok (.invokevirtual idx, 3)) (cw : CWV M.2.1 idx yJ0_length_8abf5 mi_Slength) (hk : k < 9) (hlv : Nat.ble 8 M.2.2.2.1 = true) (hcat : Nat.ble ((st.map fun v => v.category).sum) 8 = true) (kk : RW lay E M Φ (pc + 3) lv (.int (iz (slen k)) :: st) σ x) : RW lay E M Φ pc lv (.ref (eS E k) :: st) σ x := sorry
theorem r_strat {idx k : Nat} {i : Int} (d : decode M.1 pc = .ok (.invokevirtual idx, 3)) (cw : CWV M.2.1 idx yJ0_charAt_5068e mi_ScharAt) (h : k < 9 ∧ 0 ≤ i ∧ i < slen k) (hlv : Nat.ble 8 M.2.2.2.1 = true) (hcat : Nat.ble ((st.map fun v => v.category).sum) 8 = true) (kk : RW lay E M Φ (pc + 3) lv (.int (iz (schr k i.toNat)) :: st) σ x) : RW lay E M Φ pc lv (.int (iz i) :: .ref (eS E k) :: st) σ x := sorry
end Jdk
