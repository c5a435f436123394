/-! nets told as lists of arcs -/
abbrev AL : Type := List (Nat × Nat × Int)
def matL : AL → Nat → Nat → Int
  | [], _, _ => 0
  | q :: L, u, v => (if q.1 = u ∧ q.2.1 = v then q.2.2 else 0) + matL L u v
def cutL (S : Nat → Bool) : AL → Int
  | [] => 0
  | q :: L => (if S q.1 = true ∧ S q.2.1 = false then q.2.2 else 0) + cutL S L
def outL (x : Nat) : AL → Int
  | [] => 0
  | q :: L => (if q.1 = x then q.2.2 else 0) + outL x L
def okLs (N : Nat) (L : AL) : Prop := ∀ q, q ∈ L → (q.1 < N ∧ q.2.1 < N ∧ q.1 ≠ q.2.1) ∧ 0 ≤ q.2.2 ∧ q.2.2 ≤ 1000000000
section Arcs
variable {N w : Nat} {L A : AL} {S : Nat → Bool} {σ : PS} {Φ : Int → PS → Prop}
theorem matL_app (u v : Nat) : matL (A ++ L) u v = matL A u v + matL L u v := by
  induction A with
  | nil => show matL L u v = 0 + matL L u v; omega
  | cons q A ih =>
    show _ + matL (A ++ L) u v = _ + matL A u v + matL L u v
    rw [ih]; omega
theorem cutL_app : cutL S (A ++ L) = cutL S A + cutL S L := by
  induction A with
  | nil => show cutL S L = 0 + cutL S L; omega
  | cons q A ih =>
    show _ + cutL S (A ++ L) = _ + cutL S A + cutL S L
    rw [ih]; omega
theorem outL_app {x : Nat} : outL x (A ++ L) = outL x A + outL x L := by
  induction A with
  | nil => show outL x L = 0 + outL x L; omega
  | cons q A ih =>
    show _ + outL x (A ++ L) = _ + outL x A + outL x L
    rw [ih]; omega
theorem okLs.app (h : okLs N A) (g : okLs N L) : okLs N (A ++ L) := fun q hq => by
  rcases List.mem_append.mp hq with z | z
  · exact h q z
  · exact g q z
theorem okLs.one {a b : Nat} {c : Int} (ha : a < N) (hb : b < N) (hab : a ≠ b) (hc : 0 ≤ c ∧ c ≤ 1000000000) : okLs N [(a, b, c)] := fun q hq => by
  rw [List.mem_singleton.mp hq]
  exact ⟨⟨ha, hb, hab⟩, hc⟩
theorem okLs.nil : okLs N [] := fun q hq => absurd hq (by exact List.not_mem_nil)
theorem matL_nn (h : okLs N L) (u v : Nat) : 0 ≤ matL L u v := by
  induction L with
  | nil => exact Int.le_refl _
  | cons q L ih =>
    have a := (h q List.mem_cons_self).2.1
    have b := ih (fun r hr => h r (List.mem_cons_of_mem _ hr))
    show 0 ≤ (if q.1 = u ∧ q.2.1 = v then q.2.2 else 0) + matL L u v
    split <;> omega
theorem matL_out (h : okLs N L) (u v : Nat) : matL L u v ≤ outL u L := by
  induction L with
  | nil => exact Int.le_refl _
  | cons q L ih =>
    have a := (h q List.mem_cons_self).2.1
    have b := ih (fun r hr => h r (List.mem_cons_of_mem _ hr))
    show (if q.1 = u ∧ q.2.1 = v then q.2.2 else 0) + matL L u v ≤ (if q.1 = u then q.2.2 else 0) + outL u L
    by_cases p : q.1 = u
    · rw [if_pos p]; split <;> omega
    · rw [if_neg p, if_neg (fun z => p z.1)]; omega
theorem cut_matL (h : okLs N L) : cutc N (matL L) S = cutL S L := by
  induction L with
  | nil => exact sm_0 (fun u _ => sm_0 (fun v _ => by split <;> rfl))
  | cons q L ih =>
    obtain ⟨⟨a, b, _⟩, _⟩ := h q List.mem_cons_self
    have e : matL (q :: L) = fun u v => (fun u v => if q.1 = u ∧ q.2.1 = v then q.2.2 else 0) u v + matL L u v := rfl
    rw [e, cutc_add, ih (fun r hr => h r (List.mem_cons_of_mem _ hr)), cutc_one a b]
    rfl
theorem out_matL (h : okLs N L) (x : Nat) : outf N (matL L) x = outL x L := by
  induction L with
  | nil => exact sm_0 (fun u _ => rfl)
  | cons q L ih =>
    obtain ⟨⟨a, b, _⟩, _⟩ := h q List.mem_cons_self
    have e : outf N (matL (q :: L)) x = sm (fun v => if q.1 = x ∧ q.2.1 = v then q.2.2 else 0) N + outf N (matL L) x := by
      unfold outf
      rw [← sm_add]
      rfl
    rw [e, ih (fun r hr => h r (List.mem_cons_of_mem _ hr))]
    show _ = (if q.1 = x then q.2.2 else 0) + outL x L
    congr 1
    rw [sm_one b (fun k _ hk => if_neg (fun z => hk z.2.symm))]
    by_cases p : q.1 = x
    · rw [if_pos p, if_pos ⟨p, rfl⟩]
    · rw [if_neg p, if_neg (fun z => p z.1)]
/-- the class's net holds these arcs, and no water -/
def NA (N : Nat) (L : AL) (σ : PS) : Prop := ∃ (fr to : Nat → Nat) (lim : Nat → Int), NV N L.length fr to lim (fun _ => 0) σ ∧ okN N L.length fr to ∧ (∀ g, g < L.length → 0 ≤ lim g ∧ lim g ≤ 1000000000) ∧ ∀ u v, cG L.length fr to lim u v = matL L u v
theorem NA.off {σ' : PS} {ks : List Nat} (h : NA N L σ) (ho : Off ks σ σ') (h8 : 8 ∉ ks) (h1 : 49 ∉ ks) (h2 : 54 ∉ ks) (h3 : 55 ∉ ks) (h4 : 56 ∉ ks) : NA N L σ' := by
  obtain ⟨fr, to, lim, a, b⟩ := h
  exact ⟨fr, to, lim, a.off ho h8 h1 h2 h3 h4, b⟩
theorem c_beginL {N : Nat} {x : Int} (hx : x = N) (hN : N ≤ 108) (hΦ : ∀ σ' : PS, Off [8, 49] σ σ' → NA N [] σ' → Φ 0 σ') : FX6_begin x σ Φ := by
  subst hx
  exact c_begin (fr := fun _ => 0) (to := fun _ => 0) (lim := fun _ => 0) (x := fun _ => 0) hN (fun σ' o' h => hΦ σ' o' ⟨_, _, _, h, fun g hg => absurd hg (Nat.not_lt_zero _), fun g hg => absurd hg (Nat.not_lt_zero _), fun _ _ => rfl⟩)
theorem c_joinL {a b : Nat} {x y c : Int} (hx : x = a) (hy : y = b) (hV : NA N L σ) (hn : L.length + 1 ≤ 336) (hN : N ≤ 108) (ha : a < N) (hb : b < N) (hab : a ≠ b) (hc : 0 ≤ c ∧ c ≤ 1000000000) (hΦ : ∀ σ' : PS, Off [8, 49, 54, 55, 56] σ σ' → NA N (L ++ [(a, b, c)]) σ' → Φ ((2 * L.length : Nat) : Int) σ') : FX6_join x y c σ Φ := by
  subst hx; subst hy
  obtain ⟨fr, to, lim, h1, h2, h3, h4⟩ := hV
  refine c_join h1 hn hN ha hb (fun σ' o' hV' => hΦ σ' o' ?_)
  have e0 : (fun g => if g = L.length then 0 else (fun _ : Nat => (0 : Int)) g) = fun _ => 0 := by
    funext g
    split <;> rfl
  rw [e0] at hV'
  have el : (L ++ [(a, b, c)]).length = L.length + 1 := by rw [List.length_append]; rfl
  refine ⟨_, _, _, by rw [el]; exact hV', by rw [el]; exact okN_put h2 ha hb hab, fun g hg => ?_, fun u v => ?_⟩
  · rw [el] at hg
    by_cases q : g = L.length
    · simp only [if_pos q]; exact hc
    · simp only [if_neg q]; exact h3 g (by omega)
  · rw [el, cG_put, h4, matL_app]
    show _ = _ + ((if a = u ∧ b = v then c else 0) + 0)
    omega
theorem c_passL {s t : Nat} {x y : Int} (hx : x = s) (hy : y = t) (hV : NA N L σ) (hL : okLs N L) (hn : L.length ≤ 336) (hN : N ≤ 108) (hs : s < N) (ht : t < N) (hst : s ≠ t) (hB : outL s L ≤ 1000000000) (hΦ : ∀ (σ' : PS) (v : Int), Off [50, 51, 52, 53, 56] σ σ' → IsMF N (matL L) s t v → 0 ≤ v → Φ v σ') : FX6_pass x y σ Φ := by
  subst hx; subst hy
  obtain ⟨fr, to, lim, h1, h2, h3, h4⟩ := hV
  have hr : rG L.length fr to lim (fun _ => 0) = matL L := by
    funext u v
    rw [rG_0, h4]
  refine c_pass ⟨hN, hn, h2, h3⟩ hs ht hst h1 (fun g hg => ⟨Int.le_refl _, (h3 g hg).1⟩) (fun y hy => ?_) (fun σ' x o' _ _ hF h0 => ?_)
  · have := hy.le_out h2 hs
    rw [hr, out_matL hL] at this
    omega
  · rw [hr] at hF
    exact hΦ σ' _ o' hF h0
/-- the reference's square holds these arcs -/
def SA (w : Nat) (L : AL) (σ : PS) : Prop := SQ w (matL L) σ
theorem m_addsL {a b : Nat} {x y c : Int} (hx : x = a) (hy : y = b) (hS : SA w L σ) (hL : okLs w L) (hw : w ≤ 108) (ha : a < w) (hb : b < w) (hc : 0 ≤ c ∧ c ≤ 1000000000) (hB : outL a L ≤ 1000000000) (hΦ : ∀ σ' : PS, Off [21] σ σ' → SA w (L ++ [(a, b, c)]) σ' → Φ 0 σ') : FX12_adds x y c σ Φ := by
  have h1 := matL_out hL a b
  have h2 := matL_nn hL a b
  refine m_adds hx hy hw hS ha hb ⟨by omega, by omega⟩ (fun σ' o' hS' => hΦ σ' o' ?_)
  refine ⟨hS'.1, fun u v hu hv => ?_⟩
  rw [hS'.2 u v hu hv, matL_app]
  show uM _ _ _ _ u v = matL L u v + ((if a = u ∧ b = v then c else 0) + 0)
  unfold uM
  by_cases q : u = a ∧ v = b
  · rw [if_pos q, if_pos ⟨q.1.symm, q.2.symm⟩, q.1, q.2]; omega
  · rw [if_neg q, if_neg (fun z => q ⟨z.1.symm, z.2.symm⟩)]; omega
theorem m_clearsL {x : Int} (hx : x = w) (hw : w ≤ 108) (h : ∀ σ' : PS, Off [0, 21] σ σ' → (∀ i, i ≠ 25 → σ' 0 i = σ 0 i) → SA w [] σ' → Φ 0 σ') : FX12_clears x σ Φ := m_clears hx hw (fun σ' a b c => h σ' a b c)
theorem m_passesL {s t : Nat} {x y : Int} (hx : x = s) (hy : y = t) (hS : SA w L σ) (hL : okLs w L) (hw : w ≤ 108) (hs : s < w) (ht : t < w) (hst : s ≠ t) (hB : ∀ u, u < w → outL u L ≤ 500000000) (hΦ : ∀ (σ' : PS) (M : Nat → Nat → Int) (v : Int), Off [6, 21, 22] σ σ' → SQ w M σ' → RO w (matL L) s t M v → IsMF w (matL L) s t v → 0 ≤ v → Φ v σ') : FX12_passes x y σ Φ := by
  refine m_passes hx hy hw hs ht hst hS (fun u v _ _ => matL_nn hL u v) (fun u v hu hv => ?_) ?_ hΦ
  · have a := matL_out hL u v
    have b := matL_out hL v u
    have := hB u hu
    have := hB v hv
    omega
  · rw [out_matL hL]
    have := hB s hs
    omega
/-- the most, by cuts -/
theorem MF_cut {s t : Nat} {v : Int} (hL : okLs N L) (h : IsMF N (matL L) s t v) : ∃ S : Nat → Bool, S s = true ∧ S t = false ∧ v = cutL S L := by
  obtain ⟨f, S, h1, h2, h3, h4⟩ := h
  exact ⟨S, h2, h3, by rw [h4, cut_matL hL]⟩
theorem MF_le {s t : Nat} {v : Int} (hL : okLs N L) (hs : s < N) (h : IsMF N (matL L) s t v) (h1 : S s = true) (h2 : S t = false) : v ≤ cutL S L := by
  obtain ⟨f, S', hf, -⟩ := h
  have := hf.le_cut hs h1 h2
  rw [cut_matL hL] at this
  exact this
theorem cutL_nn (h : okLs N L) : 0 ≤ cutL S L := by
  induction L with
  | nil => exact Int.le_refl _
  | cons q L ih =>
    have a := (h q List.mem_cons_self).2.1
    have b := ih (fun r hr => h r (List.mem_cons_of_mem _ hr))
    show 0 ≤ (if S q.1 = true ∧ S q.2.1 = false then q.2.2 else 0) + cutL S L
    split <;> omega
theorem cutL_one {a b : Nat} {c : Int} : cutL S [(a, b, c)] = if S a = true ∧ S b = false then c else 0 := by
  show (if S a = true ∧ S b = false then c else 0) + 0 = _
  omega
theorem outL_one {a b x : Nat} {c : Int} : outL x [(a, b, c)] = if a = x then c else 0 := by
  show (if a = x then c else 0) + 0 = _
  omega
end Arcs
