/-! bounds below which a gate may not go: what flows there are -/
def loB (b : Bk) (e : Nat) : Int := if bB b e 5 = 1 then bB b e 2 else 0
def liC (b : Bk) (e : Nat) : Int := capB b e - loB b e
abbrev C0 (b : Bk) : Nat → Nat → Int := cG (bn b) (tf (T0 b)) (tt (T0 b)) (liC b)
def inB (b : Bk) (n v : Nat) : Int := sm (fun e => if tt (T0 b) e = v then loB b e else 0) n
def ouB (b : Bk) (n v : Nat) : Int := sm (fun e => if tf (T0 b) e = v then loB b e else 0) n
def hX (b : Bk) (v : Nat) : Int := ouB b (bn b) v - inB b (bn b) v
def FeasM (b : Bk) (f : Nat → Nat → Int) : Prop := anti 12 f ∧ (∀ u v, u < 12 → v < 12 → f u v ≤ C0 b u v) ∧ ∀ v, v < 12 → v ≠ bs b → v ≠ bz b → outf 12 f v + hX b v = 0
def FM (b : Bk) (f : Nat → Nat → Int) : Int := outf 12 f (bs b) + hX b (bs b)
def MaxF (b : Bk) (G : Int) : Prop := (∃ f, FeasM b f ∧ FM b f = G) ∧ ∀ f, FeasM b f → FM b f ≤ G
def MinF (b : Bk) (G : Int) : Prop := (∃ f, FeasM b f ∧ FM b f = G) ∧ ∀ f, FeasM b f → G ≤ FM b f
/-- what the bound's answer is -/
def BA (b : Bk) (what : Nat) (r : Int) : Prop := ((∃ f, FeasM b f ∧ 0 ≤ FM b f) ∧ ((what = 0 ∧ MaxF b r) ∨ (what = 1 ∧ ∃ G, MinF b G ∧ r = max 0 G))) ∨ ((∀ f, FeasM b f → FM b f < 0) ∧ r = -5)
def TopF (r : Nat → Nat → Int) (a c : Nat) (v : Int) : Prop := (∃ g, IsFlow 12 r a c g v) ∧ ∀ g w, IsFlow 12 r a c g w → w ≤ v
section Bound
variable {b : Bk} {f : Nat → Nat → Int}
theorem BA.one {what : Nat} {r q : Int} (h : BA b what r) (g : BA b what q) : r = q := by
  rcases h with ⟨⟨f, f1, f2⟩, h⟩ | ⟨h1, h2⟩
  · rcases g with ⟨_, g⟩ | ⟨g1, _⟩
    · rcases h with ⟨h0, h⟩ | ⟨h0, G, h, e⟩
      · rcases g with ⟨_, g⟩ | ⟨g0, _⟩
        · obtain ⟨⟨a, a1, a2⟩, a3⟩ := h
          obtain ⟨⟨c, c1, c2⟩, c3⟩ := g
          have := a3 c c1
          have := c3 a a1
          omega
        · omega
      · rcases g with ⟨g0, _⟩ | ⟨_, K, g, e2⟩
        · omega
        · obtain ⟨⟨a, a1, a2⟩, a3⟩ := h
          obtain ⟨⟨c, c1, c2⟩, c3⟩ := g
          have := a3 c c1
          have := c3 a a1
          have : G = K := by omega
          rw [e, e2, this]
    · have := g1 f f1
      omega
  · rcases g with ⟨⟨f, f1, f2⟩, _⟩ | ⟨_, g2⟩
    · have := h1 f f1
      omega
    · rw [h2, g2]
theorem lo_rng (hb : okB b) {e : Nat} (he : e < bn b) : 0 ≤ loB b e ∧ loB b e ≤ capB b e ∧ capB b e ≤ 999 := by
  have h := hb.2.2.2.2 e he
  unfold okG at h
  unfold loB capB
  split <;> omega
theorem sm_z {g : Nat → Int} {n : Nat} (h : ∀ k, k < n → g k ≤ 0) (h0 : sm g n = 0) : ∀ k, k < n → g k = 0 := fun k hk => by
  by_cases q : g k < 0
  · have := sm_lt (g := fun _ => 0) h hk q
    rw [sm_0 (fun _ _ => rfl)] at this
    omega
  · have := h k hk
    omega
theorem C0_rng (hb : okB b) (u v : Nat) : 0 ≤ C0 b u v ∧ C0 b u v ≤ 29970 := by
  have hn := hb.1
  have h1 : 0 ≤ C0 b u v := sm_nn (fun e he => by
    have := lo_rng hb he
    unfold liC
    split <;> omega)
  have h2 : C0 b u v ≤ (bn b : Int) * 999 := sm_ub (fun e he => by
    have := lo_rng hb he
    unfold liC
    split <;> omega)
  omega
theorem io_rng (hb : okB b) {n : Nat} (hn : n ≤ bn b) (v : Nat) : (0 ≤ inB b n v ∧ inB b n v ≤ 29970) ∧ (0 ≤ ouB b n v ∧ ouB b n v ≤ 29970) := by
  have hn30 := hb.1
  have h1 : 0 ≤ inB b n v := sm_nn (fun e he => by have := lo_rng hb (show e < bn b by omega); split <;> omega)
  have h2 : inB b n v ≤ (n : Int) * 999 := sm_ub (fun e he => by have := lo_rng hb (show e < bn b by omega); split <;> omega)
  have h3 : 0 ≤ ouB b n v := sm_nn (fun e he => by have := lo_rng hb (show e < bn b by omega); split <;> omega)
  have h4 : ouB b n v ≤ (n : Int) * 999 := sm_ub (fun e he => by have := lo_rng hb (show e < bn b by omega); split <;> omega)
  omega
theorem io_sum (hb : okB b) : ∀ n, n ≤ bn b → sm (inB b n) 12 = sm (loB b) n ∧ sm (ouB b n) 12 = sm (loB b) n := by
  intro n hn
  constructor
  · have e : sm (inB b n) 12 = sm (fun e => sm (fun v => if tt (T0 b) e = v then loB b e else 0) 12) n := sm_swap (fun v e => if tt (T0 b) e = v then loB b e else 0) n 12
    rw [e]
    refine sm_congr (fun e he => ?_)
    have hN := ((okT_T0 hb).2.1 e (by show e < bn b; omega)).2.1
    rw [sm_one hN (fun k _ hk => if_neg (fun z => hk z.symm)), if_pos rfl]
  · have e : sm (ouB b n) 12 = sm (fun e => sm (fun v => if tf (T0 b) e = v then loB b e else 0) 12) n := sm_swap (fun v e => if tf (T0 b) e = v then loB b e else 0) n 12
    rw [e]
    refine sm_congr (fun e he => ?_)
    have hN := ((okT_T0 hb).2.1 e (by show e < bn b; omega)).1
    rw [sm_one hN (fun k _ hk => if_neg (fun z => hk z.symm)), if_pos rfl]
theorem hX_sum (hb : okB b) : sm (hX b) 12 = 0 := by
  have := io_sum hb (bn b) (Nat.le_refl _)
  have e : sm (hX b) 12 = sm (ouB b (bn b)) 12 - sm (inB b (bn b)) 12 := sm_sub _ _ 12
  omega
theorem sm_two {g : Nat → Int} {n i j : Nat} (hi : i < n) (hj : j < n) (hij : i ≠ j) (h : ∀ k, k < n → k ≠ i → k ≠ j → g k = 0) : sm g n = g i + g j := by
  have e : sm g n = sm (fun k => (if k = i then g k else 0) + (if k = j then g k else 0)) n := sm_congr (fun k hk => by
    by_cases p : k = i
    · rw [if_pos p, if_neg (fun z => hij (p.symm.trans z))]; omega
    · rw [if_neg p]
      by_cases q : k = j
      · rw [if_pos q]; omega
      · rw [if_neg q, h k hk p q]; rfl)
  rw [e, sm_add, sm_one hi (fun k _ hk => if_neg hk), sm_one hj (fun k _ hk => if_neg hk), if_pos rfl, if_pos rfl]
theorem FeasM.z (hb : okB b) (h : FeasM b f) : outf 12 f (bz b) + hX b (bz b) = -FM b f := by
  have h1 : sm (fun v => outf 12 f v + hX b v) 12 = 0 := by
    rw [sm_add, hX_sum hb]
    have : sm (outf 12 f) 12 = 0 := anti_0 h.1
    omega
  rw [sm_two hb.2.1 hb.2.2.1 hb.2.2.2.1 (fun k hk h1 h2 => h.2.2 k hk h1 h2)] at h1
  unfold FM
  omega
theorem FM_bd (hb : okB b) (h : FeasM b f) : -1000000 ≤ FM b f ∧ FM b f ≤ 1000000 := by
  have i := io_rng hb (Nat.le_refl _) (bs b)
  have h1 : outf 12 f (bs b) ≤ (12 : Nat) * 29970 := sm_ub (fun v hv => by
    have := h.2.1 (bs b) v hb.2.1 hv
    have := C0_rng hb (bs b) v
    omega)
  have h2 : sm (fun v => -f (bs b) v) 12 ≤ (12 : Nat) * 29970 := sm_ub (fun v hv => by
    have := h.2.1 v (bs b) hv hb.2.1
    have := C0_rng hb v (bs b)
    have := h.1 v (bs b) hv hb.2.1
    omega)
  rw [sm_neg] at h2
  have h2 : -outf 12 f (bs b) ≤ (12 : Nat) * 29970 := h2
  unfold FM hX
  omega
theorem outf_add {N : Nat} {f g : Nat → Nat → Int} (v : Nat) : outf N (fun u w => f u w + g u w) v = outf N f v + outf N g v := sm_add _ _ N
theorem outf_sub {N : Nat} {f g : Nat → Nat → Int} (v : Nat) : outf N (fun u w => f u w - g u w) v = outf N f v - outf N g v := sm_sub _ _ N
/-- the flow and more of it: the most -/
theorem res_max {r : Nat → Nat → Int} {w : Int} (hb : okB b) (h : FeasM b f) (hr : ∀ u v, u < 12 → v < 12 → r u v = C0 b u v - f u v) (ht : TopF r (bs b) (bz b) w) : MaxF b (FM b f + w) := by
  obtain ⟨⟨g, g1, g2, g3, g4⟩, h2⟩ := ht
  refine ⟨⟨fun u v => f u v + g u v, ⟨fun u v hu hv => ?_, fun u v hu hv => ?_, fun v hv n1 n2 => ?_⟩, ?_⟩, fun k hk => ?_⟩
  · have := h.1 u v hu hv
    have := g1 u v hu hv
    show f u v + g u v = -(f v u + g v u)
    omega
  · have := g2 u v hu hv
    rw [hr u v hu hv] at this
    show f u v + g u v ≤ _
    omega
  · rw [outf_add, g3 v hv n1 n2]
    have := h.2.2 v hv n1 n2
    omega
  · unfold FM
    rw [outf_add, g4]
    omega
  · have := h2 (fun u v => k u v - f u v) (FM b k - FM b f) ⟨fun u v hu hv => ?_, fun u v hu hv => ?_, fun v hv n1 n2 => ?_, ?_⟩
    · omega
    · have := h.1 u v hu hv
      have := hk.1 u v hu hv
      show k u v - f u v = -(k v u - f v u)
      omega
    · rw [hr u v hu hv]
      have := hk.2.1 u v hu hv
      show k u v - f u v ≤ _
      omega
    · rw [outf_sub]
      have := h.2.2 v hv n1 n2
      have := hk.2.2 v hv n1 n2
      omega
    · rw [outf_sub]
      unfold FM
      omega
theorem res_min {r : Nat → Nat → Int} {w : Int} (hb : okB b) (h : FeasM b f) (hr : ∀ u v, u < 12 → v < 12 → r u v = C0 b u v - f u v) (ht : TopF r (bz b) (bs b) w) : MinF b (FM b f - w) := by
  obtain ⟨⟨g, g1, g2, g3, g4⟩, h2⟩ := ht
  have hz := h.z hb
  have gs : outf 12 g (bs b) = -w := by
    have h1 : sm (fun v => outf 12 g v) 12 = 0 := anti_0 g1
    rw [sm_two hb.2.1 hb.2.2.1 hb.2.2.2.1 (fun k hk n1 n2 => g3 k hk n2 n1), g4] at h1
    omega
  refine ⟨⟨fun u v => f u v + g u v, ⟨fun u v hu hv => ?_, fun u v hu hv => ?_, fun v hv n1 n2 => ?_⟩, ?_⟩, fun k hk => ?_⟩
  · have := h.1 u v hu hv
    have := g1 u v hu hv
    show f u v + g u v = -(f v u + g v u)
    omega
  · have := g2 u v hu hv
    rw [hr u v hu hv] at this
    show f u v + g u v ≤ _
    omega
  · rw [outf_add, g3 v hv n2 n1]
    have := h.2.2 v hv n1 n2
    omega
  · unfold FM
    rw [outf_add, gs]
    omega
  · have kz := hk.z hb
    have := h2 (fun u v => k u v - f u v) (FM b f - FM b k) ⟨fun u v hu hv => ?_, fun u v hu hv => ?_, fun v hv n1 n2 => ?_, ?_⟩
    · omega
    · have := h.1 u v hu hv
      have := hk.1 u v hu hv
      show k u v - f u v = -(k v u - f v u)
      omega
    · rw [hr u v hu hv]
      have := hk.2.1 u v hu hv
      show k u v - f u v ≤ _
      omega
    · rw [outf_sub]
      have := h.2.2 v hv n2 n1
      have := hk.2.2 v hv n2 n1
      omega
    · rw [outf_sub]
      omega
theorem sm_tail {g : Nat → Int} {n : Nat} : ∀ {m : Nat}, (∀ k, n ≤ k → k < n + m → g k = 0) → sm g (n + m) = sm g n
  | 0, _ => rfl
  | m + 1, h => by
    show sm g (n + m) + g (n + m) = _
    rw [sm_tail (fun k h1 h2 => h k h1 (by omega)), h (n + m) (by omega) (by omega)]
    omega
/-- nodes that no flow meets may be left out -/
theorem top_of {m a c : Nat} {r : Nat → Nat → Int} {v : Int} (ha : a < 12) (hc : c < 12) (h : IsMF (12 + m) r a c v) (h0 : ∀ u w, u < 12 + m → w < 12 + m → 0 ≤ r u w) (hz : ∀ g w, IsFlow (12 + m) r a c g w → ∀ u k, u < 12 → 12 ≤ k → k < 12 + m → g u k = 0) : TopF r a c v := by
  have cut : ∀ g w, IsFlow (12 + m) r a c g w → ∀ u, u < 12 → outf (12 + m) g u = outf 12 g u := fun g w hg u hu => sm_tail (fun k h1 h2 => hz g w hg u k hu h1 h2)
  obtain ⟨g, S, hg, _⟩ := id h
  refine ⟨⟨g, fun u w hu hw => hg.1 u w (by omega) (by omega), fun u w hu hw => hg.2.1 u w (by omega) (by omega), fun x hx n1 n2 => ?_, ?_⟩, fun k w hk => ?_⟩
  · rw [← cut g v hg x hx]; exact hg.2.2.1 x (by omega) n1 n2
  · rw [← cut g v hg a ha]; exact hg.2.2.2
  · obtain ⟨k1, k2, k3, k4⟩ := hk
    have e : ∀ u, u < 12 → outf (12 + m) (fun u w => if u < 12 ∧ w < 12 then k u w else 0) u = outf 12 k u := fun u hu => by
      unfold outf
      rw [sm_tail (fun j h1 h2 => if_neg (fun z => by omega))]
      exact sm_congr (fun j hj => if_pos ⟨hu, hj⟩)
    refine h.ge (f := fun u w => if u < 12 ∧ w < 12 then k u w else 0) (by omega) ⟨fun u w hu hw => ?_, fun u w hu hw => ?_, fun x hx n1 n2 => ?_, by rw [e a ha]; exact k4⟩
    · show (if u < 12 ∧ w < 12 then k u w else 0) = -(if w < 12 ∧ u < 12 then k w u else 0)
      by_cases p : u < 12 ∧ w < 12
      · rw [if_pos p, if_pos ⟨p.2, p.1⟩]; exact k1 u w p.1 p.2
      · rw [if_neg p, if_neg (fun z => p ⟨z.2, z.1⟩)]; rfl
    · show (if u < 12 ∧ w < 12 then k u w else 0) ≤ r u w
      by_cases p : u < 12 ∧ w < 12
      · rw [if_pos p]; exact k2 u w p.1 p.2
      · rw [if_neg p]; exact h0 u w hu hw
    · by_cases p : x < 12
      · rw [e x p]; exact k3 x p n1 n2
      · exact sm_0 (fun j _ => if_neg (fun z => p z.1))
end Bound
