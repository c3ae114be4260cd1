-- the deduction, over tables of 36 cells in rows of six
section gd
variable (n h : Nat) (L : Nat → Nat → Int) (ct : Nat → Bool) (ac : Nat → Nat) (lo hi : Nat → Int)

def gd_t (b : Nat → Int32) (u v : Nat) : Int := (b (u * 6 + v)).toInt

theorem gd_t_s (b : Nat → Int32) (u v : Nat) (x : Int32) : gd_t (upd b (u * 6 + v) x) u v = x.toInt := by
  show (if u * 6 + v = u * 6 + v then x else b (u * 6 + v)).toInt = x.toInt
  rw [if_pos rfl]

theorem gd_t_n (b : Nat → Int32) (u v u' v' : Nat) (x : Int32) (hv : v < 6) (hv' : v' < 6) (hne : u' ≠ u ∨ v' ≠ v) :
    gd_t (upd b (u * 6 + v) x) u' v' = gd_t b u' v' := by
  show (if u' * 6 + v' = u * 6 + v then x else b (u' * 6 + v')).toInt = (b (u' * 6 + v')).toInt
  rw [if_neg (by omega)]

/-- bounds and waits: ranges, what they begin from, and that they hold in every safe play -/
def gd_good (K : Int) (b w : Nat → Int32) : Prop :=
  (∀ u v, u < n → v < n → -14 ≤ gd_t b u v ∧ gd_t b u v ≤ 7) ∧ (∀ u, u < n → gd_t b u u = 0) ∧
  (∀ c u, c < n → ct c = true → u < n → -7 ≤ gd_t w c u ∧ gd_t w c u ≤ K) ∧
  (∀ u v, u < n → v < n → u ≠ v → gd_t b u v ≤ L u v) ∧
  (∀ c, c < n → ct c = true → gd_t b (ac c) c ≤ hi c ∧ hi c ≤ gd_t w c c) ∧
  gs_snd n h L ct ac lo hi (gd_t b) (gd_t w)

def gd_bad (b : Nat → Int32) : Prop := (∃ u, u < n ∧ gd_t b u u < 0) ∧ ∀ T, ¬ gm_sp n h L ct ac lo hi T

def gd_inv (K : Int) (b w : Nat → Int32) : Prop := gd_bad n h L ct ac lo hi b ∨ gd_good n h L ct ac lo hi K b w

theorem gd_good_up (K K' : Int) (b w : Nat → Int32) (hK : K ≤ K') (hG : gd_good n h L ct ac lo hi K b w) :
    gd_good n h L ct ac lo hi K' b w := by
  obtain ⟨a1, a2, a3, a4, a5, a6⟩ := hG
  refine ⟨a1, a2, fun c u x1 x2 x3 => ?_, a4, a5, a6⟩
  have y := a3 c u x1 x2 x3
  exact ⟨y.1, by omega⟩

theorem gd_inv_up (K K' : Int) (b w : Nat → Int32) (hK : K ≤ K') (hG : gd_inv n h L ct ac lo hi K b w) :
    gd_inv n h L ct ac lo hi K' b w := by
  rcases hG with a | a
  · exact Or.inl a
  · exact Or.inr (gd_good_up n h L ct ac lo hi K K' b w hK a)

/-- a cell of the table after one write -/
theorem gd_cell (b : Nat → Int32) (u v x y : Nat) (z : Int32) (hv : v < 6) (hy : y < 6) :
    (x = u ∧ y = v ∧ gd_t (upd b (u * 6 + v) z) x y = z.toInt) ∨
    ((x ≠ u ∨ y ≠ v) ∧ gd_t (upd b (u * 6 + v) z) x y = gd_t b x y) := by
  by_cases e : x = u ∧ y = v
  · obtain ⟨e1, e2⟩ := e
    subst e1
    subst e2
    exact Or.inl ⟨rfl, rfl, gd_t_s _ _ _ _⟩
  · have e' : x ≠ u ∨ y ≠ v := by omega
    exact Or.inr ⟨e', gd_t_n _ _ _ _ _ _ hv hy e'⟩

theorem gd_tight (hN : gm_net n h L ct ac lo hi) (K : Int) (b w : Nat → Int32) (u v : Nat) (most : Int32) (hu : u < n) (hv : v < n)
    (hG : gd_good n h L ct ac lo hi K b w) (hlt : most.toInt < gd_t b u v) (hlow : -14 ≤ most.toInt)
    (hS : ∀ T, gm_sp n h L ct ac lo hi T → T v - T u ≤ most.toInt) :
    gd_inv n h L ct ac lo hi K (upd b (u * 6 + v) most) w := by
  have hn : n ≤ 6 := hN.2.1
  obtain ⟨a1, a2, a3, a4, a5, a6⟩ := hG
  by_cases huv : u = v
  · subst huv
    have y := a2 u hu
    refine Or.inl ⟨⟨u, hu, ?_⟩, fun T hT => ?_⟩
    · rw [gd_t_s]; omega
    · have x := hS T hT
      omega
  · refine Or.inr ?_
    have low : ∀ x y, x < n → y < n → gd_t (upd b (u * 6 + v) most) x y ≤ gd_t b x y := by
      intro x y hx hy
      rcases gd_cell b u v x y most (by omega) (by omega) with ⟨e1, e2, e3⟩ | ⟨_, e3⟩
      · rw [e3, e1, e2]; omega
      · rw [e3]; omega
    refine ⟨fun x y hx hy => ?_, fun x hx => ?_, a3, fun x y hx hy hxy => ?_, fun c hc hcc => ?_, fun T hT => ?_⟩
    · have z := a1 x y hx hy
      rcases gd_cell b u v x y most (by omega) (by omega) with ⟨e1, e2, e3⟩ | ⟨_, e3⟩
      · rw [e1, e2] at z
        rw [e3]; exact ⟨hlow, by omega⟩
      · rw [e3]; exact z
    · rcases gd_cell b u v x x most (by omega) (by omega) with ⟨e1, e2, _⟩ | ⟨_, e3⟩
      · exact absurd (e1.symm.trans e2) huv
      · rw [e3]; exact a2 x hx
    · have z := a4 x y hx hy hxy
      have z2 := low x y hx hy
      omega
    · have z := a5 c hc hcc
      have z2 := low (ac c) c (hN.2.2.2.2.2.2 c hc hcc).1 hc
      exact ⟨by omega, z.2⟩
    · have z := a6 T hT
      refine ⟨fun x y hx hy => ?_, z.2⟩
      rcases gd_cell b u v x y most (by omega) (by omega) with ⟨e1, e2, e3⟩ | ⟨_, e3⟩
      · rw [e3, e1, e2]; exact hS T hT
      · rw [e3]; exact z.1 x y hx hy

theorem gd_bad_t (hn : n ≤ 6) (b : Nat → Int32) (u v : Nat) (most : Int32) (hv : v < n)
    (hB : gd_bad n h L ct ac lo hi b) (hlt : most.toInt < gd_t b u v) : gd_bad n h L ct ac lo hi (upd b (u * 6 + v) most) := by
  obtain ⟨⟨x, hx, hx0⟩, hno⟩ := hB
  refine ⟨⟨x, hx, ?_⟩, hno⟩
  rcases gd_cell b u v x x most (by omega) (by omega) with ⟨e1, e2, e3⟩ | ⟨_, e3⟩
  · rw [e3]
    rw [← e1, ← e2] at hlt
    omega
  · rw [e3]; exact hx0

theorem gd_long (hN : gm_net n h L ct ac lo hi) (K K' : Int) (b w : Nat → Int32) (c u : Nat) (least : Int32) (hc : c < n)
    (hu : u < n) (hG : gd_good n h L ct ac lo hi K b w) (hgt : gd_t w c u < least.toInt) (hKK : K ≤ K')
    (hK : least.toInt ≤ K') (hcc : ct c = true)
    (hS : ∀ T, gm_sp n h L ct ac lo hi T → T c = T (ac c) + hi c → T (ac c) + least.toInt ≤ T u) :
    gd_good n h L ct ac lo hi K' b (upd w (c * 6 + u) least) := by
  have hn : n ≤ 6 := hN.2.1
  obtain ⟨a1, a2, a3, a4, a5, a6⟩ := hG
  refine ⟨a1, a2, fun x y hx hxc hy => ?_, a4, fun x hx hxc => ?_, fun T hT => ?_⟩
  · have z := a3 x y hx hxc hy
    rcases gd_cell w c u x y least (by omega) (by omega) with ⟨e1, e2, e3⟩ | ⟨_, e3⟩
    · rw [e1, e2] at z
      rw [e3]; exact ⟨by omega, hK⟩
    · rw [e3]; exact ⟨z.1, by omega⟩
  · have z := a5 x hx hxc
    refine ⟨z.1, ?_⟩
    rcases gd_cell w c u x x least (by omega) (by omega) with ⟨e1, e2, e3⟩ | ⟨_, e3⟩
    · rw [e3]
      have z2 := z.2
      rw [← e1, ← e2] at hgt
      omega
    · rw [e3]; exact z.2
  · have z := a6 T hT
    refine ⟨z.1, fun x hx hxc hxT y hy => ?_⟩
    rcases gd_cell w c u x y least (by omega) (by omega) with ⟨e1, e2, e3⟩ | ⟨_, e3⟩
    · rw [e3, e2, e1]
      rw [e1] at hxT
      exact hS T hT hxT
    · rw [e3]; exact z.2 x hx hxc hxT y hy

-- how much is still to come
def gd_mk (b : Nat → Int32) (i : Nat) : Int32 := if i / 6 < n ∧ i % 6 < n then b i else 0
def gd_mw (w : Nat → Int32) (i : Nat) : Int32 := if i / 6 < n ∧ i % 6 < n ∧ ct (i / 6) = true then w i else 0
def gd_phi (b w : Nat → Int32) : Int := gn_sum (gd_mk n b) 36 - gn_sum (gd_mw n ct w) 36

theorem gd_mk_u (b : Nat → Int32) (u v : Nat) (x : Int32) (hv6 : v < 6) (hu : u < n) (hv : v < n) :
    gd_mk n (upd b (u * 6 + v) x) = upd (gd_mk n b) (u * 6 + v) x := by
  have e1 : (u * 6 + v) / 6 = u := by omega
  have e2 : (u * 6 + v) % 6 = v := by omega
  funext i
  by_cases e : i = u * 6 + v
  · have c1 : i / 6 < n ∧ i % 6 < n := by rw [e, e1, e2]; exact ⟨hu, hv⟩
    show (if i / 6 < n ∧ i % 6 < n then (if i = u * 6 + v then x else b i) else 0) = (if i = u * 6 + v then x else gd_mk n b i)
    rw [if_pos c1, if_pos e, if_pos e]
  · show (if i / 6 < n ∧ i % 6 < n then (if i = u * 6 + v then x else b i) else 0) =
      (if i = u * 6 + v then x else (if i / 6 < n ∧ i % 6 < n then b i else 0))
    rw [if_neg e, if_neg e]

theorem gd_mw_u (w : Nat → Int32) (u v : Nat) (x : Int32) (hv6 : v < 6) (hu : u < n) (hv : v < n) (huc : ct u = true) :
    gd_mw n ct (upd w (u * 6 + v) x) = upd (gd_mw n ct w) (u * 6 + v) x := by
  have e1 : (u * 6 + v) / 6 = u := by omega
  have e2 : (u * 6 + v) % 6 = v := by omega
  funext i
  by_cases e : i = u * 6 + v
  · have c1 : i / 6 < n ∧ i % 6 < n ∧ ct (i / 6) = true := by rw [e, e1, e2]; exact ⟨hu, hv, huc⟩
    show (if i / 6 < n ∧ i % 6 < n ∧ ct (i / 6) = true then (if i = u * 6 + v then x else w i) else 0) =
      (if i = u * 6 + v then x else gd_mw n ct w i)
    rw [if_pos c1, if_pos e, if_pos e]
  · show (if i / 6 < n ∧ i % 6 < n ∧ ct (i / 6) = true then (if i = u * 6 + v then x else w i) else 0) =
      (if i = u * 6 + v then x else (if i / 6 < n ∧ i % 6 < n ∧ ct (i / 6) = true then w i else 0))
    rw [if_neg e, if_neg e]

theorem gd_phi_t (b w : Nat → Int32) (u v : Nat) (x : Int32) (hn : n ≤ 6) (hu : u < n) (hv : v < n) (hlt : x.toInt < gd_t b u v) :
    gd_phi n ct (upd b (u * 6 + v) x) w < gd_phi n ct b w := by
  have e1 : (u * 6 + v) / 6 = u := by omega
  have e2 : (u * 6 + v) % 6 = v := by omega
  have e3 : (gd_mk n b (u * 6 + v)).toInt = gd_t b u v := by
    show (if (u * 6 + v) / 6 < n ∧ (u * 6 + v) % 6 < n then b (u * 6 + v) else 0).toInt = (b (u * 6 + v)).toInt
    rw [e1, e2, if_pos (show u < n ∧ v < n from ⟨hu, hv⟩)]
  unfold gd_phi
  rw [gd_mk_u n b u v x (by omega) hu hv, gn_sum_upd (gd_mk n b) (u * 6 + v) x 36 (by omega), e3]
  omega

theorem gd_phi_l (b w : Nat → Int32) (u v : Nat) (x : Int32) (hn : n ≤ 6) (hu : u < n) (hv : v < n) (huc : ct u = true)
    (hlt : gd_t w u v < x.toInt) : gd_phi n ct b (upd w (u * 6 + v) x) < gd_phi n ct b w := by
  have e1 : (u * 6 + v) / 6 = u := by omega
  have e2 : (u * 6 + v) % 6 = v := by omega
  have e3 : (gd_mw n ct w (u * 6 + v)).toInt = gd_t w u v := by
    show (if (u * 6 + v) / 6 < n ∧ (u * 6 + v) % 6 < n ∧ ct ((u * 6 + v) / 6) = true then w (u * 6 + v) else 0).toInt = (w (u * 6 + v)).toInt
    rw [e1, e2, if_pos (show u < n ∧ v < n ∧ ct u = true from ⟨hu, hv, huc⟩)]
  unfold gd_phi
  rw [gd_mw_u n ct w u v x (by omega) hu hv huc, gn_sum_upd (gd_mw n ct w) (u * 6 + v) x 36 (by omega), e3]
  omega

/-- since (b0, w0): nothing has changed, or something has, and less is to come -/
def gd_chg (b0 w0 : Nat → Int32) (f : Int32) (b w : Nat → Int32) : Prop :=
  (f = 0 ∧ b = b0 ∧ w = w0) ∨ (f = 1 ∧ gd_phi n ct b w < gd_phi n ct b0 w0)

theorem gd_chg_t (hn : n ≤ 6) (b0 w0 : Nat → Int32) (f : Int32) (b w : Nat → Int32) (u v : Nat) (x : Int32) (hu : u < n) (hv : v < n)
    (hC : gd_chg n ct b0 w0 f b w) (hlt : x.toInt < gd_t b u v) : gd_chg n ct b0 w0 1 (upd b (u * 6 + v) x) w := by
  have key := gd_phi_t n ct b w u v x hn hu hv hlt
  refine Or.inr ⟨rfl, ?_⟩
  rcases hC with ⟨_, e1, e2⟩ | ⟨_, e⟩
  · rw [← e1, ← e2]; exact key
  · omega

theorem gd_chg_l (hn : n ≤ 6) (b0 w0 : Nat → Int32) (f : Int32) (b w : Nat → Int32) (u v : Nat) (x : Int32) (hu : u < n) (hv : v < n)
    (huc : ct u = true) (hC : gd_chg n ct b0 w0 f b w) (hlt : gd_t w u v < x.toInt) :
    gd_chg n ct b0 w0 1 b (upd w (u * 6 + v) x) := by
  have key := gd_phi_l n ct b w u v x hn hu hv huc hlt
  refine Or.inr ⟨rfl, ?_⟩
  rcases hC with ⟨_, e1, e2⟩ | ⟨_, e⟩
  · rw [← e1, ← e2]; exact key
  · omega

theorem gd_phi_ub (b w : Nat → Int32) (K : Int) (hG : gd_good n h L ct ac lo hi K b w) : gd_phi n ct b w ≤ 504 := by
  obtain ⟨a1, _, a3, _⟩ := hG
  have x1 := gn_sum_le (gd_mk n b) 7 36 (fun i hi => by
    unfold gd_mk
    by_cases hx : i / 6 < n ∧ i % 6 < n
    · rw [if_pos hx]
      have y := (a1 _ _ hx.1 hx.2).2
      unfold gd_t at y
      rw [show i / 6 * 6 + i % 6 = i by omega] at y
      exact y
    · rw [if_neg hx]; decide)
  have x2 := gn_sum_ge (gd_mw n ct w) (-7) 36 (fun i hi => by
    unfold gd_mw
    by_cases hx : i / 6 < n ∧ i % 6 < n ∧ ct (i / 6) = true
    · rw [if_pos hx]
      have y := (a3 _ _ hx.1 hx.2.2 hx.2.1).1
      unfold gd_t at y
      rw [show i / 6 * 6 + i % 6 = i by omega] at y
      exact y
    · rw [if_neg hx]; decide)
  unfold gd_phi
  omega

/-- a safe play keeps bounds and waits from going on for ever -/
theorem gd_w7 (hN : gm_net n h L ct ac lo hi) (B W : Nat → Nat → Int) (hS : gs_snd n h L ct ac lo hi B W) (T : Nat → Int)
    (hT : gm_sp n h L ct ac lo hi T) (c u : Nat) (hc : c < n) (hcc : ct c = true) (hu : u < n) : W c u ≤ 7 := by
  have hn6 : n ≤ 6 := hN.2.1
  have h7 : h ≤ 7 := hN.2.2.1
  obtain ⟨b1, b2, b3, b4, b5⟩ := hN.2.2.2.2.2.2 c hc hcc
  have hc0 := gc_0 n h L ct ac lo hi hN c hcc
  have tc := hT.2.1 c hc
  have ta := hT.2.1 _ b1
  have s1 := (gm_stp_b ct c (T c) hc0 (by omega)).1
  have s2 := (gm_stp_b ct c (T (ac c) + hi c) hc0 (by omega)).1
  obtain ⟨T', a1, _, _, a4, _⟩ := gs_one n h L ct ac lo hi hN T hT c hc hcc (hi c) ⟨b4, by omega⟩ (12 * (h + 1)) 0 (by omega)
    (by omega) (by omega)
  have y := (hS T' a1).2 c hc hcc a4 u hu
  have z1 := a1.2.1 u hu
  have z2 := a1.2.1 _ b1
  omega

theorem gd_b7 (hN : gm_net n h L ct ac lo hi) (B W : Nat → Nat → Int) (hS : gs_snd n h L ct ac lo hi B W) (T : Nat → Int)
    (hT : gm_sp n h L ct ac lo hi T) (u v : Nat) (hu : u < n) (hv : v < n) : -7 ≤ B u v := by
  have h7 : h ≤ 7 := hN.2.2.1
  have y := (hS T hT).1 u v hu hv
  have z1 := hT.2.1 u hu
  have z2 := hT.2.1 v hv
  omega

theorem gd_phi_lb (hN : gm_net n h L ct ac lo hi) (b w : Nat → Int32) (K : Int) (hG : gd_good n h L ct ac lo hi K b w) (T : Nat → Int)
    (hT : gm_sp n h L ct ac lo hi T) : -504 ≤ gd_phi n ct b w := by
  obtain ⟨a1, _, a3, _, _, a6⟩ := hG
  have x1 := gn_sum_ge (gd_mk n b) (-7) 36 (fun i hi => by
    unfold gd_mk
    by_cases hx : i / 6 < n ∧ i % 6 < n
    · rw [if_pos hx]
      have y := gd_b7 n h L ct ac lo _ hN _ _ a6 T hT _ _ hx.1 hx.2
      unfold gd_t at y
      rw [show i / 6 * 6 + i % 6 = i by omega] at y
      exact y
    · rw [if_neg hx]; decide)
  have x2 := gn_sum_le (gd_mw n ct w) 7 36 (fun i hi => by
    unfold gd_mw
    by_cases hx : i / 6 < n ∧ i % 6 < n ∧ ct (i / 6) = true
    · rw [if_pos hx]
      have y := gd_w7 n h L ct ac lo _ hN _ _ a6 T hT _ _ hx.1 hx.2.2 hx.2.1
      unfold gd_t at y
      rw [show i / 6 * 6 + i % 6 = i by omega] at y
      exact y
    · rw [if_neg hx]; decide)
  unfold gd_phi
  omega
end gd
