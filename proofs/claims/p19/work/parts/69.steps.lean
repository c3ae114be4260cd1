-- one look of the deduction at a time
section gz
variable (n h : Nat) (L : Nat → Nat → Int) (ct : Nat → Bool) (ac : Nat → Nat) (lo hi : Nat → Int)

/-- loading: bounds -/
def gz_ld (c : Nat) (b : Nat → Int32) : Prop :=
  (∀ u v, u < n → v < n → gd_t b u v ≤ (if u = v then 0 else L u v) ∧
    (gd_t b u v = (if u = v then 0 else L u v) ∨ (ct v = true ∧ u = ac v ∧ gd_t b u v = hi v))) ∧
  (∀ x, x < c → x < n → ct x = true → gd_t b (ac x) x ≤ hi x)

theorem gz_ld_0 (b : Nat → Int32) (h0 : ct 0 = false) (hb : ∀ u v, u < n → v < n → gd_t b u v = (if u = v then 0 else L u v)) :
    gz_ld n L ct ac hi 1 b := by
  refine ⟨fun u v hu hv => ?_, fun x hx _ hxc => ?_⟩
  · have y := hb u v hu hv
    exact ⟨by rw [y]; exact Int.le_refl _, Or.inl y⟩
  · have e : x = 0 := by omega
    rw [e, h0] at hxc
    simp at hxc

theorem gz_ld_s (c : Nat) (b : Nat → Int32) (hcc : ct c = false) (hI : gz_ld n L ct ac hi c b) : gz_ld n L ct ac hi (c + 1) b := by
  refine ⟨hI.1, fun x hx hxn hxc => ?_⟩
  by_cases e : x = c
  · rw [e, hcc] at hxc
    simp at hxc
  · exact hI.2 x (by omega) hxn hxc

theorem gz_ld_k (c : Nat) (b : Nat → Int32) (hle : gd_t b (ac c) c ≤ hi c) (hI : gz_ld n L ct ac hi c b) : gz_ld n L ct ac hi (c + 1) b := by
  refine ⟨hI.1, fun x hx hxn hxc => ?_⟩
  by_cases e : x = c
  · rw [e]; exact hle
  · exact hI.2 x (by omega) hxn hxc

theorem gz_ld_t (hN : gm_net n h L ct ac lo hi) (c : Nat) (hc : c < n) (hcc : ct c = true) (b : Nat → Int32) (x : Int32) (hx : x.toInt = hi c)
    (hlt : x.toInt < gd_t b (ac c) c) (hI : gz_ld n L ct ac hi c b) : gz_ld n L ct ac hi (c + 1) (upd b (ac c * 6 + c) x) := by
  have hn : n ≤ 6 := hN.2.1
  refine ⟨fun u v hu hv => ?_, fun y hy hyn hyc => ?_⟩
  · have z := hI.1 u v hu hv
    rcases gd_cell b (ac c) c u v x (by omega) (by omega) with ⟨e1, e2, e3⟩ | ⟨_, e3⟩
    · rw [e3]
      rw [← e1, ← e2] at hlt
      refine ⟨by omega, Or.inr ⟨by rw [e2]; exact hcc, by rw [e1, e2], by rw [e2]; exact hx⟩⟩
    · rw [e3]; exact z
  · rcases gd_cell b (ac c) c (ac y) y x (by omega) (by omega) with ⟨e1, e2, e3⟩ | ⟨e0, e3⟩
    · rw [e3, e2]; omega
    · rw [e3]
      by_cases e : y = c
      · exfalso
        rw [e] at e0
        rcases e0 with q | q
        · exact q rfl
        · exact q rfl
      · exact hI.2 y (by omega) hyn hyc

/-- loading: waits -/
def gz_lw (c : Nat) (w : Nat → Int32) : Prop :=
  ∀ x u, x < c → x < n → ct x = true → u < n → (u ≠ x ∧ gd_t w x u = -(h : Int)) ∨ (u = x ∧ gd_t w x u = hi x)

theorem gz_lw_s (c : Nat) (w w' : Nat → Int32) (hsame : ∀ x u, x < c → u < n → gd_t w' x u = gd_t w x u)
    (hrow : ct c = true → ∀ u, u < n → (u ≠ c ∧ gd_t w' c u = -(h : Int)) ∨ (u = c ∧ gd_t w' c u = hi c))
    (hI : gz_lw n h ct hi c w) : gz_lw n h ct hi (c + 1) w' := by
  intro x u hx hxn hxc hu
  by_cases e : x = c
  · subst e; exact hrow hxc u hu
  · rw [hsame x u (by omega) hu]
    exact hI x u (by omega) hxn hxc hu

theorem gz_01 {f : Int32} {b0 w0 b w : Nat → Int32} (hC : gd_chg n ct b0 w0 f b w) (hf : f = 0) : b = b0 ∧ w = w0 := by
  rcases hC with ⟨_, e1, e2⟩ | ⟨e, _⟩
  · exact ⟨e1, e2⟩
  · rw [hf] at e
    exact absurd e (by decide)

theorem gz_ndb {b : Nat → Int32} (hB : gd_bad n h L ct ac lo hi b) (hd : ∀ x, x < n → gd_t b x x = 0) : False := by
  obtain ⟨⟨x, hx, hx0⟩, _⟩ := hB
  have := hd x hx
  omega

/-- going by j, at (u, v) -/
def gz_cb (K : Int) (b0 w0 : Nat → Int32) (Q : Prop) (j : Nat) (bJ : Nat → Int32) (u v : Nat) (f : Int32) (b w : Nat → Int32) : Prop :=
  gd_chg n ct b0 w0 f b w ∧
  (gd_bad n h L ct ac lo hi b ∨ (gd_good n h L ct ac lo hi K bJ w ∧ gv_via n j bJ b ∧
    (∀ x, x < n → (x < u ∨ (x = u ∧ x < v)) → gd_t b x x ≤ gd_t bJ x j + gd_t bJ j x))) ∧
  (f = 0 → (∀ x, x < n → gd_t b0 x x = 0) → Q ∧
    ∀ x y, x < n → y < n → (x < u ∨ (x = u ∧ y < v)) → gd_t b0 x y ≤ gd_t b0 x j + gd_t b0 j y)

theorem gz_cb_s (hN : gm_net n h L ct ac lo hi) (K : Int) (b0 w0 : Nat → Int32) (Q : Prop) (j : Nat) (bJ : Nat → Int32) (u v : Nat)
    (f : Int32) (b w : Nat → Int32) (hj : j < n) (hu : u < n) (hv : v < n) (hI : gz_cb n h L ct ac lo hi K b0 w0 Q j bJ u v f b w) :
    (b (u * 6 + v) ≤ b (u * 6 + j) + b (j * 6 + v) → gz_cb n h L ct ac lo hi K b0 w0 Q j bJ u (v + 1) f b w) ∧
    (¬ b (u * 6 + v) ≤ b (u * 6 + j) + b (j * 6 + v) →
      gz_cb n h L ct ac lo hi K b0 w0 Q j bJ u (v + 1) 1 (upd b (u * 6 + v) (b (u * 6 + j) + b (j * 6 + v))) w) := by
  have hn : n ≤ 6 := hN.2.1
  obtain ⟨i1, i2, i3⟩ := hI
  generalize hm : b (u * 6 + j) + b (j * 6 + v) = most
  have hsum : gd_good n h L ct ac lo hi K bJ w → gv_via n j bJ b → most.toInt = gd_t bJ u j + gd_t bJ j v := by
    intro g1 g2
    have r1 := g1.1 u j hu hj
    have r2 := g1.1 j v hj hv
    have s1 := (g2.2.1 u hu).1
    have s2 := (g2.2.1 v hv).2
    rw [← hm, ← s1, ← s2]
    rw [← s1] at r1
    rw [← s2] at r2
    unfold gd_t at r1 r2 ⊢
    exact gn_add _ _ ⟨by omega, by omega⟩ ⟨by omega, by omega⟩
  constructor
  · intro hle
    have hle' : gd_t b u v ≤ most.toInt := (gn_le _ _).1 hle
    refine ⟨i1, ?_, fun hf hd => ?_⟩
    · rcases i2 with g | ⟨g1, g2, g3⟩
      · exact Or.inl g
      · refine Or.inr ⟨g1, g2, fun x hx hxx => ?_⟩
        have hs := hsum g1 g2
        by_cases e : x = u ∧ x = v
        · obtain ⟨e1, e2⟩ := e
          rw [← e1, ← e2] at hle' hs
          omega
        · exact g3 x hx (by omega)
    · obtain ⟨e1, e2⟩ := gz_01 n ct i1 hf
      obtain ⟨q1, q2⟩ := i3 hf hd
      refine ⟨q1, fun x y hx hy hxy => ?_⟩
      by_cases e : x = u ∧ y = v
      · obtain ⟨ex, ey⟩ := e
        rcases i2 with g | ⟨g1, g2, g3⟩
        · rw [e1] at g
          exact (gz_ndb n h L ct ac lo hi g hd).elim
        · have hs := hsum g1 g2
          have s1 := (g2.2.1 u hu).1
          have s2 := (g2.2.1 v hv).2
          rw [ex, ey, ← e1]
          omega
      · exact q2 x y hx hy (by omega)
  · intro hnle
    have hlt : most.toInt < gd_t b u v := (gn_lt _ _).1 (Int32.not_le.1 hnle)
    refine ⟨gd_chg_t n ct hn b0 w0 f b w u v most hu hv i1 hlt, ?_, fun hf => absurd hf (by decide)⟩
    rcases i2 with g | ⟨g1, g2, g3⟩
    · exact Or.inl (gd_bad_t n h L ct ac lo hi hn b u v most hv g hlt)
    · have hs := hsum g1 g2
      refine Or.inr ⟨g1, gv_via_t n hn j bJ b u v most hj hu hv (g1.2.1 j hj) g2 hs hlt, fun x hx hxx => ?_⟩
      rcases gd_cell b u v x x most (by omega) (by omega) with ⟨e1, e2, e3⟩ | ⟨e0, e3⟩
      · rw [e3, hs, ← e1, ← e2]; exact Int.le_refl _
      · rw [e3]; exact g3 x hx (by omega)

/-- waits along bounds, for c, at (u, v) -/
def gz_cw (K : Int) (b0 w0 : Nat → Int32) (Q : Prop) (c u v : Nat) (f : Int32) (b w : Nat → Int32) : Prop :=
  gd_chg n ct b0 w0 f b w ∧
  (gd_bad n h L ct ac lo hi b ∨ (gd_good n h L ct ac lo hi (K + 14 * (u : Int) + 14) b w ∧
    (∀ x, x < n → x ≠ u → gd_t w c x ≤ K + 14 * (u : Int)))) ∧
  (f = 0 → (∀ x, x < n → gd_t b0 x x = 0) → Q ∧
    ∀ x y, x < n → y < n → (x < u ∨ (x = u ∧ y < v)) → gd_t w0 c y - gd_t b0 x y ≤ gd_t w0 c x)

theorem gz_cw_s (hN : gm_net n h L ct ac lo hi) (K : Int) (hK0 : 0 ≤ K) (hK : K ≤ 10000000) (b0 w0 : Nat → Int32) (Q : Prop) (c u v : Nat)
    (f : Int32) (b w : Nat → Int32) (hc : c < n) (hcc : ct c = true) (hu : u < n) (hv : v < n)
    (hI : gz_cw n h L ct ac lo hi K b0 w0 Q c u v f b w) :
    (w (c * 6 + v) - b (u * 6 + v) ≤ w (c * 6 + u) → gz_cw n h L ct ac lo hi K b0 w0 Q c u (v + 1) f b w) ∧
    (¬ w (c * 6 + v) - b (u * 6 + v) ≤ w (c * 6 + u) →
      gz_cw n h L ct ac lo hi K b0 w0 Q c u (v + 1) 1 b (upd w (c * 6 + u) (w (c * 6 + v) - b (u * 6 + v)))) := by
  have hn : n ≤ 6 := hN.2.1
  obtain ⟨i1, i2, i3⟩ := hI
  generalize hm : w (c * 6 + v) - b (u * 6 + v) = least
  have hsum : gd_good n h L ct ac lo hi (K + 14 * (u : Int) + 14) b w → least.toInt = gd_t w c v - gd_t b u v := by
    intro g1
    have r1 := g1.1 u v hu hv
    have r2 := g1.2.2.1 c v hc hcc hv
    rw [← hm]
    unfold gd_t at r1 r2 ⊢
    exact gn_sub _ _ ⟨by omega, by omega⟩ ⟨by omega, by omega⟩
  constructor
  · intro hle
    have hle' : least.toInt ≤ gd_t w c u := (gn_le _ _).1 hle
    refine ⟨i1, i2, fun hf hd => ?_⟩
    obtain ⟨e1, e2⟩ := gz_01 n ct i1 hf
    obtain ⟨q1, q2⟩ := i3 hf hd
    refine ⟨q1, fun x y hx hy hxy => ?_⟩
    by_cases e : x = u ∧ y = v
    · obtain ⟨ex, ey⟩ := e
      rcases i2 with g | ⟨g1, g2⟩
      · rw [e1] at g
        exact (gz_ndb n h L ct ac lo hi g hd).elim
      · have hs := hsum g1
        rw [ex, ey, ← e1, ← e2]
        omega
    · exact q2 x y hx hy (by omega)
  · intro hnle
    have hlt : gd_t w c u < least.toInt := (gn_lt _ _).1 (Int32.not_le.1 hnle)
    refine ⟨gd_chg_l n ct hn b0 w0 f b w c u least hc hu hcc i1 hlt, ?_, fun hf => absurd hf (by decide)⟩
    rcases i2 with g | ⟨g1, g2⟩
    · exact Or.inl g
    · have hs := hsum g1
      have hvu : v ≠ u := by
        intro e
        rw [e] at hs
        have := g1.2.1 u hu
        omega
      have r1 := g1.1 u v hu hv
      have r2 := g2 v hv hvu
      refine Or.inr ⟨gd_long n h L ct ac lo hi hN _ _ b w c u least hc hu g1 hlt (Int.le_refl _) (by omega) hcc (fun T hT hTc => ?_), fun x hx hxu => ?_⟩
      · have y1 := (g1.2.2.2.2.2 T hT).1 u v hu hv
        have y2 := (g1.2.2.2.2.2 T hT).2 c hc hcc hTc v hv
        omega
      · rw [gd_t_n w c u c x least (by omega) (by omega) (Or.inr hxu)]
        exact g2 x hx hxu

/-- waits of contingent events, for c, at k -/
def gz_wa (K : Int) (b0 w0 : Nat → Int32) (Q : Prop) (c k : Nat) (f : Int32) (b w : Nat → Int32) : Prop :=
  gd_chg n ct b0 w0 f b w ∧ gd_inv n h L ct ac lo hi K b w ∧
  (f = 0 → (∀ x, x < n → gd_t b0 x x = 0) → Q ∧
    ∀ x, x < n → x < k → ct x = true → x ≠ c → 0 < gd_t w0 c x → gd_t w0 c x - lo x ≤ gd_t w0 c (ac x))

theorem gz_wa_n (K : Int) (b0 w0 : Nat → Int32) (Q : Prop) (c k : Nat) (f : Int32) (b w : Nat → Int32)
    (hno : k = c ∨ ct k = false ∨ gd_t w c k ≤ 0) (hI : gz_wa n h L ct ac lo hi K b0 w0 Q c k f b w) :
    gz_wa n h L ct ac lo hi K b0 w0 Q c (k + 1) f b w := by
  obtain ⟨i1, i2, i3⟩ := hI
  refine ⟨i1, i2, fun hf hd => ?_⟩
  obtain ⟨e1, e2⟩ := gz_01 n ct i1 hf
  obtain ⟨q1, q2⟩ := i3 hf hd
  refine ⟨q1, fun x hx hxk hxc hne hpos => ?_⟩
  by_cases e : x = k
  · subst e
    rcases hno with q | q | q
    · exact absurd q hne
    · rw [q] at hxc; simp at hxc
    · rw [e2] at q; omega
  · exact q2 x hx (by omega) hxc hne hpos

theorem gz_wa_s (hN : gm_net n h L ct ac lo hi) (K : Int) (hK : K ≤ 10000000) (b0 w0 : Nat → Int32) (Q : Prop) (c k : Nat)
    (f : Int32) (b w : Nat → Int32) (hc : c < n) (hcc : ct c = true) (hk : k < n) (hkc : ct k = true) (hne : k ≠ c) (sk : Int32) (hsk : sk.toInt = lo k)
    (hpos : 0 < gd_t w c k) (hI : gz_wa n h L ct ac lo hi K b0 w0 Q c k f b w) :
    (w (c * 6 + k) - sk ≤ w (c * 6 + ac k) → gz_wa n h L ct ac lo hi K b0 w0 Q c (k + 1) f b w) ∧
    (¬ w (c * 6 + k) - sk ≤ w (c * 6 + ac k) →
      gz_wa n h L ct ac lo hi K b0 w0 Q c (k + 1) 1 b (upd w (c * 6 + ac k) (w (c * 6 + k) - sk))) := by
  have hn : n ≤ 6 := hN.2.1
  have h7 : h ≤ 7 := hN.2.2.1
  obtain ⟨b1, b2, b3, b4, b5⟩ := hN.2.2.2.2.2.2 k hk hkc
  obtain ⟨i1, i2, i3⟩ := hI
  generalize hm : w (c * 6 + k) - sk = least
  have hsum : gd_good n h L ct ac lo hi K b w → least.toInt = gd_t w c k - lo k := by
    intro g1
    have r2 := g1.2.2.1 c k hc hcc hk
    rw [← hm, ← hsk]
    unfold gd_t at r2 ⊢
    exact gn_sub _ _ ⟨by omega, by omega⟩ ⟨by omega, by omega⟩
  constructor
  · intro hle
    have hle' : least.toInt ≤ gd_t w c (ac k) := (gn_le _ _).1 hle
    refine ⟨i1, i2, fun hf hd => ?_⟩
    obtain ⟨e1, e2⟩ := gz_01 n ct i1 hf
    obtain ⟨q1, q2⟩ := i3 hf hd
    refine ⟨q1, fun x hx hxk hxc hxne hxpos => ?_⟩
    by_cases e : x = k
    · rcases i2 with g | g1
      · rw [e1] at g
        exact (gz_ndb n h L ct ac lo hi g hd).elim
      · have hs := hsum g1
        rw [e, ← e2]
        omega
    · exact q2 x hx (by omega) hxc hxne hxpos
  · intro hnle
    have hlt : gd_t w c (ac k) < least.toInt := (gn_lt _ _).1 (Int32.not_le.1 hnle)
    refine ⟨gd_chg_l n ct hn b0 w0 f b w c (ac k) least hc b1 hcc i1 hlt, ?_, fun hf => absurd hf (by decide)⟩
    rcases i2 with g | g1
    · exact Or.inl g
    · have hs := hsum g1
      have r2 := g1.2.2.1 c k hc hcc hk
      refine Or.inr (gd_long n h L ct ac lo hi hN _ _ b w c (ac k) least hc b1 g1 hlt (Int.le_refl _) (by omega) hcc (fun T hT hTc => ?_))
      have y := gs_r3 n h L ct ac lo hi hN c k hc hcc hk hkc (fun z => hne z.symm) (gd_t w c k) hpos
        (fun T' hT' hTc' => (g1.2.2.2.2.2 T' hT').2 c hc hcc hTc' k hk) T hT hTc
      omega

/-- waits become bounds, for c, at u -/
def gz_bw (K : Int) (b0 w0 : Nat → Int32) (Q : Prop) (c u : Nat) (f : Int32) (b w : Nat → Int32) : Prop :=
  gd_chg n ct b0 w0 f b w ∧ gd_inv n h L ct ac lo hi K b w ∧
  (f = 0 → (∀ x, x < n → gd_t b0 x x = 0) → Q ∧
    ∀ x, x < n → x < u → gd_t b0 x (ac c) ≤ - gd_t w0 c x ∨ gd_t b0 x (ac c) ≤ - lo c)

theorem gz_bw_s (hN : gm_net n h L ct ac lo hi) (K : Int) (hK : K ≤ 10000000) (b0 w0 : Nat → Int32) (Q : Prop) (c u : Nat)
    (f : Int32) (b w : Nat → Int32) (hc : c < n) (hcc : ct c = true) (hu : u < n) (sure : Int32)
    (hsu : (sure.toInt = gd_t w c u ∧ gd_t w c u ≤ lo c) ∨ (sure.toInt = lo c ∧ lo c ≤ gd_t w c u))
    (hI : gz_bw n h L ct ac lo hi K b0 w0 Q c u f b w) :
    (b (u * 6 + ac c) ≤ -sure → gz_bw n h L ct ac lo hi K b0 w0 Q c (u + 1) f b w) ∧
    (¬ b (u * 6 + ac c) ≤ -sure → gz_bw n h L ct ac lo hi K b0 w0 Q c (u + 1) 1 (upd b (u * 6 + ac c) (-sure)) w) := by
  have hn : n ≤ 6 := hN.2.1
  have h7 : h ≤ 7 := hN.2.2.1
  obtain ⟨b1, b2, b3, b4, b5⟩ := hN.2.2.2.2.2.2 c hc hcc
  obtain ⟨i1, i2, i3⟩ := hI
  generalize hm : -sure = most
  have hsum : gd_good n h L ct ac lo hi K b w → most.toInt = - sure.toInt ∧ -7 ≤ sure.toInt ∧ sure.toInt ≤ 7 := by
    intro g1
    have r2 := g1.2.2.1 c u hc hcc hu
    have r3 : -7 ≤ sure.toInt ∧ sure.toInt ≤ 7 := by
      rcases hsu with q | q
      · exact ⟨by omega, by omega⟩
      · exact ⟨by omega, by omega⟩
    rw [← hm]
    exact ⟨gn_neg _ ⟨by omega, by omega⟩, r3⟩
  constructor
  · intro hle
    have hle' : gd_t b u (ac c) ≤ most.toInt := (gn_le _ _).1 hle
    refine ⟨i1, i2, fun hf hd => ?_⟩
    obtain ⟨e1, e2⟩ := gz_01 n ct i1 hf
    obtain ⟨q1, q2⟩ := i3 hf hd
    refine ⟨q1, fun x hx hxu => ?_⟩
    by_cases e : x = u
    · rcases i2 with g | g1
      · rw [e1] at g
        exact (gz_ndb n h L ct ac lo hi g hd).elim
      · have hs := hsum g1
        rw [e, ← e1, ← e2]
        rcases hsu with q | q
        · exact Or.inl (by omega)
        · exact Or.inr (by omega)
    · exact q2 x hx (by omega)
  · intro hnle
    have hlt : most.toInt < gd_t b u (ac c) := (gn_lt _ _).1 (Int32.not_le.1 hnle)
    refine ⟨gd_chg_t n ct hn b0 w0 f b w u (ac c) most hu b1 i1 hlt, ?_, fun hf => absurd hf (by decide)⟩
    rcases i2 with g | g1
    · exact Or.inl (gd_bad_t n h L ct ac lo hi hn b u (ac c) most b1 g hlt)
    · have hs := hsum g1
      refine gd_tight n h L ct ac lo hi hN K b w u (ac c) most hu b1 g1 hlt (by omega) (fun T hT => ?_)
      have y := gs_r4 n h L ct ac lo hi hN c u hc hcc hu (gd_t w c u)
        (fun T' hT' hTc' => (g1.2.2.2.2.2 T' hT').2 c hc hcc hTc' u hu) T hT
      rcases y with y | y <;> rcases hsu with q | q <;> omega

/-- bounds by the shortest duration, for c, at v -/
def gz_bs (K : Int) (b0 w0 : Nat → Int32) (Q : Prop) (c v : Nat) (f : Int32) (b w : Nat → Int32) : Prop :=
  gd_chg n ct b0 w0 f b w ∧ gd_inv n h L ct ac lo hi K b w ∧
  (f = 0 → (∀ x, x < n → gd_t b0 x x = 0) → Q ∧
    ∀ x, x < n → x < v → gd_t b0 c x < 0 → gd_t b0 (ac c) x ≤ lo c + gd_t b0 c x)

theorem gz_bs_n (K : Int) (b0 w0 : Nat → Int32) (Q : Prop) (c v : Nat) (f : Int32) (b w : Nat → Int32)
    (hno : ¬ gd_t b c v < 0) (hI : gz_bs n h L ct ac lo hi K b0 w0 Q c v f b w) :
    gz_bs n h L ct ac lo hi K b0 w0 Q c (v + 1) f b w := by
  obtain ⟨i1, i2, i3⟩ := hI
  refine ⟨i1, i2, fun hf hd => ?_⟩
  obtain ⟨e1, e2⟩ := gz_01 n ct i1 hf
  obtain ⟨q1, q2⟩ := i3 hf hd
  refine ⟨q1, fun x hx hxv hneg => ?_⟩
  by_cases e : x = v
  · rw [e, ← e1] at hneg
    exact absurd hneg hno
  · exact q2 x hx (by omega) hneg

theorem gz_bs_s (hN : gm_net n h L ct ac lo hi) (K : Int) (b0 w0 : Nat → Int32) (Q : Prop) (c v : Nat)
    (f : Int32) (b w : Nat → Int32) (hc : c < n) (hcc : ct c = true) (hv : v < n) (sc : Int32) (hsc : sc.toInt = lo c)
    (hneg : gd_t b c v < 0) (hI : gz_bs n h L ct ac lo hi K b0 w0 Q c v f b w) :
    (b (ac c * 6 + v) ≤ sc + b (c * 6 + v) → gz_bs n h L ct ac lo hi K b0 w0 Q c (v + 1) f b w) ∧
    (¬ b (ac c * 6 + v) ≤ sc + b (c * 6 + v) →
      gz_bs n h L ct ac lo hi K b0 w0 Q c (v + 1) 1 (upd b (ac c * 6 + v) (sc + b (c * 6 + v))) w) := by
  have hn : n ≤ 6 := hN.2.1
  have h7 : h ≤ 7 := hN.2.2.1
  obtain ⟨b1, b2, b3, b4, b5⟩ := hN.2.2.2.2.2.2 c hc hcc
  obtain ⟨i1, i2, i3⟩ := hI
  generalize hm : sc + b (c * 6 + v) = most
  have hsum : gd_good n h L ct ac lo hi K b w → most.toInt = lo c + gd_t b c v := by
    intro g1
    have r1 := g1.1 c v hc hv
    rw [← hm, ← hsc]
    unfold gd_t at r1 ⊢
    exact gn_add _ _ ⟨by omega, by omega⟩ ⟨by omega, by omega⟩
  constructor
  · intro hle
    have hle' : gd_t b (ac c) v ≤ most.toInt := (gn_le _ _).1 hle
    refine ⟨i1, i2, fun hf hd => ?_⟩
    obtain ⟨e1, e2⟩ := gz_01 n ct i1 hf
    obtain ⟨q1, q2⟩ := i3 hf hd
    refine ⟨q1, fun x hx hxv hxneg => ?_⟩
    by_cases e : x = v
    · rcases i2 with g | g1
      · rw [e1] at g
        exact (gz_ndb n h L ct ac lo hi g hd).elim
      · have hs := hsum g1
        rw [e, ← e1]
        omega
    · exact q2 x hx (by omega) hxneg
  · intro hnle
    have hlt : most.toInt < gd_t b (ac c) v := (gn_lt _ _).1 (Int32.not_le.1 hnle)
    refine ⟨gd_chg_t n ct hn b0 w0 f b w (ac c) v most b1 hv i1 hlt, ?_, fun hf => absurd hf (by decide)⟩
    rcases i2 with g | g1
    · exact Or.inl (gd_bad_t n h L ct ac lo hi hn b (ac c) v most hv g hlt)
    · have hs := hsum g1
      have r1 := g1.1 c v hc hv
      refine gd_tight n h L ct ac lo hi hN K b w (ac c) v most b1 hv g1 hlt (by omega) (fun T hT => ?_)
      have y := gs_r5 n h L ct ac lo hi hN c v hc hcc hv (gd_t b c v) hneg
        (fun T' hT' => (g1.2.2.2.2.2 T' hT').1 c v hc hv) T hT
      omega
end gz
