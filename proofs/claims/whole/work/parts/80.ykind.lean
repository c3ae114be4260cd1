-- the reference's search: its walks
section ys
variable (n h : Nat) (ph rd : Int32) (yl fr yo yh yp ti : Nat → Int32)
variable (L : Nat → Nat → Int) (ct : Nat → Bool) (ac : Nat → Nat) (lo hi : Nat → Int)

theorem ys_100 (x : Int32) (y : Int) (hx : x.toInt = y) : x = 100 ↔ y = 100 := by
  constructor
  · intro e
    rw [← hx, e]; exact gq_100
  · intro e
    exact gq_inj (by rw [hx, e]; exact gq_100.symm)

theorem ys_bro (hn : n ≤ 6) (post : Int32 → Prop) (pl mo : Nat → Int32) (p : Nat → Int) (hp : ∀ e, e < n → (pl e).toInt = p e)
    (hr : ∀ e, e < n → 0 ≤ p e ∧ p e ≤ 100) (hL : ∀ u v, u < n → v < n → (yl (u * 6 + v)).toInt = L u v)
    (h1 : gm_broken n L p → post 1) (h0 : ¬ gm_broken n L p → post 0) : wpY_broken post (nI n, nI h, ph, rd, yl, fr, yo, yh, yp, ti, pl, mo) := by
  refine loop_0 (fun m i (_ : Unit) => wY_broken_2 post (nI n) (nI h) ph rd yl fr yo yh yp ti pl mo m (nI i))
    (fun i _ => ∀ u v, u < i → v < n → ¬ (u ≠ v ∧ p u ≠ 100 ∧ p v ≠ 100 ∧ L u v < p v - p u)) n () (fun u v hu => absurd hu (by omega)) ?_ ?_
  · intro m _ hs
    refine br_t (Int32.le_refl _) (h0 ?_)
    intro ⟨u, v, hu, hv, a1, a2, a3, a4⟩
    exact hs u v hu hv ⟨a1, a2, a3, a4⟩
  · intro m u _ hu hs ih
    have hu6 : u < 6 := by omega
    refine br_f (nI_ge hu (by omega)) ?_
    refine loop_0 (fun m' i (_ : Unit) => wY_broken_12 post (wY_broken_2 post (nI n) (nI h) ph rd yl fr yo yh yp ti pl mo m) (nI u) (nI n) (nI h) ph rd yl fr yo yh yp ti pl mo m' (nI i))
      (fun i _ => ∀ v, v < i → ¬ (u ≠ v ∧ p u ≠ 100 ∧ p v ≠ 100 ∧ L u v < p v - p u)) n () (fun v hv => absurd hv (by omega)) ?_ ?_
    · intro m' _ hs'
      refine br_t (Int32.le_refl _) (nm_r (nI_1 u) (ih () (fun x y hx hy => ?_)))
      by_cases e : x = u
      · rw [e]; exact hs' y hy
      · exact hs x y (by omega) hy
    · intro m' v _ hv hs' ih'
      have hv6 : v < 6 := by omega
      have go : ¬ (u ≠ v ∧ p u ≠ 100 ∧ p v ≠ 100 ∧ L u v < p v - p u) → ∀ v', v' < v + 1 → ¬ (u ≠ v' ∧ p u ≠ 100 ∧ p v' ≠ 100 ∧ L u v' < p v' - p u) := by
        intro z v' hv'
        by_cases e : v' = v
        · rw [e]; exact z
        · exact hs' v' (by omega)
      refine br_f (nI_ge hv (by omega)) ?_
      rw [xd_c1 u hu6, xd_c1 v hv6, xd_cl u v hu6 hv6]
      refine br_c (fun q => nm_r (nI_1 v) (ih' () (go (fun z => z.1 ((nI_eq (by omega) (by omega)).1 q))))) (fun q => ⟨xd_i1 u hu6, ?_⟩)
      refine br_c (fun q2 => nm_r (nI_1 v) (ih' () (go (fun z => z.2.1 ((ys_100 _ _ (hp u hu)).1 q2))))) (fun q2 => ⟨xd_i1 v hv6, ?_⟩)
      refine br_c (fun q3 => nm_r (nI_1 v) (ih' () (go (fun z => z.2.2.1 ((ys_100 _ _ (hp v hv)).1 q3))))) (fun q3 => ⟨xd_i1 v hv6, xd_i1 u hu6, xd_in u v hu6 hv6, ?_⟩)
      have r1 := hr u hu
      have r2 := hr v hv
      have e1 := hp u hu
      have e2 := hp v hv
      have es : (pl v - pl u).toInt = p v - p u := by
        rw [gn_sub _ _ ⟨by omega, by omega⟩ ⟨by omega, by omega⟩, e1, e2]
      refine br_c (fun q4 => nm_r (nI_1 v) (ih' () (go (fun z => ?_)))) (fun q4 => h1 ⟨u, v, hu, hv, ?_, ?_, ?_, ?_⟩)
      · have y := (gn_le _ _).1 q4
        rw [es, hL u v hu hv] at y
        omega
      · exact fun z => q (by rw [z])
      · exact fun z => q2 ((ys_100 _ _ (hp u hu)).2 z)
      · exact fun z => q3 ((ys_100 _ _ (hp v hv)).2 z)
      · have y := (gn_lt _ _).1 (Int32.not_le.1 q4)
        rw [es, hL u v hu hv] at y
        exact y

theorem ys_com (hn : n ≤ 6) (post : Int32 → Prop) (pl mo : Nat → Int32) (p : Nat → Int) (hp : ∀ e, e < n → (pl e).toInt = p e)
    (h1 : gm_full n p → post 1) (h0 : ¬ gm_full n p → post 0) : wpY_complete post (nI n, nI h, ph, rd, yl, fr, yo, yh, yp, ti, pl, mo) := by
  refine loop_0 (fun m i (_ : Unit) => wY_complete_2 post (nI n) (nI h) ph rd yl fr yo yh yp ti pl mo m (nI i))
    (fun i _ => ∀ e, e < i → p e ≠ 100) n () (fun u hu => absurd hu (by omega)) ?_ ?_
  · intro m _ hs
    exact br_t (Int32.le_refl _) (h1 hs)
  · intro m i _ hi hs ih
    have hi6 : i < 6 := by omega
    refine br_f (nI_ge hi (by omega)) ⟨xd_i1 i hi6, ?_⟩
    rw [xd_c1 i hi6]
    refine br_c (fun q => h0 (fun z => z i hi ((ys_100 _ _ (hp i hi)).1 q))) (fun q => nm_r (nI_1 i) (ih () (fun e he => ?_)))
    by_cases x : e = i
    · rw [x]; exact fun z => q ((ys_100 _ _ (hp i hi)).2 z)
    · exact hs e (by omega)

theorem ys_kind (hn : n ≤ 6) (post : Int32 → Prop) (pl mo : Nat → Int32) (p : Nat → Int) (hp : ∀ e, e < n → (pl e).toInt = p e)
    (hr : ∀ e, e < n → 0 ≤ p e ∧ p e ≤ 100)
    (hF : ∀ c, c < n → (ct c = false ∧ fr c = -1) ∨ (ct c = true ∧ fr c = nI (ac c) ∧ ac c < n))
    (hlo : ∀ c, c < n → (yo c).toInt = lo c) (hhi : ∀ c, c < n → (yh c).toInt = hi c)
    (s : Nat) (hs : s < 96) (g : post (nI (gm_kind n ct ac lo hi p s))) : wpY_kind post (nI n, nI h, ph, rd, yl, fr, yo, yh, yp, ti, pl, mo) (nI s) := by
  unfold gm_kind at g
  have e6 : s % 6 < 6 := by omega
  have k6 : nI s - nI s / 6 * 6 = nI (s % 6) := pk_rem (d := 6) (by omega) (by omega) (by omega)
  have k12 : nI s - nI s / 12 * 12 = nI (s % 12) := pk_rem (d := 12) (by omega) (by omega) (by omega)
  have kd : nI s / 12 = nI (s / 12) := pk_div (d := 12) (by omega) (by omega) (by omega)
  refine ⟨by decide, nm_r k6 ?_⟩
  refine br_c (fun q => ?_) (fun q => br_c (fun q2 => ?_) (fun q2 => ⟨xd_i1 _ e6, ?_⟩))
  · have x : s % 6 = 0 := (nI_eq (b := 0) (by omega) (by omega)).1 q
    rw [if_pos (Or.inl x)] at g
    exact g
  · have x : n ≤ s % 6 := (nI_leI (by omega) (by omega)).1 q2
    rw [if_pos (Or.inr (Or.inl x))] at g
    exact g
  · have x0 : ¬ s % 6 = 0 := fun z => q (by rw [z]; rfl)
    have xn : s % 6 < n := by
      by_cases z : s % 6 < n
      · exact z
      · exact absurd (nI_le (by omega) (by omega)) q2
    rw [xd_c1 _ e6, k12, kd]
    refine br_c (fun q3 => ⟨by decide, ?_⟩) (fun q3 => ?_)
    · have x3 := (ys_100 _ _ (hp _ xn)).1 q3
      have c1 : ¬ (s % 6 = 0 ∨ n ≤ s % 6 ∨ p (s % 6) ≠ 100) := by omega
      rw [if_neg c1] at g
      rcases hF _ xn with ⟨hc, hf⟩ | ⟨hc, hf, ha⟩
      · rw [hf]
        refine br_c (fun q4 => ⟨xd_i1 _ e6, br_t (by decide) ?_⟩) (fun q4 => ⟨xd_i1 _ e6, br_f (by decide) ?_⟩)
        · have x4 : s % 12 < 6 := (nI_ltI (b := 6) (by omega) (by omega)).1 q4
          rw [if_neg (by omega), if_pos (Or.inl hc)] at g
          exact g
        · have x4 : ¬ s % 12 < 6 := fun z => q4 ((nI_ltI (b := 6) (by omega) (by omega)).2 z)
          rw [if_pos (by omega), if_neg (by rw [hc]; simp)] at g
          exact g
      · have ha6 : ac (s % 6) < 6 := by omega
        rw [hf, xd_c1 _ ha6]
        have nneg : ¬ nI (ac (s % 6)) < 0 := nI_pos (by omega)
        have npos : 0 ≤ nI (ac (s % 6)) := nI_pos' (by omega)
        refine br_c (fun q4 => ⟨xd_i1 _ e6, br_f nneg ⟨xd_i1 _ e6, xd_i1 _ ha6, ?_⟩⟩) (fun q4 => ⟨xd_i1 _ e6, br_t npos ?_⟩)
        · have x4 : s % 12 < 6 := (nI_ltI (b := 6) (by omega) (by omega)).1 q4
          rw [if_neg (show ¬ 6 ≤ s % 12 by omega)] at g
          refine br_c (fun q5 => ?_) (fun q5 => ⟨by decide, xd_i1 _ e6, xd_i1 _ ha6, ?_⟩)
          · have x5 := (ys_100 _ _ (hp _ ha)).1 q5
            rw [if_pos (Or.inr x5)] at g
            exact g
          · have x5 : ¬ p (ac (s % 6)) = 100 := fun z => q5 ((ys_100 _ _ (hp _ ha)).2 z)
            have c3 : ¬ (ct (s % 6) = false ∨ p (ac (s % 6)) = 100) := by
              intro z
              rcases z with z | z
              · rw [hc] at z; simp at z
              · exact x5 z
            rw [if_neg c3] at g
            have r1 := hr _ ha
            have e1 := hp _ ha
            have e2 := gq_nI (s / 12) (by omega)
            have ey : (nI (s / 12) - pl (ac (s % 6))).toInt = ((s / 12 : Nat) : Int) - p (ac (s % 6)) := by
              rw [gn_sub _ _ ⟨by omega, by omega⟩ ⟨by omega, by omega⟩, e1, e2]
            have ehi := hhi _ xn
            have elo := hlo _ xn
            refine nm_e ⟨xd_i1 _ e6, br_c (fun q6 => ?_) (fun q6 => ⟨xd_i1 _ e6, br_c (fun q7 => ?_) (fun q7 => ⟨xd_i1 _ e6, br_c (fun q8 => ?_) (fun q8 => ?_)⟩)⟩)⟩
            · have x6 : ((s / 12 : Nat) : Int) - p (ac (s % 6)) = hi (s % 6) := by rw [← ey, ← ehi, q6]
              rw [if_pos x6] at g
              exact g
            · have x6 : ¬ ((s / 12 : Nat) : Int) - p (ac (s % 6)) = hi (s % 6) := fun z => q6 (gq_inj (by rw [ey, ehi, z]))
              have x7 := (gn_lt _ _).1 q7
              rw [ey, elo] at x7
              rw [if_neg x6, if_neg (by omega)] at g
              exact g
            · have x6 : ¬ ((s / 12 : Nat) : Int) - p (ac (s % 6)) = hi (s % 6) := fun z => q6 (gq_inj (by rw [ey, ehi, z]))
              have x8 := (gn_le _ _).1 q8
              rw [ey, ehi] at x8
              rw [if_neg x6, if_neg (by omega)] at g
              exact g
            · have x6 : ¬ ((s / 12 : Nat) : Int) - p (ac (s % 6)) = hi (s % 6) := fun z => q6 (gq_inj (by rw [ey, ehi, z]))
              have x7 : ¬ ((s / 12 : Nat) : Int) - p (ac (s % 6)) < lo (s % 6) := fun z => q7 ((gn_lt _ _).2 (by rw [ey, elo]; exact z))
              have x8 : ¬ hi (s % 6) ≤ ((s / 12 : Nat) : Int) - p (ac (s % 6)) := fun z => q8 ((gn_le _ _).2 (by rw [ey, ehi]; exact z))
              rw [if_neg x6, if_pos (by omega)] at g
              exact g
        · have x4 : ¬ s % 12 < 6 := fun z => q4 ((nI_ltI (b := 6) (by omega) (by omega)).2 z)
          rw [if_pos (show 6 ≤ s % 12 by omega), if_pos hc] at g
          exact g
    · have x3 : p (s % 6) ≠ 100 := fun z => q3 ((ys_100 _ _ (hp _ xn)).2 z)
      rw [if_pos (Or.inr (Or.inr x3))] at g
      exact g
end ys
