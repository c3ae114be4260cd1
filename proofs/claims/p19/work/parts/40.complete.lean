-- if nothing more follows from bounds and waits, keeping them wins
section gc
variable (n h : Nat) (L : Nat → Nat → Int) (ct : Nat → Bool) (ac : Nat → Nat) (lo hi : Nat → Int) (B W : Nat → Nat → Int)

/-- nothing more follows -/
def gc_fix : Prop :=
  (∀ u v, u < n → v < n → u ≠ v → B u v ≤ L u v) ∧ (∀ u, u < n → B u u = 0) ∧
  (∀ c, c < n → ct c = true → B (ac c) c ≤ hi c ∧ hi c ≤ W c c) ∧
  (∀ u v w, u < n → v < n → w < n → B u v ≤ B u w + B w v) ∧
  (∀ c, c < n → ct c = true → ∀ u v, u < n → v < n → W c v - B u v ≤ W c u) ∧
  (∀ c, c < n → ct c = true → ∀ k, k < n → ct k = true → k ≠ c → 0 < W c k → W c k - lo k ≤ W c (ac k)) ∧
  (∀ c, c < n → ct c = true → ∀ u, u < n → B u (ac c) ≤ - W c u ∨ B u (ac c) ≤ - lo c) ∧
  (∀ c, c < n → ct c = true → ∀ v, v < n → B c v < 0 → B (ac c) v ≤ lo c + B c v)

/-- what is kept at a position -/
def gc_inv (s : Nat) (p : Nat → Int) : Prop :=
  (∀ u v, u < n → v < n → p u ≠ 100 → p v ≠ 100 → p v - p u ≤ B u v) ∧
  (∀ u v, u < n → v < n → p u ≠ 100 → p v = 100 → (s : Int) ≤ gm_stp ct v (p u + B u v)) ∧
  (∀ c, c < n → ct c = true → p c = 100 → p (ac c) ≠ 100 → ∀ u, u < n → p u ≠ 100 → p (ac c) + W c u ≤ p u)

theorem gc_0 (hN : gm_net n h L ct ac lo hi) (c : Nat) (b : ct c = true) : c ≠ 0 := by
  intro z; subst z
  have y := hN.2.2.2.1
  rw [b] at y; simp at y

/-- the activation is at least the shortest duration earlier -/
theorem gc_ca (hN : gm_net n h L ct ac lo hi) (hF : gc_fix n L ct ac lo hi B W) (c : Nat) (hc : c < n) (hcc : ct c = true) :
    B c (ac c) ≤ - lo c := by
  obtain ⟨f0, f00, fc, f1, f2, f3, f4, f5⟩ := hF
  obtain ⟨b1, b2, b3, b4, b5⟩ := hN.2.2.2.2.2.2 c hc hcc
  have x := fc c hc hcc
  rcases f4 c hc hcc c hc with y | y <;> omega

theorem gc_nb (hF : gc_fix n L ct ac lo hi B W) (s : Nat) (p : Nat → Int) (hI : gc_inv n ct ac B W s p) : ¬ gm_broken n L p := by
  intro ⟨u, v, hu, hv, huv, h1, h2, h3⟩
  have x := hI.1 u v hu hv h1 h2
  have y := hF.1 u v hu hv huv
  omega

/-- a time given before step s is not later than the round of s -/
theorem gc_old (hN : gm_net n h L ct ac lo hi) (s : Nat) (p : Nat → Int) (hw : gm_wf n h ct ac lo hi s p) (u : Nat) (hu : u < n)
    (hp : p u ≠ 100) : p u ≤ ((s / 12 : Nat) : Int) := by
  have hn6 : n ≤ 6 := hN.2.1
  by_cases h0 : u = 0
  · subst h0; rw [hw.1]; omega
  · rcases hw.2.1 u hu with a | ⟨a, b, c⟩
    · exact absurd a hp
    · have y := (gm_stp_b ct u (p u) h0 (by omega)).1
      omega

/-- the slot passes -/
theorem gc_pass (hN : gm_net n h L ct ac lo hi) (s : Nat) (p : Nat → Int) (hI : gc_inv n ct ac B W s p)
    (hw0 : p 0 = 0)
    (hx : s % 6 ≠ 0 → s % 6 < n → p (s % 6) = 100 → gm_stp ct (s % 6) ((s / 12 : Nat) : Int) = (s : Int) →
      ∀ u, u < n → p u ≠ 100 → ((s / 12 : Nat) : Int) + 1 ≤ p u + B u (s % 6)) : gc_inv n ct ac B W (s + 1) p := by
  have hn6 : n ≤ 6 := hN.2.1
  refine ⟨hI.1, ?_, hI.2.2⟩
  intro u v hu hv h1 h2
  have y := hI.2.1 u v hu hv h1 h2
  have hv0 : v ≠ 0 := by intro z; subst z; omega
  by_cases hq : gm_stp ct v (p u + B u v) = (s : Int)
  · obtain ⟨z1, z2, _, _⟩ := gm_slot ct v s _ hv0 (by omega) hq
    subst z1
    rw [z2] at hq
    have w := hx hv0 hv h2 hq u hu h1
    omega
  · omega

/-- a new time: what must hold of it, and the rest stays -/
theorem gc_new (hN : gm_net n h L ct ac lo hi) (hF : gc_fix n L ct ac lo hi B W) (s : Nat) (p : Nat → Int)
    (hs : s < 12 * (h + 1)) (hw : gm_wf n h ct ac lo hi s p) (hI : gc_inv n ct ac B W s p)
    (he : s % 6 ≠ 0) (hen : s % 6 < n) (hpe : p (s % 6) = 100)
    (hst : gm_stp ct (s % 6) ((s / 12 : Nat) : Int) = (s : Int))
    (e1 : ∀ v, v < n → p v ≠ 100 → p v ≤ ((s / 12 : Nat) : Int) + B (s % 6) v)
    (e2 : ∀ v, v < n → v ≠ s % 6 → p v = 100 → ((s + 1 : Nat) : Int) ≤ gm_stp ct v (((s / 12 : Nat) : Int) + B (s % 6) v))
    (e3 : ∀ c, c < n → ct c = true → c ≠ s % 6 → p c = 100 → p (ac c) ≠ 100 → p (ac c) + W c (s % 6) ≤ ((s / 12 : Nat) : Int)) :
    gc_inv n ct ac B W (s + 1) (gm_set p (s % 6) ((s / 12 : Nat) : Int)) := by
  have hn6 : n ≤ 6 := hN.2.1
  have h7 : h ≤ 7 := hN.2.2.1
  have j1 : ∀ u v, u < n → v < n → gm_set p (s % 6) ((s / 12 : Nat) : Int) u ≠ 100 → gm_set p (s % 6) ((s / 12 : Nat) : Int) v ≠ 100 →
      gm_set p (s % 6) ((s / 12 : Nat) : Int) v - gm_set p (s % 6) ((s / 12 : Nat) : Int) u ≤ B u v := by
    intro u v hu hv h1 h2
    by_cases hue : u = s % 6
    · by_cases hve : v = s % 6
      · rw [hue, hve, hF.2.1 _ hen]; omega
      · rw [hue, gm_set_s, gm_set_n _ _ _ _ hve]
        rw [gm_set_n _ _ _ _ hve] at h2
        have y := e1 v hv h2
        omega
    · rw [gm_set_n _ _ _ _ hue] at h1 ⊢
      by_cases hve : v = s % 6
      · rw [hve, gm_set_s]
        have y := hI.2.1 u (s % 6) hu hen h1 hpe
        rw [← hst] at y
        have z := (gm_stp_mono ct (s % 6) _ _ he).1 y
        omega
      · rw [gm_set_n _ _ _ _ hve] at h2 ⊢
        exact hI.1 u v hu hv h1 h2
  refine ⟨j1, ?_, ?_⟩
  · intro u v hu hv h1 h2
    have hve : v ≠ s % 6 := by
      intro z
      rw [z, gm_set_s] at h2
      omega
    rw [gm_set_n _ _ _ _ hve] at h2
    by_cases hue : u = s % 6
    · rw [hue, gm_set_s]
      exact e2 v hv hve h2
    · rw [gm_set_n _ _ _ _ hue] at h1 ⊢
      have y := hI.2.1 u v hu hv h1 h2
      have hv0 : v ≠ 0 := by intro z; subst z; have := hw.1; omega
      by_cases hq : gm_stp ct v (p u + B u v) = (s : Int)
      · exact absurd (gm_slot ct v s _ hv0 (by omega) hq).1 hve
      · omega
  · intro c hcn hcc h1 h2 u hu h3
    have hce : c ≠ s % 6 := by
      intro z
      rw [z, gm_set_s] at h1
      omega
    rw [gm_set_n _ _ _ _ hce] at h1
    by_cases hae : ac c = s % 6
    · -- c begins to run now
      have hac : ac c < n := (hN.2.2.2.2.2.2 c hcn hcc).1
      have b3 := (hN.2.2.2.2.2.2 c hcn hcc).2.2.1
      have y := j1 u (ac c) hu hac h3 h2
      have old : gm_set p (s % 6) ((s / 12 : Nat) : Int) u ≤ ((s / 12 : Nat) : Int) := by
        by_cases hue : u = s % 6
        · rw [hue, gm_set_s]; omega
        · rw [gm_set_n _ _ _ _ hue] at h3 ⊢
          exact gc_old n h L ct ac lo hi hN s p hw u hu h3
      have ea : gm_set p (s % 6) ((s / 12 : Nat) : Int) (ac c) = ((s / 12 : Nat) : Int) := by rw [hae, gm_set_s]
      rw [ea] at y ⊢
      rcases hF.2.2.2.2.2.2.1 c hcn hcc u hu with z | z <;> omega
    · rw [gm_set_n _ _ _ _ hae] at h2 ⊢
      by_cases hue : u = s % 6
      · rw [hue, gm_set_s]
        exact e3 c hcn hcc hce h1 h2
      · rw [gm_set_n _ _ _ _ hue] at h3 ⊢
        exact hI.2.2 c hcn hcc h1 h2 u hu h3

/-- a contingent event at its own step happens, after lo .. hi rounds -/
theorem gc_hap (hN : gm_net n h L ct ac lo hi) (hF : gc_fix n L ct ac lo hi B W) (s : Nat) (p : Nat → Int)
    (hs : s < 12 * (h + 1)) (hw : gm_wf n h ct ac lo hi s p) (hI : gc_inv n ct ac B W s p)
    (he : s % 6 ≠ 0) (hen : s % 6 < n) (hpe : p (s % 6) = 100) (hcc : ct (s % 6) = true) (hs12 : s % 12 < 6)
    (ha : p (ac (s % 6)) ≠ 100) (hd : p (ac (s % 6)) + lo (s % 6) ≤ ((s / 12 : Nat) : Int)) :
    gc_inv n ct ac B W (s + 1) (gm_set p (s % 6) ((s / 12 : Nat) : Int)) := by
  have hn6 : n ≤ 6 := hN.2.1
  have hst := gm_slot_t ct s he hcc hs12
  obtain ⟨b1, b2, b3, b4, b5⟩ := hN.2.2.2.2.2.2 _ hen hcc
  have f5 := hF.2.2.2.2.2.2.2 _ hen hcc
  have f3 := hF.2.2.2.2.2.1
  have f2 := hF.2.2.2.2.1
  have f1 := hF.2.2.2.1
  have fc := hF.2.2.1
  generalize hcd : s % 6 = c at *
  generalize htd : ((s / 12 : Nat) : Int) = t at *
  -- the soonest round of what has no time yet is not before this one
  have hnow : ∀ v x, v < n → p v = 100 → (s : Int) ≤ gm_stp ct v x → t ≤ x := by
    intro v x hv hpv hx
    have hv0 : v ≠ 0 := by intro z; subst z; have := hw.1; omega
    have y := (gm_stp_b ct v x hv0 (by omega)).2
    omega
  have hB0 : ∀ v, v < n → p v = 100 → 0 ≤ B c v := by
    intro v hv hpv
    by_cases hneg : B c v < 0
    · have y := f5 v hv hneg
      have z := hnow v _ hv hpv (hI.2.1 (ac c) v b1 hv ha hpv)
      omega
    · omega
  have res := gc_new n h L ct ac lo hi B W hN hF s p hs hw hI
  rw [hcd, htd] at res
  refine res he hen hpe hst ?_ ?_ ?_
  · intro v hv hpv
    by_cases hneg : B c v < 0
    · have y := f5 v hv hneg
      have z := hI.1 (ac c) v b1 hv ha hpv
      omega
    · have y := gc_old n h L ct ac lo hi hN s p hw v hv hpv
      omega
  · intro v hv hvc hpv
    have y0 := hB0 v hv hpv
    have hv0 : v ≠ 0 := by intro z; subst z; have := hw.1; omega
    by_cases hbig : 1 ≤ B c v
    · have y := (gm_stp_b ct v (t + B c v) hv0 (by omega)).1
      omega
    · have e0 : B c v = 0 := by omega
      rw [e0, Int.add_zero]
      cases hcv : ct v with
      | false =>
        rw [gm_stp_f ct v t hv0 hcv]
        omega
      | true =>
        by_cases hlate : c < v
        · rw [gm_stp_t ct v t hv0 hcv]
          rw [gm_stp_t ct c t he hcc] at hst
          omega
        · -- v's step of this round is over, and v did not happen: impossible
          exfalso
          obtain ⟨d1, d2, d3, d4, d5⟩ := hN.2.2.2.2.2.2 v hv hcv
          have w1 := (fc v hv hcv)
          by_cases hrun : p (ac v) = 100
          · have g1 := gc_ca n h L ct ac lo hi B W hN hF v hv hcv
            have g2 := f1 c (ac v) v hen d1 hv
            have g3 := f5 (ac v) d1 (by omega)
            have g4 := hnow (ac v) _ d1 hrun (hI.2.1 (ac c) (ac v) b1 d1 ha hrun)
            omega
          · have g1 := f2 v hv hcv c v hen hv
            have g2 := f3 v hv hcv c hen hcc (fun z => hvc z.symm) (by omega)
            have g3 := hI.2.2 v hv hcv hpv hrun (ac c) b1 ha
            have g4 := hI.2.1 (ac v) v d1 hv hrun hpv
            rw [gm_stp_t ct v _ hv0 hcv] at g4
            rw [gm_stp_t ct c t he hcc] at hst
            omega
  · intro k hk hkc hkne hpk hak
    by_cases hpos : 0 < W k c
    · have g2 := f3 k hk hkc c hen hcc (fun z => hkne z.symm) hpos
      have g3 := hI.2.2 k hk hkc hpk hak (ac c) b1 ha
      omega
    · have y := gc_old n h L ct ac lo hi hN s p hw (ac k) (hN.2.2.2.2.2.2 k hk hkc).1 hak
      omega

/-- a contingent event at its own step may stay out while it has run for less than hi rounds, or does not run -/
theorem gc_stay (hN : gm_net n h L ct ac lo hi) (hF : gc_fix n L ct ac lo hi B W) (s : Nat) (p : Nat → Int)
    (hw : gm_wf n h ct ac lo hi s p) (hI : gc_inv n ct ac B W s p)
    (hx : s % 6 ≠ 0 → s % 6 < n → p (s % 6) = 100 → gm_stp ct (s % 6) ((s / 12 : Nat) : Int) = (s : Int) →
      ct (s % 6) = true ∧ (p (ac (s % 6)) = 100 ∨ ((s / 12 : Nat) : Int) - p (ac (s % 6)) ≠ hi (s % 6))) :
    gc_inv n ct ac B W (s + 1) p := by
  have hn6 : n ≤ 6 := hN.2.1
  refine gc_pass n h L ct ac lo hi B W hN s p hI hw.1 ?_
  intro he hen hpe hst u hu hpu
  obtain ⟨hcc, hd⟩ := hx he hen hpe hst
  obtain ⟨b1, b2, b3, b4, b5⟩ := hN.2.2.2.2.2.2 _ hen hcc
  have fc := hF.2.2.1 _ hen hcc
  generalize hcd : s % 6 = c at *
  generalize htd : ((s / 12 : Nat) : Int) = t at *
  by_cases hrun : p (ac c) = 100
  · have g1 := gc_ca n h L ct ac lo hi B W hN hF c hen hcc
    have g2 := hF.2.2.2.1 u (ac c) c hu b1 hen
    have g3 := hI.2.1 u (ac c) hu b1 hpu hrun
    have ha0 : ac c ≠ 0 := by intro z; rw [z] at hrun; have := hw.1; omega
    have g4 := (gm_stp_b ct (ac c) (p u + B u (ac c)) ha0 (by omega)).2
    omega
  · have g1 := hF.2.2.2.2.1 c hen hcc u c hu hen
    have g3 := hI.2.2 c hen hcc hpe hrun u hu hpu
    have g4 := hI.2.1 (ac c) c b1 hen hrun hpe
    rw [← hst] at g4
    have g5 := (gm_stp_mono ct c _ _ he).1 g4
    rcases hd with hd | hd
    · exact absurd hd hrun
    · omega

/-- at a choice: if declining breaks a bound, executing breaks none -/
theorem gc_must (hF : gc_fix n L ct ac lo hi B W) (hN : gm_net n h L ct ac lo hi) (s : Nat) (p : Nat → Int)
    (hs : s < 12 * (h + 1)) (hw : gm_wf n h ct ac lo hi s p) (hI : gc_inv n ct ac B W s p)
    (he : s % 6 ≠ 0) (hen : s % 6 < n) (hpe : p (s % 6) = 100)
    (hst : gm_stp ct (s % 6) ((s / 12 : Nat) : Int) = (s : Int))
    (u : Nat) (hu : u < n) (hpu : p u ≠ 100) (hle : p u + B u (s % 6) ≤ ((s / 12 : Nat) : Int)) :
    gc_inv n ct ac B W (s + 1) (gm_set p (s % 6) ((s / 12 : Nat) : Int)) := by
  have hn6 : n ≤ 6 := hN.2.1
  have f1 := hF.2.2.2.1
  have f2 := hF.2.2.2.2.1
  refine gc_new n h L ct ac lo hi B W hN hF s p hs hw hI he hen hpe hst ?_ ?_ ?_
  · intro v hv hpv
    have y := hI.1 u v hu hv hpu hpv
    have z := f1 u v (s % 6) hu hv hen
    omega
  · intro v hv hve hpv
    have y := hI.2.1 u v hu hv hpu hpv
    have z := f1 u v (s % 6) hu hv hen
    have hv0 : v ≠ 0 := by intro w; subst w; have := hw.1; omega
    have w := (gm_stp_mono ct v (p u + B u v) (((s / 12 : Nat) : Int) + B (s % 6) v) hv0).2 (by omega)
    by_cases hq : gm_stp ct v (p u + B u v) = (s : Int)
    · exact absurd (gm_slot ct v s _ hv0 (by omega) hq).1 hve
    · omega
  · intro c hcn hcc hce hpc hac
    have y := hI.2.2 c hcn hcc hpc hac u hu hpu
    have z := f2 c hcn hcc u (s % 6) hu hen
    omega

/-- keeping bounds and waits wins -/
theorem gc_win (hN : gm_net n h L ct ac lo hi) (hF : gc_fix n L ct ac lo hi B W) :
    ∀ (m s : Nat) (p : Nat → Int), s + m = 12 * (h + 1) → gm_wf n h ct ac lo hi s p → gc_inv n ct ac B W s p →
      gm_val n L ct ac lo hi m s p := by
  have hn6 : n ≤ 6 := hN.2.1
  intro m
  induction m with
  | zero =>
    intro s p hs hw hI
    unfold gm_val
    refine ⟨gc_nb n L ct ac lo hi B W hF s p hI, ?_⟩
    intro v hv hpv
    have hv0 : v ≠ 0 := by intro w; subst w; have := hw.1; omega
    have y := hI.2.1 0 v hN.1 hv (by rw [hw.1]; omega) hpv
    have z := (gm_stp_b ct v (p 0 + B 0 v) hv0 (by omega)).2
    have w := hF.1 0 v hN.1 hv (fun q => hv0 q.symm)
    have w2 := hN.2.2.2.2.2.1 0 v hN.1 hv
    have w3 := hw.1
    omega
  | succ m ih =>
    intro s p hs hw hI
    unfold gm_val
    refine ⟨gc_nb n L ct ac lo hi B W hF s p hI, Or.inr ?_⟩
    rcases gm_kind_lt n ct ac lo hi p s with k | k | k | k
    · refine Or.inl ⟨k, ih _ _ (by omega) (gp_wf_s n h ct ac lo hi s p hw) (gc_stay n h L ct ac lo hi B W hN hF s p hw hI ?_)⟩
      intro he hen hpe hst
      obtain ⟨_, _, y3, y4⟩ := gm_slot ct (s % 6) s _ he (by omega) hst
      cases hcc : ct (s % 6) with
      | false =>
        have := gm_kind_exe n ct ac lo hi p s he hen hpe hcc (y4 hcc)
        omega
      | true =>
        refine ⟨rfl, ?_⟩
        by_cases ha : p (ac (s % 6)) = 100
        · exact Or.inl ha
        · refine Or.inr (fun hd => ?_)
          have := (gm_kind_run n ct ac lo hi p s he hen hpe hcc (y3 hcc) ha).1 hd
          omega
    · obtain ⟨k1, k2, k3, k4, k5, k6⟩ := gm_kind_12 n ct ac lo hi p s (Or.inl k)
      have kd := gm_kind_1 n ct ac lo hi p s k
      have b := hN.2.2.2.2.2.2 _ k2 k4
      have hst := gm_slot_t ct s k1 k4 k5
      refine Or.inr (Or.inl ⟨k, ih _ _ (by omega) ?_ ?_⟩)
      · exact gp_wf_set n h L ct ac lo hi hN s p (by omega) hw k1 k2 k3 hst (fun _ => ⟨k6, by omega, by omega⟩)
      · exact gc_hap n h L ct ac lo hi B W hN hF s p (by omega) hw hI k1 k2 k3 k4 k5 k6 (by omega)
    · obtain ⟨k1, k2, k3, k4, k5, k6⟩ := gm_kind_12 n ct ac lo hi p s (Or.inr k)
      have kd := gm_kind_2 n ct ac lo hi p s k
      have hst := gm_slot_t ct s k1 k4 k5
      refine Or.inr (Or.inr (Or.inl ⟨k, ih _ _ (by omega) ?_ ?_, ih _ _ (by omega) (gp_wf_s n h ct ac lo hi s p hw) ?_⟩))
      · exact gp_wf_set n h L ct ac lo hi hN s p (by omega) hw k1 k2 k3 hst (fun _ => ⟨k6, by omega, by omega⟩)
      · exact gc_hap n h L ct ac lo hi B W hN hF s p (by omega) hw hI k1 k2 k3 k4 k5 k6 (by omega)
      · exact gc_stay n h L ct ac lo hi B W hN hF s p hw hI (fun _ _ _ _ => ⟨k4, Or.inr (by omega)⟩)
    · obtain ⟨k1, k2, k3, k4, k5⟩ := gm_kind_3 n ct ac lo hi p s k
      have hst := gm_slot_f ct s k1 k4 k5
      have hnc : ct (s % 6) = true → False := fun z => by rw [k4] at z; simp at z
      refine Or.inr (Or.inr (Or.inr ⟨k, ?_⟩))
      by_cases hall : ∀ u, u < n → p u ≠ 100 → ((s / 12 : Nat) : Int) + 1 ≤ p u + B u (s % 6)
      · exact Or.inr (ih _ _ (by omega) (gp_wf_s n h ct ac lo hi s p hw)
          (gc_pass n h L ct ac lo hi B W hN s p hI hw.1 (fun _ _ _ _ => hall)))
      · refine Or.inl (ih _ _ (by omega) ?_ ?_)
        · exact gp_wf_set n h L ct ac lo hi hN s p (by omega) hw k1 k2 k3 hst (fun z => absurd z hnc)
        · have hex : ∃ u, u < n ∧ p u ≠ 100 ∧ p u + B u (s % 6) ≤ ((s / 12 : Nat) : Int) := by
            refine Classical.byContradiction (fun hno => hall (fun u hu hpu => ?_))
            by_cases hq : ((s / 12 : Nat) : Int) + 1 ≤ p u + B u (s % 6)
            · exact hq
            · exact absurd ⟨u, hu, hpu, by omega⟩ hno
          obtain ⟨u, hu, hpu, hle⟩ := hex
          exact gc_must n h L ct ac lo hi B W hF hN s p (by omega) hw hI k1 k2 k3 hst u hu hpu hle

/-- the beginning -/
theorem gc_begin (hN : gm_net n h L ct ac lo hi) (hF : gc_fix n L ct ac lo hi B W) (p : Nat → Int) (hp0 : p 0 = 0)
    (hp : ∀ e, e < n → e ≠ 0 → p e = 100) : gm_wf n h ct ac lo hi 0 p ∧ gc_inv n ct ac B W 0 p := by
  have hn6 : n ≤ 6 := hN.2.1
  have h0 : ∀ u, u < n → p u ≠ 100 → u = 0 := by
    intro u hu hpu
    by_cases hq : u = 0
    · exact hq
    · exact absurd (hp u hu hq) hpu
  refine ⟨⟨hp0, ?_, ?_⟩, ?_, ?_, ?_⟩
  · intro e he
    by_cases hq : e = 0
    · subst hq; rw [hp0, gm_stp_0]; exact Or.inr ⟨by omega, by omega, by omega⟩
    · exact Or.inl (hp e he hq)
  · intro c hc hcc hpc
    exact absurd (h0 c hc hpc) (gc_0 n h L ct ac lo hi hN c hcc)
  · intro u v hu hv h1 h2
    rw [h0 u hu h1, h0 v hv h2, hp0, hF.2.1 0 hN.1]; omega
  · intro u v hu hv h1 h2
    have hv0 : v ≠ 0 := by intro w; subst w; omega
    rw [h0 u hu h1, hp0]
    have y := hF.2.2.2.1 0 0 v hN.1 hN.1 hv
    have z := hF.1 v 0 hv hN.1 hv0
    have w := hN.2.2.2.2.1 v hv hv0
    have x := hF.2.1 0 hN.1
    have q := (gm_stp_b ct v (0 + B 0 v) hv0 (by omega)).1
    omega
  · intro c hc hcc h1 h2 u hu h3
    have b := hN.2.2.2.2.2.2 c hc hcc
    have a0 := h0 _ b.1 h2
    rw [h0 u hu h3, a0, hp0]
    have y := hF.2.2.2.2.2.2.1 c hc hcc 0 hN.1
    have x := hF.2.1 0 hN.1
    rw [a0] at y
    rcases y with y | y <;> omega
end gc
