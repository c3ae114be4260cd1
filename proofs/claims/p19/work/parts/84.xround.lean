-- the looks of a round on the program's side: their walks
section xr
variable (n h : Nat) (ij wa f ph rd : Int32) (lim act sh lg pol tim b w : Nat → Int32)

theorem xr_ev1 (post : Int32 → Prop) (i : Nat) (hn : n ≤ 6) (hi : i < n) (g : post 1) : wpX_isEvent post (nI n, nI h, ij, wa, f, ph, rd, lim, act, sh, lg, pol, tim, b, w) (nI i) :=
  br_f (nI_pos (by omega)) (br_f (nI_ge hi (by omega)) g)
theorem xr_ev0 (post : Int32 → Prop) (a : Int32) (hn : n ≤ 6) (ha : ¬ ∃ i, i < n ∧ a = nI i) (g : post 0) : wpX_isEvent post (nI n, nI h, ij, wa, f, ph, rd, lim, act, sh, lg, pol, tim, b, w) a := by
  refine br_c (fun _ => g) (fun q => br_c (fun _ => g) (fun q2 => ?_))
  obtain ⟨j, hj, e⟩ := nI_of q
  refine absurd ⟨j, ?_, e⟩ ha
  by_cases z : j < n
  · exact z
  · exact absurd (by rw [e]; exact nI_le (by omega) hj) q2
theorem xr_lt1 (post : Int32 → Prop) (i : Nat) (hn : n ≤ 6) (h1 : 1 ≤ i) (hi : i < n) (g : post 1) : wpX_isLaterEvent post (nI n, nI h, ij, wa, f, ph, rd, lim, act, sh, lg, pol, tim, b, w) (nI i) :=
  br_f (fun z => absurd ((nI_ltI (b := 1) (by omega) (by omega)).1 z) (by omega)) (br_f (nI_ge hi (by omega)) g)
theorem xr_lt0 (post : Int32 → Prop) (a : Int32) (hn : n ≤ 6) (ha : ¬ ∃ i, 1 ≤ i ∧ i < n ∧ a = nI i) (g : post 0) : wpX_isLaterEvent post (nI n, nI h, ij, wa, f, ph, rd, lim, act, sh, lg, pol, tim, b, w) a := by
  refine br_c (fun _ => g) (fun q => br_c (fun _ => g) (fun q2 => ?_))
  have q0 : ¬ a < 0 := by
    intro z
    have y1 := (gn_lt _ _).1 z
    have y2 := fun z => q ((gn_lt _ _).2 z)
    have e1 : (1 : Int32).toInt = 1 := by decide
    have e0 : (0 : Int32).toInt = 0 := by decide
    rw [e0] at y1
    exact y2 (by rw [e1]; omega)
  obtain ⟨j, hj, e⟩ := nI_of q0
  refine absurd ⟨j, ?_, ?_, e⟩ ha
  · by_cases z : 1 ≤ j
    · exact z
    · exact absurd (by rw [e, show j = 0 by omega]; decide) q
  · by_cases z : j < n
    · exact z
    · exact absurd (by rw [e]; exact nI_le (by omega) hj) q2
theorem xr_pr1 (post : Int32 → Prop) (i j : Nat) (hn : n ≤ 6) (hi : i < n) (hj : j < n) (hij : i ≠ j) (g : post 1) :
    wpX_isPair post (nI n, nI h, ij, wa, f, ph, rd, lim, act, sh, lg, pol, tim, b, w) (nI i) (nI j) := by
  unfold wpX_isPair
  dsimp only
  exact xr_ev1 n h ij wa f ph rd lim act sh lg pol tim b w _ i hn hi (br_f (by decide)
    (xr_ev1 n h ij wa f ph rd lim act sh lg pol tim b w _ j hn hj (br_f (by decide) (br_f (fun z => hij ((nI_eq (by omega) (by omega)).1 z)) g))))
theorem xr_pr0 (post : Int32 → Prop) (a c : Int32) (hn : n ≤ 6) (ha : ¬ ∃ i j, i < n ∧ j < n ∧ i ≠ j ∧ a = nI i ∧ c = nI j) (g : post 0) :
    wpX_isPair post (nI n, nI h, ij, wa, f, ph, rd, lim, act, sh, lg, pol, tim, b, w) a c := by
  unfold wpX_isPair
  dsimp only
  by_cases q : ∃ i, i < n ∧ a = nI i
  · obtain ⟨i, hi, e⟩ := q
    subst e
    refine xr_ev1 n h ij wa f ph rd lim act sh lg pol tim b w _ i hn hi (br_f (by decide) ?_)
    by_cases q2 : ∃ j, j < n ∧ c = nI j
    · obtain ⟨j, hj, e⟩ := q2
      subst e
      refine xr_ev1 n h ij wa f ph rd lim act sh lg pol tim b w _ j hn hj (br_f (by decide) (br_c (fun _ => g) (fun z => ?_)))
      exact absurd ⟨i, j, hi, hj, fun y => z (by rw [y]), rfl, rfl⟩ ha
    · exact xr_ev0 n h ij wa f ph rd lim act sh lg pol tim b w _ c hn q2 (br_t rfl g)
  · exact xr_ev0 n h ij wa f ph rd lim act sh lg pol tim b w _ a hn q (br_t rfl g)

theorem xr_ct (post : Int32 → Prop) (e : Nat) (he : e < 6)
    (h0 : gq_ct act e = false → post 0) (h1 : gq_ct act e = true → post 1) :
    wpX_isContingent post (nI n, nI h, ij, wa, f, ph, rd, lim, act, sh, lg, pol, tim, b, w) (nI e) := xd_ct n h ij wa ph rd lim act sh lg pol tim post f b w e he h0 h1

theorem xr_run (post : Int32 → Prop) (c : Nat) (hc : c < 6) (ha : act c = nI (gq_ac act c)) (ha6 : gq_ac act c < 6)
    (h1 : tim c = -1 → ¬ tim (gq_ac act c) = -1 → post 1) (h0 : (¬ tim c = -1 ∨ tim (gq_ac act c) = -1) → post 0) :
    wpX_isRunning post (nI n, nI h, ij, wa, f, ph, rd, lim, act, sh, lg, pol, tim, b, w) (nI c) := by
  refine ⟨xd_i1 c hc, ?_⟩
  rw [xd_c1 c hc, ha, xd_c1 _ ha6]
  exact br_c (fun q => ⟨xd_i1 c hc, xd_i1 _ ha6, br_c (fun q2 => h0 (Or.inr q2)) (fun q2 => h1 q q2)⟩) (fun q => h0 (Or.inl q))

theorem xr_ela (post : Int32 → Prop) (c : Nat) (hc : c < 6) (ha : act c = nI (gq_ac act c)) (ha6 : gq_ac act c < 6)
    (g : post (rd - tim (gq_ac act c))) : wpX_elapsed post (nI n, nI h, ij, wa, f, ph, rd, lim, act, sh, lg, pol, tim, b, w) (nI c) := by
  refine ⟨xd_i1 c hc, ?_⟩
  rw [xd_c1 c hc, ha, xd_c1 _ ha6]
  exact ⟨xd_i1 _ ha6, g⟩

theorem xr_all (hn : n ≤ 6) (post : Int32 → Prop) (hT : ∀ e, e < n → tim e = -1 ∨ ∃ t, t ≤ 7 ∧ tim e = nI t)
    (h1 : gm_full n (gq_p tim) → post 1) (h0 : ¬ gm_full n (gq_p tim) → post 0) : wpX_allHaveTimes post (nI n, nI h, ij, wa, f, ph, rd, lim, act, sh, lg, pol, tim, b, w) := by
  refine loop_0 (fun m i (_ : Unit) => wX_allHaveTimes_2 post (nI n) (nI h) ij wa f ph rd lim act sh lg pol tim b w m (nI i))
    (fun i _ => ∀ e, e < i → gq_p tim e ≠ 100) n () (fun u hu => absurd hu (by omega)) ?_ ?_
  · intro m _ hs
    exact br_t (Int32.le_refl _) (h1 hs)
  · intro m i _ hi hs ih
    have hi6 : i < 6 := by omega
    refine br_f (nI_ge hi (by omega)) ⟨xd_i1 i hi6, ?_⟩
    rw [xd_c1 i hi6]
    refine br_c (fun q => h0 (fun z => z i hi (gq_p_n tim i q))) (fun q => nm_r (nI_1 i) (ih () (fun e he => ?_)))
    by_cases x : e = i
    · rw [x]
      rcases hT i hi with z | ⟨t, ht, z⟩
      · exact absurd z q
      · rw [gq_p_t tim i t (by omega) z]; omega
    · exact hs e (by omega)

theorem xr_soon (hn : n ≤ 6) (t : Nat) (ht : t ≤ 7) (hrd : rd = nI t) (post : Int32 → Prop)
    (hT : ∀ e, e < n → tim e = -1 ∨ ∃ t, t ≤ 7 ∧ tim e = nI t) (v e : Nat) (hv : v < n) (he : e < n)
    (g : ∀ r : Int32, r.toInt = gh_soon (gq_ct act) (gq_p tim) (t : Int) e v → post r) : wpX_soonest post (nI n, nI h, ij, wa, f, ph, rd, lim, act, sh, lg, pol, tim, b, w) (nI v) (nI e) := by
  have hv6 : v < 6 := by omega
  have t0 : rd.toInt = (t : Int) := by rw [hrd]; exact gq_nI t (by omega)
  have t1 : (rd + 1).toInt = (t : Int) + 1 := by
    have e1 : (1 : Int32).toInt = 1 := by decide
    rw [gn_add _ _ ⟨by omega, by omega⟩ ⟨by omega, by omega⟩, t0, e1]
  refine ⟨xd_i1 v hv6, ?_⟩
  rw [xd_c1 v hv6]
  refine br_c (fun q => ?_) (fun q => ⟨xd_i1 v hv6, g _ ?_⟩)
  · have p0 := gq_p_n tim v q
    refine br_c (fun q2 => g _ ?_) (fun q2 => ?_)
    · have x := (nI_leI (by omega) (by omega)).1 q2
      unfold gh_soon
      rw [if_neg (fun z => z p0), if_neg (by omega)]
      exact t1
    · have x : e < v := by
        by_cases z : e < v
        · exact z
        · exact absurd (nI_le (by omega) (by omega)) q2
      refine xr_ct n h ij wa f ph rd lim act sh lg pol tim b w _ v hv6 (fun z => br_t rfl (g _ ?_)) (fun z => br_f (by decide) (g _ ?_))
      · unfold gh_soon
        rw [if_neg (fun z => z p0), if_pos ⟨x, z⟩]
        exact t0
      · unfold gh_soon
        rw [if_neg (fun z => z p0), if_neg (fun y => by rw [z] at y; simp at y)]
        exact t1
  · rcases hT v hv with z | ⟨τ, hτ, z⟩
    · exact absurd z q
    · have p1 := gq_p_t tim v τ (by omega) z
      unfold gh_soon
      rw [if_pos (by rw [p1]; omega), p1, z]
      exact gq_nI τ (by omega)

theorem xr_can (hn : n ≤ 6) (hn1 : 1 ≤ n) (h0ct : gq_ct act 0 = false) (t : Nat) (ht : t ≤ 7) (hrd : rd = nI t) (post : Int32 → Prop)
    (hT : ∀ e, e < n → tim e = -1 ∨ ∃ t, t ≤ 7 ∧ tim e = nI t)
    (hA : ∀ k, k < n → gq_ct act k = true → act k = nI (gq_ac act k) ∧ gq_ac act k < n)
    (hB : ∀ u v, u < n → v < n → -7 ≤ gd_t b u v ∧ gd_t b u v ≤ 7) (e : Nat) (he : e < n)
    (h1 : gh_can n (gq_ct act) (gq_ac act) (gd_t b) (gd_t w) (gq_p tim) (t : Int) e → post 1)
    (h0 : ¬ gh_can n (gq_ct act) (gq_ac act) (gd_t b) (gd_t w) (gq_p tim) (t : Int) e → post 0) :
    wpX_canExecute post (nI n, nI h, ij, wa, f, ph, rd, lim, act, sh, lg, pol, tim, b, w) (nI e) := by
  have he6 : e < 6 := by omega
  have t0 : rd.toInt = (t : Int) := by rw [hrd]; exact gq_nI t (by omega)
  refine loop_0 (fun m i (_ : Unit) => wX_canExecute_2 post (nI e) (nI n) (nI h) ij wa f ph rd lim act sh lg pol tim b w m (nI i))
    (fun i _ => ∀ v, v < i → v ≠ e → gh_soon (gq_ct act) (gq_p tim) (t : Int) e v ≤ (t : Int) + gd_t b e v) n () (fun u hu => absurd hu (by omega)) ?_ ?_
  · intro m _ hs
    refine br_t (Int32.le_refl _) ?_
    refine pk_loop (fun m i (_ : Unit) => wX_canExecute_50 post (nI e) (nI n) (nI h) ij wa f ph rd lim act sh lg pol tim b w m (nI i))
      (fun i _ => ∀ c, c < i → gq_ct act c = true → gq_p tim c = 100 → gq_p tim (gq_ac act c) ≠ 100 → gd_t w c e ≤ (t : Int) - gq_p tim (gq_ac act c)) n 1 () hn1 ?_ ?_ ?_
    · intro c hc hcc
      have z : c = 0 := by omega
      rw [z, h0ct] at hcc
      simp at hcc
    · intro m _ hs2
      exact br_t (Int32.le_refl _) (h1 ⟨fun v hv hve => hs v hv hve, fun c hc => hs2 c hc⟩)
    · intro m c _ hc hs2 ih
      have hc6 : c < 6 := by omega
      have nx : (gq_ct act c = true → gq_p tim c = 100 → gq_p tim (gq_ac act c) ≠ 100 → gd_t w c e ≤ (t : Int) - gq_p tim (gq_ac act c)) →
          wX_canExecute_50 post (nI e) (nI n) (nI h) ij wa f ph rd lim act sh lg pol tim b w m (nI (c + 1)) := by
        intro z
        refine ih () (fun c' hc' => ?_)
        by_cases x : c' = c
        · rw [x]; exact z
        · exact hs2 c' (by omega)
      refine br_f (nI_ge hc (by omega)) (xr_ct n h ij wa f ph rd lim act sh lg pol tim b w _ c hc6 (fun z => ?_) (fun z => ?_))
      · exact br_t rfl (nm_r (nI_1 c) (nx (fun y => by rw [z] at y; simp at y)))
      · obtain ⟨a1, a2⟩ := hA c hc z
        have a6 : gq_ac act c < 6 := by omega
        refine br_f (by decide) (xr_run n h ij wa f ph rd lim act sh lg pol tim b w _ c hc6 a1 a6 (fun q1 q2 => ?_) (fun q => ?_))
        · refine br_f (by decide) (xr_ela n h ij wa f ph rd lim act sh lg pol tim b w _ c hc6 a1 a6 ⟨xd_in c e hc6 he6, ?_⟩)
          rw [xd_cl c e hc6 he6]
          rcases hT _ a2 with y | ⟨τ, hτ, y⟩
          · exact absurd y q2
          · have p1 := gq_p_t tim _ τ (by omega) y
            have er : (rd - tim (gq_ac act c)).toInt = (t : Int) - gq_p tim (gq_ac act c) := by
              have e2 := gq_nI τ (by omega)
              rw [y, gn_sub _ _ ⟨by omega, by omega⟩ ⟨by omega, by omega⟩, t0, p1, e2]
            refine br_c (fun q3 => nm_r (nI_1 c) (nx (fun _ _ _ => ?_))) (fun q3 => h0 (fun y2 => ?_))
            · have x := (gn_le _ _).1 q3
              rw [er] at x
              exact x
            · have x := (gn_lt _ _).1 (Int32.not_le.1 q3)
              rw [er] at x
              have x2 := y2.2 c hc z (gq_p_n tim c q1) (by rw [p1]; omega)
              unfold gd_t at x2
              omega
        · refine br_t rfl (nm_r (nI_1 c) (nx (fun _ y1 y2 => ?_)))
          rcases q with q | q
          · rcases hT c hc with y | ⟨τ, hτ, y⟩
            · exact absurd y q
            · rw [gq_p_t tim c τ (by omega) y] at y1; omega
          · exact absurd (gq_p_n tim _ q) y2
  · intro m v _ hv hs ih
    have hv6 : v < 6 := by omega
    have nx : (v ≠ e → gh_soon (gq_ct act) (gq_p tim) (t : Int) e v ≤ (t : Int) + gd_t b e v) → wX_canExecute_2 post (nI e) (nI n) (nI h) ij wa f ph rd lim act sh lg pol tim b w m (nI (v + 1)) := by
      intro z
      refine ih () (fun v' hv' => ?_)
      by_cases x : v' = v
      · rw [x]; exact z
      · exact hs v' (by omega)
    refine br_f (nI_ge hv (by omega)) (br_c (fun q => ?_) (fun q => ?_))
    · exact nm_r (nI_1 v) (nx (fun z => absurd ((nI_eq (by omega) (by omega)).1 q) z))
    · refine xr_soon n h ij wa f ph rd lim act sh lg pol tim b w hn t ht hrd _ hT v e hv he (fun r hr => ⟨xd_in e v he6 hv6, ?_⟩)
      rw [xd_cl e v he6 hv6]
      have r1 := hB e v he hv
      have er : (rd + b (e * 6 + v)).toInt = (t : Int) + gd_t b e v := by
        unfold gd_t at r1 ⊢
        rw [gn_add _ _ ⟨by omega, by omega⟩ ⟨by omega, by omega⟩, t0]
      refine br_c (fun q3 => nm_r (nI_1 v) (nx (fun _ => ?_))) (fun q3 => h0 (fun y => ?_))
      · have x := (gn_le _ _).1 q3
        rw [er, hr] at x
        exact x
      · have x := (gn_lt _ _).1 (Int32.not_le.1 q3)
        rw [er, hr] at x
        have x2 := y.1 v hv (fun z => q (by rw [z]))
        omega

theorem xr_dec (hn : n ≤ 6) (t : Nat) (ht : t ≤ 7) (hrd : rd = nI t) (post : Int32 → Prop)
    (hT : ∀ e, e < n → tim e = -1 ∨ ∃ t, t ≤ 7 ∧ tim e = nI t)
    (hB : ∀ u v, u < n → v < n → -7 ≤ gd_t b u v ∧ gd_t b u v ≤ 7) (e : Nat) (he : e < n)
    (h1 : gh_skip n (gd_t b) (gq_p tim) (t : Int) e → post 1) (h0 : ¬ gh_skip n (gd_t b) (gq_p tim) (t : Int) e → post 0) :
    wpX_canDecline post (nI n, nI h, ij, wa, f, ph, rd, lim, act, sh, lg, pol, tim, b, w) (nI e) := by
  have he6 : e < 6 := by omega
  have t0 : rd.toInt = (t : Int) := by rw [hrd]; exact gq_nI t (by omega)
  refine loop_0 (fun m i (_ : Unit) => wX_canDecline_2 post (nI e) (nI n) (nI h) ij wa f ph rd lim act sh lg pol tim b w m (nI i))
    (fun i _ => ∀ u, u < i → gq_p tim u ≠ 100 → (t : Int) < gq_p tim u + gd_t b u e) n () (fun u hu => absurd hu (by omega)) ?_ ?_
  · intro m _ hs
    exact br_t (Int32.le_refl _) (h1 hs)
  · intro m u _ hu hs ih
    have hu6 : u < 6 := by omega
    have nx : (gq_p tim u ≠ 100 → (t : Int) < gq_p tim u + gd_t b u e) → wX_canDecline_2 post (nI e) (nI n) (nI h) ij wa f ph rd lim act sh lg pol tim b w m (nI (u + 1)) := by
      intro z
      refine ih () (fun u' hu' => ?_)
      by_cases x : u' = u
      · rw [x]; exact z
      · exact hs u' (by omega)
    refine br_f (nI_ge hu (by omega)) ⟨xd_i1 u hu6, ?_⟩
    rw [xd_c1 u hu6, xd_cl u e hu6 he6]
    refine br_c (fun q => nm_r (nI_1 u) (nx (fun z => absurd (gq_p_n tim u q) z))) (fun q => ⟨xd_i1 u hu6, xd_in u e hu6 he6, ?_⟩)
    rcases hT u hu with y | ⟨τ, hτ, y⟩
    · exact absurd y q
    · have p1 := gq_p_t tim u τ (by omega) y
      have r1 := hB u e hu he
      have er : (tim u + b (u * 6 + e)).toInt = gq_p tim u + gd_t b u e := by
        have e2 := gq_nI τ (by omega)
        unfold gd_t at r1 ⊢
        rw [y, gn_add _ _ ⟨by omega, by omega⟩ ⟨by omega, by omega⟩, p1, e2]
      refine br_c (fun q3 => nm_r (nI_1 u) (nx (fun _ => ?_))) (fun q3 => h0 (fun z => ?_))
      · have x := (gn_lt _ _).1 q3
        rw [er, t0] at x
        exact x
      · have x2 := z u hu (by rw [p1]; omega)
        exact q3 ((gn_lt _ _).2 (by rw [er, t0]; exact x2))

theorem xr_now (hn : n ≤ 6) (hn1 : 1 ≤ n) (h0ct : gq_ct act 0 = false) (t : Nat) (ht : t ≤ 7) (hrd : rd = nI t) (post : Int32 → Prop)
    (hT : ∀ e, e < n → tim e = -1 ∨ ∃ t, t ≤ 7 ∧ tim e = nI t)
    (hA : ∀ k, k < n → gq_ct act k = true → act k = nI (gq_ac act k) ∧ gq_ac act k < n)
    (hB : ∀ u v, u < n → v < n → -7 ≤ gd_t b u v ∧ gd_t b u v ≤ 7) (e : Nat) (he : e < n)
    (e1 : pol e = 0 → gh_can n (gq_ct act) (gq_ac act) (gd_t b) (gd_t w) (gq_p tim) (t : Int) e → post 1)
    (e0 : pol e = 0 → ¬ gh_can n (gq_ct act) (gq_ac act) (gd_t b) (gd_t w) (gq_p tim) (t : Int) e → post 0)
    (z1 : ¬ pol e = 0 → gh_skip n (gd_t b) (gq_p tim) (t : Int) e → post 0)
    (z0 : ¬ pol e = 0 → ¬ gh_skip n (gd_t b) (gq_p tim) (t : Int) e → post 1) :
    wpX_isExecutedNow post (nI n, nI h, ij, wa, f, ph, rd, lim, act, sh, lg, pol, tim, b, w) (nI e) := by
  have he6 : e < 6 := by omega
  refine ⟨xd_i1 e he6, ?_⟩
  rw [xd_c1 e he6]
  refine br_c (fun q => ?_) (fun q => ?_)
  · exact xr_can n h ij wa f ph rd lim act sh lg pol tim b w hn hn1 h0ct t ht hrd _ hT hA hB e he
      (fun z => ⟨rfl, e1 q z⟩) (fun z => ⟨rfl, e0 q z⟩)
  · exact xr_dec n h ij wa f ph rd lim act sh lg pol tim b w hn t ht hrd _ hT hB e he
      (fun z => br_f (by decide) (z1 q z)) (fun z => br_t rfl (z0 q z))
end xr
