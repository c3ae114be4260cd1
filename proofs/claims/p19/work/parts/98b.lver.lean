-- the law: reading the network, verdict and start: its walks
section lv
variable (n h : Nat) (ij wa f : Int32) (lim act sh lg pol tim b w : Nat → Int32) (Ls : Nat) (xs : Nat → Int32)

theorem lv_562 (h6 : n ≤ 6) (hN : gm_net n h (gd_t lim) (gq_ct act) (gq_ac act) (gq_i sh) (gq_i lg)) (hA : ∀ k, k < n → gq_ct act k = true → act k = nI (gq_ac act k) ∧ gq_ac act k < n)
    (post : Int32 → Prop) (J44 : Int32 → Int32 → Int32 → Int32 → Int32 → Int32 → Int32 → Int32 → Int32 → (Nat → Int32) → (Nat → Int32) → (Nat → Int32) → (Nat → Int32) → (Nat → Int32) → (Nat → Int32) → (Nat → Int32) → (Nat → Int32) → Prop) (J412 : Int64 → Int64 → Int64 → Int32 → Prop) (x3 x5 : Int32) (l0 l1 : Int64) (kc ks u N : Nat) (hu1 : 1 ≤ u) (hu : u < n) (hc : gq_ct act u = true) (hQ : lr_Q n act sh lg (3 * u) N)
    (g : ∀ N', lr_Q n act sh lg (3 * u + 3) N' → J412 l0 l1 (lN N') (nI (u + 1))) :
    ∃ m, wL_law_562 post Ls xs J44 J412 (nI n) (nI h) x3 x5 l0 l1 (nI u) kc ks (nI n) (nI h) ij wa f 0 (nI 0) lim act sh lg pol tim b w m (lN N) 0 := by
  have h7 : h ≤ 7 := hN.2.2.1
  refine loop_0 (fun m k (s : Int64) => wL_law_562 post Ls xs J44 J412 (nI n) (nI h) x3 x5 l0 l1 (nI u) kc ks (nI n) (nI h) ij wa f 0 (nI 0) lim act sh lg pol tim b w m s (nI k)) (fun k s => ∃ N, s = lN N ∧ lr_Q n act sh lg (3 * u + k) N) 3 (lN N) ⟨N, rfl, hQ⟩ ?_ ?_
  · intro m s hs
    obtain ⟨N', e, hq⟩ := hs
    subst e
    exact br_t (Int32.le_refl _) (nm_r (nI_1 u) (g N' hq))
  · intro m k s hk hs ih
    obtain ⟨N', e, hq⟩ := hs
    subst e
    have bb := hN.2.2.2.2.2.2 u hu hc
    have b54 := lr_Q_b n h lim act sh lg hN (3 * u + k) N' (by omega) hq
    have tl := lr_tg_lt n h lim act sh lg hN (3 * u + k)
    refine br_f (nI_ge (b := 3) hk (by decide)) (om_link n h 0 ij wa f 0 lim act sh lg pol tim b w h6 _ u k hu1 hu hk (fun z => by rw [hc] at z; simp at z) (fun _ => ?_))
    have er : (if k = 0 then act u else if k = 1 then sh u else lg u) = nI (lr_tg n act sh lg (3 * u + k)) := by
      apply gq_inj
      rw [gq_nI _ (by omega)]
      unfold lr_tg
      rw [show (3 * u + k) / 3 = u by omega, show (3 * u + k) % 3 = k by omega, if_neg (show ¬ u = 0 by omega), if_pos hu, if_pos hc]
      by_cases k0 : k = 0
      · rw [if_pos k0, if_pos k0, (hA u hu hc).1, gq_nI _ (by omega)]
      · rw [if_neg k0, if_neg k0]
        by_cases k1 : k = 1
        · rw [if_pos k1, if_pos k1]
          show gq_i sh u = _
          omega
        · rw [if_neg k1, if_neg k1]
          show gq_i lg u = _
          omega
    have em : nI (lr_tg n act sh lg (3 * u + k)) &&& 7 = nI (lr_tg n act sh lg (3 * u + k)) := by
      rw [pk_andN (by omega) 3 (by decide), Nat.mod_eq_of_lt (by omega)]
    have e9 : (9 : Int32) * nI u + 3 * nI k = nI (3 * (3 * u + k)) := by
      have e9 : (9 : Int32) = nI 9 := by decide
      have e3 : (3 : Int32) = nI 3 := by decide
      rw [e9, e3, pk_mul, pk_mul, nI_add]
      congr 1
      omega
    rw [er, em, e9]
    exact nm_r (lr_or3 N' _ _ b54 tl (by omega)) (nm_r (nI_1 k) (ih _ ⟨_, rfl, lr_Q_put n act sh lg (3 * u + k) N' _ tl hq rfl⟩))

theorem lv_457 (h6 : n ≤ 6) (hlr : ∀ u v, u < n → v < n → -7 ≤ gd_t lim u v ∧ gd_t lim u v ≤ 7)
    (post : Int32 → Prop) (J44 : Int32 → Int32 → Int32 → Int32 → Int32 → Int32 → Int32 → Int32 → Int32 → (Nat → Int32) → (Nat → Int32) → (Nat → Int32) → (Nat → Int32) → (Nat → Int32) → (Nat → Int32) → (Nat → Int32) → (Nat → Int32) → Prop) (J412 : Int64 → Int64 → Int64 → Int32 → Prop) (J421 : Int64 → Int64 → Int32 → Prop) (x3 x5 : Int32) (lk : Int64) (kc ks u v z N0 N1 : Nat) (hu : u < n) (hv : v < n) (huv : u ≠ v) (hz : u * 5 + z = lc_ix u v)
    (hP : lr_P n lim (lr_b u v) N0 N1) (g : ∀ N0' N1', lr_P n lim (lr_b u (v + 1)) N0' N1' → J421 (lN N0') (lN N1') (nI (v + 1))) :
    wL_law_457 post Ls xs J44 J412 J421 (nI n) (nI h) x3 x5 (lN N0) (lN N1) lk (nI u) (nI v) (nI z) (nI u * 5) kc ks (nI n) (nI h) ij wa f 0 (nI 0) lim act sh lg pol tim b w := by
  obtain ⟨i1, i2, i3, i4, i5⟩ := lr_ix u v (by omega) (by omega) huv
  have e5 : nI u * 5 + nI z = nI (lc_ix u v) := by
    have e5 : (5 : Int32) = nI 5 := by decide
    rw [e5, pk_mul, nI_add, hz]
  rw [i4] at hP
  rw [i5] at g
  have b60 := lr_b60 n lim hlr _ N0 N1 hP
  refine nm_r e5 (om_lim n h 0 ij wa f 0 lim act sh lg pol tim b w h6 _ u v hu hv huv ?_)
  have r := hlr u v hu hv
  have hy : ∃ y : Nat, y < 16 ∧ (y : Int) = gd_t lim u v + 7 ∧ (lim (u * 6 + v) + 7) &&& 15 = nI y := by
    refine ⟨(gd_t lim u v + 7).toNat, by omega, by omega, ?_⟩
    have e7 : (7 : Int32).toInt = 7 := by decide
    have e1 : lim (u * 6 + v) + 7 = nI (gd_t lim u v + 7).toNat := by
      apply gq_inj
      rw [gq_nI _ (by omega), gn_add _ _ ⟨by unfold gd_t at r; omega, by unfold gd_t at r; omega⟩ ⟨by omega, by omega⟩, e7]
      show gd_t lim u v + 7 = _
      omega
    rw [e1, pk_andN (by omega) 4 (by decide), Nat.mod_eq_of_lt (by omega)]
  obtain ⟨y, hy16, hyv, hye⟩ := hy
  have put := lr_put n lim hlr (lc_ix u v) N0 N1 i3 ⟨by rw [i1]; exact hu, by rw [i2]; exact hv⟩ hP y hy16 (by rw [i1, i2]; exact hyv)
  generalize lc_ix u v = i at *
  have e4 : (4 : Int32) = nI 4 := by decide
  have e15 : (15 : Int32) = nI 15 := by decide
  rw [hye]
  refine nm_e (br_c (fun q => ?_) (fun q => ?_))
  · have q' : 15 ≤ i := (nI_leI (a := 15) (by omega) (by omega)).1 q
    have k1 : (4 : Int32) * (nI i - 15) = nI (4 * (i - 15)) := by rw [e15, pk_sub q', e4, pk_mul]
    rw [k1]
    exact nm_r (lr_or N1 y _ b60.2 hy16 (by omega)) (nm_r (nI_1 v) (g _ _ (put.2 q')))
  · have q' : i < 15 := by
      by_cases w : i < 15
      · exact w
      · exact absurd (nI_le (a := 15) (by omega) (by omega)) q
    rw [lc_4]
    exact nm_r (lr_or N0 y _ b60.1 hy16 (by omega)) (nm_r (nI_1 v) (g _ _ (put.1 q')))

theorem lv_421 (h6 : n ≤ 6) (hN : gm_net n h (gd_t lim) (gq_ct act) (gq_ac act) (gq_i sh) (gq_i lg)) (hA : ∀ k, k < n → gq_ct act k = true → act k = nI (gq_ac act k) ∧ gq_ac act k < n)
    (hlr : ∀ u v, u < n → v < n → -7 ≤ gd_t lim u v ∧ gd_t lim u v ≤ 7)
    (post : Int32 → Prop) (J44 : Int32 → Int32 → Int32 → Int32 → Int32 → Int32 → Int32 → Int32 → Int32 → (Nat → Int32) → (Nat → Int32) → (Nat → Int32) → (Nat → Int32) → (Nat → Int32) → (Nat → Int32) → (Nat → Int32) → (Nat → Int32) → Prop) (J412 : Int64 → Int64 → Int64 → Int32 → Prop) (x3 x5 : Int32) (kc ks u N0 N1 N : Nat) (hu : u < n) (hP : lr_P n lim (5 * u) N0 N1) (hQ : lr_Q n act sh lg (if u = 0 then 3 else 3 * u) N)
    (g : ∀ N0' N1' N', lr_P n lim (5 * (u + 1)) N0' N1' → lr_Q n act sh lg (3 * (u + 1)) N' → J412 (lN N0') (lN N1') (lN N') (nI (u + 1))) :
    ∃ m, wL_law_421 post Ls xs J44 J412 (nI n) (nI h) x3 x5 (lN N) (nI u) kc ks (nI n) (nI h) ij wa f 0 (nI 0) lim act sh lg pol tim b w m (lN N0) (lN N1) 0 := by
  have hu6 : u < 6 := by omega
  refine loop_0 (fun m v (s : Int64 × Int64) => wL_law_421 post Ls xs J44 J412 (nI n) (nI h) x3 x5 (lN N) (nI u) kc ks (nI n) (nI h) ij wa f 0 (nI 0) lim act sh lg pol tim b w m s.1 s.2 (nI v)) (fun v s => ∃ N0 N1, s = (lN N0, lN N1) ∧ lr_P n lim (lr_b u v) N0 N1) n (lN N0, lN N1)
    ⟨N0, N1, rfl, by unfold lr_b; rw [if_pos (by omega), show u * 5 + 0 = 5 * u by omega]; exact hP⟩ ?_ ?_
  · intro m s hs
    obtain ⟨M0, M1, e, hp⟩ := hs
    subst e
    have hp' : lr_P n lim (5 * (u + 1)) M0 M1 := by
      refine lr_P_c n lim (lr_b u n) _ M0 M1 (by unfold lr_b; rw [if_neg (by omega)]; omega) (fun i h1 h2 z => ?_) hp
      unfold lr_b at h1
      rw [if_neg (by omega)] at h1
      have zv := z.2
      unfold lr_v at zv
      split at zv <;> omega
    refine br_t (Int32.le_refl _) (br_c (fun q => ?_) (fun q => ?_))
    · have u0 : u = 0 := (nI_eq (b := 0) (by omega) (by omega)).1 q
      refine nm_r (nI_1 u) (g M0 M1 N hp' ?_)
      rw [if_pos u0] at hQ
      rw [u0]
      exact hQ
    · have u0 : ¬ u = 0 := fun z => q (by rw [z]; rfl)
      rw [if_neg u0] at hQ
      refine om_link n h 0 ij wa f 0 lim act sh lg pol tim b w h6 _ u 0 (by omega) hu (by omega) (fun hc => br_t rfl ?_) (fun hc => br_f ?_ ?_)
      · have b54 := lr_Q_b n h lim act sh lg hN (3 * u) N (by omega) hQ
        have e9 : (9 : Int32) * nI u = nI (3 * (3 * u)) := by
          have e9 : (9 : Int32) = nI 9 := by decide
          rw [e9, pk_mul]
          congr 1
          omega
        have e7 : (7 : Int64) = (nI 7).toInt64 := by decide
        rw [e9, e7]
        refine nm_r (lr_or3 N 7 _ b54 (by omega) (by omega)) (nm_r (nI_1 u) (g M0 M1 _ hp' ?_))
        refine lr_Q_c n act sh lg (3 * u + 1) _ _ (by omega) (fun j h1 h2 => ?_) (lr_Q_put n act sh lg (3 * u) N 7 (by omega) hQ ?_)
        · unfold lr_tg
          rw [show j / 3 = u by omega, if_neg u0, if_pos hu, if_neg (by rw [hc]; simp), if_neg (by omega)]
        · unfold lr_tg
          rw [show 3 * u / 3 = u by omega, if_neg u0, if_pos hu, if_neg (by rw [hc]; simp), if_pos (by omega)]
      · rw [if_pos rfl, (hA u hu hc).1]
        exact gq_nI100 _ (by have := (hA u hu hc).2; omega)
      · exact lv_562 n h ij wa f lim act sh lg pol tim b w Ls xs h6 hN hA post J44 J412 x3 x5 (lN M0) (lN M1) kc ks u N (by omega) hu hc hQ (fun N' hq => g M0 M1 N' hp' hq)
  · intro m v s hv hs ih
    obtain ⟨M0, M1, e, hp⟩ := hs
    subst e
    refine br_f (nI_ge hv (by omega)) (br_c (fun q => ?_) (fun q => ?_))
    · have uv : u = v := (nI_eq (by omega) (by omega)).1 q
      refine nm_r (nI_1 v) (ih (lN M0, lN M1) ⟨M0, M1, rfl, ?_⟩)
      unfold lr_b at hp ⊢
      rw [if_pos (by omega)] at hp
      rw [if_neg (by omega)]
      exact hp
    · have uv : u ≠ v := fun z => q (by rw [z])
      have nx : ∀ N0' N1', lr_P n lim (lr_b u (v + 1)) N0' N1' → wL_law_421 post Ls xs J44 J412 (nI n) (nI h) x3 x5 (lN N) (nI u) kc ks (nI n) (nI h) ij wa f 0 (nI 0) lim act sh lg pol tim b w m (lN N0') (lN N1') (nI (v + 1)) :=
        fun N0' N1' hp' => ih (lN N0', lN N1') ⟨N0', N1', rfl, hp'⟩
      refine br_c (fun q2 => ?_) (fun q2 => ?_)
      · have q' : u ≤ v := (nI_leI (by omega) (by omega)).1 q2
        have e1 : nI v - 1 = nI (v - 1) := pk_sub (b := 1) (by omega)
        rw [e1]
        exact lv_457 n h ij wa f lim act sh lg pol tim b w Ls xs h6 hlr post J44 J412 _ x3 x5 (lN N) kc ks u v (v - 1) M0 M1 hu hv uv (by unfold lc_ix; rw [if_neg (by omega)]) hp nx
      · have q' : v < u := by
          by_cases w : v < u
          · exact w
          · exact absurd (nI_le (by omega) (by omega)) q2
        exact lv_457 n h ij wa f lim act sh lg pol tim b w Ls xs h6 hlr post J44 J412 _ x3 x5 (lN N) kc ks u v v M0 M1 hu hv uv (by unfold lc_ix; rw [if_pos q']) hp nx

/-- the times at the beginning, packed -/
theorem lv_pin (hn : n = 3 ∨ n = 4 ∨ n = 5 ∨ n = 6) : ∃ N x, lw_T n (fun e : Nat => if e = 0 then (0 : Int) else 100) N x ∧ ((1 : Int32) <<< ((4 * nI n) &&& 31)) - 16 = nI N := by
  have key : ∀ N : Nat, lb4_P N (fun e => if e = 0 then 0 else if e < n then 15 else 0) → lw_T n (fun e : Nat => if e = 0 then (0 : Int) else 100) N (fun e => if e = 0 then 0 else if e < n then 15 else 0) := by
    intro N hP
    have hz : ∀ e, n ≤ e → (if e = 0 then 0 else if e < n then 15 else 0) = 0 := fun e he => by rw [if_neg (by omega), if_neg (by omega)]
    have hlt := lb4_lt N _ hP n hz
    have hle : 2 ^ (4 * n) ≤ 2 ^ 24 := Nat.pow_le_pow_right (by decide) (by omega)
    refine ⟨hP, Nat.lt_of_lt_of_le hlt hle, hz, fun e he => ?_⟩
    show ((if e = 0 then (0 : Int) else 100) = 100 ∧ (if e = 0 then 0 else if e < n then 15 else 0) = 15) ∨ (0 ≤ (if e = 0 then (0 : Int) else 100) ∧ (if e = 0 then (0 : Int) else 100) ≤ 7 ∧ ((if e = 0 then 0 else if e < n then 15 else 0 : Nat) : Int) = (if e = 0 then (0 : Int) else 100))
    by_cases q : e = 0
    · rw [if_pos q, if_pos q]; exact Or.inr ⟨by omega, by omega, rfl⟩
    · rw [if_neg q, if_neg q, if_pos he]; exact Or.inl ⟨rfl, rfl⟩
  have b2 := lb4_or _ _ (lb4_or _ _ lb4_0 1 15 (by decide)) 2 15 (by decide)
  have b3 := lb4_or _ _ b2 3 15 (by decide)
  have b4 := lb4_or _ _ b3 4 15 (by decide)
  have b5 := lb4_or _ _ b4 5 15 (by decide)
  rcases hn with e | e | e | e
  · subst e
    exact ⟨_, _, key 4080 (lb4_c 4080 _ _ b2 (fun i => by
      by_cases c0 : i = 0
      · subst c0; rfl
      · by_cases c1 : i = 1
        · subst c1; rfl
        · by_cases c2 : i = 2
          · subst c2; rfl
          · simp [c0, c1, c2]; omega)), by decide⟩
  · subst e
    exact ⟨_, _, key 65520 (lb4_c 65520 _ _ b3 (fun i => by
      by_cases c0 : i = 0
      · subst c0; rfl
      · by_cases c1 : i = 1
        · subst c1; rfl
        · by_cases c2 : i = 2
          · subst c2; rfl
          · by_cases c3 : i = 3
            · subst c3; rfl
            · simp [c0, c1, c2, c3]; omega)), by decide⟩
  · subst e
    exact ⟨_, _, key 1048560 (lb4_c 1048560 _ _ b4 (fun i => by
      by_cases c0 : i = 0
      · subst c0; rfl
      · by_cases c1 : i = 1
        · subst c1; rfl
        · by_cases c2 : i = 2
          · subst c2; rfl
          · by_cases c3 : i = 3
            · subst c3; rfl
            · by_cases c4 : i = 4
              · subst c4; rfl
              · simp [c0, c1, c2, c3, c4]; omega)), by decide⟩
  · subst e
    exact ⟨_, _, key 16777200 (lb4_c 16777200 _ _ b5 (fun i => by
      by_cases c0 : i = 0
      · subst c0; rfl
      · by_cases c1 : i = 1
        · subst c1; rfl
        · by_cases c2 : i = 2
          · subst c2; rfl
          · by_cases c3 : i = 3
            · subst c3; rfl
            · by_cases c4 : i = 4
              · subst c4; rfl
              · by_cases c5 : i = 5
                · subst c5; rfl
                · simp [c0, c1, c2, c3, c4, c5]; omega)), by decide⟩

theorem lv_412 (h3 : 3 ≤ n) (h6 : n ≤ 6) (h7 : h ≤ 7) (hL : Ls ≤ 260) (B : Nat) (hBB : ls_B n B) (hLm : ol_lim n h lim) (hKk : ol_lk n h act sh lg) (hT : ∀ e, e < n → tim e = -1)
    (hw : wa = 0 ∨ wa = 1) (hJ : ij = 0 ∨ (ij = 1 ∧ gv_jud n h (gd_t lim) (gq_ct act) (gq_ac act) (gq_i sh) (gq_i lg) wa b w))
    (post : Int32 → Prop) (J44 : Int32 → Int32 → Int32 → Int32 → Int32 → Int32 → Int32 → Int32 → Int32 → (Nat → Int32) → (Nat → Int32) → (Nat → Int32) → (Nat → Int32) → (Nat → Int32) → (Nat → Int32) → (Nat → Int32) → (Nat → Int32) → Prop) (k x5 : Nat) (hk : k < 9000) (kc ks : Nat)
    (g : ∀ (k' : Nat) (ij wa f : Int32) (pol tim b w : Nat → Int32), k' ≤ k + 16 → ol_ld n h (nI n, nI h, ij, wa, f, 0, nI 0, lim, act, sh, lg, pol, tim, b, w) → J44 (nI k') (nI (x5 + 1)) (nI n) (nI h) ij wa f 0 (nI 0) lim act sh lg pol tim b w) :
    ∃ m, wL_law_412 post Ls xs J44 (nI n) (nI h) (nI k) (nI x5) kc ks (nI n) (nI h) ij wa f 0 (nI 0) lim act sh lg pol tim b w m 0 0 7 0 := by
  have hN := ol_net n h h3 h6 h7 lim act sh lg hLm hKk
  have hA := gq_link n h act sh lg h6 hKk.2
  have hlr : ∀ u v, u < n → v < n → -7 ≤ gd_t lim u v ∧ gd_t lim u v ≤ 7 := fun u v hu hv => by
    have := hLm.1 u v hu hv
    exact ⟨by omega, by omega⟩
  refine loop_0 (fun m u (s : Int64 × Int64 × Int64) => wL_law_412 post Ls xs J44 (nI n) (nI h) (nI k) (nI x5) kc ks (nI n) (nI h) ij wa f 0 (nI 0) lim act sh lg pol tim b w m s.1 s.2.1 s.2.2 (nI u))
    (fun u s => ∃ N0 N1 N, s = (lN N0, lN N1, lN N) ∧ lr_P n lim (5 * u) N0 N1 ∧ lr_Q n act sh lg (if u = 0 then 3 else 3 * u) N) n (0, 0, 7) ?_ ?_ ?_
  · refine ⟨0, 0, 7, rfl, ⟨lb4_c _ _ _ lb4_0 (fun i => ?_), lb4_c _ _ _ lb4_0 (fun i => ?_)⟩, ?_⟩
    · show 0 = (if i < 15 then lr_z n lim (5 * 0) i else 0)
      have z : lr_z n lim (5 * 0) i = 0 := by unfold lr_z; rw [if_neg (fun y => absurd y.1 (by omega))]
      rw [z]; split <;> rfl
    · show 0 = (if i < 15 then lr_z n lim (5 * 0) (i + 15) else 0)
      have z : lr_z n lim (5 * 0) (i + 15) = 0 := by unfold lr_z; rw [if_neg (fun y => absurd y.1 (by omega))]
      rw [z]; split <;> rfl
    · rw [if_pos rfl]
      refine lb3_c 7 _ _ (lb3_or 0 _ lb3_0 0 7 (by decide)) (fun j => ?_)
      show (if j = 0 then 0 ||| 7 else 0) = (if j < 3 then lr_tg n act sh lg j else 0)
      by_cases c : j = 0
      · rw [if_pos c, if_pos (by omega), c]; rfl
      · rw [if_neg c]
        by_cases c2 : j < 3
        · rw [if_pos c2]
          unfold lr_tg
          rw [if_pos (by omega), if_neg (by omega)]
        · rw [if_neg c2]
  · intro m s hs
    obtain ⟨N0, N1, N, e, hp, hq⟩ := hs
    subst e
    rw [if_neg (by omega)] at hq
    have hp30 : lr_P n lim 30 N0 N1 := lr_P_c n lim (5 * n) 30 N0 N1 (by omega) (fun i h1 h2 z => by have := z.1; omega) hp
    have hq18 : lr_Q n act sh lg 18 N := lr_Q_c n act sh lg (3 * n) 18 N (by omega) (fun j h1 h2 => by
      unfold lr_tg
      rw [if_neg (by omega), if_neg (by omega)]) hq
    have hz := lr_L n lim hlr h6 N0 N1 hp30
    have hK := lr_K n h lim act sh lg hN h3 N hq18
    obtain ⟨P, x0, hT0, eP⟩ := lv_pin n (by omega)
    have hp0 : ∀ e, e < n → e ≠ 0 → (fun e : Nat => if e = 0 then (0 : Int) else 100) e = 100 := by
      intro e _ he
      show (if e = 0 then (0 : Int) else 100) = 100
      rw [if_neg he]
    have hw0 := gv_wf0 n h (gd_t lim) (gq_ct act) (gq_ac act) (gq_i sh) (gq_i lg) hN (fun e : Nat => if e = 0 then (0 : Int) else 100) rfl hp0
    have hiff := gv_val0 n h (gd_t lim) (gq_ct act) (gq_ac act) (gq_i sh) (gq_i lg) hN (fun e : Nat => if e = 0 then (0 : Int) else 100) rfl hp0
    refine br_t (Int32.le_refl _) ?_
    rw [eP]
    refine lx_win n h (gd_t lim) (gq_ct act) (gq_ac act) (gq_i sh) (gq_i lg) B N0 N1 N P hN hBB _ hK _ hz hlr _ (fun e : Nat => if e = 0 then (0 : Int) else 100) x0 hT0 0 (12 * (h + 1)) (by omega) (by omega) hw0 (fun r hv => ?_)
    refine om_ver n h 0 ij wa f lim act sh lg pol tim b w h3 h6 h7 hLm hKk hw hJ _ (fun r2 f b w hr2 hj => ?_)
    have hL2 : ∀ (wa : Int32) (f : Int32) (pol : Nat → Int32) (tim : Nat → Int32) (b w : Nat → Int32), (∀ e, e < n → tim e = -1) → (wa = 0 ∨ wa = 1) → gv_jud n h (gd_t lim) (gq_ct act) (gq_ac act) (gq_i sh) (gq_i lg) wa b w → ol_ld n h (nI n, nI h, 1, wa, f, 0, nI 0, lim, act, sh, lg, pol, tim, b, w) :=
      fun wa f pol tim b w a1 a2 a3 => ⟨1, wa, f, lim, act, sh, lg, pol, tim, b, w, rfl, hLm, hKk, a1, a2, Or.inr ⟨rfl, a3⟩⟩
    rcases hv with ⟨r1, v1⟩ | ⟨r1, v1⟩
    · -- the dispatcher can win
      obtain ⟨T, hT2⟩ := hiff.1 v1
      have e2 : r2 = 1 := by
        rcases hj with ⟨z, _⟩ | ⟨_, z⟩
        · exact z
        · exact absurd hT2 (z T)
      subst r1
      subst e2
      refine br_f (by decide) (br_t rfl ?_)
      refine om_start n h 0 1 1 f lim act sh lg pol tim b w h3 h6 h7 hLm hKk (Or.inr rfl) (Or.inr ⟨rfl, hj⟩) _ (fun f b w hj2 => ?_) (fun f b w hj2 => ?_)
      · have hj3 : gc_fix n (gd_t lim) (gq_ct act) (gq_ac act) (gq_i sh) (gq_i lg) (gd_t b) (gd_t w) ∧ gs_snd n h (gd_t lim) (gq_ct act) (gq_ac act) (gq_i sh) (gq_i lg) (gd_t b) (gd_t w) := by
          rcases hj2 with ⟨_, z⟩ | ⟨z, _⟩
          · exact z
          · exact absurd z (by decide)
        refine br_f (by decide) (br_t rfl (br_f (by decide) ?_))
        refine lz_683 n h 1 1 f lim act sh lg pol (upd tim 0 (nI 0)) b w Ls xs h3 h6 h7 B hBB hLm hKk hj3.1 hj3.2 T hT2 N0 N1 N _ _ hz hK hL post J44 k hk x5 kc ks rfl rfl ?_ ?_
          (fun k' pol' tim' hk' ht' => g k' 1 1 f pol' tim' b w hk' (hL2 1 f pol' tim' b w ht' (Or.inr rfl) hj2))
        · intro e he
          by_cases c : e = 0
          · rw [c, pk_us]; exact Or.inr ⟨0, by omega, rfl⟩
          · rw [pk_un c]; exact Or.inl (hT e he)
        · intro e he
          by_cases c : e = 0
          · rw [c]
            unfold gm_pos
            rw [gm_stp_0, if_pos (by omega), gq_p_t _ 0 0 (by omega) pk_us]
            exact hT2.1
          · have sb := (gm_stp_b (gq_ct act) e (T e) c (by omega)).1
            have tb := hT2.2.1 e he
            unfold gm_pos
            rw [if_neg (by omega), gq_p_n _ e (by rw [pk_un c]; exact hT e he)]
      · rcases hj2 with ⟨z, _⟩ | ⟨_, z⟩
        · exact absurd z (by decide)
        · exact absurd hT2 (z T)
    · have e2 : r2 = 0 := by
        rcases hj with ⟨_, z, _⟩ | ⟨z, _⟩
        · exact absurd (hiff.2 (gv_play n h (gd_t lim) (gq_ct act) (gq_ac act) (gq_i sh) (gq_i lg) hN _ _ z)) v1
        · exact z
      subst r1
      subst e2
      refine br_t rfl (br_t rfl ?_)
      refine om_start n h 0 1 0 f lim act sh lg pol tim b w h3 h6 h7 hLm hKk (Or.inl rfl) (Or.inr ⟨rfl, hj⟩) _ (fun f b w hj2 => ?_) (fun f b w hj2 => ?_)
      · rcases hj2 with ⟨_, z, _⟩ | ⟨z, _⟩
        · exact absurd (hiff.2 (gv_play n h (gd_t lim) (gq_ct act) (gq_ac act) (gq_i sh) (gq_i lg) hN _ _ z)) v1
        · exact absurd z (by decide)
      · exact br_t rfl (br_t rfl (br_t rfl (nm_r (nI_1 x5) (g k 1 0 f pol tim b w (by omega) (hL2 0 f pol tim b w hT (Or.inl rfl) hj2)))))
  · intro m u s hu hs ih
    obtain ⟨N0, N1, N, e, hp, hq⟩ := hs
    subst e
    refine br_f (nI_ge hu (by omega)) (lv_421 n h ij wa f lim act sh lg pol tim b w Ls xs h6 hN hA hlr post J44 _ (nI k) (nI x5) kc ks u N0 N1 N hu hp hq (fun N0' N1' N' a1 a2 => ih (lN N0', lN N1', lN N') ⟨N0', N1', N', rfl, a1, ?_⟩))
    rw [if_neg (by omega)]
    exact a2
end lv
