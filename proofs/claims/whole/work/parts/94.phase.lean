-- verdict, start, reveal, restart
section zh
variable (n h t : Nat) (ij wa f ph : Int32) (lim act sh lg pol tim b w yl fr yo yh yp ti pl mo : Nat → Int32)

theorem zh_fr (hA : ∀ k, k < n → gq_ct act k = true → act k = nI (gq_ac act k) ∧ gq_ac act k < n) (hF : ∀ c, c < n → fr c = act c) :
    ∀ c, c < n → (gq_ct act c = false ∧ fr c = -1) ∨ (gq_ct act c = true ∧ fr c = nI (gq_ac act c) ∧ gq_ac act c < n) := by
  intro c hc
  rw [hF c hc]
  cases hcc : gq_ct act c with
  | false => exact Or.inl ⟨rfl, gq_ct_f act c hcc⟩
  | true => exact Or.inr ⟨rfl, (hA c hc hcc).1, (hA c hc hcc).2⟩

theorem zh_safe0 (hS : gq_sh n h lim act sh lg pol tim yl fr yo yh yp ti) (hno : ∀ e, e < n → tim e = -1)
    (post : Int32 → SY → Prop) (hpost : ∀ r pl mo, (r = 1 ∧ (∃ T, gm_sp n h (gd_t lim) (gq_ct act) (gq_ac act) (gq_i sh) (gq_i lg) T) ∨ r = 0 ∧ ¬ ∃ T, gm_sp n h (gd_t lim) (gq_ct act) (gq_ac act) (gq_i sh) (gq_i lg) T) → post r (nI n, nI h, ph, nI t, yl, fr, yo, yh, yp, ti, pl, mo)) :
    wpY_safe post (nI n, nI h, ph, nI t, yl, fr, yo, yh, yp, ti, pl, mo) 0 := by
  have hN := gq_net n h lim act sh lg pol tim yl fr yo yh yp ti hS
  obtain ⟨a1, a2, a3, a4, a5, a6, a7, a8, a9, a10, a11⟩ := hS
  have hA := gq_link n h act sh lg a2 a10
  have hp : ∀ e, e < n → e ≠ 0 → (fun e : Nat => if e = 0 then (0 : Int) else 100) e = 100 := by
    intro e _ he
    show (if e = 0 then (0 : Int) else 100) = 100
    rw [if_neg he]
  have hiff := gv_val0 n h (gd_t lim) (gq_ct act) (gq_ac act) (gq_i sh) (gq_i lg) hN (fun e : Nat => if e = 0 then (0 : Int) else 100) rfl hp
  refine yt_safe n h ph (nI t) yl fr yo yh yp ti (gd_t lim) (gq_ct act) (gq_ac act) (gq_i sh) (gq_i lg) hN post 0 (12 * (h + 1)) (by omega)
    (fun e : Nat => if e = 0 then (0 : Int) else 100) (fun u v hu hv => by rw [a5 u v hu hv]; rfl)
    (zh_fr n act fr hA (fun c hc => (a9 c hc).1)) (fun c hc => by rw [(a9 c hc).2.1]; rfl) (fun c hc => by rw [(a9 c hc).2.2.1]; rfl) rfl
    (fun e he he0 => ?_) (fun e he => ?_) (fun r pl mo hv => hpost r pl mo ?_) pl mo
  · rw [if_neg he0]
    rcases a11 e he with ⟨_, q⟩ | ⟨τ, hτ, q, _⟩
    · rw [q]; exact gq_100
    · rw [hno e he] at q
      exact absurd q.symm (gq_nIm τ (by omega))
  · show 0 ≤ (if e = 0 then (0 : Int) else 100) ∧ (if e = 0 then (0 : Int) else 100) ≤ 100
    by_cases q : e = 0
    · rw [if_pos q]; exact ⟨by omega, by omega⟩
    · rw [if_neg q]; exact ⟨by omega, by omega⟩
  · rcases hv with ⟨x, y⟩ | ⟨x, y⟩
    · exact Or.inl ⟨x, hiff.1 y⟩
    · exact Or.inr ⟨x, fun z => y (hiff.2 z)⟩

/-- in LOAD -/
theorem zh_load (hph : ph = 0) (hM : gq_md n h t ij wa ph lim act sh lg tim b w) :
    t = 0 ∧ (∀ e, e < n → tim e = -1) ∧ (ij = 0 ∨ (ij = 1 ∧ gv_jud n h (gd_t lim) (gq_ct act) (gq_ac act) (gq_i sh) (gq_i lg) wa b w)) := by
  obtain ⟨m1, m2, m3⟩ := hM
  subst hph
  rcases m3 with ⟨_, q2, q3, q4⟩ | ⟨q, _⟩ | ⟨q, _⟩
  · exact ⟨q2, q3, q4⟩
  · exact absurd q (by decide)
  · exact absurd q (by decide)

theorem zh_enter (hn : n ≤ 6) (post : SX → Prop) (g : ∀ tim', (∀ e, e < n → tim' e = -1) → post (nI n, nI h, ij, wa, f, 0, 0, lim, act, sh, lg, pol, tim', b, w)) :
    wpX_enterLoad post (nI n, nI h, ij, wa, f, ph, nI t, lim, act, sh, lg, pol, tim, b, w) := by
  refine loop_0 (fun m i (tim : Nat → Int32) => wX_enterLoad_12 post (nI n) (nI h) ij wa f 0 0 m (nI i) lim act sh lg pol tim b w) (fun i tim => ∀ e, e < i → tim e = -1) n tim
    (fun e he => absurd he (by omega)) ?_ ?_
  · intro m tim hs
    exact br_t (Int32.le_refl _) (g tim hs)
  · intro m i tim hi hs ih
    have hi6 : i < 6 := by omega
    refine br_f (nI_ge hi (by omega)) ⟨xd_i1 i hi6, ?_⟩
    rw [xd_c1 i hi6]
    refine nm_e (nm_r (nI_1 i) (ih _ (fun e he => ?_)))
    by_cases q : e = i
    · rw [q, pk_us]
    · rw [pk_un q]; exact hs e (by omega)

theorem zh_yres (post : Int32 → SY → Prop) (g : ∀ ti', (∀ e, e < 6 → ti' e = 100) → post 0 (nI n, nI h, 0, 0, yl, fr, yo, yh, yp, ti', pl, mo)) :
    ∃ m, wY_restart_22 post (nI n) (nI h) 0 0 m 0 yl fr yo yh yp ti pl mo := by
  refine loop_0 (fun m i (ti : Nat → Int32) => wY_restart_22 post (nI n) (nI h) 0 0 m (nI i) yl fr yo yh yp ti pl mo) (fun i ti => ∀ e, e < i → ti e = 100) 6 ti
    (fun e he => absurd he (by omega)) ?_ ?_
  · intro m ti hs
    exact br_t (Int32.le_refl _) (g ti hs)
  · intro m i ti hi hs ih
    refine br_f (nI_ge (b := 6) hi (by decide)) ⟨xd_i1 i hi, ?_⟩
    rw [xd_c1 i hi]
    refine nm_e (nm_r (nI_1 i) (ih _ (fun e he => ?_)))
    by_cases q : e = i
    · rw [q, pk_us]
    · rw [pk_un q]; exact hs e (by omega)
end zh

theorem i_vc_verdict {k : Nat} {u : SX} {v : SY} (I : i_Rel k u v) (hk : k + 5 ≤ 2562) : wpX_verdict (fun r u' => wpY_verdict (fun r' v' => r' = r ∧ i_Rel (k + 5) u' v') v) u := by
  have I0 := i_up I
  obtain ⟨n, h, t, ij, wa, f, ph, lim, act, sh, lg, pol, tim, b, w, yl, fr, yo, yh, yp, ti, pl, mo, rfl, rfl, hS, hM⟩ := I
  have hN := gq_net n h lim act sh lg pol tim yl fr yo yh yp ti hS
  have hA := gq_link n h act sh lg hS.2.1 hS.2.2.2.2.2.2.2.2.2.1
  unfold wpX_verdict
  dsimp only
  by_cases hph : ph = 0
  · obtain ⟨q1, q2, q3⟩ := zh_load n h t ij wa ph lim act sh lg tim b w hph hM
    have h7 := hS.2.2.2.1
    refine br_t hph (xe_acc n h ij wa ph (nI t) lim act sh lg pol tim hS.2.1 hN.1 hN (fun u v hu hv => by have := (hS.2.2.2.2.2.1 u v hu hv).1; omega) _ hA f b w hM.1 q3
      (fun r f b w hr hj => ?_))
    have fin : ∀ pl mo, i_Rel (k + 5) (nI n, nI h, 1, r, f, ph, nI t, lim, act, sh, lg, pol, tim, b, w) (nI n, nI h, ph, nI t, yl, fr, yo, yh, yp, ti, pl, mo) := by
      intro pl mo
      subst hph
      exact ⟨n, h, t, 1, r, f, 0, lim, act, sh, lg, pol, tim, b, w, yl, fr, yo, yh, yp, ti, pl, mo, rfl, rfl, hS, hr, hM.2.1, Or.inl ⟨rfl, q1, q2, Or.inr ⟨rfl, hj⟩⟩⟩
    have yy : ∀ x : Int32, (x = 1 ∧ (∃ T, gm_sp n h (gd_t lim) (gq_ct act) (gq_ac act) (gq_i sh) (gq_i lg) T) ∨ x = 0 ∧ ¬ ∃ T, gm_sp n h (gd_t lim) (gq_ct act) (gq_ac act) (gq_i sh) (gq_i lg) T) → wpY_verdict (fun r' v' => r' = x ∧ i_Rel (k + 5) (nI n, nI h, 1, r, f, ph, nI t, lim, act, sh, lg, pol, tim, b, w) v') (nI n, nI h, ph, nI t, yl, fr, yo, yh, yp, ti, pl, mo) := by
      intro x hx
      refine br_t hph (zh_safe0 n h t ph lim act sh lg pol tim yl fr yo yh yp ti pl mo hS q2 _ (fun r' pl mo hv => ?_))
      rcases hv with ⟨y1, y2⟩ | ⟨y1, y2⟩
      · rcases hx with ⟨x1, _⟩ | ⟨_, x2⟩
        · rw [y1, x1]; exact br_f (by decide) ⟨rfl, fin pl mo⟩
        · exact absurd y2 x2
      · rcases hx with ⟨_, x2⟩ | ⟨x1, _⟩
        · exact absurd x2 y2
        · rw [y1, x1]; exact br_t rfl ⟨rfl, fin pl mo⟩
    rcases hj with ⟨e, j1, j2⟩ | ⟨e, j1⟩
    · exact br_f (by rw [e]; decide) (yy 1 (Or.inl ⟨rfl, gv_play n h (gd_t lim) (gq_ct act) (gq_ac act) (gq_i sh) (gq_i lg) hN _ _ j1⟩))
    · exact br_t e (yy 0 (Or.inr ⟨rfl, fun z => by obtain ⟨T, hT⟩ := z; exact j1 T hT⟩))
  · exact br_f hph (br_f hph ⟨rfl, I0⟩)

theorem i_vc_start {k : Nat} {u : SX} {v : SY} (I : i_Rel k u v) (hk : k + 5 ≤ 2562) : wpX_start (fun r u' => wpY_start (fun r' v' => r' = r ∧ i_Rel (k + 5) u' v') v) u := by
  have I0 := i_up I
  obtain ⟨n, h, t, ij, wa, f, ph, lim, act, sh, lg, pol, tim, b, w, yl, fr, yo, yh, yp, ti, pl, mo, rfl, rfl, hS, hM⟩ := I
  have hN := gq_net n h lim act sh lg pol tim yl fr yo yh yp ti hS
  have hA := gq_link n h act sh lg hS.2.1 hS.2.2.2.2.2.2.2.2.2.1
  unfold wpX_start
  dsimp only
  by_cases hph : ph = 0
  · obtain ⟨q1, q2, q3⟩ := zh_load n h t ij wa ph lim act sh lg tim b w hph hM
    have h7 := hS.2.2.2.1
    refine br_t hph (xe_acc n h ij wa ph (nI t) lim act sh lg pol tim hS.2.1 hN.1 hN (fun u v hu hv => by have := (hS.2.2.2.2.2.1 u v hu hv).1; omega) _ hA f b w hM.1 q3
      (fun r f b w hr hj => ?_))
    rcases hj with ⟨e, j1, j2⟩ | ⟨e, j1⟩
    · obtain ⟨T, hT⟩ := gv_play n h (gd_t lim) (gq_ct act) (gq_ac act) (gq_i sh) (gq_i lg) hN _ _ j1
      refine br_f (by rw [e]; decide) (nm_e (br_t hph (zh_safe0 n h t ph lim act sh lg pol tim yl fr yo yh yp ti pl mo hS q2 _ (fun r' pl mo hv => ?_))))
      rcases hv with ⟨y1, y2⟩ | ⟨y1, y2⟩
      · rw [y1]
        refine br_f (by decide) (nm_e ⟨rfl, ?_⟩)
        subst q1
        subst e
        refine ⟨n, h, 0, 1, 1, f, 1, lim, act, sh, lg, pol, upd tim 0 (nI 0), b, w, yl, fr, yo, yh, yp, upd ti 0 (nI 0), pl, mo, rfl, rfl, ?_, Or.inr rfl, by omega, Or.inr (Or.inl ⟨rfl, rfl, rfl, Or.inl ⟨rfl, j1, j2⟩, T, ?_⟩)⟩
        · obtain ⟨a1, a2, a3, a4, a5, a6, a7, a8, a9, a10, a11⟩ := hS
          exact ⟨a1, a2, a3, a4, a5, a6, a7, a8, a9, a10, zs_tr_u n h tim ti a11 0 0 (by omega)⟩
        · refine gr_start n h (gd_t lim) (gq_ct act) (gq_ac act) (gq_i sh) (gq_i lg) T _ hT ?_ (fun e he he0 => ?_)
          · exact gq_p_t _ 0 0 (by omega) pk_us
          · exact gq_p_n _ e (by rw [pk_un he0]; exact q2 e he)
      · exact absurd ⟨T, hT⟩ y2
    · refine br_t e (br_t hph (zh_safe0 n h t ph lim act sh lg pol tim yl fr yo yh yp ti pl mo hS q2 _ (fun r' pl mo hv => ?_)))
      rcases hv with ⟨y1, y2⟩ | ⟨y1, y2⟩
      · obtain ⟨T, hT⟩ := y2
        exact absurd hT (j1 T)
      · rw [y1]
        refine br_t rfl ⟨rfl, ?_⟩
        subst hph
        exact ⟨n, h, t, 1, r, f, 0, lim, act, sh, lg, pol, tim, b, w, yl, fr, yo, yh, yp, ti, pl, mo, rfl, rfl, hS, hr, hM.2.1, Or.inl ⟨rfl, q1, q2, Or.inr ⟨rfl, Or.inr ⟨e, j1⟩⟩⟩⟩
  · exact br_f hph (br_f hph ⟨rfl, I0⟩)

theorem i_vc_restart {k : Nat} {u : SX} {v : SY} (I : i_Rel k u v) (hk : k + 5 ≤ 2562) : wpX_restart (fun r u' => wpY_restart (fun r' v' => r' = r ∧ i_Rel (k + 5) u' v') v) u := by
  have I0 := i_up I
  obtain ⟨n, h, t, ij, wa, f, ph, lim, act, sh, lg, pol, tim, b, w, yl, fr, yo, yh, yp, ti, pl, mo, rfl, rfl, hS, hM⟩ := I
  unfold wpX_restart
  dsimp only
  by_cases hph : ph = 0
  · exact br_t hph (br_t hph ⟨rfl, I0⟩)
  · have a2 := hS.2.1
    refine br_f hph (zh_enter n h t ij wa f ph lim act sh lg pol tim b w a2 _ (fun tim' ht' => br_f hph (zh_yres n h yl fr yo yh yp ti pl mo _ (fun ti' hti' => ⟨rfl, ?_⟩))))
    refine ⟨n, h, 0, ij, wa, f, 0, lim, act, sh, lg, pol, tim', b, w, yl, fr, yo, yh, yp, ti', pl, mo, rfl, rfl, ?_, hM.1, by omega, Or.inl ⟨rfl, rfl, ht', ?_⟩⟩
    · obtain ⟨a1, a2, a3, a4, a5, a6, a7, a8, a9, a10, a11⟩ := hS
      exact ⟨a1, a2, a3, a4, a5, a6, a7, a8, a9, a10, fun e he => Or.inl ⟨ht' e he, hti' e (by omega)⟩⟩
    · obtain ⟨m1, m2, m3⟩ := hM
      rcases m3 with ⟨q, _⟩ | ⟨_, q2, _, q4, _⟩ | ⟨_, q2, q3⟩
      · exact absurd q hph
      · exact Or.inr ⟨q2, q4⟩
      · exact Or.inr ⟨q2, q3⟩

theorem i_vc_reveal {k : Nat} {u : SX} {v : SY} (I : i_Rel k u v) (hk : k + 5 ≤ 2562) (v1 : Int32) : wpX_reveal (fun r u' => wpY_reveal (fun r' v' => r' = r ∧ i_Rel (k + 5) u' v') v v1) u v1 := by
  have I0 := i_up I
  obtain ⟨n, h, t, ij, wa, f, ph, lim, act, sh, lg, pol, tim, b, w, yl, fr, yo, yh, yp, ti, pl, mo, rfl, rfl, hS, hM⟩ := I
  have hN := gq_net n h lim act sh lg pol tim yl fr yo yh yp ti hS
  obtain ⟨a1, a2, a3, a4, a5, a6, a7, a8, a9, a10, a11⟩ := hS
  have hA := gq_link n h act sh lg a2 a10
  unfold wpX_reveal
  dsimp only
  by_cases hph : ph = 1
  · refine br_t hph ?_
    by_cases q : ∃ j, 1 ≤ j ∧ j < n ∧ v1 = nI j
    · obtain ⟨j, h1, hj, e⟩ := q
      subst e
      have hj6 : j < 6 := by omega
      obtain ⟨b1, b2, b3, b4⟩ := a9 j hj
      have yl0 : ∀ {A R : Prop}, R → wpY_isEvent (fun r => (r = 0 → A) ∧ (¬ r = 0 → (nI j = 0 → A) ∧ (¬ nI j = 0 → R))) (nI n, nI h, ph, nI t, yl, fr, yo, yh, yp, ti, pl, mo) (nI j) := fun {A R} g =>
        yr_late n h ph (nI t) yl fr yo yh yp ti pl mo _ a2 (fun z => absurd ⟨j, h1, hj, rfl⟩ z) (fun _ _ _ _ => g)
      refine xr_lt1 n h ij wa f ph (nI t) lim act sh lg pol tim b w _ j a2 h1 hj (br_f (by decide) (xr_ct n h ij wa f ph (nI t) lim act sh lg pol tim b w _ j hj6 (fun z => br_t rfl (br_t hph (yl0 ⟨xd_i1 j hj6, ?_⟩))) (fun z => br_f (by decide) ?_)))
      · rw [xd_c1 j hj6, b1, gq_ct_f act j z]
        exact br_f (by decide) ⟨rfl, I0⟩
      · obtain ⟨c1, c2⟩ := hA j hj z
        have c6 : gq_ac act j < 6 := by omega
        have npos : 0 ≤ nI (gq_ac act j) := nI_pos' (by omega)
        have fj : fr j = nI (gq_ac act j) := by rw [b1, c1]
        -- the reference, as far as its look at the times
        have yy : ∀ post : Int32 → SY → Prop, ((ti j = 100 → vp_in (nI j) 6 ∧ vp_in (nI (gq_ac act j)) 6 ∧ ((ti (gq_ac act j) = 100 → post 104 (nI n, nI h, ph, nI t, yl, fr, yo, yh, yp, ti, pl, mo)) ∧ (¬ ti (gq_ac act j) = 100 → vp_in (nI j) 6 ∧ vp_in (nI (gq_ac act j)) 6 ∧ vp_in (nI j) 6 ∧ ((yo j ≤ nI t - ti (gq_ac act j) → vp_in (nI j) 6 ∧ ∀ a : Nat → Int32, a = upd ti j (nI t) → post 0 (nI n, nI h, ph, nI t, yl, fr, yo, yh, yp, a, pl, mo)) ∧ (¬ yo j ≤ nI t - ti (gq_ac act j) → post 104 (nI n, nI h, ph, nI t, yl, fr, yo, yh, yp, ti, pl, mo)))))) ∧ (¬ ti j = 100 → post 104 (nI n, nI h, ph, nI t, yl, fr, yo, yh, yp, ti, pl, mo))) →
            wpY_reveal post (nI n, nI h, ph, nI t, yl, fr, yo, yh, yp, ti, pl, mo) (nI j) := by
          intro post g
          refine br_t hph (yl0 ⟨xd_i1 j hj6, ?_⟩)
          rw [xd_c1 j hj6, fj, xd_c1 _ c6]
          exact br_t npos ⟨xd_i1 j hj6, g⟩
        refine xr_run n h ij wa f ph (nI t) lim act sh lg pol tim b w _ j hj6 c1 c6 (fun q1 q2 => br_f (by decide) (xr_ela n h ij wa f ph (nI t) lim act sh lg pol tim b w _ j hj6 c1 c6 ⟨xd_i1 j hj6, ?_⟩)) (fun q0 => br_t rfl (yy _ ?_))
        · rw [xd_c1 j hj6]
          have tj : ti j = 100 := by
            rcases a11 j hj with ⟨_, r⟩ | ⟨τ, hτ, r, _⟩
            · exact r
            · rw [q1] at r; exact absurd r.symm (gq_nIm τ (by omega))
          rcases a11 _ c2 with ⟨r, _⟩ | ⟨τ, hτ, r1, r2⟩
          · exact absurd r q2
          · have r3 : ¬ ti (gq_ac act j) = 100 := by rw [r2]; exact gq_nI100 τ (by omega)
            refine br_c (fun q3 => ⟨xd_i1 j hj6, nm_e (yy _ (br_t tj ⟨xd_i1 j hj6, xd_i1 _ c6, br_f r3 ⟨xd_i1 j hj6, xd_i1 _ c6, xd_i1 j hj6, ?_⟩⟩))⟩)
              (fun q3 => yy _ (br_t tj ⟨xd_i1 j hj6, xd_i1 _ c6, br_f r3 ⟨xd_i1 j hj6, xd_i1 _ c6, xd_i1 j hj6, ?_⟩⟩))
            · rw [b2, r2]
              rw [r1] at q3
              refine br_t q3 ⟨xd_i1 j hj6, nm_e ⟨rfl, ?_⟩⟩
              obtain ⟨m1, m2, m3⟩ := hM
              subst hph
              refine ⟨n, h, t, ij, wa, f, 1, lim, act, sh, lg, pol, upd tim j (nI t), b, w, yl, fr, yo, yh, yp, upd ti j (nI t), pl, mo, rfl, rfl,
                ⟨a1, a2, a3, a4, a5, a6, a7, a8, a9, a10, zs_tr_u n h tim ti a11 j t m2⟩, m1, m2, Or.inr (Or.inl ?_)⟩
              rcases m3 with ⟨y, _⟩ | ⟨_, y2, y3, y4, T, y5⟩ | ⟨y, _⟩
              · exact absurd y (by decide)
              · refine ⟨rfl, y2, y3, y4, T, ?_⟩
                have pa := gq_p_t tim _ τ (by omega) r1
                rw [zs_p_u tim j t (by omega)]
                refine gr_rev n h (gd_t lim) (gq_ct act) (gq_ac act) (gq_i sh) (gq_i lg) hN t T (gq_p tim) y5 j hj z (gq_p_n tim j q1) (by rw [pa]; omega) ?_
                have es : (nI t - nI τ).toInt = (t : Int) - (τ : Int) := pk_sub_toInt (by omega) (by omega)
                have y6 := (gn_le _ _).1 q3
                rw [es] at y6
                rw [pa]
                exact y6
              · exact absurd y (by decide)
            · rw [b2, r2]
              rw [r1] at q3
              exact br_f q3 ⟨rfl, I0⟩
        · refine br_c (fun q1 => ⟨xd_i1 j hj6, xd_i1 _ c6, ?_⟩) (fun _ => ⟨rfl, I0⟩)
          rcases q0 with q0 | q0
          · rcases a11 j hj with ⟨r, _⟩ | ⟨τ, hτ, _, r⟩
            · exact absurd r q0
            · rw [r] at q1; exact absurd q1 (gq_nI100 τ (by omega))
          · rcases a11 _ c2 with ⟨_, r⟩ | ⟨τ, hτ, r, _⟩
            · exact br_t r ⟨rfl, I0⟩
            · rw [q0] at r; exact absurd r.symm (gq_nIm τ (by omega))
    · exact xr_lt0 n h ij wa f ph (nI t) lim act sh lg pol tim b w _ v1 a2 q (br_t rfl (br_t hph (yr_late n h ph (nI t) yl fr yo yh yp ti pl mo _ a2 (fun _ => ⟨rfl, I0⟩) (fun j h1 hj e => absurd ⟨j, h1, hj, e⟩ q))))
  · exact br_f hph (br_f hph ⟨rfl, I0⟩)
