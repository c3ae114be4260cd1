-- step
section zi
variable (n h t : Nat) (ph : Int32) (yl fr yo yh yp ti pl mo : Nat → Int32)

theorem zi_232 (hn : n ≤ 6) (p : Nat → Int) (hp : ∀ e, e < n → (ti e).toInt = p e) (post : Int32 → SY → Prop) (x1 : Int32)
    (hF : gm_full n p → post x1 (nI n, nI h, 2, nI t, yl, fr, yo, yh, yp, ti, pl, mo)) (hE : ¬ gm_full n p → nI t = nI h → post x1 (nI n, nI h, 2, nI t, yl, fr, yo, yh, yp, ti, pl, mo))
    (hR : ¬ gm_full n p → ¬ nI t = nI h → post x1 (nI n, nI h, ph, nI (t + 1), yl, fr, yo, yh, yp, ti, pl, mo)) : ∃ m, wY_step_232 post x1 (nI n) (nI h) ph (nI t) yl fr yo yh yp ti pl mo m 1 0 := by
  refine loop_0 (fun m i (a : Int32) => wY_step_232 post x1 (nI n) (nI h) ph (nI t) yl fr yo yh yp ti pl mo m a (nI i))
    (fun i a => (a = 1 ∧ ∀ e, e < i → p e ≠ 100) ∨ (a = 0 ∧ ∃ e, e < i ∧ p e = 100)) n 1 (Or.inl ⟨rfl, fun e he => absurd he (by omega)⟩) ?_ ?_
  · intro m a hs
    rcases hs with ⟨e, hs⟩ | ⟨e, x, hx, hs⟩
    · exact br_t (Int32.le_refl _) (br_f (by rw [e]; decide) (hF hs))
    · have nf : ¬ gm_full n p := fun z => z x hx hs
      exact br_t (Int32.le_refl _) (br_t e (br_c (fun q => hE nf q) (fun q => nm_r (nI_1 t) (hR nf q))))
  · intro m i a hi hs ih
    have hi6 : i < 6 := by omega
    refine br_f (nI_ge hi (by omega)) ⟨xd_i1 i hi6, ?_⟩
    rw [xd_c1 i hi6]
    refine br_c (fun q => nm_r (nI_1 i) (ih 0 (Or.inr ⟨rfl, i, by omega, (ys_100 _ _ (hp i hi)).1 q⟩))) (fun q => nm_r (nI_1 i) (ih a ?_))
    rcases hs with ⟨e, hs⟩ | ⟨e, x, hx, hs⟩
    · refine Or.inl ⟨e, fun y hy => ?_⟩
      by_cases z : y = i
      · rw [z]; exact fun z => q ((ys_100 _ _ (hp i hi)).2 z)
      · exact hs y (by omega)
    · exact Or.inr ⟨e, x, by omega, hs⟩
end zi

theorem i_vc_step {k : Nat} {u : SX} {v : SY} (I : i_Rel k u v) (hk : k + 5 ≤ 2562) : wpX_step (fun r u' => wpY_step (fun r' v' => r' = r ∧ i_Rel (k + 5) u' v') v) u := by
  have I0 := i_up I
  obtain ⟨n, h, t, ij, wa, f, ph, lim, act, sh, lg, pol, tim, b, w, yl, fr, yo, yh, yp, ti, pl, mo, rfl, rfl, hS, hM⟩ := I
  have hN := gq_net n h lim act sh lg pol tim yl fr yo yh yp ti hS
  obtain ⟨a1, a2, a3, a4, a5, a6, a7, a8, a9, a10, a11⟩ := hS
  have hA := gq_link n h act sh lg a2 a10
  unfold wpX_step
  dsimp only
  by_cases hph : ph = 1
  · refine br_t hph ?_
    obtain ⟨m1, m2, m3⟩ := hM
    have run : ij = 1 ∧ wa = 1 ∧ gv_jud n h (gd_t lim) (gq_ct act) (gq_ac act) (gq_i sh) (gq_i lg) wa b w ∧ ∃ T, gr_at n h (gd_t lim) (gq_ct act) (gq_ac act) (gq_i sh) (gq_i lg) t T (gq_p tim) := by
      rcases m3 with ⟨y, _⟩ | ⟨_, y⟩ | ⟨y, _⟩
      · rw [hph] at y; exact absurd y (by decide)
      · exact y
      · rw [hph] at y; exact absurd y (by decide)
    obtain ⟨y2, y3, y4, T, y5⟩ := run
    have y40 := y4
    obtain ⟨j1, j2⟩ : gc_fix n (gd_t lim) (gq_ct act) (gq_ac act) (gq_i sh) (gq_i lg) (gd_t b) (gd_t w) ∧ gs_snd n h (gd_t lim) (gq_ct act) (gq_ac act) (gq_i sh) (gq_i lg) (gd_t b) (gd_t w) := by
      rcases y4 with ⟨_, z⟩ | ⟨z, _⟩
      · exact z
      · rw [y3] at z; exact absurd z (by decide)
    have hB : ∀ u v, u < n → v < n → -7 ≤ gd_t b u v ∧ gd_t b u v ≤ 7 := by
      intro u v hu hv
      refine ⟨gd_b7 n h (gd_t lim) (gq_ct act) (gq_ac act) (gq_i sh) (gq_i lg) hN _ _ j2 T y5.1 u v hu hv, ?_⟩
      by_cases e : u = v
      · rw [e, j1.2.1 v hv]; omega
      · have z1 := j1.1 u v hu hv e
        have z2 := (a6 u v hu hv).2
        omega
    have h0ct := hN.2.2.2.1
    obtain ⟨ov, tim1, ti1, r1, r2, r3, rX, rY⟩ := zs_out n h t ij wa f ph lim act sh lg pol b w yl fr yo yh yp a2 a4 m2 hN hA (fun c hc => (a9 c hc).1)
      (fun c hc => (a9 c hc).2.2.1) T pl mo (n - 1) 1 (by omega) (by omega) 0 tim ti a11 y5 (fun x _ hx1 hxc => by
        have e : x = 0 := by omega
        rw [e, h0ct] at hxc
        simp at hxc)
    obtain ⟨T1, t1, t2⟩ := gr_out n h (gd_t lim) (gq_ct act) (gq_ac act) (gq_i sh) (gq_i lg) hN t m2 T (gq_p tim1) r2 r3
    have t3 := gr_skip n h (gd_t lim) (gq_ct act) (gq_ac act) (gq_i sh) (gq_i lg) hN (12 * t + 6) (by omega) T1 (gq_p tim1) t1 t2 (Or.inl (by omega))
    obtain ⟨sx, tim2, ti2, s1, ⟨T2, s2, s3⟩, sX, sY⟩ := zc_cho n h t ij wa f ph lim act sh lg pol b w yl fr yo yh yp a2 (by omega) a4 m2 hN a5 hA
      (fun c hc => (a9 c hc).1) (fun c hc => (a9 c hc).2.1) (fun c hc => (a9 c hc).2.2.1) (fun c hc => (a9 c hc).2.2.2) j1 j2 hB ov (n - 1) 1 (by omega) (by omega) 0 tim1 ti1 r1 ⟨T1, t1, t3⟩
    have hti : ∀ e, e < n → (ti2 e).toInt = gq_p tim2 e := fun e he => (zs_ti n h a4 tim2 ti2 s1 e he).1
    have ygo : ∀ post : Int32 → SY → Prop, (∀ pl' mo', ∃ m, wY_step_232 post (ov + sx) (nI n) (nI h) ph (nI t) yl fr yo yh yp ti2 pl' mo' m 1 0) → wpY_step post (nI n, nI h, ph, nI t, yl, fr, yo, yh, yp, ti, pl, mo) := by
      intro post g
      have y := sY post pl mo g
      rw [Int32.add_zero] at y
      exact br_t hph ⟨n - 1 + 1, rY post ⟨n - 1 + 1, y⟩⟩
    have fin2 : ∀ pl mo, i_Rel (k + 5) (nI n, nI h, ij, wa, f, 2, nI t, lim, act, sh, lg, pol, tim2, b, w) (nI n, nI h, 2, nI t, yl, fr, yo, yh, yp, ti2, pl, mo) := fun pl mo =>
      ⟨n, h, t, ij, wa, f, 2, lim, act, sh, lg, pol, tim2, b, w, yl, fr, yo, yh, yp, ti2, pl, mo, rfl, rfl,
        ⟨a1, a2, a3, a4, a5, a6, a7, a8, a9, a10, s1⟩, m1, m2, Or.inr (Or.inr ⟨rfl, y2, y40⟩)⟩
    refine ⟨n - 1 + 1, rX _ ⟨n - 1 + 1, sX _ ?_⟩⟩
    refine xr_all n h ij wa f ph (nI t) lim act sh lg pol tim2 b w a2 _ (zs_tr_T n h a4 tim2 ti2 s1) (fun hfull => br_f (by decide) ?_) (fun hnf => br_t rfl (br_c (fun e => ?_) (fun e => nm_r (nI_1 t) ?_)))
    · exact ygo _ (fun pl' mo' => zi_232 n h t ph yl fr yo yh yp ti2 pl' mo' a2 (gq_p tim2) hti _ _ (fun _ => ⟨rfl, fin2 pl' mo'⟩) (fun z => absurd hfull z) (fun z => absurd hfull z))
    · exact ygo _ (fun pl' mo' => zi_232 n h t ph yl fr yo yh yp ti2 pl' mo' a2 (gq_p tim2) hti _ _ (fun z => absurd z hnf) (fun _ _ => ⟨rfl, fin2 pl' mo'⟩) (fun _ z => absurd e z))
    · refine ygo _ (fun pl' mo' => zi_232 n h t ph yl fr yo yh yp ti2 pl' mo' a2 (gq_p tim2) hti _ _ (fun z => absurd z hnf) (fun _ z => absurd z e) (fun _ _ => ⟨rfl, ?_⟩))
      have tne : t ≠ h := fun z => e (by rw [z])
      exact ⟨n, h, t + 1, ij, wa, f, ph, lim, act, sh, lg, pol, tim2, b, w, yl, fr, yo, yh, yp, ti2, pl', mo', rfl, rfl,
        ⟨a1, a2, a3, a4, a5, a6, a7, a8, a9, a10, s1⟩, m1, by omega, Or.inr (Or.inl ⟨hph, y2, y3, y40, T2, gr_next n h (gd_t lim) (gq_ct act) (gq_ac act) (gq_i sh) (gq_i lg) hN t T2 (gq_p tim2) s2 s3⟩)⟩
  · exact br_f hph (br_f hph ⟨rfl, I0⟩)
