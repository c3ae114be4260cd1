-- addContingent; verdict, start
section zg
variable (n h t : Nat) (ij wa f ph : Int32) (lim act sh lg pol tim b w yl fr yo yh yp ti pl mo : Nat → Int32)

theorem zg_iff (ct : Nat → Bool) (ac : Nat → Nat) (hac : ∀ c, c < n → ct c = true → ac c < n) (hn : 0 < n) (hn6 : n ≤ 6) (h0 : ct 0 = false)
    (a c : Nat) (ha : a < n) (hne : a ≠ c) (hsix : ∀ m, 1 ≤ m → m ≤ 6 → gw_at ct ac a m ≠ c) : ∀ m, gw_at ct ac a m ≠ c := by
  have h6 : ∀ m, m ≤ 6 → gw_at ct ac a m ≠ c := by
    intro m hm
    by_cases e : m = 0
    · rw [e]; exact hne
    · exact hsix m (by omega) hm
  by_cases hall : ∀ k, k < n → ct (gw_at ct ac a k) = true
  · intro m
    obtain ⟨k, hk, e⟩ := gw_round n ct ac hac hn h0 a ha hall m
    rw [e]; exact h6 k (by omega)
  · have hex : ∃ k, k < n ∧ ct (gw_at ct ac a k) = false := by
      refine Classical.byContradiction (fun z => hall (fun k hk => ?_))
      cases hc : ct (gw_at ct ac a k) with
      | true => rfl
      | false => exact absurd ⟨k, hk, hc⟩ z
    obtain ⟨k, hk, hr⟩ := hex
    intro m
    by_cases hm : m ≤ k
    · exact h6 m (by omega)
    · obtain ⟨d, hd⟩ : ∃ d, m = k + d := ⟨m - k, by omega⟩
      rw [hd, gw_root ct ac a k hr d]; exact h6 k (by omega)

theorem zg_dep (hn : n ≤ 6) (hn0 : 0 < n) (h0 : gq_ct act 0 = false)
    (hA : ∀ k, k < n → gq_ct act k = true → act k = nI (gq_ac act k) ∧ gq_ac act k < n)
    (post : Int32 → Prop) (a c : Nat) (ha : a < n) (hc : c < n)
    (h1 : (∃ m, gw_at (gq_ct act) (gq_ac act) a m = c) → post 1) (hz : (∀ m, gw_at (gq_ct act) (gq_ac act) a m ≠ c) → post 0) :
    wpX_dependsOn post (nI n, nI h, ij, wa, f, ph, nI t, lim, act, sh, lg, pol, tim, b, w) (nI a) (nI c) := by
  have hac : ∀ c, c < n → gq_ct act c = true → gq_ac act c < n := fun c hc hcc => (hA c hc hcc).2
  have hlt := gw_lt n (gq_ct act) (gq_ac act) hac a ha
  refine loop_0 (fun m i (_ : Unit) => wX_dependsOn_5 post (nI c) (nI n) (nI h) ij wa f ph (nI t) lim act sh lg pol tim b w m (nI (gw_at (gq_ct act) (gq_ac act) a i)) (nI i))
    (fun i _ => ∀ k, k < i → gw_at (gq_ct act) (gq_ac act) a k ≠ c ∧ gq_ct act (gw_at (gq_ct act) (gq_ac act) a k) = true) n () (fun k hk => absurd hk (by omega)) ?_ ?_
  · intro m _ hs
    refine br_t (Int32.le_refl _) (hz (fun m => ?_))
    obtain ⟨k, hk, e⟩ := gw_round n (gq_ct act) (gq_ac act) hac hn0 h0 a ha (fun k hk => (hs k hk).2) m
    rw [e]; exact (hs k hk).1
  · intro m i _ hi hs ih
    have hx := hlt i
    have hx6 : gw_at (gq_ct act) (gq_ac act) a i < 6 := by omega
    refine br_f (nI_ge hi (by omega)) (br_c (fun q => h1 ⟨i, (nI_eq (by omega) (by omega)).1 q⟩) (fun q => ?_))
    have hne : gw_at (gq_ct act) (gq_ac act) a i ≠ c := fun z => q (by rw [z])
    refine xr_ct n h ij wa f ph (nI t) lim act sh lg pol tim b w _ _ hx6 (fun z => br_t rfl (hz (fun m => ?_))) (fun z => br_f (by decide) ⟨xd_i1 _ hx6, ?_⟩)
    · by_cases hm : m < i
      · exact (hs m hm).1
      · obtain ⟨d, hd⟩ : ∃ d, m = i + d := ⟨m - i, by omega⟩
        rw [hd, gw_root (gq_ct act) (gq_ac act) a i z d]; exact hne
    · rw [xd_c1 _ hx6, (hA _ hx z).1]
      have en : nI (gq_ac act (gw_at (gq_ct act) (gq_ac act) a i)) = nI (gw_at (gq_ct act) (gq_ac act) a (i + 1)) := by
        show _ = nI (gw_next (gq_ct act) (gq_ac act) (gw_at (gq_ct act) (gq_ac act) a i))
        unfold gw_next
        rw [if_pos z]
      refine nm_r en (nm_r (nI_1 i) (ih () (fun k hk => ?_)))
      by_cases e : k = i
      · rw [e]; exact ⟨hne, z⟩
      · exact hs k (by omega)

theorem zg_ydep (hn : n ≤ 6) (hA : ∀ k, k < n → gq_ct act k = true → act k = nI (gq_ac act k) ∧ gq_ac act k < n) (hF : ∀ c, c < n → fr c = act c)
    (post : Int32 → SY → Prop) (a c : Nat) (x3 x4 : Int32) (ha : a < n) (hc : c < n)
    (h1 : (∃ m, gw_at (gq_ct act) (gq_ac act) a m = c) → post 104 (nI n, nI h, ph, nI t, yl, fr, yo, yh, yp, ti, pl, mo))
    (hz : (∀ m, 1 ≤ m → m ≤ 6 → gw_at (gq_ct act) (gq_ac act) a m ≠ c) → post 0 (nI n, nI h, ph, nI t, yl, upd fr c (nI a), upd yo c x3, upd yh c x4, yp, ti, pl, mo)) :
    ∃ m, wY_addContingent_79 post (nI a) (nI c) x3 x4 (nI n) (nI h) ph (nI t) yl fr yo yh yp ti pl mo m (nI a) 0 := by
  have hac : ∀ c, c < n → gq_ct act c = true → gq_ac act c < n := fun c hc hcc => (hA c hc hcc).2
  have hlt := gw_lt n (gq_ct act) (gq_ac act) hac a ha
  have hc6 : c < 6 := by omega
  refine loop_0 (fun m i (_ : Unit) => wY_addContingent_79 post (nI a) (nI c) x3 x4 (nI n) (nI h) ph (nI t) yl fr yo yh yp ti pl mo m (nI (gw_at (gq_ct act) (gq_ac act) a i)) (nI i))
    (fun i _ => ∀ k, 1 ≤ k → k ≤ i → gw_at (gq_ct act) (gq_ac act) a k ≠ c) 6 () (fun k hk hk' => absurd hk (by omega)) ?_ ?_
  · intro m _ hs
    refine br_t (Int32.le_refl _) ⟨xd_i1 c hc6, ?_⟩
    rw [xd_c1 c hc6]
    exact nm_e ⟨xd_i1 c hc6, nm_e ⟨xd_i1 c hc6, nm_e (hz hs)⟩⟩
  · intro m i _ hi hs ih
    have hx := hlt i
    have hx6 : gw_at (gq_ct act) (gq_ac act) a i < 6 := by omega
    have hy := hlt (i + 1)
    -- the look at the next event of the walk
    have look : wY_addContingent_105 post (wY_addContingent_79 post (nI a) (nI c) x3 x4 (nI n) (nI h) ph (nI t) yl fr yo yh yp ti pl mo m) (nI a) (nI c) x3 x4 (nI (gw_at (gq_ct act) (gq_ac act) a (i + 1))) (nI i) (nI n) (nI h) ph (nI t) yl fr yo yh yp ti pl mo := by
      refine br_c (fun q => h1 ⟨i + 1, (nI_eq (by omega) (by omega)).1 q⟩) (fun q => nm_r (nI_1 i) (ih () (fun k hk hk' => ?_)))
      by_cases e : k = i + 1
      · rw [e]; exact fun z => q (by rw [z])
      · exact hs k hk (by omega)
    refine br_f (nI_ge (b := 6) hi (by decide)) ⟨xd_i1 _ hx6, ?_⟩
    rw [xd_c1 _ hx6, hF _ hx]
    cases hcc : gq_ct act (gw_at (gq_ct act) (gq_ac act) a i) with
    | false =>
      rw [gq_ct_f act _ hcc]
      refine br_t (by decide) ?_
      have en : gw_at (gq_ct act) (gq_ac act) a (i + 1) = gw_at (gq_ct act) (gq_ac act) a i := gw_root (gq_ct act) (gq_ac act) a i hcc 1
      rw [en] at look
      exact look
    | true =>
      rw [(hA _ hx hcc).1]
      have en : nI (gq_ac act (gw_at (gq_ct act) (gq_ac act) a i)) = nI (gw_at (gq_ct act) (gq_ac act) a (i + 1)) := by
        show _ = nI (gw_next (gq_ct act) (gq_ac act) (gw_at (gq_ct act) (gq_ac act) a i))
        unfold gw_next
        rw [if_pos hcc]
      exact br_f (nI_pos (by have := (hA _ hx hcc).2; omega)) ⟨xd_i1 _ hx6, nm_r en look⟩
end zg

theorem i_vc_addContingent {k : Nat} {u : SX} {v : SY} (I : i_Rel k u v) (hk : k + 5 ≤ 2562) (v1 : Int32) (v2 : Int32) (v3 : Int32) (v4 : Int32) : wpX_addContingent (fun r u' => wpY_addContingent (fun r' v' => r' = r ∧ i_Rel (k + 5) u' v') v v1 v2 v3 v4) u v1 v2 v3 v4 := by
  have I0 := i_up I
  obtain ⟨n, h, t, ij, wa, f, ph, lim, act, sh, lg, pol, tim, b, w, yl, fr, yo, yh, yp, ti, pl, mo, rfl, rfl, hS, hM⟩ := I
  have hN := gq_net n h lim act sh lg pol tim yl fr yo yh yp ti hS
  obtain ⟨a1, a2, a3, a4, a5, a6, a7, a8, a9, a10, a11⟩ := hS
  have hA := gq_link n h act sh lg a2 a10
  unfold wpX_addContingent
  dsimp only
  by_cases hph : ph = 0
  · refine br_t hph ?_
    by_cases q : ∃ i j, i < n ∧ j < n ∧ i ≠ j ∧ v1 = nI i ∧ v2 = nI j
    · obtain ⟨i, j, hi, hj, hij, e1, e2⟩ := q
      subst e1
      subst e2
      have hi6 : i < 6 := by omega
      have hj6 : j < 6 := by omega
      refine xr_pr1 n h ij wa f ph (nI t) lim act sh lg pol tim b w _ i j a2 hi hj hij (br_f (by decide) ?_)
      by_cases hj0 : j = 0
      · subst hj0
        refine br_t rfl (br_t hph (yr_pair0 n h ph (nI t) yl fr yo yh yp ti pl mo _ _ a2 (fun _ => ⟨rfl, I0⟩) (fun i' j' _ hj' _ hj0' _ e => ?_)))
        exact absurd ((nI_eq (a := 0) (by omega) (by omega)).1 e).symm hj0'
      · have nj0 : ¬ nI j = 0 := fun z => hj0 ((nI_eq (b := 0) (by omega) (by omega)).1 z)
        have yp0 : ∀ {A R : Prop}, R → wpY_isEvent (fun r => (r = 0 → A) ∧ (¬ r = 0 → wpY_isEvent (fun r => (r = 0 → A) ∧ (¬ r = 0 → (nI j = 0 → A) ∧ (¬ nI j = 0 → (nI i = nI j → A) ∧ (¬ nI i = nI j → R)))) (nI n, nI h, ph, nI t, yl, fr, yo, yh, yp, ti, pl, mo) (nI j))) (nI n, nI h, ph, nI t, yl, fr, yo, yh, yp, ti, pl, mo) (nI i) := fun {A R} g =>
          yr_pair0 n h ph (nI t) yl fr yo yh yp ti pl mo _ _ a2 (fun z => absurd ⟨i, j, hi, hj, hij, hj0, rfl, rfl⟩ z) (fun _ _ _ _ _ _ _ _ => g)
        obtain ⟨b1, b2, b3, b4⟩ := a9 j hj
        refine br_f nj0 (br_c (fun c1 => br_t hph (yp0 (br_t c1 ⟨rfl, I0⟩))) (fun c1 => br_c (fun c2 => br_t hph (yp0 (br_f c1 (br_t c2 ⟨rfl, I0⟩))))
          (fun c2 => br_c (fun c3 => ?_) (fun c3 => br_t hph (yp0 (br_f c1 (br_f c2 (br_f c3 ⟨rfl, I0⟩))))))))
        have nh := gq_nI h (by omega)
        have one : (1 : Int32).toInt = 1 := by decide
        have d1 : 1 ≤ v3.toInt := by
          have z := (gn_le _ _).1 (Int32.not_lt.1 c1)
          rw [one] at z
          exact z
        have d2 : v3.toInt ≤ v4.toInt := (gn_le _ _).1 (Int32.not_lt.1 c2)
        have d3 : v4.toInt ≤ (h : Int) := by
          have z := (gn_le _ _).1 c3
          rw [nh] at z
          exact z
        refine xr_ct n h ij wa f ph (nI t) lim act sh lg pol tim b w _ j hj6 (fun z => br_t rfl ?_) (fun z => br_f (by decide) (br_t hph (yp0 (br_f c1 (br_f c2 (br_t c3 ⟨xd_i1 j hj6, ?_⟩))))))
        · -- no link yet
          have hfj : fr j < 0 := by rw [b1, gq_ct_f act j z]; decide
          have yy : ∀ post : Int32 → SY → Prop, (∃ m, wY_addContingent_79 post (nI i) (nI j) v3 v4 (nI n) (nI h) ph (nI t) yl fr yo yh yp ti pl mo m (nI i) 0) → wpY_addContingent post (nI n, nI h, ph, nI t, yl, fr, yo, yh, yp, ti, pl, mo) (nI i) (nI j) v3 v4 := by
            intro post g
            refine br_t hph (yp0 (br_f c1 (br_f c2 (br_t c3 ⟨xd_i1 j hj6, ?_⟩))))
            rw [xd_c1 j hj6]
            exact br_t hfj g
          have hiff := zg_iff n (gq_ct act) (gq_ac act) (fun c hc hcc => (hA c hc hcc).2) (by omega) a2 hN.2.2.2.1 i j hi hij
          refine zg_dep n h t ij wa f ph lim act sh lg pol tim b w a2 (by omega) hN.2.2.2.1 hA _ i j hi hj (fun hex => br_f (by decide) (yy _ (zg_ydep n h t ph act yl fr yo yh yp ti pl mo a2 hA (fun c hc => (a9 c hc).1) _ i j v3 v4 hi hj (fun _ => ⟨rfl, I0⟩) (fun hs => ?_))))
            (fun hno => br_t rfl ⟨xd_i1 j hj6, ?_⟩)
          · obtain ⟨m, hm⟩ := hex
            exact absurd hm (hiff hs m)
          · rw [xd_c1 j hj6]
            refine nm_e ⟨xd_i1 j hj6, nm_e ⟨xd_i1 j hj6, nm_e (yy _ (zg_ydep n h t ph act yl fr yo yh yp ti pl mo a2 hA (fun c hc => (a9 c hc).1) _ i j v3 v4 hi hj (fun hex => ?_) (fun _ => ⟨rfl, ?_⟩)))⟩⟩
            · obtain ⟨m, hm⟩ := hex
              exact absurd hm (hno m)
            · subst hph
              refine ⟨n, h, t, 0, wa, f, 0, lim, upd act j (nI i), upd sh j v3, upd lg j v4, pol, tim, b, w, yl, upd fr j (nI i), upd yo j v3, upd yh j v4, yp, ti, pl, mo, rfl, rfl, ?_,
                ze_md n h t ij wa lim act sh lg tim b w lim _ _ _ hM⟩
              refine ⟨a1, a2, a3, a4, a5, a6, a7, by rw [pk_un (by omega)]; exact a8, fun c hc => ?_, fun c hc => ?_, a11⟩
              · obtain ⟨e1, e2, e3, e4⟩ := a9 c hc
                by_cases y : c = j
                · rw [y, pk_us, pk_us, pk_us, pk_us, pk_us, pk_us]
                  rw [y] at e4
                  exact ⟨rfl, rfl, rfl, e4⟩
                · rw [pk_un y, pk_un y, pk_un y, pk_un y, pk_un y, pk_un y]; exact ⟨e1, e2, e3, e4⟩
              · by_cases y : c = j
                · rw [y, pk_us, pk_us, pk_us]; exact Or.inr ⟨i, hi, hij, rfl, d1, d2, d3⟩
                · rw [pk_un y, pk_un y, pk_un y]; exact a10 c hc
        · rw [xd_c1 j hj6, b1, (hA j hj z).1]
          exact br_f (nI_pos (by have := (hA j hj z).2; omega)) ⟨rfl, I0⟩
    · refine xr_pr0 n h ij wa f ph (nI t) lim act sh lg pol tim b w _ v1 v2 a2 q (br_t rfl (br_t hph (yr_pair0 n h ph (nI t) yl fr yo yh yp ti pl mo _ _ a2 (fun _ => ⟨rfl, I0⟩) (fun i j hi hj hij _ e1 e2 => absurd ⟨i, j, hi, hj, hij, e1, e2⟩ q))))
  · exact br_f hph (br_f hph ⟨rfl, I0⟩)
