-- the relation; the calls that read
section yr
variable (n h : Nat) (ph rd : Int32) (yl fr yo yh yp ti pl mo : Nat → Int32)

theorem yr_ev1 (post : Int32 → Prop) (i : Nat) (hn : n ≤ 6) (hi : i < n) (g : post 1) : wpY_isEvent post (nI n, nI h, ph, rd, yl, fr, yo, yh, yp, ti, pl, mo) (nI i) :=
  br_f (nI_pos (by omega)) (br_f (nI_ge hi (by omega)) g)
theorem yr_ev0 (post : Int32 → Prop) (a : Int32) (hn : n ≤ 6) (ha : ¬ ∃ i, i < n ∧ a = nI i) (g : post 0) : wpY_isEvent post (nI n, nI h, ph, rd, yl, fr, yo, yh, yp, ti, pl, mo) a := by
  refine br_c (fun _ => g) (fun q => br_c (fun _ => g) (fun q2 => ?_))
  obtain ⟨j, hj, e⟩ := nI_of q
  refine absurd ⟨j, ?_, e⟩ ha
  by_cases z : j < n
  · exact z
  · exact absurd (by rw [e]; exact nI_le (by omega) hj) q2
theorem yr_pair {A R : Prop} (a c : Int32) (hn : n ≤ 6) (hA : (¬ ∃ i j, i < n ∧ j < n ∧ i ≠ j ∧ a = nI i ∧ c = nI j) → A)
    (hR : ∀ i j, i < n → j < n → i ≠ j → a = nI i → c = nI j → R) :
    wpY_isEvent (fun r => (r = 0 → A) ∧ (¬ r = 0 → wpY_isEvent (fun r => (r = 0 → A) ∧ (¬ r = 0 → (a = c → A) ∧ (¬ a = c → R))) (nI n, nI h, ph, rd, yl, fr, yo, yh, yp, ti, pl, mo) c)) (nI n, nI h, ph, rd, yl, fr, yo, yh, yp, ti, pl, mo) a := by
  by_cases q : ∃ i, i < n ∧ a = nI i
  · obtain ⟨i, hi, e⟩ := q
    subst e
    refine yr_ev1 n h ph rd yl fr yo yh yp ti pl mo _ i hn hi (br_f (by decide) ?_)
    by_cases q2 : ∃ j, j < n ∧ c = nI j
    · obtain ⟨j, hj, e⟩ := q2
      subst e
      refine yr_ev1 n h ph rd yl fr yo yh yp ti pl mo _ j hn hj (br_f (by decide) (br_c (fun z => hA ?_) (fun z => hR i j hi hj (fun y => z (by rw [y])) rfl rfl)))
      intro ⟨i', j', hi', hj', hne, e1, e2⟩
      have x1 : i = i' := (nI_eq (by omega) (by omega)).1 e1
      have x2 : j = j' := (nI_eq (by omega) (by omega)).1 e2
      have x3 : i = j := (nI_eq (by omega) (by omega)).1 z
      omega
    · refine yr_ev0 n h ph rd yl fr yo yh yp ti pl mo _ c hn q2 (br_t rfl (hA ?_))
      intro ⟨i', j', hi', hj', hne, e1, e2⟩
      exact q2 ⟨j', hj', e2⟩
  · refine yr_ev0 n h ph rd yl fr yo yh yp ti pl mo _ a hn q (br_t rfl (hA ?_))
    intro ⟨i', j', hi', hj', hne, e1, e2⟩
    exact q ⟨i', hi', e1⟩
theorem yr_pair0 {A R : Prop} (a c : Int32) (hn : n ≤ 6) (hA : (¬ ∃ i j, i < n ∧ j < n ∧ i ≠ j ∧ j ≠ 0 ∧ a = nI i ∧ c = nI j) → A)
    (hR : ∀ i j, i < n → j < n → i ≠ j → j ≠ 0 → a = nI i → c = nI j → R) :
    wpY_isEvent (fun r => (r = 0 → A) ∧ (¬ r = 0 → wpY_isEvent (fun r => (r = 0 → A) ∧ (¬ r = 0 → (c = 0 → A) ∧ (¬ c = 0 → (a = c → A) ∧ (¬ a = c → R)))) (nI n, nI h, ph, rd, yl, fr, yo, yh, yp, ti, pl, mo) c)) (nI n, nI h, ph, rd, yl, fr, yo, yh, yp, ti, pl, mo) a := by
  by_cases q : ∃ i, i < n ∧ a = nI i
  · obtain ⟨i, hi, e⟩ := q
    subst e
    refine yr_ev1 n h ph rd yl fr yo yh yp ti pl mo _ i hn hi (br_f (by decide) ?_)
    by_cases q2 : ∃ j, j < n ∧ c = nI j
    · obtain ⟨j, hj, e⟩ := q2
      subst e
      refine yr_ev1 n h ph rd yl fr yo yh yp ti pl mo _ j hn hj (br_f (by decide) (br_c (fun z => hA ?_) (fun z0 => br_c (fun z => hA ?_)
        (fun z => hR i j hi hj (fun y => z (by rw [y])) (fun y => z0 (by rw [y]; rfl)) rfl rfl))))
      · intro ⟨i', j', hi', hj', hne, hne0, e1, e2⟩
        have x2 : j = j' := (nI_eq (by omega) (by omega)).1 e2
        have x3 : j = 0 := (nI_eq (b := 0) (by omega) (by omega)).1 z
        omega
      · intro ⟨i', j', hi', hj', hne, hne0, e1, e2⟩
        have x1 : i = i' := (nI_eq (by omega) (by omega)).1 e1
        have x2 : j = j' := (nI_eq (by omega) (by omega)).1 e2
        have x3 : i = j := (nI_eq (by omega) (by omega)).1 z
        omega
    · refine yr_ev0 n h ph rd yl fr yo yh yp ti pl mo _ c hn q2 (br_t rfl (hA ?_))
      intro ⟨i', j', hi', hj', hne, hne0, e1, e2⟩
      exact q2 ⟨j', hj', e2⟩
  · refine yr_ev0 n h ph rd yl fr yo yh yp ti pl mo _ a hn q (br_t rfl (hA ?_))
    intro ⟨i', j', hi', hj', hne, hne0, e1, e2⟩
    exact q ⟨i', hi', e1⟩
/-- a later event -/
theorem yr_late {A R : Prop} (c : Int32) (hn : n ≤ 6) (hA : (¬ ∃ j, 1 ≤ j ∧ j < n ∧ c = nI j) → A)
    (hR : ∀ j, 1 ≤ j → j < n → c = nI j → R) :
    wpY_isEvent (fun r => (r = 0 → A) ∧ (¬ r = 0 → (c = 0 → A) ∧ (¬ c = 0 → R))) (nI n, nI h, ph, rd, yl, fr, yo, yh, yp, ti, pl, mo) c := by
  by_cases q : ∃ i, i < n ∧ c = nI i
  · obtain ⟨i, hi, e⟩ := q
    subst e
    refine yr_ev1 n h ph rd yl fr yo yh yp ti pl mo _ i hn hi (br_f (by decide) (br_c (fun z => hA ?_) (fun z => hR i ?_ hi rfl)))
    · intro ⟨j, h1, hj, e⟩
      have x2 : i = j := (nI_eq (by omega) (by omega)).1 e
      have x3 : i = 0 := (nI_eq (b := 0) (by omega) (by omega)).1 z
      omega
    · by_cases y : i = 0
      · exact absurd (by rw [y]; rfl) z
      · omega
  · refine yr_ev0 n h ph rd yl fr yo yh yp ti pl mo _ c hn q (br_t rfl (hA ?_))
    intro ⟨j, h1, hj, e⟩
    exact q ⟨j, hj, e⟩
end yr

/-- the two states hold the same network, policies and times, and the program's bounds and waits say what is safe -/
def i_Rel (k : Nat) (u : SX) (v : SY) : Prop :=
  ∃ (n h t : Nat) (ij wa f ph : Int32) (lim act sh lg pol tim b w yl fr yo yh yp ti pl mo : Nat → Int32),
    u = (nI n, nI h, ij, wa, f, ph, nI t, lim, act, sh, lg, pol, tim, b, w) ∧ v = (nI n, nI h, ph, nI t, yl, fr, yo, yh, yp, ti, pl, mo) ∧
    gq_sh n h lim act sh lg pol tim yl fr yo yh yp ti ∧ gq_md n h t ij wa ph lim act sh lg tim b w

theorem i_up {k : Nat} {u : SX} {v : SY} (h : i_Rel k u v) : i_Rel (k + 5) u v := h

theorem i_vc_state {k : Nat} {u : SX} {v : SY} (I : i_Rel k u v) (hk : k + 5 ≤ 2562) : wpX_state (fun r => wpY_state (fun r' => r' = r ∧ i_Rel (k + 5) u v) v) u := by
  have I0 := i_up I
  obtain ⟨n, h, t, ij, wa, f, ph, lim, act, sh, lg, pol, tim, b, w, yl, fr, yo, yh, yp, ti, pl, mo, rfl, rfl, hS, hM⟩ := I
  exact ⟨rfl, I0⟩
theorem i_vc_now {k : Nat} {u : SX} {v : SY} (I : i_Rel k u v) (hk : k + 5 ≤ 2562) : wpX_now (fun r => wpY_now (fun r' => r' = r ∧ i_Rel (k + 5) u v) v) u := by
  have I0 := i_up I
  obtain ⟨n, h, t, ij, wa, f, ph, lim, act, sh, lg, pol, tim, b, w, yl, fr, yo, yh, yp, ti, pl, mo, rfl, rfl, hS, hM⟩ := I
  exact ⟨rfl, I0⟩
theorem i_vc_timeOf {k : Nat} {u : SX} {v : SY} (I : i_Rel k u v) (hk : k + 5 ≤ 2562) (v1 : Int32) : wpX_timeOf (fun r => wpY_timeOf (fun r' => r' = r ∧ i_Rel (k + 5) u v) v v1) u v1 := by
  have I0 := i_up I
  obtain ⟨n, h, t, ij, wa, f, ph, lim, act, sh, lg, pol, tim, b, w, yl, fr, yo, yh, yp, ti, pl, mo, rfl, rfl, hS, hM⟩ := I
  obtain ⟨a1, a2, a3, a4, a5, a6, a7, a8, a9, a10, a11⟩ := hS
  unfold wpX_timeOf wpY_timeOf
  dsimp only
  by_cases q : ∃ i, i < n ∧ v1 = nI i
  · obtain ⟨i, hi, e⟩ := q
    subst e
    have hi6 : i < 6 := by omega
    refine xr_ev1 n h ij wa f ph (nI t) lim act sh lg pol tim b w _ i a2 hi (br_f (by decide) ⟨xd_i1 i hi6, ?_⟩)
    rw [xd_c1 i hi6]
    rcases a11 i hi with ⟨q1, q2⟩ | ⟨τ, hτ, q1, q2⟩
    · exact br_t q1 (yr_ev1 n h ph (nI t) yl fr yo yh yp ti pl mo _ i a2 hi (br_f (by decide) ⟨xd_i1 i hi6, q2, I0⟩))
    · exact br_f (by rw [q1]; exact gq_nIm τ (by omega)) ⟨xd_i1 i hi6, yr_ev1 n h ph (nI t) yl fr yo yh yp ti pl mo _ i a2 hi (br_f (by decide) ⟨xd_i1 i hi6, by rw [q1, q2], I0⟩)⟩
  · exact xr_ev0 n h ij wa f ph (nI t) lim act sh lg pol tim b w _ v1 a2 q (br_t rfl (yr_ev0 n h ph (nI t) yl fr yo yh yp ti pl mo _ v1 a2 q (br_t rfl ⟨rfl, I0⟩)))
theorem i_vc_limit {k : Nat} {u : SX} {v : SY} (I : i_Rel k u v) (hk : k + 5 ≤ 2562) (v1 : Int32) (v2 : Int32) : wpX_limit (fun r => wpY_limit (fun r' => r' = r ∧ i_Rel (k + 5) u v) v v1 v2) u v1 v2 := by
  have I0 := i_up I
  obtain ⟨n, h, t, ij, wa, f, ph, lim, act, sh, lg, pol, tim, b, w, yl, fr, yo, yh, yp, ti, pl, mo, rfl, rfl, hS, hM⟩ := I
  obtain ⟨a1, a2, a3, a4, a5, a6, a7, a8, a9, a10, a11⟩ := hS
  unfold wpX_limit wpY_limit
  dsimp only
  by_cases q : ∃ i j, i < n ∧ j < n ∧ i ≠ j ∧ v1 = nI i ∧ v2 = nI j
  · obtain ⟨i, j, hi, hj, hij, e1, e2⟩ := q
    subst e1
    subst e2
    have hi6 : i < 6 := by omega
    have hj6 : j < 6 := by omega
    refine xr_pr1 n h ij wa f ph (nI t) lim act sh lg pol tim b w _ i j a2 hi hj hij (br_f (by decide) ⟨xd_in i j hi6 hj6, ?_⟩)
    rw [xd_cl i j hi6 hj6]
    refine yr_pair n h ph (nI t) yl fr yo yh yp ti pl mo _ _ a2 (fun z => absurd ⟨i, j, hi, hj, hij, rfl, rfl⟩ z) (fun _ _ _ _ _ _ _ => ⟨xd_in i j hi6 hj6, a5 i j hi hj, I0⟩)
  · refine xr_pr0 n h ij wa f ph (nI t) lim act sh lg pol tim b w _ v1 v2 a2 q (br_t rfl (yr_pair n h ph (nI t) yl fr yo yh yp ti pl mo _ _ a2 (fun _ => ⟨rfl, I0⟩) (fun i j hi hj hij e1 e2 => absurd ⟨i, j, hi, hj, hij, e1, e2⟩ q)))
theorem i_vc_linkOf {k : Nat} {u : SX} {v : SY} (I : i_Rel k u v) (hk : k + 5 ≤ 2562) (v1 : Int32) (v2 : Int32) : wpX_linkOf (fun r => wpY_linkOf (fun r' => r' = r ∧ i_Rel (k + 5) u v) v v1 v2) u v1 v2 := by
  have I0 := i_up I
  obtain ⟨n, h, t, ij, wa, f, ph, lim, act, sh, lg, pol, tim, b, w, yl, fr, yo, yh, yp, ti, pl, mo, rfl, rfl, hS, hM⟩ := I
  obtain ⟨a1, a2, a3, a4, a5, a6, a7, a8, a9, a10, a11⟩ := hS
  unfold wpX_linkOf wpY_linkOf
  dsimp only
  by_cases q : ∃ j, 1 ≤ j ∧ j < n ∧ v1 = nI j
  · obtain ⟨j, h1, hj, e⟩ := q
    subst e
    have hj6 : j < 6 := by omega
    obtain ⟨b1, b2, b3, b4⟩ := a9 j hj
    have yl0 : ∀ {A R : Prop}, R → wpY_isEvent (fun r => (r = 0 → A) ∧ (¬ r = 0 → (nI j = 0 → A) ∧ (¬ nI j = 0 → R))) (nI n, nI h, ph, nI t, yl, fr, yo, yh, yp, ti, pl, mo) (nI j) := fun {A R} g =>
      yr_late n h ph (nI t) yl fr yo yh yp ti pl mo _ a2 (fun z => absurd ⟨j, h1, hj, rfl⟩ z) (fun _ _ _ _ => g)
    refine xr_lt1 n h ij wa f ph (nI t) lim act sh lg pol tim b w _ j a2 h1 hj (br_f (by decide) (br_c (fun q1 => yl0 (br_t q1 ⟨rfl, I0⟩)) (fun q1 => br_c (fun q2 => ?_) (fun q2 => yl0 (br_f q1 (br_f q2 ⟨rfl, I0⟩))))))
    refine xr_ct n h ij wa f ph (nI t) lim act sh lg pol tim b w _ j hj6 (fun z => br_t rfl (yl0 (br_f q1 (br_t q2 ⟨xd_i1 j hj6, ?_⟩)))) (fun z => br_f (by decide) ?_)
    · rw [xd_c1 j hj6, b1, gq_ct_f act j z]
      exact br_f (by decide) ⟨rfl, I0⟩
    · obtain ⟨c1, c2⟩ := gq_link n h act sh lg a2 a10 j hj z
      have npos : 0 ≤ fr j := by rw [b1, c1]; exact nI_pos' (by omega)
      refine br_c (fun q3 => ⟨xd_i1 j hj6, ?_⟩) (fun q3 => br_c (fun q4 => ⟨xd_i1 j hj6, ?_⟩) (fun q4 => ⟨xd_i1 j hj6, ?_⟩))
      · refine yl0 (br_f q1 (br_t q2 ⟨xd_i1 j hj6, ?_⟩))
        rw [xd_c1 j hj6]
        exact br_t npos (br_t q3 ⟨xd_i1 j hj6, b1, I0⟩)
      · refine yl0 (br_f q1 (br_t q2 ⟨xd_i1 j hj6, ?_⟩))
        rw [xd_c1 j hj6]
        exact br_t npos (br_f q3 (br_t q4 ⟨xd_i1 j hj6, b2, I0⟩))
      · refine yl0 (br_f q1 (br_t q2 ⟨xd_i1 j hj6, ?_⟩))
        rw [xd_c1 j hj6]
        exact br_t npos (br_f q3 (br_f q4 ⟨xd_i1 j hj6, b3, I0⟩))
  · exact xr_lt0 n h ij wa f ph (nI t) lim act sh lg pol tim b w _ v1 a2 q (br_t rfl (yr_late n h ph (nI t) yl fr yo yh yp ti pl mo _ a2 (fun _ => ⟨rfl, I0⟩) (fun j h1 hj e => absurd ⟨j, h1, hj, e⟩ q)))
theorem i_vc_policyOf {k : Nat} {u : SX} {v : SY} (I : i_Rel k u v) (hk : k + 5 ≤ 2562) (v1 : Int32) : wpX_policyOf (fun r => wpY_policyOf (fun r' => r' = r ∧ i_Rel (k + 5) u v) v v1) u v1 := by
  have I0 := i_up I
  obtain ⟨n, h, t, ij, wa, f, ph, lim, act, sh, lg, pol, tim, b, w, yl, fr, yo, yh, yp, ti, pl, mo, rfl, rfl, hS, hM⟩ := I
  obtain ⟨a1, a2, a3, a4, a5, a6, a7, a8, a9, a10, a11⟩ := hS
  unfold wpX_policyOf wpY_policyOf
  dsimp only
  by_cases q : ∃ j, 1 ≤ j ∧ j < n ∧ v1 = nI j
  · obtain ⟨j, h1, hj, e⟩ := q
    subst e
    have hj6 : j < 6 := by omega
    refine xr_lt1 n h ij wa f ph (nI t) lim act sh lg pol tim b w _ j a2 h1 hj (br_f (by decide) ⟨xd_i1 j hj6, ?_⟩)
    rw [xd_c1 j hj6]
    exact yr_late n h ph (nI t) yl fr yo yh yp ti pl mo _ a2 (fun z => absurd ⟨j, h1, hj, rfl⟩ z) (fun _ _ _ _ => ⟨xd_i1 j hj6, (a9 j hj).2.2.2, I0⟩)
  · exact xr_lt0 n h ij wa f ph (nI t) lim act sh lg pol tim b w _ v1 a2 q (br_t rfl (yr_late n h ph (nI t) yl fr yo yh yp ti pl mo _ a2 (fun _ => ⟨rfl, I0⟩) (fun j h1 hj e => absurd ⟨j, h1, hj, e⟩ q)))
theorem i_vc_setPolicy {k : Nat} {u : SX} {v : SY} (I : i_Rel k u v) (hk : k + 5 ≤ 2562) (v1 : Int32) (v2 : Int32) : wpX_setPolicy (fun r u' => wpY_setPolicy (fun r' v' => r' = r ∧ i_Rel (k + 5) u' v') v v1 v2) u v1 v2 := by
  have I0 := i_up I
  obtain ⟨n, h, t, ij, wa, f, ph, lim, act, sh, lg, pol, tim, b, w, yl, fr, yo, yh, yp, ti, pl, mo, rfl, rfl, hS, hM⟩ := I
  have hS0 := hS
  obtain ⟨a1, a2, a3, a4, a5, a6, a7, a8, a9, a10, a11⟩ := hS
  unfold wpX_setPolicy wpY_setPolicy
  dsimp only
  by_cases q : ∃ j, 1 ≤ j ∧ j < n ∧ v1 = nI j
  · obtain ⟨j, h1, hj, e⟩ := q
    subst e
    have hj6 : j < 6 := by omega
    have yl0 : ∀ {A R : Prop}, R → wpY_isEvent (fun r => (r = 0 → A) ∧ (¬ r = 0 → (nI j = 0 → A) ∧ (¬ nI j = 0 → R))) (nI n, nI h, ph, nI t, yl, fr, yo, yh, yp, ti, pl, mo) (nI j) := fun {A R} g =>
      yr_late n h ph (nI t) yl fr yo yh yp ti pl mo _ a2 (fun z => absurd ⟨j, h1, hj, rfl⟩ z) (fun _ _ _ _ => g)
    have fin : i_Rel (k + 5) (nI n, nI h, ij, wa, f, ph, nI t, lim, act, sh, lg, upd pol j v2, tim, b, w) (nI n, nI h, ph, nI t, yl, fr, yo, yh, upd yp j v2, ti, pl, mo) := by
      refine ⟨n, h, t, ij, wa, f, ph, lim, act, sh, lg, upd pol j v2, tim, b, w, yl, fr, yo, yh, upd yp j v2, ti, pl, mo, rfl, rfl, ?_, hM⟩
      refine ⟨a1, a2, a3, a4, a5, a6, a7, a8, fun c hc => ?_, a10, a11⟩
      obtain ⟨b1, b2, b3, b4⟩ := a9 c hc
      refine ⟨b1, b2, b3, ?_⟩
      by_cases y : c = j
      · rw [y, pk_us, pk_us]
      · rw [pk_un y, pk_un y]; exact b4
    refine xr_lt1 n h ij wa f ph (nI t) lim act sh lg pol tim b w _ j a2 h1 hj (br_f (by decide) (br_c (fun q1 => ⟨xd_i1 j hj6, ?_⟩) (fun q1 => br_c (fun q2 => ⟨xd_i1 j hj6, ?_⟩) (fun q2 => yl0 (br_f q1 (br_f q2 ⟨rfl, I0⟩))))))
    · rw [xd_c1 j hj6]
      exact nm_e (yl0 (br_t q1 ⟨xd_i1 j hj6, nm_e ⟨rfl, fin⟩⟩))
    · rw [xd_c1 j hj6]
      exact nm_e (yl0 (br_f q1 (br_t q2 ⟨xd_i1 j hj6, nm_e ⟨rfl, fin⟩⟩)))
  · exact xr_lt0 n h ij wa f ph (nI t) lim act sh lg pol tim b w _ v1 a2 q (br_t rfl (yr_late n h ph (nI t) yl fr yo yh yp ti pl mo _ a2 (fun _ => ⟨rfl, I0⟩) (fun j h1 hj e => absurd ⟨j, h1, hj, e⟩ q)))
