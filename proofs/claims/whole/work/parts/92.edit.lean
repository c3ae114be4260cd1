-- the calls that edit
section ze
variable (n h : Nat)

def ze_lim (lim yl : Nat → Int32) : Prop :=
  (∀ u v, u < n → v < n → yl (u * 6 + v) = lim (u * 6 + v)) ∧
  (∀ u v, u < n → v < n → -(h : Int) ≤ gd_t lim u v ∧ gd_t lim u v ≤ (h : Int)) ∧
  (∀ u, u < n → u ≠ 0 → gd_t lim u 0 ≤ 0)

theorem ze_lim_u (hn : n ≤ 6) (lim yl : Nat → Int32) (hI : ze_lim n h lim yl) (u v : Nat) (hv : v < n) (x : Int32)
    (hx : -(h : Int) ≤ x.toInt ∧ x.toInt ≤ (h : Int)) (h0 : v = 0 → x.toInt ≤ 0) : ze_lim n h (upd lim (u * 6 + v) x) (upd yl (u * 6 + v) x) := by
  obtain ⟨i1, i2, i3⟩ := hI
  refine ⟨fun a c ha hc => ?_, fun a c ha hc => ?_, fun a ha ha0 => ?_⟩
  · by_cases e : a * 6 + c = u * 6 + v
    · rw [e, pk_us, pk_us]
    · rw [pk_un e, pk_un e]; exact i1 a c ha hc
  · rcases gd_cell lim u v a c x (by omega) (by omega) with ⟨_, _, e3⟩ | ⟨_, e3⟩
    · rw [e3]; exact hx
    · rw [e3]; exact i2 a c ha hc
  · rcases gd_cell lim u v a 0 x (by omega) (by omega) with ⟨_, e2, e3⟩ | ⟨_, e3⟩
    · rw [e3]; exact h0 e2.symm
    · rw [e3]; exact i3 a ha ha0

theorem ze_sh (lim act sh lg pol tim yl fr yo yh yp ti lim' yl' : Nat → Int32) (hS : gq_sh n h lim act sh lg pol tim yl fr yo yh yp ti)
    (hI : ze_lim n h lim' yl') : gq_sh n h lim' act sh lg pol tim yl' fr yo yh yp ti := by
  obtain ⟨a1, a2, a3, a4, a5, a6, a7, a8, a9, a10, a11⟩ := hS
  exact ⟨a1, a2, a3, a4, hI.1, hI.2.1, hI.2.2, a8, a9, a10, a11⟩

theorem ze_of (lim act sh lg pol tim yl fr yo yh yp ti : Nat → Int32) (hS : gq_sh n h lim act sh lg pol tim yl fr yo yh yp ti) : ze_lim n h lim yl := by
  obtain ⟨a1, a2, a3, a4, a5, a6, a7, a8, a9, a10, a11⟩ := hS
  exact ⟨a5, a6, a7⟩

/-- in LOAD, with nothing judged -/
theorem ze_md (t : Nat) (ij wa : Int32) (lim act sh lg tim b w : Nat → Int32) (lim' act' sh' lg' : Nat → Int32) (hM : gq_md n h t ij wa 0 lim act sh lg tim b w) :
    gq_md n h t 0 wa 0 lim' act' sh' lg' tim b w := by
  obtain ⟨m1, m2, m3⟩ := hM
  refine ⟨m1, m2, Or.inl ?_⟩
  rcases m3 with ⟨_, q2, q3, _⟩ | ⟨q, _⟩ | ⟨q, _⟩
  · exact ⟨rfl, q2, q3, Or.inl rfl⟩
  · exact absurd q (by decide)
  · exact absurd q (by decide)
end ze

section zf
variable (n h t : Nat) (ij wa f ph : Int32) (lim act sh lg pol tim b w yl fr yo yh yp ti pl mo : Nat → Int32)

theorem zf_ti (post : SX → Prop) (u v : Nat) (most : Int32) (hu : u < 6) (hv : v < 6)
    (h1 : lim (u * 6 + v) ≤ most → post (nI n, nI h, ij, wa, f, ph, nI t, lim, act, sh, lg, pol, tim, b, w))
    (h2 : ¬ lim (u * 6 + v) ≤ most → post (nI n, nI h, ij, wa, f, ph, nI t, upd lim (u * 6 + v) most, act, sh, lg, pol, tim, b, w)) :
    wpX_tighten post (nI n, nI h, ij, wa, f, ph, nI t, lim, act, sh, lg, pol, tim, b, w) (nI u) (nI v) most := by
  have hi := xd_in u v hu hv
  have hc := xd_cl u v hu hv
  unfold wpX_tighten
  dsimp only
  rw [hc]
  exact ⟨hi, h1, fun hn => ⟨hi, fun a ea => by rw [ea]; exact h2 hn⟩⟩

theorem zf_lo (post : SX → Prop) (u v : Nat) (hu : u < 6) (hv : v < 6)
    (g : post (nI n, nI h, ij, wa, f, ph, nI t, upd lim (u * 6 + v) (if v = 0 then 0 else nI h), act, sh, lg, pol, tim, b, w)) :
    wpX_loosen post (nI n, nI h, ij, wa, f, ph, nI t, lim, act, sh, lg, pol, tim, b, w) (nI u) (nI v) := by
  have hi := xd_in u v hu hv
  have hc := xd_cl u v hu hv
  unfold wpX_loosen
  dsimp only
  rw [hc]
  refine br_c (fun q => ⟨hi, nm_e ?_⟩) (fun q => ⟨hi, nm_e ?_⟩)
  · have e : v = 0 := (nI_eq (b := 0) (by omega) (by omega)).1 q
    rw [if_pos e] at g
    exact g
  · have e : ¬ v = 0 := fun z => q (by rw [z]; rfl)
    rw [if_neg e] at g
    exact g
end zf

theorem i_vc_addRequirement {k : Nat} {u : SX} {v : SY} (I : i_Rel k u v) (hk : k + 5 ≤ 2562) (v1 : Int32) (v2 : Int32) (v3 : Int32) (v4 : Int32) : wpX_addRequirement (fun r u' => wpY_addRequirement (fun r' v' => r' = r ∧ i_Rel (k + 5) u' v') v v1 v2 v3 v4) u v1 v2 v3 v4 := by
  have I0 := i_up I
  obtain ⟨n, h, t, ij, wa, f, ph, lim, act, sh, lg, pol, tim, b, w, yl, fr, yo, yh, yp, ti, pl, mo, rfl, rfl, hS, hM⟩ := I
  have a2 := hS.2.1
  have a4 := hS.2.2.2.1
  unfold wpX_addRequirement
  dsimp only
  by_cases hph : ph = 0
  · refine br_t hph ?_
    by_cases q : ∃ i j, i < n ∧ j < n ∧ i ≠ j ∧ v1 = nI i ∧ v2 = nI j
    · obtain ⟨i, j, hi, hj, hij, e1, e2⟩ := q
      subst e1
      subst e2
      have hi6 : i < 6 := by omega
      have hj6 : j < 6 := by omega
      have yp0 : ∀ {A R : Prop}, R → wpY_isEvent (fun r => (r = 0 → A) ∧ (¬ r = 0 → wpY_isEvent (fun r => (r = 0 → A) ∧ (¬ r = 0 → (nI i = nI j → A) ∧ (¬ nI i = nI j → R))) (nI n, nI h, ph, nI t, yl, fr, yo, yh, yp, ti, pl, mo) (nI j))) (nI n, nI h, ph, nI t, yl, fr, yo, yh, yp, ti, pl, mo) (nI i) := fun {A R} g =>
        yr_pair n h ph (nI t) yl fr yo yh yp ti pl mo _ _ a2 (fun z => absurd ⟨i, j, hi, hj, hij, rfl, rfl⟩ z) (fun _ _ _ _ _ _ _ => g)
      refine xr_pr1 n h ij wa f ph (nI t) lim act sh lg pol tim b w _ i j a2 hi hj hij (br_f (by decide) ?_)
      refine br_c (fun c1 => br_t hph (yp0 (br_t c1 ⟨rfl, I0⟩))) (fun c1 => br_c (fun c2 => br_t hph (yp0 (br_f c1 (br_t c2 ⟨rfl, I0⟩))))
        (fun c2 => br_c (fun c3 => ?_) (fun c3 => br_t hph (yp0 (br_f c1 (br_f c2 (br_f c3 ⟨rfl, I0⟩)))))))
      have nh := gq_nI h (by omega)
      have d1 : ¬ v3.toInt < -(h : Int) := by
        intro z
        refine c1 ((gn_lt _ _).2 ?_)
        rw [gn_neg _ ⟨by omega, by omega⟩, nh]; exact z
      have d2 : ¬ v4.toInt < v3.toInt := fun z => c2 ((gn_lt _ _).2 z)
      have d3 : v4.toInt ≤ (h : Int) := by
        have z := (gn_le _ _).1 c3
        rw [nh] at z
        exact z
      have d4 : (-v3).toInt = -v3.toInt := gn_neg _ ⟨by omega, by omega⟩
      have hl0 := ze_of n h lim act sh lg pol tim yl fr yo yh yp ti hS
      -- behind both: the end
      have fin : ∀ lim2 yl2 : Nat → Int32, ze_lim n h lim2 yl2 → i_Rel (k + 5) (nI n, nI h, 0, wa, f, ph, nI t, lim2, act, sh, lg, pol, tim, b, w) (nI n, nI h, ph, nI t, yl2, fr, yo, yh, yp, ti, pl, mo) := by
        intro lim2 yl2 hl
        subst hph
        exact ⟨n, h, t, 0, wa, f, 0, lim2, act, sh, lg, pol, tim, b, w, yl2, fr, yo, yh, yp, ti, pl, mo, rfl, rfl,
          ze_sh n h lim act sh lg pol tim yl fr yo yh yp ti lim2 yl2 hS hl, ze_md n h t ij wa lim act sh lg tim b w lim2 act sh lg hM⟩
      have sec : ∀ lim1 yl1 : Nat → Int32, ze_lim n h lim1 yl1 → (∀ post : Int32 → SY → Prop, wY_addRequirement_90 post (nI i) (nI j) v3 (nI n) (nI h) ph (nI t) yl1 fr yo yh yp ti pl mo →
            wpY_addRequirement post (nI n, nI h, ph, nI t, yl, fr, yo, yh, yp, ti, pl, mo) (nI i) (nI j) v3 v4) →
          (lim1 (j * 6 + i) ≤ -v3 → wpY_addRequirement (fun r' v' => r' = 0 ∧ i_Rel (k + 5) (nI n, nI h, 0, wa, f, ph, nI t, lim1, act, sh, lg, pol, tim, b, w) v') (nI n, nI h, ph, nI t, yl, fr, yo, yh, yp, ti, pl, mo) (nI i) (nI j) v3 v4) ∧
          (¬ lim1 (j * 6 + i) ≤ -v3 → wpY_addRequirement (fun r' v' => r' = 0 ∧ i_Rel (k + 5) (nI n, nI h, 0, wa, f, ph, nI t, upd lim1 (j * 6 + i) (-v3), act, sh, lg, pol, tim, b, w) v') (nI n, nI h, ph, nI t, yl, fr, yo, yh, yp, ti, pl, mo) (nI i) (nI j) v3 v4) := by
        intro lim1 yl1 hl hy
        have e := hl.1 j i hj hi
        have hx : -(h : Int) ≤ (-v3).toInt ∧ (-v3).toInt ≤ (h : Int) := ⟨by omega, by omega⟩
        refine ⟨fun c => hy _ ⟨xd_in j i hj6 hi6, ?_⟩, fun c => hy _ ⟨xd_in j i hj6 hi6, ?_⟩⟩
        · rw [xd_cl j i hj6 hi6, e]
          exact br_t c ⟨rfl, fin lim1 yl1 hl⟩
        · rw [xd_cl j i hj6 hi6, e]
          refine br_f c ⟨xd_in j i hj6 hi6, nm_e ⟨rfl, fin _ _ (ze_lim_u n h a2 lim1 yl1 hl j i hi (-v3) hx (fun z => ?_))⟩⟩
          have y := (gn_lt _ _).1 (Int32.not_le.1 c)
          have y2 := hl.2.2 j hj (by omega)
          unfold gd_t at y2
          rw [z] at y
          omega
      have e := hl0.1 i j hi hj
      have s1 := sec lim yl hl0
      have s2 := fun c : ¬ lim (i * 6 + j) ≤ v4 => sec (upd lim (i * 6 + j) v4) (upd yl (i * 6 + j) v4) (ze_lim_u n h a2 lim yl hl0 i j hj v4 ⟨by omega, d3⟩ (fun z => by
        have y := (gn_lt _ _).1 (Int32.not_le.1 c)
        have y2 := hl0.2.2 i hi (by omega)
        unfold gd_t at y2
        rw [z] at y
        omega))
      have g1 : lim (i * 6 + j) ≤ v4 → ∀ post : Int32 → SY → Prop, wY_addRequirement_90 post (nI i) (nI j) v3 (nI n) (nI h) ph (nI t) yl fr yo yh yp ti pl mo →
          wpY_addRequirement post (nI n, nI h, ph, nI t, yl, fr, yo, yh, yp, ti, pl, mo) (nI i) (nI j) v3 v4 := by
        intro c post g
        refine br_t hph (yp0 (br_f c1 (br_f c2 (br_t c3 ⟨xd_in i j hi6 hj6, ?_⟩))))
        rw [xd_cl i j hi6 hj6, e]
        exact br_t c g
      have g2 : ¬ lim (i * 6 + j) ≤ v4 → ∀ post : Int32 → SY → Prop, wY_addRequirement_90 post (nI i) (nI j) v3 (nI n) (nI h) ph (nI t) (upd yl (i * 6 + j) v4) fr yo yh yp ti pl mo →
          wpY_addRequirement post (nI n, nI h, ph, nI t, yl, fr, yo, yh, yp, ti, pl, mo) (nI i) (nI j) v3 v4 := by
        intro c post g
        refine br_t hph (yp0 (br_f c1 (br_f c2 (br_t c3 ⟨xd_in i j hi6 hj6, ?_⟩))))
        rw [xd_cl i j hi6 hj6, e]
        exact br_f c ⟨xd_in i j hi6 hj6, nm_e g⟩
      exact zf_ti n h t ij wa f ph lim act sh lg pol tim b w _ i j v4 hi6 hj6
        (fun c => zf_ti n h t ij wa f ph lim act sh lg pol tim b w _ j i (-v3) hj6 hi6 (s1 (g1 c)).1 (s1 (g1 c)).2)
        (fun c => zf_ti n h t ij wa f ph _ act sh lg pol tim b w _ j i (-v3) hj6 hi6 (s2 c (g2 c)).1 (s2 c (g2 c)).2)
    · exact xr_pr0 n h ij wa f ph (nI t) lim act sh lg pol tim b w _ v1 v2 a2 q (br_t rfl (br_t hph (yr_pair n h ph (nI t) yl fr yo yh yp ti pl mo _ _ a2 (fun _ => ⟨rfl, I0⟩) (fun i j hi hj hij e1 e2 => absurd ⟨i, j, hi, hj, hij, e1, e2⟩ q))))
  · exact br_f hph (br_f hph ⟨rfl, I0⟩)

theorem i_vc_dropRequirement {k : Nat} {u : SX} {v : SY} (I : i_Rel k u v) (hk : k + 5 ≤ 2562) (v1 : Int32) (v2 : Int32) : wpX_dropRequirement (fun r u' => wpY_dropRequirement (fun r' v' => r' = r ∧ i_Rel (k + 5) u' v') v v1 v2) u v1 v2 := by
  have I0 := i_up I
  obtain ⟨n, h, t, ij, wa, f, ph, lim, act, sh, lg, pol, tim, b, w, yl, fr, yo, yh, yp, ti, pl, mo, rfl, rfl, hS, hM⟩ := I
  have a2 := hS.2.1
  have a4 := hS.2.2.2.1
  unfold wpX_dropRequirement wpY_dropRequirement
  dsimp only
  by_cases hph : ph = 0
  · refine br_t hph ?_
    by_cases q : ∃ i j, i < n ∧ j < n ∧ i ≠ j ∧ v1 = nI i ∧ v2 = nI j
    · obtain ⟨i, j, hi, hj, hij, e1, e2⟩ := q
      subst e1
      subst e2
      have hi6 : i < 6 := by omega
      have hj6 : j < 6 := by omega
      have nh := gq_nI h (by omega)
      have hl0 := ze_of n h lim act sh lg pol tim yl fr yo yh yp ti hS
      have val : ∀ x : Nat, (-(h : Int) ≤ (if x = 0 then (0 : Int32) else nI h).toInt ∧ (if x = 0 then (0 : Int32) else nI h).toInt ≤ (h : Int)) ∧
          (x = 0 → (if x = 0 then (0 : Int32) else nI h).toInt ≤ 0) := by
        intro x
        have z0 : (0 : Int32).toInt = 0 := by decide
        by_cases z : x = 0
        · rw [if_pos z, z0]; exact ⟨⟨by omega, by omega⟩, fun _ => by omega⟩
        · rw [if_neg z, nh]; exact ⟨⟨by omega, by omega⟩, fun y => absurd y z⟩
      have hl1 := ze_lim_u n h a2 lim yl hl0 i j hj _ (val j).1 (val j).2
      have hl2 := ze_lim_u n h a2 _ _ hl1 j i hi _ (val i).1 (val i).2
      have fin : ∀ x y : Int32, x = (if j = 0 then (0 : Int32) else nI h) → y = (if i = 0 then (0 : Int32) else nI h) → i_Rel (k + 5) (nI n, nI h, 0, wa, f, ph, nI t, upd (upd lim (i * 6 + j) (if j = 0 then (0 : Int32) else nI h)) (j * 6 + i) (if i = 0 then (0 : Int32) else nI h), act, sh, lg, pol, tim, b, w)
          (nI n, nI h, ph, nI t, upd (upd yl (i * 6 + j) x) (j * 6 + i) y, fr, yo, yh, yp, ti, pl, mo) := by
        intro x y ex ey
        rw [ex, ey]
        subst hph
        exact ⟨n, h, t, 0, wa, f, 0, _, act, sh, lg, pol, tim, b, w, _, fr, yo, yh, yp, ti, pl, mo, rfl, rfl,
          ze_sh n h lim act sh lg pol tim yl fr yo yh yp ti _ _ hS hl2, ze_md n h t ij wa lim act sh lg tim b w _ act sh lg hM⟩
      refine xr_pr1 n h ij wa f ph (nI t) lim act sh lg pol tim b w _ i j a2 hi hj hij (br_f (by decide) ?_)
      refine zf_lo n h t ij wa f ph lim act sh lg pol tim b w _ i j hi6 hj6 ?_
      refine zf_lo n h t ij wa f ph _ act sh lg pol tim b w _ j i hj6 hi6 (br_t hph ?_)
      refine yr_pair n h ph (nI t) yl fr yo yh yp ti pl mo _ _ a2 (fun z => absurd ⟨i, j, hi, hj, hij, rfl, rfl⟩ z) (fun _ _ _ _ _ _ _ => ?_)
      have ei : nI i = 0 → (0 : Int32) = (if i = 0 then (0 : Int32) else nI h) := fun z => by rw [if_pos ((nI_eq (b := 0) (by omega) (by omega)).1 z)]
      have ei' : ¬ nI i = 0 → nI h = (if i = 0 then (0 : Int32) else nI h) := fun z => by rw [if_neg (fun y => z (by rw [y]; rfl))]
      have ej : nI j = 0 → (0 : Int32) = (if j = 0 then (0 : Int32) else nI h) := fun z => by rw [if_pos ((nI_eq (b := 0) (by omega) (by omega)).1 z)]
      have ej' : ¬ nI j = 0 → nI h = (if j = 0 then (0 : Int32) else nI h) := fun z => by rw [if_neg (fun y => z (by rw [y]; rfl))]
      refine br_c (fun z => ⟨xd_in i j hi6 hj6, ?_⟩) (fun z => ⟨xd_in i j hi6 hj6, ?_⟩)
      · rw [xd_cl i j hi6 hj6, xd_cl j i hj6 hi6]
        exact nm_e (br_c (fun y => ⟨xd_in j i hj6 hi6, nm_e ⟨rfl, fin _ _ (ej z) (ei y)⟩⟩) (fun y => ⟨xd_in j i hj6 hi6, nm_e ⟨rfl, fin _ _ (ej z) (ei' y)⟩⟩))
      · rw [xd_cl i j hi6 hj6, xd_cl j i hj6 hi6]
        exact nm_e (br_c (fun y => ⟨xd_in j i hj6 hi6, nm_e ⟨rfl, fin _ _ (ej' z) (ei y)⟩⟩) (fun y => ⟨xd_in j i hj6 hi6, nm_e ⟨rfl, fin _ _ (ej' z) (ei' y)⟩⟩))
    · exact xr_pr0 n h ij wa f ph (nI t) lim act sh lg pol tim b w _ v1 v2 a2 q (br_t rfl (br_t hph (yr_pair n h ph (nI t) yl fr yo yh yp ti pl mo _ _ a2 (fun _ => ⟨rfl, I0⟩) (fun i j hi hj hij e1 e2 => absurd ⟨i, j, hi, hj, hij, e1, e2⟩ q))))
  · exact br_f hph (br_f hph ⟨rfl, I0⟩)

theorem i_vc_dropContingent {k : Nat} {u : SX} {v : SY} (I : i_Rel k u v) (hk : k + 5 ≤ 2562) (v1 : Int32) : wpX_dropContingent (fun r u' => wpY_dropContingent (fun r' v' => r' = r ∧ i_Rel (k + 5) u' v') v v1) u v1 := by
  have I0 := i_up I
  obtain ⟨n, h, t, ij, wa, f, ph, lim, act, sh, lg, pol, tim, b, w, yl, fr, yo, yh, yp, ti, pl, mo, rfl, rfl, hS, hM⟩ := I
  obtain ⟨a1, a2, a3, a4, a5, a6, a7, a8, a9, a10, a11⟩ := hS
  unfold wpX_dropContingent wpY_dropContingent
  dsimp only
  by_cases hph : ph = 0
  · refine br_t hph ?_
    by_cases q : ∃ j, 1 ≤ j ∧ j < n ∧ v1 = nI j
    · obtain ⟨j, h1, hj, e⟩ := q
      subst e
      have hj6 : j < 6 := by omega
      obtain ⟨b1, b2, b3, b4⟩ := a9 j hj
      have yl0 : ∀ {A R : Prop}, R → wpY_isEvent (fun r => (r = 0 → A) ∧ (¬ r = 0 → (nI j = 0 → A) ∧ (¬ nI j = 0 → R))) (nI n, nI h, ph, nI t, yl, fr, yo, yh, yp, ti, pl, mo) (nI j) := fun {A R} g =>
        yr_late n h ph (nI t) yl fr yo yh yp ti pl mo _ a2 (fun z => absurd ⟨j, h1, hj, rfl⟩ z) (fun _ _ _ _ => g)
      refine xr_lt1 n h ij wa f ph (nI t) lim act sh lg pol tim b w _ j a2 h1 hj (br_f (by decide) (xr_ct n h ij wa f ph (nI t) lim act sh lg pol tim b w _ j hj6 (fun z => br_t rfl (br_t hph (yl0 ⟨xd_i1 j hj6, ?_⟩))) (fun z => br_f (by decide) ⟨xd_i1 j hj6, ?_⟩)))
      · rw [xd_c1 j hj6, b1, gq_ct_f act j z]
        exact br_f (by decide) ⟨rfl, I0⟩
      · rw [xd_c1 j hj6]
        refine nm_e (br_t hph (yl0 ⟨xd_i1 j hj6, ?_⟩))
        obtain ⟨c1, c2⟩ := gq_link n h act sh lg a2 a10 j hj z
        have npos : 0 ≤ fr j := by rw [b1, c1]; exact nI_pos' (by omega)
        refine br_t npos ⟨xd_i1 j hj6, nm_e ⟨rfl, ?_⟩⟩
        subst hph
        refine ⟨n, h, t, 0, wa, f, 0, lim, upd act j (-1), sh, lg, pol, tim, b, w, yl, upd fr j (-1), yo, yh, yp, ti, pl, mo, rfl, rfl, ?_,
          ze_md n h t ij wa lim act sh lg tim b w lim _ sh lg hM⟩
        refine ⟨a1, a2, a3, a4, a5, a6, a7, by rw [pk_un (by omega)]; exact a8, fun c hc => ?_, fun c hc => ?_, a11⟩
        · obtain ⟨d1, d2, d3, d4⟩ := a9 c hc
          refine ⟨?_, d2, d3, d4⟩
          by_cases y : c = j
          · rw [y, pk_us, pk_us]
          · rw [pk_un y, pk_un y]; exact d1
        · by_cases y : c = j
          · rw [y, pk_us]; exact Or.inl rfl
          · rw [pk_un y]; exact a10 c hc
    · exact xr_lt0 n h ij wa f ph (nI t) lim act sh lg pol tim b w _ v1 a2 q (br_t rfl (br_t hph (yr_late n h ph (nI t) yl fr yo yh yp ti pl mo _ a2 (fun _ => ⟨rfl, I0⟩) (fun j h1 hj e => absurd ⟨j, h1, hj, e⟩ q))))
  · exact br_f hph (br_f hph ⟨rfl, I0⟩)
