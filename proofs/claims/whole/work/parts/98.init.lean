-- the constructors
section zj
variable (n h : Nat) (ij wa f ph rd : Int32) (lim act sh lg pol tim b w yl fr yo yh yp ti pl mo : Nat → Int32)

theorem zj_clamp (x : Int32) (M : Nat) (hM : 3 ≤ M) (hM7 : M ≤ 7) : ∃ c : Nat, 3 ≤ c ∧ c ≤ M ∧
    (∀ post : Int32 → Prop, post (nI c) → wpX_clamp post x 3 (nI M)) ∧
    (∀ A : Int32 → Prop, A (nI c) → (3 ≤ x → (x ≤ nI M → A x) ∧ (¬ x ≤ nI M → A (nI M))) ∧ (¬ 3 ≤ x → A 3)) := by
  by_cases q : 3 ≤ x
  · by_cases q2 : x ≤ nI M
    · have q0 : ¬ x < 0 := by
        intro z
        have y1 := (gn_lt _ _).1 z
        have y2 := (gn_le _ _).1 q
        have e3 : (3 : Int32).toInt = 3 := by decide
        have e0 : (0 : Int32).toInt = 0 := by decide
        rw [e3] at y2
        rw [e0] at y1
        omega
      obtain ⟨j, hj, e⟩ := nI_of q0
      subst e
      have y1 : 3 ≤ j := (nI_leI (a := 3) (by omega) hj).1 q
      have y2 : j ≤ M := (nI_leI hj (by omega)).1 q2
      exact ⟨j, y1, y2, fun post g => br_t q (br_t q2 g), fun A g => br_t q (br_t q2 g)⟩
    · exact ⟨M, hM, Nat.le_refl _, fun post g => br_t q (br_f q2 g), fun A g => br_t q (br_f q2 g)⟩
  · exact ⟨3, Nat.le_refl _, hM, fun post g => br_f q g, fun A g => br_f q g⟩

def zj_row (N m : Nat) (x : Nat) (lim : Nat → Int32) : Prop := ∀ y, y < m → y < N → lim (x * 6 + y) = (if y = 0 then (0 : Int32) else nI h)

theorem zj_26 (hn : n ≤ 6) (post : SX → Prop) (J2 : Int32 → Int32 → Int32 → Int32 → Int32 → Int32 → Int32 → Int32 → (Nat → Int32) → (Nat → Int32) → (Nat → Int32) → (Nat → Int32) → (Nat → Int32) → (Nat → Int32) → (Nat → Int32) → (Nat → Int32) → Prop) (u : Nat) (hu : u < n) (lim0 : Nat → Int32)
    (hx : ∀ lim, (∀ x, x ≠ u → ∀ y, y < 6 → lim (x * 6 + y) = lim0 (x * 6 + y)) → zj_row h n n u lim → J2 (nI (u + 1)) (nI n) (nI h) ij wa f ph rd lim act sh lg pol tim b w) :
    ∃ m, wX_clearLinks_26 post J2 (nI u) m 0 (nI n) (nI h) ij wa f ph rd lim0 act sh lg pol tim b w := by
  have hu6 : u < 6 := by omega
  refine loop_0 (fun m i (lim : Nat → Int32) => wX_clearLinks_26 post J2 (nI u) m (nI i) (nI n) (nI h) ij wa f ph rd lim act sh lg pol tim b w)
    (fun i lim => (∀ x, x ≠ u → ∀ y, y < 6 → lim (x * 6 + y) = lim0 (x * 6 + y)) ∧ zj_row h n i u lim) n lim0 ⟨fun _ _ _ _ => rfl, fun y hy => absurd hy (by omega)⟩ ?_ ?_
  · intro m lim hs
    exact br_t (Int32.le_refl _) (nm_r (nI_1 u) (hx lim hs.1 hs.2))
  · intro m i lim hi hs ih
    have hi6 : i < 6 := by omega
    have hin := xd_in u i hu6 hi6
    have step : ∀ z : Int32, z = (if i = 0 then (0 : Int32) else nI h) →
        (∀ x, x ≠ u → ∀ y, y < 6 → upd lim (u * 6 + i) z (x * 6 + y) = lim0 (x * 6 + y)) ∧ zj_row h n (i + 1) u (upd lim (u * 6 + i) z) := by
      intro z hz
      refine ⟨fun x hx y hy => ?_, fun y hy hyn => ?_⟩
      · rw [pk_un (by omega)]; exact hs.1 x hx y hy
      · by_cases e : y = i
        · rw [e, pk_us]; exact hz
        · rw [pk_un (by omega)]; exact hs.2 y (by omega) hyn
    refine br_f (nI_ge hi (by omega)) ?_
    unfold wpX_loosen
    dsimp only
    rw [xd_cl u i hu6 hi6]
    refine br_c (fun q => ⟨hin, nm_e (nm_r (nI_1 i) (ih _ (step 0 ?_)))⟩) (fun q => ⟨hin, nm_e (nm_r (nI_1 i) (ih _ (step (nI h) ?_)))⟩)
    · rw [if_pos ((nI_eq (b := 0) (by omega) (by omega)).1 q)]
    · rw [if_neg (fun y => q (by rw [y]; rfl))]

theorem zj_clear (hn : n ≤ 6) (post : SX → Prop)
    (g : ∀ lim act pol, (∀ x, x < n → act x = -1 ∧ pol x = 0 ∧ zj_row h n n x lim) → post (nI n, nI h, ij, wa, f, ph, rd, lim, act, sh, lg, pol, tim, b, w)) : wpX_clearLinks post (nI n, nI h, ij, wa, f, ph, rd, lim, act, sh, lg, pol, tim, b, w) := by
  refine loop_0 (fun m i (s : (Nat → Int32) × (Nat → Int32) × (Nat → Int32)) => wX_clearLinks_2 post m (nI i) (nI n) (nI h) ij wa f ph rd s.1 s.2.1 sh lg s.2.2 tim b w)
    (fun i s => ∀ x, x < i → s.2.1 x = -1 ∧ s.2.2 x = 0 ∧ zj_row h n n x s.1) n (lim, act, pol) (fun x hx => absurd hx (by omega)) ?_ ?_
  · intro m s hs
    obtain ⟨lim, act, pol⟩ := s
    exact br_t (Int32.le_refl _) (g lim act pol hs)
  · intro m i s hi hs ih
    obtain ⟨lim, act, pol⟩ := s
    have hi6 : i < 6 := by omega
    refine br_f (nI_ge hi (by omega)) ⟨xd_i1 i hi6, ?_⟩
    rw [xd_c1 i hi6]
    refine nm_e ⟨xd_i1 i hi6, nm_e (zj_26 n h ij wa f ph rd _ sh lg _ tim b w hn post _ i hi lim (fun lim' h1 h2 => ih (lim', upd act i (-1), upd pol i 0) (fun x hx => ?_)))⟩
    by_cases e : x = i
    · rw [e]; exact ⟨pk_us, pk_us, h2⟩
    · obtain ⟨c1, c2, c3⟩ := hs x (by omega)
      refine ⟨?_, ?_, fun y hy hyn => ?_⟩
      · show upd act i (-1) x = -1
        rw [pk_un e]; exact c1
      · show upd pol i 0 x = 0
        rw [pk_un e]; exact c2
      · show lim' (x * 6 + y) = _
        rw [h1 x e y (by omega)]; exact c3 y hy hyn

theorem zj_144 (post : SY → Prop) (J : Int32 → (Nat → Int32) → (Nat → Int32) → (Nat → Int32) → (Nat → Int32) → (Nat → Int32) → (Nat → Int32) → (Nat → Int32) → (Nat → Int32) → Prop)
    (u : Nat) (hu6 : u < 6) (yl0 : Nat → Int32)
    (hx : ∀ yl, (∀ x, x ≠ u → ∀ y, y < 6 → yl (x * 6 + y) = yl0 (x * 6 + y)) → zj_row h 6 6 u yl → J (nI (u + 1)) yl fr yo yh yp ti pl mo) :
    ∃ m, wY_init_144 post J (nI u) (nI n) (nI h) ph rd m 0 yl0 fr yo yh yp ti pl mo := by
  refine loop_0 (fun m i (yl : Nat → Int32) => wY_init_144 post J (nI u) (nI n) (nI h) ph rd m (nI i) yl fr yo yh yp ti pl mo)
    (fun i yl => (∀ x, x ≠ u → ∀ y, y < 6 → yl (x * 6 + y) = yl0 (x * 6 + y)) ∧ zj_row h 6 i u yl) 6 yl0 ⟨fun _ _ _ _ => rfl, fun y hy => absurd hy (by omega)⟩ ?_ ?_
  · intro m yl hs
    exact br_t (Int32.le_refl _) (nm_r (nI_1 u) (hx yl hs.1 hs.2))
  · intro m i yl hi6 hs ih
    have hin := xd_in u i hu6 hi6
    have step : ∀ z : Int32, z = (if i = 0 then (0 : Int32) else nI h) →
        (∀ x, x ≠ u → ∀ y, y < 6 → upd yl (u * 6 + i) z (x * 6 + y) = yl0 (x * 6 + y)) ∧ zj_row h 6 (i + 1) u (upd yl (u * 6 + i) z) := by
      intro z hz
      refine ⟨fun x hx y hy => ?_, fun y hy hyn => ?_⟩
      · rw [pk_un (by omega)]; exact hs.1 x hx y hy
      · by_cases e : y = i
        · rw [e, pk_us]; exact hz
        · rw [pk_un (by omega)]; exact hs.2 y (by omega) hyn
    refine br_f (nI_ge (b := 6) hi6 (by decide)) ?_
    rw [xd_cl u i hu6 hi6]
    refine br_c (fun q => ⟨hin, nm_e (nm_r (nI_1 i) (ih _ (step 0 ?_)))⟩) (fun q => ⟨hin, nm_e (nm_r (nI_1 i) (ih _ (step (nI h) ?_)))⟩)
    · rw [if_pos ((nI_eq (b := 0) (by omega) (by omega)).1 q)]
    · rw [if_neg (fun y => q (by rw [y]; rfl))]

theorem zj_120 (post : SY → Prop) (g : ∀ yl fr ti, (∀ x, x < 6 → fr x = -1 ∧ ti x = 100 ∧ zj_row h 6 6 x yl) → post (nI n, nI h, ph, rd, yl, fr, yo, yh, yp, ti, pl, mo)) :
    ∃ m, wY_init_120 post (nI n) (nI h) ph rd m 0 yl fr yo yh yp ti pl mo := by
  refine loop_0 (fun m i (s : (Nat → Int32) × (Nat → Int32) × (Nat → Int32)) => wY_init_120 post (nI n) (nI h) ph rd m (nI i) s.1 s.2.1 yo yh yp s.2.2 pl mo)
    (fun i s => ∀ x, x < i → s.2.1 x = -1 ∧ s.2.2 x = 100 ∧ zj_row h 6 6 x s.1) 6 (yl, fr, ti) (fun x hx => absurd hx (by omega)) ?_ ?_
  · intro m s hs
    obtain ⟨yl, fr, ti⟩ := s
    exact br_t (Int32.le_refl _) (g yl fr ti hs)
  · intro m i s hi6 hs ih
    obtain ⟨yl, fr, ti⟩ := s
    refine br_f (nI_ge (b := 6) hi6 (by decide)) ⟨xd_i1 i hi6, ?_⟩
    rw [xd_c1 i hi6]
    refine nm_e ⟨xd_i1 i hi6, nm_e (zj_144 n h ph rd _ yo yh yp _ pl mo post _ i hi6 yl (fun yl' h1 h2 => ih (yl', upd fr i (-1), upd ti i 100) (fun x hx => ?_)))⟩
    by_cases e : x = i
    · rw [e]; exact ⟨pk_us, pk_us, h2⟩
    · obtain ⟨c1, c2, c3⟩ := hs x (by omega)
      refine ⟨?_, ?_, fun y hy hyn => ?_⟩
      · show upd fr i (-1) x = -1
        rw [pk_un e]; exact c1
      · show upd ti i 100 x = 100
        rw [pk_un e]; exact c2
      · show yl' (x * 6 + y) = _
        rw [h1 x e y (by omega)]; exact c3 y hy hyn
end zj

theorem i_vc0 (k0 : Int32) (k1 : Int32) : wpX_init (fun u => wpY_init (fun v => i_Rel 2 u v) k0 k1) k0 k1 := by
  obtain ⟨n, n3, n6, nX, nY⟩ := zj_clamp k0 6 (by omega) (by omega)
  obtain ⟨h, h3, h7, hX, hY⟩ := zj_clamp k1 7 (by omega) (by omega)
  unfold wpX_init
  refine nX _ (hX _ ?_)
  refine zj_clear n h 0 0 0 0 0 _ _ _ _ _ _ _ _ n6 _ (fun lim act pol h1 => ?_)
  refine loop_0 (fun m i (tim : Nat → Int32) => wX_enterLoad_12 _ (nI n) (nI h) 0 0 0 0 0 m (nI i) lim act (fun _ => 0) (fun _ => 0) pol tim (fun _ => 0) (fun _ => 0))
    (fun i tim => ∀ e, e < i → tim e = -1) n (fun _ => 0) (fun e he => absurd he (by omega)) ?_ ?_
  · intro m tim ht
    refine br_t (Int32.le_refl _) ?_
    refine nY (fun z => wY_init_90 _ k1 z 0 0 0 0 (fun _ => 0) (fun _ => 0) (fun _ => 0) (fun _ => 0) (fun _ => 0) (fun _ => 0) (fun _ => 0) (fun _ => 0)) ?_
    refine hY (fun z => ∃ n120 : Nat, wY_init_120 _ (nI n) z 0 0 n120 0 (fun _ => 0) (fun _ => 0) (fun _ => 0) (fun _ => 0) (fun _ => 0) (fun _ => 0) (fun _ => 0) (fun _ => 0)) ?_
    refine zj_120 n h 0 0 _ _ _ _ _ _ _ _ _ (fun yl fr ti h2 => ?_)
    refine ⟨n, h, 0, 0, 0, 0, 0, lim, act, (fun _ => 0), (fun _ => 0), pol, tim, (fun _ => 0), (fun _ => 0), yl, fr, (fun _ => 0), (fun _ => 0), (fun _ => 0), ti, (fun _ => 0), (fun _ => 0), rfl, rfl, ?_,
      Or.inl rfl, by omega, Or.inl ⟨rfl, rfl, ht, Or.inl rfl⟩⟩
    have nh := gq_nI h (by omega)
    have z0 : (0 : Int32).toInt = 0 := by decide
    refine ⟨n3, n6, h3, h7, fun u v hu hv => ?_, fun u v hu hv => ?_, fun u hu hu0 => ?_, (h1 0 (by omega)).1, fun c hc => ?_, fun c hc => Or.inl (h1 c hc).1, fun e he => Or.inl ⟨ht e he, (h2 e (by omega)).2.1⟩⟩
    · rw [(h2 u (by omega)).2.2 v (by omega) (by omega), (h1 u hu).2.2 v hv hv]
    · unfold gd_t
      rw [(h1 u hu).2.2 v hv hv]
      by_cases q : v = 0
      · rw [if_pos q, z0]; exact ⟨by omega, by omega⟩
      · rw [if_neg q, nh]; exact ⟨by omega, by omega⟩
    · unfold gd_t
      rw [(h1 u hu).2.2 0 (by omega) (by omega), if_pos rfl, z0]
      omega
    · exact ⟨by rw [(h2 c (by omega)).1, (h1 c hc).1], rfl, rfl, (h1 c hc).2.1.symm⟩
  · intro m i tim hi hs ih
    have hi6 : i < 6 := by omega
    refine br_f (nI_ge hi (by omega)) ⟨xd_i1 i hi6, ?_⟩
    rw [xd_c1 i hi6]
    refine nm_e (nm_r (nI_1 i) (ih _ (fun e he => ?_)))
    by_cases q : e = i
    · rw [q, pk_us]
    · rw [pk_un q]; exact hs e (by omega)
