-- the choices of a step, both sides at once
section zc
variable (n h t : Nat) (ij wa f ph : Int32) (lim act sh lg pol b w yl fr yo yh yp : Nat → Int32)

theorem zc_arg (e : Nat) : nI t * 12 + 6 + nI e + 1 = nI (12 * t + 6 + e + 1) := by
  have e12 : (12 : Int32) = nI 12 := by decide
  have e6 : (6 : Int32) = nI 6 := by decide
  rw [e12, e6, pk_mul, nI_add, nI_add, nI_1]
  congr 1
  omega

theorem zc_uu (g : Nat → Int32) (k : Nat) (x y : Int32) : upd (upd g k x) k y = upd g k y := by
  funext j
  by_cases q : j = k
  · rw [q, pk_us, pk_us]
  · rw [pk_un q, pk_un q, pk_un q]
theorem zc_ui (g : Nat → Int32) (k : Nat) (y : Int32) (hy : g k = y) : upd g k y = g := by
  funext j
  by_cases q : j = k
  · rw [q, pk_us, hy]
  · rw [pk_un q]

theorem zc_205a (post : Int32 → SY → Prop) (J : Int32 → Int32 → Int32 → Int32 → Int32 → Int32 → (Nat → Int32) → (Nat → Int32) → (Nat → Int32) → (Nat → Int32) → (Nat → Int32) → (Nat → Int32) → (Nat → Int32) → (Nat → Int32) → Prop) (x1 : Int32) (e : Nat) (he : e < 6) (ti pl mo : Nat → Int32) (h1 : ti e = 100)
    (g : J x1 (nI (e + 1)) (nI n) (nI h) ph (nI t) yl fr yo yh yp ti pl mo) : wY_step_205 post J x1 (nI e) (nI n) (nI h) ph (nI t) yl fr yo yh yp ti pl mo := by
  refine ⟨xd_i1 e he, ?_⟩
  rw [xd_c1 e he]
  exact br_t h1 (nm_r (nI_1 e) g)

theorem zc_205b (post : Int32 → SY → Prop) (J : Int32 → Int32 → Int32 → Int32 → Int32 → Int32 → (Nat → Int32) → (Nat → Int32) → (Nat → Int32) → (Nat → Int32) → (Nat → Int32) → (Nat → Int32) → (Nat → Int32) → (Nat → Int32) → Prop) (x1 : Int32) (e : Nat) (he : e < 6) (ti pl mo : Nat → Int32) (h1 : ¬ ti e = 100)
    (g : J (x1 + ((1 : Int32) <<< (nI e &&& 31))) (nI (e + 1)) (nI n) (nI h) ph (nI t) yl fr yo yh yp ti pl mo) : wY_step_205 post J x1 (nI e) (nI n) (nI h) ph (nI t) yl fr yo yh yp ti pl mo := by
  refine ⟨xd_i1 e he, ?_⟩
  rw [xd_c1 e he]
  exact br_f h1 (nm_e (nm_r (nI_1 e) g))

theorem zc_204 (post : Int32 → SY → Prop) (J : Int32 → Int32 → Int32 → Int32 → Int32 → Int32 → (Nat → Int32) → (Nat → Int32) → (Nat → Int32) → (Nat → Int32) → (Nat → Int32) → (Nat → Int32) → (Nat → Int32) → (Nat → Int32) → Prop) (x1 : Int32) (e : Nat) (he : e < 6) (z0 : Int32) (ti pl mo : Nat → Int32)
    (g : wY_step_205 post J x1 (nI e) (nI n) (nI h) ph (nI t) yl fr yo yh yp (upd ti e z0) pl mo) : wY_step_204 post J x1 (nI e) z0 (nI e) (nI n) (nI h) ph (nI t) yl fr yo yh yp ti pl mo := by
  refine ⟨xd_i1 e he, ?_⟩
  rw [xd_c1 e he]
  exact nm_e g

theorem zc_159 (hN : gm_net n h (gd_t lim) (gq_ct act) (gq_ac act) (gq_i sh) (gq_i lg))
    (hL : ∀ u v, u < n → v < n → yl (u * 6 + v) = lim (u * 6 + v))
    (hA : ∀ k, k < n → gq_ct act k = true → act k = nI (gq_ac act k) ∧ gq_ac act k < n)
    (hF : ∀ c, c < n → fr c = act c) (hlo : ∀ c, c < n → yo c = sh c) (hhi : ∀ c, c < n → yh c = lg c)
    (post : Int32 → SY → Prop) (J : Int32 → Int32 → Int32 → Int32 → Int32 → Int32 → (Nat → Int32) → (Nat → Int32) → (Nat → Int32) → (Nat → Int32) → (Nat → Int32) → (Nat → Int32) → (Nat → Int32) → (Nat → Int32) → Prop) (x1 : Int32) (e : Nat) (he : e < 6) (z0 : Int32) (ti pl mo : Nat → Int32) (p : Nat → Int)
    (m : Nat) (hm : 12 * t + 6 + e + 1 + m = 12 * (h + 1))
    (hp0 : p 0 = 0) (hp : ∀ x, x < n → x ≠ 0 → (upd ti e z0 x).toInt = p x) (hr : ∀ x, x < n → 0 ≤ p x ∧ p x ≤ 100)
    (h1 : gm_val n (gd_t lim) (gq_ct act) (gq_ac act) (gq_i sh) (gq_i lg) m (12 * t + 6 + e + 1) p →
      ∀ pl mo, wY_step_205 post J x1 (nI e) (nI n) (nI h) ph (nI t) yl fr yo yh yp (upd ti e z0) pl mo)
    (h0 : ¬ gm_val n (gd_t lim) (gq_ct act) (gq_ac act) (gq_i sh) (gq_i lg) m (12 * t + 6 + e + 1) p → ∀ pl mo,
      (yp e = 0 → wY_step_204 post J x1 (nI e) 100 (nI e) (nI n) (nI h) ph (nI t) yl fr yo yh yp (upd ti e z0) pl mo) ∧
      (¬ yp e = 0 → wY_step_204 post J x1 (nI e) (nI t) (nI e) (nI n) (nI h) ph (nI t) yl fr yo yh yp (upd ti e z0) pl mo)) :
    wY_step_159 post J x1 (nI e) z0 (nI e) (nI n) (nI h) ph (nI t) yl fr yo yh yp ti pl mo := by
  refine ⟨xd_i1 e he, ?_⟩
  rw [xd_c1 e he, zc_arg]
  refine nm_e (yt_safe n h ph (nI t) yl fr yo yh yp (upd ti e z0) (gd_t lim) (gq_ct act) (gq_ac act) (gq_i sh) (gq_i lg) hN _ (12 * t + 6 + e + 1) m hm p
    (fun u v hu hv => by rw [hL u v hu hv]; rfl) (fun c hc => ?_) (fun c hc => by rw [hlo c hc]; rfl) (fun c hc => by rw [hhi c hc]; rfl) hp0 hp hr
    (fun r pl mo hv => ?_) pl mo)
  · rw [hF c hc]
    cases hcc : gq_ct act c with
    | false => exact Or.inl ⟨rfl, gq_ct_f act c hcc⟩
    | true => exact Or.inr ⟨rfl, (hA c hc hcc).1, (hA c hc hcc).2⟩
  · rcases hv with ⟨q, hv⟩ | ⟨q, hv⟩
    · subst q
      exact br_f (by decide) (h1 hv pl mo)
    · subst q
      exact br_t rfl ⟨xd_i1 e he, h0 hv pl mo⟩

theorem zc_cho (hn : n ≤ 6) (hn1 : 1 ≤ n) (h7 : h ≤ 7) (ht : t ≤ h) (hN : gm_net n h (gd_t lim) (gq_ct act) (gq_ac act) (gq_i sh) (gq_i lg))
    (hL : ∀ u v, u < n → v < n → yl (u * 6 + v) = lim (u * 6 + v))
    (hA : ∀ k, k < n → gq_ct act k = true → act k = nI (gq_ac act k) ∧ gq_ac act k < n)
    (hF : ∀ c, c < n → fr c = act c) (hlo : ∀ c, c < n → yo c = sh c) (hhi : ∀ c, c < n → yh c = lg c) (hpo : ∀ c, c < n → yp c = pol c)
    (hX : gc_fix n (gd_t lim) (gq_ct act) (gq_ac act) (gq_i sh) (gq_i lg) (gd_t b) (gd_t w)) (hS : gs_snd n h (gd_t lim) (gq_ct act) (gq_ac act) (gq_i sh) (gq_i lg) (gd_t b) (gd_t w))
    (hB : ∀ u v, u < n → v < n → -7 ≤ gd_t b u v ∧ gd_t b u v ≤ 7) (ov : Int32) :
    ∀ d e, e + d = n → 1 ≤ e → ∀ (sx : Int32) (tim ti : Nat → Int32), zs_tr n h tim ti →
      (∃ T, gm_sp n h (gd_t lim) (gq_ct act) (gq_ac act) (gq_i sh) (gq_i lg) T ∧ ∀ x, x < n → gm_pos (gq_ct act) T (12 * t + 6 + e) x = gq_p tim x) →
      ∃ (sx' : Int32) (tim' ti' : Nat → Int32), zs_tr n h tim' ti' ∧
        (∃ T, gm_sp n h (gd_t lim) (gq_ct act) (gq_ac act) (gq_i sh) (gq_i lg) T ∧ ∀ x, x < n → gm_pos (gq_ct act) T (12 * t + 6 + n) x = gq_p tim' x) ∧
        (∀ post : Int32 → SX → Prop, post sx' (nI n, nI h, ij, wa, f, ph, nI t, lim, act, sh, lg, pol, tim', b, w) → wX_makeChoices_4 post (nI n) (nI h) ij wa f ph (nI t) (d + 1) sx (nI e) lim act sh lg pol tim b w) ∧
        (∀ (post : Int32 → SY → Prop) (pl mo : Nat → Int32), (∀ pl' mo', ∃ m, wY_step_232 post (ov + sx') (nI n) (nI h) ph (nI t) yl fr yo yh yp ti' pl' mo' m 1 0) →
          wY_step_108 post (d + 1) (ov + sx) (nI e) (nI n) (nI h) ph (nI t) yl fr yo yh yp ti pl mo) := by
  intro d
  induction d with
  | zero =>
    intro e he h1 sx tim ti htr hg
    have q : e = n := by omega
    subst q
    exact ⟨sx, tim, ti, htr, hg, fun post g => br_t (Int32.le_refl _) g, fun post pl mo g => br_t (Int32.le_refl _) (g pl mo)⟩
  | succ d ih =>
    intro e he h1 sx tim ti htr hg
    have hen : e < n := by omega
    have he6 : e < 6 := by omega
    have hx : ¬ nI n ≤ nI e := nI_ge hen (by omega)
    have h0ct := hN.2.2.2.1
    have hfe := hF e hen
    obtain ⟨T0, hT0, hpos⟩ := hg
    have s6 : (12 * t + 6 + e) % 6 = e := by omega
    have s12 : 6 ≤ (12 * t + 6 + e) % 12 := by omega
    have sd : (12 * t + 6 + e) / 12 = t := by omega
    cases hcc : gq_ct act e with
    | true =>
      obtain ⟨a1, a2⟩ := hA e hen hcc
      obtain ⟨sx', tim', ti', r1, r2, rX, rY⟩ := ih (e + 1) (by omega) (by omega) sx tim ti htr
        ⟨T0, hT0, gr_skip n h (gd_t lim) (gq_ct act) (gq_ac act) (gq_i sh) (gq_i lg) hN (12 * t + 6 + e) s12 T0 (gq_p tim) hT0 hpos (Or.inr (Or.inr (Or.inl (by rw [s6]; exact hcc))))⟩
      refine ⟨sx', tim', ti', r1, r2, fun post g => br_f hx (xr_ct n h ij wa f ph (nI t) lim act sh lg pol tim b w _ e he6
        (fun y => by rw [hcc] at y; simp at y) (fun _ => br_f (by decide) (nm_r (nI_1 e) (rX post g)))), fun post pl mo g => br_f hx ⟨xd_i1 e he6, ?_⟩⟩
      rw [xd_c1 e he6, hfe, a1]
      exact br_t (nI_pos' (by omega)) (nm_r (nI_1 e) (rY post pl mo g))
    | false =>
      have fm : ¬ (0 : Int32) ≤ fr e := by rw [hfe, gq_ct_f act e hcc]; decide
      rcases htr e hen with ⟨q, r⟩ | ⟨τ, hτ, q, r⟩
      · -- a choice
        have pe := gq_p_n tim e q
        have ms : 12 * t + 6 + e + (12 * (h + 1) - (12 * t + 6 + e) - 1 + 1) = 12 * (h + 1) := by omega
        have ms1 : 12 * t + 6 + e + 1 + (12 * (h + 1) - (12 * t + 6 + e) - 1) = 12 * (h + 1) := by omega
        generalize 12 * (h + 1) - (12 * t + 6 + e) - 1 = m at ms ms1
        have ci := gh_can_iff n h (gd_t lim) (gq_ct act) (gq_ac act) (gq_i sh) (gq_i lg) (gd_t b) (gd_t w) hN hX hS m (12 * t + 6 + e) ms T0 hT0 e s6.symm (by omega) hen hcc s12 (t : Int) (by rw [sd]) (gq_p tim) hpos pe
        have si := gh_skip_iff n h (gd_t lim) (gq_ct act) (gq_ac act) (gq_i sh) (gq_i lg) (gd_t b) (gd_t w) hN hX hS m (12 * t + 6 + e) ms T0 hT0 e s6.symm (by omega) hen hcc s12 (t : Int) (by rw [sd]) (gq_p tim) hpos pe
        have one := gh_one n h (gd_t lim) (gq_ct act) (gq_ac act) (gq_i sh) (gq_i lg) hN m (12 * t + 6 + e) ms T0 hT0 (by rw [s6]; omega) (by rw [s6]; exact hen) (by rw [s6]; exact hcc) s12 (gq_p tim) hpos (by rw [s6]; exact pe)
        rw [s6, sd] at one
        have nxt := fun q hq hv => gs_next n h (gd_t lim) (gq_ct act) (gq_ac act) (gq_i sh) (gq_i lg) hN m (12 * t + 6 + e) ms T0 hT0 (by rw [s6]; omega) (by rw [s6]; exact hen) (by rw [s6]; exact hcc) s12 (gq_p tim) hpos (by rw [s6]; exact pe) q hq hv
        rw [s6, sd] at nxt
        have p0 : gq_p tim 0 = 0 := by
          rw [← hpos 0 hN.1]
          exact (gp_pos_wf n h (gd_t lim) (gq_ct act) (gq_ac act) (gq_i sh) (gq_i lg) (12 * t + 6 + e) T0 hN hT0).1
        have hT := zs_tr_T n h h7 tim ti htr
        have pse : gm_set (gq_p tim) e (t : Int) 0 = 0 := by rw [gm_set_n _ _ _ _ (by omega)]; exact p0
        have hti : ∀ x, x < n → (ti x).toInt = gq_p tim x := fun x hx => (zs_ti n h h7 tim ti htr x hx).1
        have hrg : ∀ x, x < n → 0 ≤ gq_p tim x ∧ gq_p tim x ≤ 100 := fun x hx => (zs_ti n h h7 tim ti htr x hx).2
        have pE : ∀ x, x < n → x ≠ 0 → (upd ti e (nI t) x).toInt = gm_set (gq_p tim) e (t : Int) x := fun x hx _ =>
          yt_pl n ti (gq_p tim) hti e (nI t) (t : Int) (gq_nI t (by omega)) x hx
        have rE := yt_r n (gq_p tim) hrg e (t : Int) ⟨by omega, by omega⟩
        have pZ : ∀ x, x < n → x ≠ 0 → (upd ti e 100 x).toInt = gq_p tim x := fun x hx _ => by
          by_cases y : x = e
          · rw [y, pk_us, pe]; exact gq_100
          · rw [pk_un y]; exact hti x hx
        have t100 : ¬ nI t = 100 := gq_nI100 t (by omega)
        have yes := fun hv : gm_val n (gd_t lim) (gq_ct act) (gq_ac act) (gq_i sh) (gq_i lg) m (12 * t + 6 + e + 1) (gm_set (gq_p tim) e (t : Int)) =>
          ih (e + 1) (by omega) (by omega) (sx + ((1 : Int32) <<< (nI e &&& 31))) (upd tim e (nI t)) (upd ti e (nI t))
            (zs_tr_u n h tim ti htr e t ht) (by
              obtain ⟨T, t1, t2, _⟩ := nxt _ (Or.inr rfl) hv
              exact ⟨T, t1, fun x hx => by rw [zs_p_u tim e t (by omega)]; exact t2 x hx⟩)
        have no := fun hv : gm_val n (gd_t lim) (gq_ct act) (gq_ac act) (gq_i sh) (gq_i lg) m (12 * t + 6 + e + 1) (gq_p tim) =>
          ih (e + 1) (by omega) (by omega) sx tim ti htr (by
              obtain ⟨T, t1, t2, _⟩ := nxt _ (Or.inl rfl) hv
              exact ⟨T, t1, t2⟩)
        by_cases hp : pol e = 0
        · have hpy : yp e = 0 := by rw [hpo e hen]; exact hp
          by_cases hc : gh_can n (gq_ct act) (gq_ac act) (gd_t b) (gd_t w) (gq_p tim) (t : Int) e
          · obtain ⟨sx', tim', ti', r1, r2, rX, rY⟩ := yes (ci.2 hc)
            refine ⟨sx', tim', ti', r1, r2, fun post g => br_f hx (xr_ct n h ij wa f ph (nI t) lim act sh lg pol tim b w _ e he6
              (fun _ => br_t rfl ⟨xd_i1 e he6, ?_⟩) (fun y => by rw [hcc] at y; simp at y)), fun post pl mo g => br_f hx ⟨xd_i1 e he6, ?_⟩⟩
            · rw [xd_c1 e he6]
              exact br_t q (xr_now n h ij wa f ph (nI t) lim act sh lg pol tim b w hn hn1 h0ct t (by omega) rfl _ hT hA hB e hen
                (fun _ _ => br_f (by decide) ⟨xd_i1 e he6, nm_e (nm_e (nm_r (nI_1 e) (rX post g)))⟩)
                (fun _ z => absurd hc z) (fun z => absurd hp z) (fun z => absurd hp z))
            · rw [xd_c1 e he6]
              refine br_f fm ⟨xd_i1 e he6, br_t r ⟨xd_i1 e he6, br_t hpy ?_⟩⟩
              exact zc_159 n h t ph lim act sh lg yl fr yo yh yp hN hL hA hF hlo hhi post _ _ e he6 (nI t) ti pl mo _ m ms1 pse pE rE
                (fun _ pl mo => zc_205b n h t ph yl fr yo yh yp post _ _ e he6 _ pl mo (by rw [pk_us]; exact t100) (by rw [Int32.add_assoc]; exact rY post pl mo g))
                (fun z => absurd (ci.2 hc) z)
          · have hv := one.resolve_left (fun z => hc (ci.1 z))
            obtain ⟨sx', tim', ti', r1, r2, rX, rY⟩ := no hv
            refine ⟨sx', tim', ti', r1, r2, fun post g => br_f hx (xr_ct n h ij wa f ph (nI t) lim act sh lg pol tim b w _ e he6
              (fun _ => br_t rfl ⟨xd_i1 e he6, ?_⟩) (fun y => by rw [hcc] at y; simp at y)), fun post pl mo g => br_f hx ⟨xd_i1 e he6, ?_⟩⟩
            · rw [xd_c1 e he6]
              exact br_t q (xr_now n h ij wa f ph (nI t) lim act sh lg pol tim b w hn hn1 h0ct t (by omega) rfl _ hT hA hB e hen
                (fun _ z => absurd z hc) (fun _ _ => br_t rfl (nm_r (nI_1 e) (rX post g))) (fun z => absurd hp z) (fun z => absurd hp z))
            · rw [xd_c1 e he6]
              refine br_f fm ⟨xd_i1 e he6, br_t r ⟨xd_i1 e he6, br_t hpy ?_⟩⟩
              refine zc_159 n h t ph lim act sh lg yl fr yo yh yp hN hL hA hF hlo hhi post _ _ e he6 (nI t) ti pl mo _ m ms1 pse pE rE
                (fun z => absurd (ci.1 z) hc) (fun _ pl mo => ⟨fun _ => zc_204 n h t ph yl fr yo yh yp post _ _ e he6 100 _ pl mo ?_, fun z => absurd hpy z⟩)
              rw [zc_uu, zc_ui ti e 100 r]
              exact zc_205a n h t ph yl fr yo yh yp post _ _ e he6 ti pl mo r (rY post pl mo g)
        · have hpy : ¬ yp e = 0 := by rw [hpo e hen]; exact hp
          by_cases hc : gh_skip n (gd_t b) (gq_p tim) (t : Int) e
          · obtain ⟨sx', tim', ti', r1, r2, rX, rY⟩ := no (si.2 hc)
            refine ⟨sx', tim', ti', r1, r2, fun post g => br_f hx (xr_ct n h ij wa f ph (nI t) lim act sh lg pol tim b w _ e he6
              (fun _ => br_t rfl ⟨xd_i1 e he6, ?_⟩) (fun y => by rw [hcc] at y; simp at y)), fun post pl mo g => br_f hx ⟨xd_i1 e he6, ?_⟩⟩
            · rw [xd_c1 e he6]
              exact br_t q (xr_now n h ij wa f ph (nI t) lim act sh lg pol tim b w hn hn1 h0ct t (by omega) rfl _ hT hA hB e hen
                (fun z => absurd z hp) (fun z => absurd z hp) (fun _ _ => br_t rfl (nm_r (nI_1 e) (rX post g))) (fun _ z => absurd hc z))
            · rw [xd_c1 e he6]
              refine br_f fm ⟨xd_i1 e he6, br_t r ⟨xd_i1 e he6, br_f hpy ?_⟩⟩
              refine zc_159 n h t ph lim act sh lg yl fr yo yh yp hN hL hA hF hlo hhi post _ _ e he6 100 ti pl mo _ m ms1 p0 pZ hrg
                (fun _ pl mo => ?_) (fun z => absurd (si.2 hc) z)
              rw [zc_ui ti e 100 r]
              exact zc_205a n h t ph yl fr yo yh yp post _ _ e he6 ti pl mo r (rY post pl mo g)
          · have hv := one.resolve_right (fun z => hc (si.1 z))
            obtain ⟨sx', tim', ti', r1, r2, rX, rY⟩ := yes hv
            refine ⟨sx', tim', ti', r1, r2, fun post g => br_f hx (xr_ct n h ij wa f ph (nI t) lim act sh lg pol tim b w _ e he6
              (fun _ => br_t rfl ⟨xd_i1 e he6, ?_⟩) (fun y => by rw [hcc] at y; simp at y)), fun post pl mo g => br_f hx ⟨xd_i1 e he6, ?_⟩⟩
            · rw [xd_c1 e he6]
              exact br_t q (xr_now n h ij wa f ph (nI t) lim act sh lg pol tim b w hn hn1 h0ct t (by omega) rfl _ hT hA hB e hen
                (fun z => absurd z hp) (fun z => absurd z hp) (fun _ z => absurd z hc)
                (fun _ _ => br_f (by decide) ⟨xd_i1 e he6, nm_e (nm_e (nm_r (nI_1 e) (rX post g)))⟩))
            · rw [xd_c1 e he6]
              refine br_f fm ⟨xd_i1 e he6, br_t r ⟨xd_i1 e he6, br_f hpy ?_⟩⟩
              refine zc_159 n h t ph lim act sh lg yl fr yo yh yp hN hL hA hF hlo hhi post _ _ e he6 100 ti pl mo _ m ms1 p0 pZ hrg
                (fun z => absurd (si.1 z) hc) (fun _ pl mo => ⟨fun z => absurd z hpy, fun _ => zc_204 n h t ph yl fr yo yh yp post _ _ e he6 (nI t) _ pl mo ?_⟩)
              rw [zc_uu]
              exact zc_205b n h t ph yl fr yo yh yp post _ _ e he6 _ pl mo (by rw [pk_us]; exact t100) (by rw [Int32.add_assoc]; exact rY post pl mo g)
      · have pe := gq_p_t tim e τ (by omega) q
        obtain ⟨sx', tim', ti', r1, r2, rX, rY⟩ := ih (e + 1) (by omega) (by omega) sx tim ti htr
          ⟨T0, hT0, gr_skip n h (gd_t lim) (gq_ct act) (gq_ac act) (gq_i sh) (gq_i lg) hN (12 * t + 6 + e) s12 T0 (gq_p tim) hT0 hpos (Or.inr (Or.inr (Or.inr (by rw [s6, pe]; omega))))⟩
        refine ⟨sx', tim', ti', r1, r2, fun post g => br_f hx (xr_ct n h ij wa f ph (nI t) lim act sh lg pol tim b w _ e he6
          (fun _ => br_t rfl ⟨xd_i1 e he6, ?_⟩) (fun y => by rw [hcc] at y; simp at y)), fun post pl mo g => br_f hx ⟨xd_i1 e he6, ?_⟩⟩
        · rw [xd_c1 e he6]
          exact br_f (by rw [q]; exact gq_nIm τ (by omega)) (nm_r (nI_1 e) (rX post g))
        · rw [xd_c1 e he6]
          exact br_f fm ⟨xd_i1 e he6, br_f (by rw [r]; exact gq_nI100 τ (by omega)) (nm_r (nI_1 e) (rY post pl mo g))⟩
end zc
