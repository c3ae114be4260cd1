-- a step of the program
section ox
variable (n h t : Nat) (ij wa f ph : Int32) (lim act sh lg pol b w : Nat → Int32)

def ox_tr (tim : Nat → Int32) : Prop := ∀ e, e < n → tim e = -1 ∨ ∃ τ, τ ≤ h ∧ tim e = nI τ

theorem ox_tr_u (tim : Nat → Int32) (hI : ox_tr n h tim) (c τ : Nat) (hτ : τ ≤ h) : ox_tr n h (upd tim c (nI τ)) := by
  intro e he
  by_cases q : e = c
  · rw [q, pk_us]; exact Or.inr ⟨τ, hτ, rfl⟩
  · rw [pk_un q]; exact hI e he

theorem ox_tr_T (h7 : h ≤ 7) (tim : Nat → Int32) (hI : ox_tr n h tim) : ∀ e, e < n → tim e = -1 ∨ ∃ t, t ≤ 7 ∧ tim e = nI t := by
  intro e he
  rcases hI e he with q | ⟨τ, a, q⟩
  · exact Or.inl q
  · exact Or.inr ⟨τ, by omega, q⟩

theorem ox_p_u (tim : Nat → Int32) (c τ : Nat) (hτ : τ < 1000000) : gq_p (upd tim c (nI τ)) = gm_set (gq_p tim) c (τ : Int) := by
  funext e
  by_cases q : e = c
  · rw [q, gm_set_s]; exact gq_p_t _ c τ hτ pk_us
  · rw [gm_set_n _ _ _ _ q]
    unfold gq_p
    rw [pk_un q]

theorem ox_out (hn : n ≤ 6) (h7 : h ≤ 7) (ht : t ≤ h) (hN : gm_net n h (gd_t lim) (gq_ct act) (gq_ac act) (gq_i sh) (gq_i lg))
    (hA : ∀ k, k < n → gq_ct act k = true → act k = nI (gq_ac act k) ∧ gq_ac act k < n) (T : Nat → Int) :
    ∀ d c, c + d = n → 1 ≤ c → ∀ (sum : Int32) (tim : Nat → Int32), ox_tr n h tim → gr_at n h (gd_t lim) (gq_ct act) (gq_ac act) (gq_i sh) (gq_i lg) t T (gq_p tim) →
      (∀ x, x < n → x < c → gq_ct act x = true → gq_p tim x = 100 → gq_p tim (gq_ac act x) ≠ 100 → (t : Int) ≠ gq_p tim (gq_ac act x) + gq_i lg x) →
      ∃ (sum' : Int32) (tim' : Nat → Int32), ox_tr n h tim' ∧ gr_at n h (gd_t lim) (gq_ct act) (gq_ac act) (gq_i sh) (gq_i lg) t T (gq_p tim') ∧
        (∀ x, x < n → gq_ct act x = true → gq_p tim' x = 100 → gq_p tim' (gq_ac act x) ≠ 100 → (t : Int) ≠ gq_p tim' (gq_ac act x) + gq_i lg x) ∧
        (∀ post : Int32 → St2 → Prop, post sum' (nI n, nI h, ij, wa, f, ph, nI t, lim, act, sh, lg, pol, tim', b, w) → wX_endOutcomes_4 post (nI n) (nI h) ij wa f ph (nI t) (d + 1) sum (nI c) lim act sh lg pol tim b w) := by
  intro d
  induction d with
  | zero =>
    intro c hc h1 sum tim htr hg hd
    have e : c = n := by omega
    subst e
    exact ⟨sum, tim, htr, hg, fun x hx => hd x hx hx, fun post g => br_t (Int32.le_refl _) g⟩
  | succ d ih =>
    intro c hc h1 sum tim htr hg hd
    have hcn : c < n := by omega
    have hc6 : c < 6 := by omega
    have hx : ¬ nI n ≤ nI c := nI_ge hcn (by omega)
    have keep := fun (z : gq_ct act c = true → gq_p tim c = 100 → gq_p tim (gq_ac act c) ≠ 100 → (t : Int) ≠ gq_p tim (gq_ac act c) + gq_i lg c) =>
      ih (c + 1) (by omega) (by omega) sum tim htr hg (fun x hxn hxc => by
        by_cases q : x = c
        · rw [q]; exact z
        · exact hd x hxn (by omega))
    cases hcc : gq_ct act c with
    | false =>
      obtain ⟨s', tim', r1, r2, r3, rX⟩ := keep (fun y => by rw [hcc] at y; simp at y)
      exact ⟨s', tim', r1, r2, r3, fun post g => br_f hx (xr_ct n h ij wa f ph (nI t) lim act sh lg pol tim b w _ c hc6
        (fun _ => br_t rfl (nm_r (nI_1 c) (rX post g))) (fun y => by rw [hcc] at y; simp at y))⟩
    | true =>
      obtain ⟨a1, a2⟩ := hA c hcn hcc
      have a6 : gq_ac act c < 6 := by omega
      have hno : ∀ y : Prop, gq_ct act c = false → y := fun y z => by rw [hcc] at z; simp at z
      have xgo : ∀ (post : Int32 → St2 → Prop), wpX_isRunning (fun r_20 => (r_20 = 0 → ∀ x2_37 : Int32, x2_37 = nI c + 1 → wX_endOutcomes_4 post (nI n) (nI h) ij wa f ph (nI t) (d + 1) sum x2_37 lim act sh lg pol tim b w) ∧ (¬ r_20 = 0 → wpX_elapsed (fun r_38 => vp_in (nI c) 6 ∧ (r_38 = lg (nI c).toNatClampNeg → vp_in (nI c) 6 ∧ ∀ a_times_58 : Nat → Int32, a_times_58 = upd tim (nI c).toNatClampNeg (nI t) → ∀ x1_59 : Int32, x1_59 = sum + ((1 : Int32) <<< (nI c &&& 31)) → ∀ x2_60 : Int32, x2_60 = nI c + 1 → wX_endOutcomes_4 post (nI n) (nI h) ij wa f ph (nI t) (d + 1) x1_59 x2_60 lim act sh lg pol a_times_58 b w) ∧ (¬ r_38 = lg (nI c).toNatClampNeg → ∀ x2_56 : Int32, x2_56 = nI c + 1 → wX_endOutcomes_4 post (nI n) (nI h) ij wa f ph (nI t) (d + 1) sum x2_56 lim act sh lg pol tim b w)) (nI n, nI h, ij, wa, f, ph, nI t, lim, act, sh, lg, pol, tim, b, w) (nI c))) (nI n, nI h, ij, wa, f, ph, nI t, lim, act, sh, lg, pol, tim, b, w) (nI c) →
          wX_endOutcomes_4 post (nI n) (nI h) ij wa f ph (nI t) (d + 1 + 1) sum (nI c) lim act sh lg pol tim b w := fun post g =>
        br_f hx (xr_ct n h ij wa f ph (nI t) lim act sh lg pol tim b w _ c hc6 (fun z => hno _ z) (fun _ => br_f (by decide) g))
      rcases htr c hcn with q | ⟨τ, hτ, q⟩
      · have pc := gq_p_n tim c q
        rcases htr _ a2 with qa | ⟨σ, hσ, qa⟩
        · have pa := gq_p_n tim _ qa
          obtain ⟨s', tim', r1, r2, r3, rX⟩ := keep (fun _ _ y => absurd pa y)
          exact ⟨s', tim', r1, r2, r3, fun post g => xgo post (xr_run n h ij wa f ph (nI t) lim act sh lg pol tim b w _ c hc6 a1 a6
            (fun _ y => absurd qa y) (fun _ => br_t rfl (nm_r (nI_1 c) (rX post g))))⟩
        · have pa := gq_p_t tim _ σ (by omega) qa
          have qa' : ¬ tim (gq_ac act c) = -1 := by rw [qa]; exact gq_nIm σ (by omega)
          have es : (nI t - nI σ).toInt = (t : Int) - (σ : Int) := pk_sub_toInt (by omega) (by omega)
          by_cases hdue : nI t - nI σ = lg c
          · have hdi : (t : Int) - (σ : Int) = gq_i lg c := by rw [← es, hdue]; rfl
            have bnd := hN.2.2.2.2.2.2 c hcn hcc
            have hg' : gr_at n h (gd_t lim) (gq_ct act) (gq_ac act) (gq_i sh) (gq_i lg) t T (gq_p (upd tim c (nI t))) := by
              rw [ox_p_u tim c t (by omega)]
              exact gr_rev n h (gd_t lim) (gq_ct act) (gq_ac act) (gq_i sh) (gq_i lg) hN t T (gq_p tim) hg c hcn hcc pc (by rw [pa]; omega) (by rw [pa]; omega)
            obtain ⟨s', tim', r1, r2, r3, rX⟩ := ih (c + 1) (by omega) (by omega) (sum + ((1 : Int32) <<< (nI c &&& 31))) (upd tim c (nI t))
              (ox_tr_u n h tim htr c t ht) hg' (fun x hxn hxc hxt hp1 hp2 => by
                rw [ox_p_u tim c t (by omega)] at hp1 hp2 ⊢
                by_cases qx : x = c
                · rw [qx, gm_set_s] at hp1; omega
                · rw [gm_set_n _ _ _ _ qx] at hp1
                  have bx := hN.2.2.2.2.2.2 x hxn hxt
                  by_cases qa : gq_ac act x = c
                  · rw [qa, gm_set_s]; omega
                  · rw [gm_set_n _ _ _ _ qa] at hp2 ⊢
                    exact hd x hxn (by omega) hxt hp1 hp2)
            refine ⟨s', tim', r1, r2, r3, fun post g => xgo post (xr_run n h ij wa f ph (nI t) lim act sh lg pol tim b w _ c hc6 a1 a6
              (fun _ _ => br_f (by decide) (xr_ela n h ij wa f ph (nI t) lim act sh lg pol tim b w _ c hc6 a1 a6 ⟨xd_i1 c hc6, ?_⟩))
              (fun y => by
                rcases y with y | y
                · exact absurd q y
                · exact absurd y qa'))⟩
            rw [xd_c1 c hc6, qa]
            exact br_t hdue ⟨xd_i1 c hc6, nm_e (nm_e (nm_r (nI_1 c) (rX post g)))⟩
          · obtain ⟨s', tim', r1, r2, r3, rX⟩ := keep (fun _ _ _ y => hdue (gq_inj (by
              rw [es]
              rw [pa] at y
              show (t : Int) - (σ : Int) = gq_i lg c
              omega)))
            refine ⟨s', tim', r1, r2, r3, fun post g => xgo post (xr_run n h ij wa f ph (nI t) lim act sh lg pol tim b w _ c hc6 a1 a6
              (fun _ _ => br_f (by decide) (xr_ela n h ij wa f ph (nI t) lim act sh lg pol tim b w _ c hc6 a1 a6 ⟨xd_i1 c hc6, ?_⟩))
              (fun y => by
                rcases y with y | y
                · exact absurd q y
                · exact absurd y qa'))⟩
            rw [xd_c1 c hc6, qa]
            exact br_f hdue (nm_r (nI_1 c) (rX post g))
      · have pc := gq_p_t tim c τ (by omega) q
        obtain ⟨s', tim', r1, r2, r3, rX⟩ := keep (fun _ y => by rw [pc] at y; omega)
        exact ⟨s', tim', r1, r2, r3, fun post g => xgo post (xr_run n h ij wa f ph (nI t) lim act sh lg pol tim b w _ c hc6 a1 a6
          (fun y => by rw [q] at y; exact absurd y (gq_nIm τ (by omega))) (fun _ => br_t rfl (nm_r (nI_1 c) (rX post g))))⟩

theorem ox_cho (hn : n ≤ 6) (hn1 : 1 ≤ n) (h7 : h ≤ 7) (ht : t ≤ h) (hN : gm_net n h (gd_t lim) (gq_ct act) (gq_ac act) (gq_i sh) (gq_i lg))
    (hA : ∀ k, k < n → gq_ct act k = true → act k = nI (gq_ac act k) ∧ gq_ac act k < n)
    (hX : gc_fix n (gd_t lim) (gq_ct act) (gq_ac act) (gq_i sh) (gq_i lg) (gd_t b) (gd_t w)) (hS : gs_snd n h (gd_t lim) (gq_ct act) (gq_ac act) (gq_i sh) (gq_i lg) (gd_t b) (gd_t w))
    (hB : ∀ u v, u < n → v < n → -7 ≤ gd_t b u v ∧ gd_t b u v ≤ 7) :
    ∀ d e, e + d = n → 1 ≤ e → ∀ (sx : Int32) (tim : Nat → Int32), ox_tr n h tim →
      (∃ T, gm_sp n h (gd_t lim) (gq_ct act) (gq_ac act) (gq_i sh) (gq_i lg) T ∧ ∀ x, x < n → gm_pos (gq_ct act) T (12 * t + 6 + e) x = gq_p tim x) →
      ∃ (sx' : Int32) (tim' : Nat → Int32), ox_tr n h tim' ∧
        (∃ T, gm_sp n h (gd_t lim) (gq_ct act) (gq_ac act) (gq_i sh) (gq_i lg) T ∧ ∀ x, x < n → gm_pos (gq_ct act) T (12 * t + 6 + n) x = gq_p tim' x) ∧
        (∀ post : Int32 → St2 → Prop, post sx' (nI n, nI h, ij, wa, f, ph, nI t, lim, act, sh, lg, pol, tim', b, w) → wX_makeChoices_4 post (nI n) (nI h) ij wa f ph (nI t) (d + 1) sx (nI e) lim act sh lg pol tim b w) := by
  intro d
  induction d with
  | zero =>
    intro e he h1 sx tim htr hg
    have q : e = n := by omega
    subst q
    exact ⟨sx, tim, htr, hg, fun post g => br_t (Int32.le_refl _) g⟩
  | succ d ih =>
    intro e he h1 sx tim htr hg
    have hen : e < n := by omega
    have he6 : e < 6 := by omega
    have hx : ¬ nI n ≤ nI e := nI_ge hen (by omega)
    have h0ct := hN.2.2.2.1
    obtain ⟨T0, hT0, hpos⟩ := hg
    have s6 : (12 * t + 6 + e) % 6 = e := by omega
    have s12 : 6 ≤ (12 * t + 6 + e) % 12 := by omega
    have sd : (12 * t + 6 + e) / 12 = t := by omega
    cases hcc : gq_ct act e with
    | true =>
      obtain ⟨sx', tim', r1, r2, rX⟩ := ih (e + 1) (by omega) (by omega) sx tim htr
        ⟨T0, hT0, gr_skip n h (gd_t lim) (gq_ct act) (gq_ac act) (gq_i sh) (gq_i lg) hN (12 * t + 6 + e) s12 T0 (gq_p tim) hT0 hpos (Or.inr (Or.inr (Or.inl (by rw [s6]; exact hcc))))⟩
      exact ⟨sx', tim', r1, r2, fun post g => br_f hx (xr_ct n h ij wa f ph (nI t) lim act sh lg pol tim b w _ e he6
        (fun y => by rw [hcc] at y; simp at y) (fun _ => br_f (by decide) (nm_r (nI_1 e) (rX post g))))⟩
    | false =>
      rcases htr e hen with q | ⟨τ, hτ, q⟩
      · have pe := gq_p_n tim e q
        have ms : 12 * t + 6 + e + (12 * (h + 1) - (12 * t + 6 + e) - 1 + 1) = 12 * (h + 1) := by omega
        generalize 12 * (h + 1) - (12 * t + 6 + e) - 1 = m at ms
        have ci := gh_can_iff n h (gd_t lim) (gq_ct act) (gq_ac act) (gq_i sh) (gq_i lg) (gd_t b) (gd_t w) hN hX hS m (12 * t + 6 + e) ms T0 hT0 e s6.symm (by omega) hen hcc s12 (t : Int) (by rw [sd]) (gq_p tim) hpos pe
        have si := gh_skip_iff n h (gd_t lim) (gq_ct act) (gq_ac act) (gq_i sh) (gq_i lg) (gd_t b) (gd_t w) hN hX hS m (12 * t + 6 + e) ms T0 hT0 e s6.symm (by omega) hen hcc s12 (t : Int) (by rw [sd]) (gq_p tim) hpos pe
        have one := gh_one n h (gd_t lim) (gq_ct act) (gq_ac act) (gq_i sh) (gq_i lg) hN m (12 * t + 6 + e) ms T0 hT0 (by rw [s6]; omega) (by rw [s6]; exact hen) (by rw [s6]; exact hcc) s12 (gq_p tim) hpos (by rw [s6]; exact pe)
        rw [s6, sd] at one
        have nxt := fun q hq hv => gs_next n h (gd_t lim) (gq_ct act) (gq_ac act) (gq_i sh) (gq_i lg) hN m (12 * t + 6 + e) ms T0 hT0 (by rw [s6]; omega) (by rw [s6]; exact hen) (by rw [s6]; exact hcc) s12 (gq_p tim) hpos (by rw [s6]; exact pe) q hq hv
        rw [s6, sd] at nxt
        have hT := ox_tr_T n h h7 tim htr
        have yes := fun hv : gm_val n (gd_t lim) (gq_ct act) (gq_ac act) (gq_i sh) (gq_i lg) m (12 * t + 6 + e + 1) (gm_set (gq_p tim) e (t : Int)) =>
          ih (e + 1) (by omega) (by omega) (sx + ((1 : Int32) <<< (nI e &&& 31))) (upd tim e (nI t))
            (ox_tr_u n h tim htr e t ht) (by
              obtain ⟨T, t1, t2, _⟩ := nxt _ (Or.inr rfl) hv
              exact ⟨T, t1, fun x hx => by rw [ox_p_u tim e t (by omega)]; exact t2 x hx⟩)
        have no := fun hv : gm_val n (gd_t lim) (gq_ct act) (gq_ac act) (gq_i sh) (gq_i lg) m (12 * t + 6 + e + 1) (gq_p tim) =>
          ih (e + 1) (by omega) (by omega) sx tim htr (by
              obtain ⟨T, t1, t2, _⟩ := nxt _ (Or.inl rfl) hv
              exact ⟨T, t1, t2⟩)
        have go : ∀ post : Int32 → St2 → Prop, wpX_isExecutedNow (fun r_23 => (r_23 = 0 → ∀ x2_40 : Int32, x2_40 = nI e + 1 → wX_makeChoices_4 post (nI n) (nI h) ij wa f ph (nI t) (d + 1) sx x2_40 lim act sh lg pol tim b w) ∧ (¬ r_23 = 0 → vp_in (nI e) 6 ∧ ∀ a : Nat → Int32, a = upd tim e (nI t) → ∀ x1 : Int32, x1 = sx + ((1 : Int32) <<< (nI e &&& 31)) → ∀ x2 : Int32, x2 = nI e + 1 → wX_makeChoices_4 post (nI n) (nI h) ij wa f ph (nI t) (d + 1) x1 x2 lim act sh lg pol a b w)) (nI n, nI h, ij, wa, f, ph, nI t, lim, act, sh, lg, pol, tim, b, w) (nI e) →
            wX_makeChoices_4 post (nI n) (nI h) ij wa f ph (nI t) (d + 1 + 1) sx (nI e) lim act sh lg pol tim b w := by
          intro post g
          refine br_f hx (xr_ct n h ij wa f ph (nI t) lim act sh lg pol tim b w _ e he6 (fun _ => br_t rfl ⟨xd_i1 e he6, ?_⟩) (fun y => by rw [hcc] at y; simp at y))
          rw [xd_c1 e he6]
          exact br_t q g
        by_cases hp : pol e = 0
        · by_cases hc : gh_can n (gq_ct act) (gq_ac act) (gd_t b) (gd_t w) (gq_p tim) (t : Int) e
          · obtain ⟨sx', tim', r1, r2, rX⟩ := yes (ci.2 hc)
            exact ⟨sx', tim', r1, r2, fun post g => go post (xr_now n h ij wa f ph (nI t) lim act sh lg pol tim b w hn hn1 h0ct t (by omega) rfl _ hT hA hB e hen
              (fun _ _ => br_f (by decide) ⟨xd_i1 e he6, nm_e (nm_e (nm_r (nI_1 e) (rX post g)))⟩)
              (fun _ z => absurd hc z) (fun z => absurd hp z) (fun z => absurd hp z))⟩
          · obtain ⟨sx', tim', r1, r2, rX⟩ := no (one.resolve_left (fun z => hc (ci.1 z)))
            exact ⟨sx', tim', r1, r2, fun post g => go post (xr_now n h ij wa f ph (nI t) lim act sh lg pol tim b w hn hn1 h0ct t (by omega) rfl _ hT hA hB e hen
              (fun _ z => absurd z hc) (fun _ _ => br_t rfl (nm_r (nI_1 e) (rX post g))) (fun z => absurd hp z) (fun z => absurd hp z))⟩
        · by_cases hc : gh_skip n (gd_t b) (gq_p tim) (t : Int) e
          · obtain ⟨sx', tim', r1, r2, rX⟩ := no (si.2 hc)
            exact ⟨sx', tim', r1, r2, fun post g => go post (xr_now n h ij wa f ph (nI t) lim act sh lg pol tim b w hn hn1 h0ct t (by omega) rfl _ hT hA hB e hen
              (fun z => absurd z hp) (fun z => absurd z hp) (fun _ _ => br_t rfl (nm_r (nI_1 e) (rX post g))) (fun _ z => absurd hc z))⟩
          · obtain ⟨sx', tim', r1, r2, rX⟩ := yes (one.resolve_right (fun z => hc (si.1 z)))
            exact ⟨sx', tim', r1, r2, fun post g => go post (xr_now n h ij wa f ph (nI t) lim act sh lg pol tim b w hn hn1 h0ct t (by omega) rfl _ hT hA hB e hen
              (fun z => absurd z hp) (fun z => absurd z hp) (fun _ z => absurd z hc)
              (fun _ _ => br_f (by decide) ⟨xd_i1 e he6, nm_e (nm_e (nm_r (nI_1 e) (rX post g)))⟩))⟩
      · have pe := gq_p_t tim e τ (by omega) q
        obtain ⟨sx', tim', r1, r2, rX⟩ := ih (e + 1) (by omega) (by omega) sx tim htr
          ⟨T0, hT0, gr_skip n h (gd_t lim) (gq_ct act) (gq_ac act) (gq_i sh) (gq_i lg) hN (12 * t + 6 + e) s12 T0 (gq_p tim) hT0 hpos (Or.inr (Or.inr (Or.inr (by rw [s6, pe]; omega))))⟩
        refine ⟨sx', tim', r1, r2, fun post g => br_f hx (xr_ct n h ij wa f ph (nI t) lim act sh lg pol tim b w _ e he6
          (fun _ => br_t rfl ⟨xd_i1 e he6, ?_⟩) (fun y => by rw [hcc] at y; simp at y))⟩
        rw [xd_c1 e he6]
        exact br_f (by rw [q]; exact gq_nIm τ (by omega)) (nm_r (nI_1 e) (rX post g))

/-- a step, from outcomes revealed to the next round or the end -/
theorem ox_step (hn : n ≤ 6) (hn1 : 1 ≤ n) (h7 : h ≤ 7) (ht : t ≤ h) (hN : gm_net n h (gd_t lim) (gq_ct act) (gq_ac act) (gq_i sh) (gq_i lg))
    (hA : ∀ k, k < n → gq_ct act k = true → act k = nI (gq_ac act k) ∧ gq_ac act k < n)
    (hX : gc_fix n (gd_t lim) (gq_ct act) (gq_ac act) (gq_i sh) (gq_i lg) (gd_t b) (gd_t w)) (hS : gs_snd n h (gd_t lim) (gq_ct act) (gq_ac act) (gq_i sh) (gq_i lg) (gd_t b) (gd_t w))
    (hB : ∀ u v, u < n → v < n → -7 ≤ gd_t b u v ∧ gd_t b u v ≤ 7) (tim : Nat → Int32) (htr : ox_tr n h tim) (T : Nat → Int) (hg : gr_at n h (gd_t lim) (gq_ct act) (gq_ac act) (gq_i sh) (gq_i lg) t T (gq_p tim))
    (post : Int32 → St2 → Prop)
    (hd : ∀ r tim', ox_tr n h tim' → (∃ T, gm_sp n h (gd_t lim) (gq_ct act) (gq_ac act) (gq_i sh) (gq_i lg) T ∧ ∀ e, e < n → gq_p tim' e = T e) → post r (nI n, nI h, ij, wa, f, 2, nI t, lim, act, sh, lg, pol, tim', b, w))
    (hr : t < h → ∀ r tim', ox_tr n h tim' → (∃ T, gm_sp n h (gd_t lim) (gq_ct act) (gq_ac act) (gq_i sh) (gq_i lg) T ∧ ∀ e, e < n → gm_pos (gq_ct act) T (12 * (t + 1)) e = gq_p tim' e) → post r (nI n, nI h, ij, wa, f, 1, nI (t + 1), lim, act, sh, lg, pol, tim', b, w)) :
    wpX_step post (nI n, nI h, ij, wa, f, 1, nI t, lim, act, sh, lg, pol, tim, b, w) := by
  have h0ct := hN.2.2.2.1
  obtain ⟨ov, tim1, r1, r2, r3, rX⟩ := ox_out n h t ij wa f 1 lim act sh lg pol b w hn h7 ht hN hA T (n - 1) 1 (by omega) (by omega) 0 tim htr hg (fun x _ hx1 hxc => by
    have e : x = 0 := by omega
    rw [e, h0ct] at hxc
    simp at hxc)
  obtain ⟨T1, t1, t2⟩ := gr_out n h (gd_t lim) (gq_ct act) (gq_ac act) (gq_i sh) (gq_i lg) hN t ht T (gq_p tim1) r2 r3
  have t3 := gr_skip n h (gd_t lim) (gq_ct act) (gq_ac act) (gq_i sh) (gq_i lg) hN (12 * t + 6) (by omega) T1 (gq_p tim1) t1 t2 (Or.inl (by omega))
  obtain ⟨sx, tim2, s1, ⟨T2, s2, s3⟩, sX⟩ := ox_cho n h t ij wa f 1 lim act sh lg pol b w hn hn1 h7 ht hN hA hX hS hB (n - 1) 1 (by omega) (by omega) 0 tim1 r1 ⟨T1, t1, t3⟩
  unfold wpX_step
  dsimp only
  refine br_t rfl ⟨n - 1 + 1, rX _ ⟨n - 1 + 1, sX _ ?_⟩⟩
  refine xr_all n h ij wa f 1 (nI t) lim act sh lg pol tim2 b w hn _ (ox_tr_T n h h7 tim2 s1) (fun hfull => br_f (by decide) ?_) (fun hnf => br_t rfl (br_c (fun e => ?_) (fun e => nm_r (nI_1 t) ?_)))
  · refine hd _ tim2 s1 ⟨T2, s2, fun e he => ?_⟩
    have y := s3 e he
    have z := hfull e he
    unfold gm_pos at y
    by_cases q : gm_stp (gq_ct act) e (T2 e) < ((12 * t + 6 + n : Nat) : Int)
    · rw [if_pos q] at y; exact y.symm
    · rw [if_neg q] at y; exact absurd y.symm z
  · have et : t = h := (nI_eq (by omega) (by omega)).1 e
    refine hd _ tim2 s1 ⟨T2, s2, fun e he => ?_⟩
    have y := s3 e he
    have tt := s2.2.1 e he
    unfold gm_pos at y
    have q : gm_stp (gq_ct act) e (T2 e) < ((12 * t + 6 + n : Nat) : Int) := by
      by_cases e0 : e = 0
      · rw [e0, gm_stp_0]; omega
      · cases hc : gq_ct act e with
        | true => rw [gm_stp_t _ e _ e0 hc]; omega
        | false => rw [gm_stp_f _ e _ e0 hc]; omega
    rw [if_pos q] at y
    exact y.symm
  · have tne : t ≠ h := fun z => e (by rw [z])
    refine hr (by omega) _ tim2 s1 ⟨T2, s2, fun x hx => ?_⟩
    have gn := gr_next n h (gd_t lim) (gq_ct act) (gq_ac act) (gq_i sh) (gq_i lg) hN t T2 (gq_p tim2) s2 s3
    obtain ⟨_, p0, pa, pb⟩ := gn
    rw [← s3 x hx]
    unfold gm_pos
    by_cases e0 : x = 0
    · rw [e0, gm_stp_0, if_pos (by omega), if_pos (by omega)]
    · have sb := gm_stp_b (gq_ct act) x (T2 x) e0 (by omega)
      by_cases q : T2 x ≤ (t : Int)
      · have q2 : gm_stp (gq_ct act) x (T2 x) < ((12 * t + 6 + n : Nat) : Int) := by
          cases hc : gq_ct act x with
          | true => rw [gm_stp_t _ x _ e0 hc]; omega
          | false => rw [gm_stp_f _ x _ e0 hc]; omega
        rw [if_pos (by omega), if_pos q2]
      · rw [if_neg (by omega), if_neg (by omega)]
end ox
