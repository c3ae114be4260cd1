-- a step, both sides at once
section zs
variable (n h t : Nat) (ij wa f ph : Int32) (lim act sh lg pol b w yl fr yo yh yp : Nat → Int32)

def zs_tr (tim ti : Nat → Int32) : Prop :=
  ∀ e, e < n → (tim e = -1 ∧ ti e = 100) ∨ ∃ τ, τ ≤ h ∧ tim e = nI τ ∧ ti e = nI τ

theorem zs_tr_u (tim ti : Nat → Int32) (hI : zs_tr n h tim ti) (c τ : Nat) (hτ : τ ≤ h) : zs_tr n h (upd tim c (nI τ)) (upd ti c (nI τ)) := by
  intro e he
  by_cases q : e = c
  · rw [q, pk_us, pk_us]; exact Or.inr ⟨τ, hτ, rfl, rfl⟩
  · rw [pk_un q, pk_un q]; exact hI e he

theorem zs_tr_T (h7 : h ≤ 7) (tim ti : Nat → Int32) (hI : zs_tr n h tim ti) : ∀ e, e < n → tim e = -1 ∨ ∃ t, t ≤ 7 ∧ tim e = nI t := by
  intro e he
  rcases hI e he with ⟨q, _⟩ | ⟨τ, a, q, _⟩
  · exact Or.inl q
  · exact Or.inr ⟨τ, by omega, q⟩

theorem zs_p_u (tim : Nat → Int32) (c τ : Nat) (hτ : τ < 1000000) : gq_p (upd tim c (nI τ)) = gm_set (gq_p tim) c (τ : Int) := by
  funext e
  by_cases q : e = c
  · rw [q, gm_set_s]; exact gq_p_t _ c τ hτ pk_us
  · rw [gm_set_n _ _ _ _ q]
    unfold gq_p
    rw [pk_un q]

theorem zs_ti (h7 : h ≤ 7) (tim ti : Nat → Int32) (hI : zs_tr n h tim ti) (e : Nat) (he : e < n) :
    (ti e).toInt = gq_p tim e ∧ 0 ≤ gq_p tim e ∧ gq_p tim e ≤ 100 := by
  rcases hI e he with ⟨q, r⟩ | ⟨τ, a, q, r⟩
  · rw [r, gq_p_n tim e q, gq_100]; exact ⟨rfl, by omega, by omega⟩
  · rw [r, gq_p_t tim e τ (by omega) q, gq_nI τ (by omega)]; exact ⟨rfl, by omega, by omega⟩

theorem zs_out (hn : n ≤ 6) (h7 : h ≤ 7) (ht : t ≤ h) (hN : gm_net n h (gd_t lim) (gq_ct act) (gq_ac act) (gq_i sh) (gq_i lg))
    (hA : ∀ k, k < n → gq_ct act k = true → act k = nI (gq_ac act k) ∧ gq_ac act k < n)
    (hF : ∀ c, c < n → fr c = act c) (hhi : ∀ c, c < n → yh c = lg c) (T : Nat → Int) (pl mo : Nat → Int32) :
    ∀ d c, c + d = n → 1 ≤ c → ∀ (sum : Int32) (tim ti : Nat → Int32), zs_tr n h tim ti → gr_at n h (gd_t lim) (gq_ct act) (gq_ac act) (gq_i sh) (gq_i lg) t T (gq_p tim) →
      (∀ x, x < n → x < c → gq_ct act x = true → gq_p tim x = 100 → gq_p tim (gq_ac act x) ≠ 100 → (t : Int) ≠ gq_p tim (gq_ac act x) + gq_i lg x) →
      ∃ (sum' : Int32) (tim' ti' : Nat → Int32), zs_tr n h tim' ti' ∧ gr_at n h (gd_t lim) (gq_ct act) (gq_ac act) (gq_i sh) (gq_i lg) t T (gq_p tim') ∧
        (∀ x, x < n → gq_ct act x = true → gq_p tim' x = 100 → gq_p tim' (gq_ac act x) ≠ 100 → (t : Int) ≠ gq_p tim' (gq_ac act x) + gq_i lg x) ∧
        (∀ post : Int32 → SX → Prop, post sum' (nI n, nI h, ij, wa, f, ph, nI t, lim, act, sh, lg, pol, tim', b, w) → wX_endOutcomes_4 post (nI n) (nI h) ij wa f ph (nI t) (d + 1) sum (nI c) lim act sh lg pol tim b w) ∧
        (∀ post : Int32 → SY → Prop, (∃ m, wY_step_108 post m sum' 1 (nI n) (nI h) ph (nI t) yl fr yo yh yp ti' pl mo) → wY_step_15 post (nI n) (nI h) ph (nI t) (d + 1) sum (nI c) yl fr yo yh yp ti pl mo) := by
  intro d
  induction d with
  | zero =>
    intro c hc h1 sum tim ti htr hg hd
    have e : c = n := by omega
    subst e
    exact ⟨sum, tim, ti, htr, hg, fun x hx => hd x hx hx, fun post g => br_t (Int32.le_refl _) g, fun post g => br_t (Int32.le_refl _) g⟩
  | succ d ih =>
    intro c hc h1 sum tim ti htr hg hd
    have hcn : c < n := by omega
    have hc6 : c < 6 := by omega
    have hx : ¬ nI n ≤ nI c := nI_ge hcn (by omega)
    have keep := fun (z : gq_ct act c = true → gq_p tim c = 100 → gq_p tim (gq_ac act c) ≠ 100 → (t : Int) ≠ gq_p tim (gq_ac act c) + gq_i lg c) =>
      ih (c + 1) (by omega) (by omega) sum tim ti htr hg (fun x hxn hxc => by
        by_cases q : x = c
        · rw [q]; exact z
        · exact hd x hxn (by omega))
    have hfc := hF c hcn
    cases hcc : gq_ct act c with
    | false =>
      obtain ⟨s', tim', ti', r1, r2, r3, rX, rY⟩ := keep (fun y => by rw [hcc] at y; simp at y)
      refine ⟨s', tim', ti', r1, r2, r3, fun post g => br_f hx (xr_ct n h ij wa f ph (nI t) lim act sh lg pol tim b w _ c hc6
        (fun _ => br_t rfl (nm_r (nI_1 c) (rX post g))) (fun y => by rw [hcc] at y; simp at y)), fun post g => br_f hx ⟨xd_i1 c hc6, ?_⟩⟩
      rw [xd_c1 c hc6, hfc, gq_ct_f act c hcc]
      exact br_t (by decide) (nm_r (nI_1 c) (rY post g))
    | true =>
      obtain ⟨a1, a2⟩ := hA c hcn hcc
      have a6 : gq_ac act c < 6 := by omega
      have nneg : ¬ nI (gq_ac act c) < 0 := nI_pos (by omega)
      have hno : ∀ y : Prop, gq_ct act c = false → y := fun y z => by rw [hcc] at z; simp at z
      -- the walk as far as the look at running
      have xgo : ∀ (post : Int32 → SX → Prop), wpX_isRunning (fun r_20 => (r_20 = 0 → ∀ x2_37 : Int32, x2_37 = nI c + 1 → wX_endOutcomes_4 post (nI n) (nI h) ij wa f ph (nI t) (d + 1) sum x2_37 lim act sh lg pol tim b w) ∧ (¬ r_20 = 0 → wpX_elapsed (fun r_38 => vp_in (nI c) 6 ∧ (r_38 = lg (nI c).toNatClampNeg → vp_in (nI c) 6 ∧ ∀ a_times_58 : Nat → Int32, a_times_58 = upd tim (nI c).toNatClampNeg (nI t) → ∀ x1_59 : Int32, x1_59 = sum + ((1 : Int32) <<< (nI c &&& 31)) → ∀ x2_60 : Int32, x2_60 = nI c + 1 → wX_endOutcomes_4 post (nI n) (nI h) ij wa f ph (nI t) (d + 1) x1_59 x2_60 lim act sh lg pol a_times_58 b w) ∧ (¬ r_38 = lg (nI c).toNatClampNeg → ∀ x2_56 : Int32, x2_56 = nI c + 1 → wX_endOutcomes_4 post (nI n) (nI h) ij wa f ph (nI t) (d + 1) sum x2_56 lim act sh lg pol tim b w)) (nI n, nI h, ij, wa, f, ph, nI t, lim, act, sh, lg, pol, tim, b, w) (nI c))) (nI n, nI h, ij, wa, f, ph, nI t, lim, act, sh, lg, pol, tim, b, w) (nI c) →
          wX_endOutcomes_4 post (nI n) (nI h) ij wa f ph (nI t) (d + 1 + 1) sum (nI c) lim act sh lg pol tim b w := fun post g =>
        br_f hx (xr_ct n h ij wa f ph (nI t) lim act sh lg pol tim b w _ c hc6 (fun z => hno _ z) (fun _ => br_f (by decide) g))
      rcases htr c hcn with ⟨q, r⟩ | ⟨τ, hτ, q, r⟩
      · have pc := gq_p_n tim c q
        rcases htr _ a2 with ⟨qa, ra⟩ | ⟨σ, hσ, qa, ra⟩
        · -- not activated
          have pa := gq_p_n tim _ qa
          obtain ⟨s', tim', ti', r1, r2, r3, rX, rY⟩ := keep (fun _ _ y => absurd pa y)
          refine ⟨s', tim', ti', r1, r2, r3, fun post g => xgo post (xr_run n h ij wa f ph (nI t) lim act sh lg pol tim b w _ c hc6 a1 a6
            (fun _ y => absurd qa y) (fun _ => br_t rfl (nm_r (nI_1 c) (rX post g)))), fun post g => br_f hx ⟨xd_i1 c hc6, ?_⟩⟩
          rw [xd_c1 c hc6, hfc, a1, xd_c1 _ a6]
          exact br_f nneg ⟨xd_i1 c hc6, br_t r ⟨xd_i1 c hc6, xd_i1 _ a6, br_t ra (nm_r (nI_1 c) (rY post g))⟩⟩
        · -- running
          have pa := gq_p_t tim _ σ (by omega) qa
          have ra' : ¬ ti (gq_ac act c) = 100 := by rw [ra]; exact gq_nI100 σ (by omega)
          have qa' : ¬ tim (gq_ac act c) = -1 := by rw [qa]; exact gq_nIm σ (by omega)
          have es : (nI t - nI σ).toInt = (t : Int) - (σ : Int) := pk_sub_toInt (by omega) (by omega)
          by_cases hdue : nI t - nI σ = lg c
          · have hdi : (t : Int) - (σ : Int) = gq_i lg c := by rw [← es, hdue]; rfl
            have bnd := hN.2.2.2.2.2.2 c hcn hcc
            have hg' : gr_at n h (gd_t lim) (gq_ct act) (gq_ac act) (gq_i sh) (gq_i lg) t T (gq_p (upd tim c (nI t))) := by
              rw [zs_p_u tim c t (by omega)]
              exact gr_rev n h (gd_t lim) (gq_ct act) (gq_ac act) (gq_i sh) (gq_i lg) hN t T (gq_p tim) hg c hcn hcc pc (by rw [pa]; omega) (by rw [pa]; omega)
            obtain ⟨s', tim', ti', r1, r2, r3, rX, rY⟩ := ih (c + 1) (by omega) (by omega) (sum + ((1 : Int32) <<< (nI c &&& 31))) (upd tim c (nI t)) (upd ti c (nI t))
              (zs_tr_u n h tim ti htr c t ht) hg' (fun x hxn hxc hxt hp1 hp2 => by
                rw [zs_p_u tim c t (by omega)] at hp1 hp2 ⊢
                by_cases qx : x = c
                · rw [qx, gm_set_s] at hp1; omega
                · rw [gm_set_n _ _ _ _ qx] at hp1
                  have bx := hN.2.2.2.2.2.2 x hxn hxt
                  by_cases qa : gq_ac act x = c
                  · rw [qa, gm_set_s]; omega
                  · rw [gm_set_n _ _ _ _ qa] at hp2 ⊢
                    exact hd x hxn (by omega) hxt hp1 hp2)
            refine ⟨s', tim', ti', r1, r2, r3, fun post g => xgo post (xr_run n h ij wa f ph (nI t) lim act sh lg pol tim b w _ c hc6 a1 a6
              (fun _ _ => br_f (by decide) (xr_ela n h ij wa f ph (nI t) lim act sh lg pol tim b w _ c hc6 a1 a6 ⟨xd_i1 c hc6, ?_⟩))
              (fun y => by
                rcases y with y | y
                · exact absurd q y
                · exact absurd y qa')), fun post g => br_f hx ⟨xd_i1 c hc6, ?_⟩⟩
            · rw [xd_c1 c hc6, qa]
              exact br_t hdue ⟨xd_i1 c hc6, nm_e (nm_e (nm_r (nI_1 c) (rX post g)))⟩
            · rw [xd_c1 c hc6, hfc, a1, xd_c1 _ a6, hhi c hcn]
              refine br_f nneg ⟨xd_i1 c hc6, br_t r ⟨xd_i1 c hc6, xd_i1 _ a6, br_f ra' ⟨xd_i1 c hc6, xd_i1 _ a6, xd_i1 c hc6, ?_⟩⟩⟩
              rw [ra]
              exact br_t hdue ⟨xd_i1 c hc6, nm_e (nm_e (nm_r (nI_1 c) (rY post g)))⟩
          · obtain ⟨s', tim', ti', r1, r2, r3, rX, rY⟩ := keep (fun _ _ _ y => hdue (gq_inj (by
              rw [es]
              rw [pa] at y
              show (t : Int) - (σ : Int) = gq_i lg c
              omega)))
            refine ⟨s', tim', ti', r1, r2, r3, fun post g => xgo post (xr_run n h ij wa f ph (nI t) lim act sh lg pol tim b w _ c hc6 a1 a6
              (fun _ _ => br_f (by decide) (xr_ela n h ij wa f ph (nI t) lim act sh lg pol tim b w _ c hc6 a1 a6 ⟨xd_i1 c hc6, ?_⟩))
              (fun y => by
                rcases y with y | y
                · exact absurd q y
                · exact absurd y qa')), fun post g => br_f hx ⟨xd_i1 c hc6, ?_⟩⟩
            · rw [xd_c1 c hc6, qa]
              exact br_f hdue (nm_r (nI_1 c) (rX post g))
            · rw [xd_c1 c hc6, hfc, a1, xd_c1 _ a6, hhi c hcn]
              refine br_f nneg ⟨xd_i1 c hc6, br_t r ⟨xd_i1 c hc6, xd_i1 _ a6, br_f ra' ⟨xd_i1 c hc6, xd_i1 _ a6, xd_i1 c hc6, ?_⟩⟩⟩
              rw [ra]
              exact br_f hdue (nm_r (nI_1 c) (rY post g))
      · -- it has happened
        have pc := gq_p_t tim c τ (by omega) q
        obtain ⟨s', tim', ti', r1, r2, r3, rX, rY⟩ := keep (fun _ y => by rw [pc] at y; omega)
        refine ⟨s', tim', ti', r1, r2, r3, fun post g => xgo post (xr_run n h ij wa f ph (nI t) lim act sh lg pol tim b w _ c hc6 a1 a6
          (fun y => by rw [q] at y; exact absurd y (gq_nIm τ (by omega))) (fun _ => br_t rfl (nm_r (nI_1 c) (rX post g)))), fun post g => br_f hx ⟨xd_i1 c hc6, ?_⟩⟩
        rw [xd_c1 c hc6, hfc, a1, xd_c1 _ a6]
        exact br_f nneg ⟨xd_i1 c hc6, br_f (by rw [r]; exact gq_nI100 τ (by omega)) (nm_r (nI_1 c) (rY post g))⟩
end zs
