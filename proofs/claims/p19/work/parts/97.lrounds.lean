-- the law: a run's rounds and its end
section lz
variable (n h t : Nat) (ij wa f : Int32) (lim act sh lg pol tim b w : Nat → Int32) (Ls : Nat) (xs : Nat → Int32)

theorem lz_cell (post : Int32 → Prop) (k : Nat) (hk : k < 100000) (hL : Ls ≤ 260) (g : ∀ r, post r) : wpL_cell post Ls xs () (nI k) := by
  refine br_c (fun _ => g _) (fun q => ⟨?_, g _⟩)
  refine vp_in_nI ?_ (by omega)
  by_cases z : k < Ls
  · exact z
  · exact absurd (nI_le (a := Ls) (by omega) (by omega)) q

theorem lz_pick (post : Int32 → Prop) (k m : Nat) (hk : k < 100000) (hL : Ls ≤ 260) (hm : 0 < m) (hm2 : m < 1000) (g : ∀ j, j < m → post (nI j)) : wpL_pick post Ls xs () (nI k) (nI m) := by
  unfold wpL_pick
  refine lz_cell Ls xs _ k hk hL (fun r => ⟨nI_ne0 hm (by omega), ?_⟩)
  obtain ⟨j, hj, e⟩ := pk_andE r (m := 2147483647) 31 (by decide)
  rw [e, pk_rem hj hm (by omega)]
  exact g _ (Nat.mod_lt _ hm)

/-- all is done: every event has its time in a safe play -/
def lz_done (tim : Nat → Int32) (T : Nat → Int) : Prop :=
  gm_sp n h (gd_t lim) (gq_ct act) (gq_ac act) (gq_i sh) (gq_i lg) T ∧ ∀ e, e < n → tim e = nI (T e).toNat

theorem lz_done_of (h7 : h ≤ 7) (htr : ox_tr n h tim) (T : Nat → Int) (hT : gm_sp n h (gd_t lim) (gq_ct act) (gq_ac act) (gq_i sh) (gq_i lg) T) (hp : ∀ e, e < n → gq_p tim e = T e) : lz_done n h lim act sh lg tim T := by
  refine ⟨hT, fun e he => ?_⟩
  have y := hp e he
  have tt := hT.2.1 e he
  rcases htr e he with q | ⟨τ, hτ, q⟩
  · rw [gq_p_n tim e q] at y; omega
  · rw [gq_p_t tim e τ (by omega) q] at y
    rw [q, ← y]
    rfl

theorem lz_948 (h6 : n ≤ 6) (h7 : h ≤ 7) (hN : gm_net n h (gd_t lim) (gq_ct act) (gq_ac act) (gq_i sh) (gq_i lg)) (hA : ∀ k, k < n → gq_ct act k = true → act k = nI (gq_ac act k) ∧ gq_ac act k < n)
    (T : Nat → Int) (hD : lz_done n h lim act sh lg tim T) (post : Int32 → Prop) (J44 : Int32 → Int32 → Int32 → Int32 → Int32 → Int32 → Int32 → Int32 → Int32 → (Nat → Int32) → (Nat → Int32) → (Nat → Int32) → (Nat → Int32) → (Nat → Int32) → (Nat → Int32) → (Nat → Int32) → (Nat → Int32) → Prop) (J917 : Int32 → Prop) (x3 x5 : Int32) (kc ks e : Nat) (he : e < n) (g : J917 (nI (e + 1))) :
    ∃ m, wL_law_948 post Ls xs J44 J917 (nI n) (nI h) x3 x5 (nI e) (tim e) kc ks (nI n) (nI h) ij wa f 2 (nI t) lim act sh lg pol tim b w m 0 := by
  obtain ⟨hT, hti⟩ := hD
  have hb := hT.2.1
  have nz : ∀ x, x < n → ¬ tim x = -1 := fun x hx => by rw [hti x hx]; exact gq_nIm _ (by have := hb x hx; omega)
  have sub : ∀ x y, x < n → y < n → (tim x - tim y).toInt = T x - T y := by
    intro x y hx hy
    have b1 := hb x hx
    have b2 := hb y hy
    rw [hti x hx, hti y hy, pk_sub_toInt (by omega) (by omega)]
    omega
  have tmo : ∀ (P : Int32 → Prop) (x : Nat), x < n → P (tim x) → wpX_timeOf P (nI n, nI h, ij, wa, f, 2, nI t, lim, act, sh, lg, pol, tim, b, w) (nI x) := fun P x hx gp =>
    om_time n h t ij wa f 2 lim act sh lg pol tim b w h6 P x hx (fun z => absurd z (nz x hx)) (fun _ => gp)
  refine loop_0 (fun m i (_ : Unit) => wL_law_948 post Ls xs J44 J917 (nI n) (nI h) x3 x5 (nI e) (tim e) kc ks (nI n) (nI h) ij wa f 2 (nI t) lim act sh lg pol tim b w m (nI i)) (fun _ _ => True) n () trivial ?_ ?_
  · intro m _ _
    refine br_t (Int32.le_refl _) (br_c (fun _ => nm_r (nI_1 e) g) (fun q => ?_))
    have e1 : 1 ≤ e := by
      by_cases z : e = 0
      · exact absurd (by rw [z]; rfl) q
      · omega
    refine om_link n h t ij wa f 2 lim act sh lg pol tim b w h6 _ e 0 e1 he (by omega) (fun _ => br_t rfl (nm_r (nI_1 e) g)) (fun hc => ?_)
    obtain ⟨a1, a2⟩ := hA e he hc
    have bb := hN.2.2.2.2.2.2 e he hc
    have tt := hT.2.2.1 e he hc
    have n100 : ¬ act e = 100 := by rw [a1]; exact gq_nI100 _ (by omega)
    refine br_f n100 (om_link n h t ij wa f 2 lim act sh lg pol tim b w h6 _ e 0 e1 he (by omega) (fun z => by rw [hc] at z; simp at z) (fun _ => ?_))
    rw [if_pos rfl, a1]
    refine tmo _ _ a2 (nm_e ?_)
    have dd := sub e _ he a2
    refine om_link n h t ij wa f 2 lim act sh lg pol tim b w h6 _ e 1 e1 he (by omega) (fun z => by rw [hc] at z; simp at z) (fun _ => br_f (fun z => ?_) ?_)
    · have y := (gn_lt _ _).1 z
      rw [dd] at y
      have y2 : (if (1 : Nat) = 0 then act e else if (1 : Nat) = 1 then sh e else lg e).toInt = gq_i sh e := rfl
      rw [y2] at y
      omega
    · refine om_link n h t ij wa f 2 lim act sh lg pol tim b w h6 _ e 2 e1 he (by omega) (fun z => by rw [hc] at z; simp at z) (fun _ => br_t ?_ (nm_r (nI_1 e) g))
      rw [gn_le, dd]
      show _ ≤ gq_i lg e
      omega
  · intro m u _ hu _ ih
    refine br_f (nI_ge hu (by omega)) (br_c (fun _ => nm_r (nI_1 u) (ih () trivial)) (fun q => ?_))
    have hue : u ≠ e := fun z => q (by rw [z])
    refine tmo _ u hu (om_lim n h t ij wa f 2 lim act sh lg pol tim b w h6 _ u e hu he hue (br_t ?_ (nm_r (nI_1 u) (ih () trivial))))
    rw [gn_le, sub e u he hu]
    exact gv_lim n h (gd_t lim) (gq_ct act) (gq_ac act) (gq_i sh) (gq_i lg) hN T hT u e hu he hue

theorem lz_917 (h6 : n ≤ 6) (h7 : h ≤ 7) (hN : gm_net n h (gd_t lim) (gq_ct act) (gq_ac act) (gq_i sh) (gq_i lg)) (hL : ol_lim n h lim) (hK : ol_lk n h act sh lg)
    (T : Nat → Int) (hD : lz_done n h lim act sh lg tim T) (hw : wa = 0 ∨ wa = 1) (hJ : ij = 1 ∧ gv_jud n h (gd_t lim) (gq_ct act) (gq_ac act) (gq_i sh) (gq_i lg) wa b w)
    (post : Int32 → Prop) (J44 : Int32 → Int32 → Int32 → Int32 → Int32 → Int32 → Int32 → Int32 → Int32 → (Nat → Int32) → (Nat → Int32) → (Nat → Int32) → (Nat → Int32) → (Nat → Int32) → (Nat → Int32) → (Nat → Int32) → (Nat → Int32) → Prop) (x3 : Int32) (x5 : Nat) (kc ks : Nat)
    (g : ∀ (tim : Nat → Int32), (∀ e, e < n → tim e = -1) → J44 x3 (nI (x5 + 1)) (nI n) (nI h) ij wa f 0 (nI 0) lim act sh lg pol tim b w) :
    ∃ m, wL_law_917 post Ls xs J44 (nI n) (nI h) x3 (nI x5) kc ks (nI n) (nI h) ij wa f 2 (nI t) lim act sh lg pol tim b w m 0 := by
  have hA := gq_link n h act sh lg h6 hK.2
  refine loop_0 (fun m i (_ : Unit) => wL_law_917 post Ls xs J44 (nI n) (nI h) x3 (nI x5) kc ks (nI n) (nI h) ij wa f 2 (nI t) lim act sh lg pol tim b w m (nI i)) (fun _ _ => True) n () trivial ?_ ?_
  · intro m _ _
    refine br_t (Int32.le_refl _) ?_
    unfold wpX_restart
    dsimp only
    exact br_f (by decide) (zh_enter n h t ij wa f 2 lim act sh lg pol tim b w h6 _ (fun tim' ht' => nm_r (nI_1 x5) (g tim' ht')))
  · intro m e _ he _ ih
    have hb := hD.1.2.1 e he
    have hte := hD.2 e he
    refine br_f (nI_ge he (by omega)) (om_time n h t ij wa f 2 lim act sh lg pol tim b w h6 _ e he (fun z => ?_) (fun _ => br_f (fun z => ?_) (br_t ?_ ?_)))
    · rw [hte] at z
      exact absurd z (gq_nIm _ (by omega))
    · rw [hte] at z
      exact nI_pos (by omega) z
    · rw [hte]
      exact nI_le (by omega) (by omega)
    · exact lz_948 n h t ij wa f lim act sh lg pol tim b w Ls xs h6 h7 hN hA T hD post J44 _ x3 (nI x5) kc ks e he (ih () trivial)

/-- the looks and calls within a round -/
theorem lz_828 (h3 : 3 ≤ n) (h6 : n ≤ 6) (h7 : h ≤ 7) (ht : t ≤ h) (hN : gm_net n h (gd_t lim) (gq_ct act) (gq_ac act) (gq_i sh) (gq_i lg)) (hA : ∀ k, k < n → gq_ct act k = true → act k = nI (gq_ac act k) ∧ gq_ac act k < n)
    (hX : gc_fix n (gd_t lim) (gq_ct act) (gq_ac act) (gq_i sh) (gq_i lg) (gd_t b) (gd_t w)) (hS : gs_snd n h (gd_t lim) (gq_ct act) (gq_ac act) (gq_i sh) (gq_i lg) (gd_t b) (gd_t w))
    (hB : ∀ u v, u < n → v < n → -7 ≤ gd_t b u v ∧ gd_t b u v ≤ 7) (htr : ox_tr n h tim) (T : Nat → Int) (hg : gr_at n h (gd_t lim) (gq_ct act) (gq_ac act) (gq_i sh) (gq_i lg) t T (gq_p tim))
    (post : Int32 → Prop) (J44 J683 : Int32 → Int32 → Int32 → Int32 → Int32 → Int32 → Int32 → Int32 → Int32 → (Nat → Int32) → (Nat → Int32) → (Nat → Int32) → (Nat → Int32) → (Nat → Int32) → (Nat → Int32) → (Nat → Int32) → (Nat → Int32) → Prop) (k i : Nat) (x5 : Int32) (l0 l1 lk : Int64) (c1 c2 : Int32) (kc ks : Nat)
    (hd : ∀ (pol tim : Nat → Int32), ox_tr n h tim → (∃ T, gm_sp n h (gd_t lim) (gq_ct act) (gq_ac act) (gq_i sh) (gq_i lg) T ∧ ∀ e, e < n → gq_p tim e = T e) → J683 (nI (k + 2)) (nI (i + 1)) (nI n) (nI h) ij wa f 2 (nI t) lim act sh lg pol tim b w)
    (hr : t < h → ∀ (pol tim : Nat → Int32), ox_tr n h tim → (∃ T, gm_sp n h (gd_t lim) (gq_ct act) (gq_ac act) (gq_i sh) (gq_i lg) T ∧ ∀ e, e < n → gm_pos (gq_ct act) T (12 * (t + 1)) e = gq_p tim e) → J683 (nI (k + 2)) (nI (i + 1)) (nI n) (nI h) ij wa f 1 (nI (t + 1)) lim act sh lg pol tim b w) :
    ∃ m, wL_law_828 post Ls xs J44 J683 (nI n) (nI h) (nI k) x5 l0 l1 lk (nI i) c1 c2 kc ks m 1 (nI n) (nI h) ij wa f 1 (nI t) lim act sh lg pol tim b w := by
  have k2 : nI k + 2 = nI (k + 2) := nI_add k 2
  refine pk_loop (fun m e (s : (Nat → Int32) × (Nat → Int32)) => wL_law_828 post Ls xs J44 J683 (nI n) (nI h) (nI k) x5 l0 l1 lk (nI i) c1 c2 kc ks m (nI e) (nI n) (nI h) ij wa f 1 (nI t) lim act sh lg s.1 s.2 b w)
    (fun e s => 1 ≤ e ∧ ox_tr n h s.2 ∧ gr_at n h (gd_t lim) (gq_ct act) (gq_ac act) (gq_i sh) (gq_i lg) t T (gq_p s.2)) n 1 (pol, tim) (by omega) ⟨by omega, htr, hg⟩ ?_ ?_
  · intro m s hs
    obtain ⟨pol, tim⟩ := s
    refine br_t (Int32.le_refl _) (br_f (by decide) ?_)
    exact ox_step n h t ij wa f lim act sh lg pol b w h6 (by omega) h7 ht hN hA hX hS hB tim hs.2.1 T hs.2.2 _
      (fun r tim' a1 a2 => nm_r (nI_1 i) (nm_r k2 (hd pol tim' a1 a2))) (fun hlt r tim' a1 a2 => nm_r (nI_1 i) (nm_r k2 (hr hlt pol tim' a1 a2)))
  · intro m e s he hs ih
    obtain ⟨pol, tim⟩ := s
    refine br_f (nI_ge he (by omega)) (om_pol n h t ij wa f 1 lim act sh lg pol tim b w h6 _ e hs.1 he _ (fun r pol' => br_c (fun _ => ?_) (fun _ => nm_r (nI_1 e) (ih (pol', tim) ⟨by omega, hs.2⟩))))
    exact om_rev n h t ij wa f lim act sh lg pol' tim b w h6 h7 ht hN hA hs.2.1 T hs.2.2 _ e hs.1 he (fun r tim' a1 a2 => nm_r (nI_1 e) (ih (pol', tim') ⟨by omega, a1, a2⟩))

theorem lz_gr (hN : gm_net n h (gd_t lim) (gq_ct act) (gq_ac act) (gq_i sh) (gq_i lg)) (T p : Nat → Int) (hT : gm_sp n h (gd_t lim) (gq_ct act) (gq_ac act) (gq_i sh) (gq_i lg) T) (hp : ∀ e, e < n → gm_pos (gq_ct act) T (12 * t) e = p e) : gr_at n h (gd_t lim) (gq_ct act) (gq_ac act) (gq_i sh) (gq_i lg) t T p := by
  have hn6 : n ≤ 6 := hN.2.1
  refine ⟨hT, ?_, fun e he he0 hl => ?_, fun e he he0 hl => ?_⟩
  · rw [← hp 0 hN.1]; unfold gm_pos; rw [gm_stp_0, if_pos (by omega)]; exact hT.1
  · have sb := gm_stp_b (gq_ct act) e (T e) he0 (by omega)
    rw [← hp e he]; unfold gm_pos; rw [if_pos (by omega)]
  · have sb := gm_stp_b (gq_ct act) e (T e) he0 (by omega)
    rw [← hp e he]; unfold gm_pos; rw [if_neg (by omega)]; exact Or.inl rfl

def lz_v (tim : Nat → Int32) (j : Nat) : Nat := if tim j = -1 then 15 else (tim j).toNatClampNeg

theorem lz_v_T (h6 : n ≤ 6) (h7 : h ≤ 7) (htr : ox_tr n h tim) (N : Nat) (hP : lb4_P N (fun j => if j < n then lz_v tim j else 0)) :
    lw_T n (gq_p tim) N (fun j => if j < n then lz_v tim j else 0) := by
  have hz : ∀ e, n ≤ e → (if e < n then lz_v tim e else 0) = 0 := fun e he => if_neg (by omega)
  have hlt := lb4_lt N _ hP n hz
  have hle : 2 ^ (4 * n) ≤ 2 ^ 24 := Nat.pow_le_pow_right (by decide) (by omega)
  refine ⟨hP, Nat.lt_of_lt_of_le hlt hle, hz, fun e he => ?_⟩
  show (gq_p tim e = 100 ∧ (if e < n then lz_v tim e else 0) = 15) ∨ (0 ≤ gq_p tim e ∧ gq_p tim e ≤ 7 ∧ ((if e < n then lz_v tim e else 0 : Nat) : Int) = gq_p tim e)
  rw [if_pos he]
  rcases htr e he with q | ⟨τ, hτ, q⟩
  · refine Or.inl ⟨gq_p_n tim e q, ?_⟩
    unfold lz_v
    rw [if_pos q]
  · have pt := gq_p_t tim e τ (by omega) q
    have v1 : lz_v tim e = τ := by
      unfold lz_v
      rw [q, if_neg (gq_nIm τ (by omega))]
      exact nI_clamp (by omega)
    rw [v1, pt]
    exact Or.inr ⟨by omega, by omega, rfl⟩

theorem lz_724 (h3 : 3 ≤ n) (h6 : n ≤ 6) (h7 : h ≤ 7) (ht : t ≤ h) (B : Nat) (hBB : ls_B n B) (hN : gm_net n h (gd_t lim) (gq_ct act) (gq_ac act) (gq_i sh) (gq_i lg)) (hA : ∀ k, k < n → gq_ct act k = true → act k = nI (gq_ac act k) ∧ gq_ac act k < n)
    (hX : gc_fix n (gd_t lim) (gq_ct act) (gq_ac act) (gq_i sh) (gq_i lg) (gd_t b) (gd_t w)) (hS : gs_snd n h (gd_t lim) (gq_ct act) (gq_ac act) (gq_i sh) (gq_i lg) (gd_t b) (gd_t w))
    (hB : ∀ u v, u < n → v < n → -7 ≤ gd_t b u v ∧ gd_t b u v ≤ 7) (hlr : ∀ u v, u < n → v < n → -7 ≤ gd_t lim u v ∧ gd_t lim u v ≤ 7) (htr : ox_tr n h tim) (T : Nat → Int) (hT : gm_sp n h (gd_t lim) (gq_ct act) (gq_ac act) (gq_i sh) (gq_i lg) T) (hp : ∀ e, e < n → gm_pos (gq_ct act) T (12 * t) e = gq_p tim e)
    (l0 l1 K : Nat) (z y : Nat → Nat) (hz : lw_L n (gd_t lim) l0 l1 z) (hK : lw_K n (gq_ct act) (gq_ac act) (gq_i sh) (gq_i lg) K y) (hL : Ls ≤ 260)
    (post : Int32 → Prop) (J44 J683 : Int32 → Int32 → Int32 → Int32 → Int32 → Int32 → Int32 → Int32 → Int32 → (Nat → Int32) → (Nat → Int32) → (Nat → Int32) → (Nat → Int32) → (Nat → Int32) → (Nat → Int32) → (Nat → Int32) → (Nat → Int32) → Prop) (k i : Nat) (hk : k < 10000) (x5 : Int32) (kc ks : Nat)
    (hd : ∀ (pol tim : Nat → Int32), ox_tr n h tim → (∃ T, gm_sp n h (gd_t lim) (gq_ct act) (gq_ac act) (gq_i sh) (gq_i lg) T ∧ ∀ e, e < n → gq_p tim e = T e) → J683 (nI (k + 2)) (nI (i + 1)) (nI n) (nI h) ij wa f 2 (nI t) lim act sh lg pol tim b w)
    (hr : t < h → ∀ (pol tim : Nat → Int32), ox_tr n h tim → (∃ T, gm_sp n h (gd_t lim) (gq_ct act) (gq_ac act) (gq_i sh) (gq_i lg) T ∧ ∀ e, e < n → gm_pos (gq_ct act) T (12 * (t + 1)) e = gq_p tim e) → J683 (nI (k + 2)) (nI (i + 1)) (nI n) (nI h) ij wa f 1 (nI (t + 1)) lim act sh lg pol tim b w) :
    ∃ m, wL_law_724 post Ls xs J44 J683 (nI n) (nI h) (nI k) x5 (lN l0) (lN l1) (lN K) (nI i) (nI t) kc ks (nI n) (nI h) ij wa f 1 (nI t) lim act sh lg pol tim b w m 0 0 := by
  refine loop_0 (fun m e (s : Int32) => wL_law_724 post Ls xs J44 J683 (nI n) (nI h) (nI k) x5 (lN l0) (lN l1) (lN K) (nI i) (nI t) kc ks (nI n) (nI h) ij wa f 1 (nI t) lim act sh lg pol tim b w m s (nI e))
    (fun e s => ∃ N, s = nI N ∧ lb4_P N (fun j => if j < e then lz_v tim j else 0)) n 0 ⟨0, rfl, lb4_c 0 _ _ lb4_0 (fun j => (if_neg (by omega)).symm)⟩ ?_ ?_
  · intro m s hs
    obtain ⟨N, e, hP⟩ := hs
    subst e
    have hT0 := lz_v_T n h tim h6 h7 htr N hP
    have hw := (gh_at n h (gd_t lim) (gq_ct act) (gq_ac act) (gq_i sh) (gq_i lg) (gd_t b) (gd_t w) hN hS (12 * (h + 1) - 12 * t) (12 * t) (by omega) T hT (gq_p tim) hp).1
    have hac : ∀ c, c < n → gq_ct act c = true → gq_ac act c < n := fun c hc hcc => (hA c hc hcc).2
    have hval := gm_val_c n (gd_t lim) (gq_ct act) (gq_ac act) (gq_i sh) (gq_i lg) hac (12 * (h + 1) - 12 * t) (12 * t) _ _ hp (hT.2.2.2 _ _ (by omega))
    refine br_t (Int32.le_refl _) (lx_win n h (gd_t lim) (gq_ct act) (gq_ac act) (gq_i sh) (gq_i lg) B l0 l1 K N hN hBB y hK z hz hlr _ (gq_p tim) _ hT0 t (12 * (h + 1) - 12 * t) ht (by omega) hw (fun r hv => ?_))
    rcases hv with ⟨r1, _⟩ | ⟨_, r2⟩
    · have k1 : nI k + 1 = nI (k + 1) := nI_1 k
      refine br_f (by rw [r1]; decide) (lz_cell Ls xs _ k (by omega) hL (fun c1 => ?_))
      rw [k1]
      refine lz_cell Ls xs _ (k + 1) (by omega) hL (fun c2 => ?_)
      exact lz_828 n h t ij wa f lim act sh lg pol tim b w Ls xs h3 h6 h7 ht hN hA hX hS hB htr T (lz_gr n h t lim act sh lg hN T (gq_p tim) hT hp) post J44 J683 k i x5 _ _ _ c1 c2 kc ks hd hr
    · exact absurd hval r2
  · intro m e s he hs ih
    obtain ⟨N, es, hP⟩ := hs
    subst es
    have put : ∀ v : Nat, v < 16 → lz_v tim e = v → ∃ N', nI N ||| (nI v <<< ((4 * nI e) &&& 31)) = nI N' ∧ lb4_P N' (fun j => if j < e + 1 then lz_v tim j else 0) := by
      intro v hv hve
      refine ⟨N ||| (v <<< (4 * e)), by rw [lc_shl v e hv (by omega), lc_or], lb4_c _ _ _ (lb4_or N _ hP e v hv) (fun j => ?_)⟩
      show (if j = e then (if j < e then lz_v tim j else 0) ||| v else (if j < e then lz_v tim j else 0)) = (if j < e + 1 then lz_v tim j else 0)
      by_cases c : j = e
      · rw [if_pos c, if_neg (by omega), if_pos (by omega), c, hve, Nat.zero_or]
      · rw [if_neg c]
        by_cases c2 : j < e
        · rw [if_pos c2, if_pos (by omega)]
        · rw [if_neg c2, if_neg (by omega)]
    refine br_f (nI_ge he (by omega)) (om_time n h t ij wa f 1 lim act sh lg pol tim b w h6 _ e he (fun q => br_t rfl (br_t rfl ?_)) (fun q => ?_))
    · obtain ⟨N', e1, e2⟩ := put 15 (by omega) (by unfold lz_v; rw [if_pos q])
      exact nm_r e1 (nm_r (nI_1 e) (ih _ ⟨N', rfl, e2⟩))
    · rcases htr e he with q2 | ⟨τ, hτ, q2⟩
      · exact absurd q2 q
      · have n100 : ¬ nI τ = 100 := gq_nI100 τ (by omega)
        rw [q2]
        refine br_f n100 (br_f (nI_pos (by omega)) (br_t (nI_le (by omega) (by omega)) (br_f n100 ?_)))
        obtain ⟨N', e1, e2⟩ := put τ (by omega) (by unfold lz_v; rw [q2, if_neg (gq_nIm τ (by omega))]; exact nI_clamp (by omega))
        exact nm_r e1 (nm_r (nI_1 e) (ih _ ⟨N', rfl, e2⟩))

theorem lz_683 (h3 : 3 ≤ n) (h6 : n ≤ 6) (h7 : h ≤ 7) (B : Nat) (hBB : ls_B n B) (hLm : ol_lim n h lim) (hKk : ol_lk n h act sh lg)
    (hX : gc_fix n (gd_t lim) (gq_ct act) (gq_ac act) (gq_i sh) (gq_i lg) (gd_t b) (gd_t w)) (hS : gs_snd n h (gd_t lim) (gq_ct act) (gq_ac act) (gq_i sh) (gq_i lg) (gd_t b) (gd_t w)) (T0 : Nat → Int) (hT0 : gm_sp n h (gd_t lim) (gq_ct act) (gq_ac act) (gq_i sh) (gq_i lg) T0)
    (l0 l1 K : Nat) (z y : Nat → Nat) (hz : lw_L n (gd_t lim) l0 l1 z) (hK : lw_K n (gq_ct act) (gq_ac act) (gq_i sh) (gq_i lg) K y) (hL : Ls ≤ 260)
    (post : Int32 → Prop) (J44 : Int32 → Int32 → Int32 → Int32 → Int32 → Int32 → Int32 → Int32 → Int32 → (Nat → Int32) → (Nat → Int32) → (Nat → Int32) → (Nat → Int32) → (Nat → Int32) → (Nat → Int32) → (Nat → Int32) → (Nat → Int32) → Prop) (k : Nat) (hk : k < 9000) (x5 : Nat) (kc ks : Nat) (hij : ij = 1) (hwa : wa = 1)
    (htr : ox_tr n h tim) (hp : ∀ e, e < n → gm_pos (gq_ct act) T0 0 e = gq_p tim e)
    (g : ∀ (k' : Nat) (pol tim : Nat → Int32), k' ≤ k + 16 → (∀ e, e < n → tim e = -1) → J44 (nI k') (nI (x5 + 1)) (nI n) (nI h) ij wa f 0 (nI 0) lim act sh lg pol tim b w) :
    ∃ m, wL_law_683 post Ls xs J44 (nI n) (nI h) (nI x5) (lN l0) (lN l1) (lN K) kc ks m (nI k) 0 (nI n) (nI h) ij wa f 1 (nI 0) lim act sh lg pol tim b w := by
  have hN := ol_net n h h3 h6 h7 lim act sh lg hLm hKk
  have hA := gq_link n h act sh lg h6 hKk.2
  have hlr : ∀ u v, u < n → v < n → -7 ≤ gd_t lim u v ∧ gd_t lim u v ≤ 7 := fun u v hu hv => by
    have := hLm.1 u v hu hv
    exact ⟨by omega, by omega⟩
  have hB : ∀ u v, u < n → v < n → -7 ≤ gd_t b u v ∧ gd_t b u v ≤ 7 := by
    intro u v hu hv
    refine ⟨gd_b7 n h (gd_t lim) (gq_ct act) (gq_ac act) (gq_i sh) (gq_i lg) hN _ _ hS T0 hT0 u v hu hv, ?_⟩
    by_cases e : u = v
    · rw [e, hX.2.1 v hv]; omega
    · have z1 := hX.1 u v hu hv e
      have z2 := (hlr u v hu hv).2
      omega
  have jud : gv_jud n h (gd_t lim) (gq_ct act) (gq_ac act) (gq_i sh) (gq_i lg) wa b w := by rw [hwa]; exact Or.inl ⟨rfl, hX, hS⟩
  -- behind the rounds
  have fin : ∀ (k' t' : Nat) (pol tim : Nat → Int32), k' ≤ k + 16 → ox_tr n h tim → (∃ T, gm_sp n h (gd_t lim) (gq_ct act) (gq_ac act) (gq_i sh) (gq_i lg) T ∧ ∀ e, e < n → gq_p tim e = T e) →
      wL_law_903 post Ls xs J44 (nI n) (nI h) (nI k') (nI x5) kc ks (nI n) (nI h) ij wa f 2 (nI t') lim act sh lg pol tim b w := by
    intro k' t' pol tim hk' a1 ⟨T, a2, a3⟩
    exact br_t rfl (lz_917 n h t' ij wa f lim act sh lg pol tim b w Ls xs h6 h7 hN hLm hKk T (lz_done_of n h lim act sh lg tim h7 a1 T a2 a3) (Or.inr hwa) ⟨hij, jud⟩ post J44 (nI k') x5 kc ks
      (fun tim' ht' => g k' pol tim' hk' ht'))
  refine loop_0 (fun m i (s : Int32 × Nat × (Nat → Int32) × (Nat → Int32)) => wL_law_683 post Ls xs J44 (nI n) (nI h) (nI x5) (lN l0) (lN l1) (lN K) kc ks m (nI (k + 2 * i)) (nI i) (nI n) (nI h) ij wa f s.1 (nI s.2.1) lim act sh lg s.2.2.1 s.2.2.2 b w)
    (fun i s => ox_tr n h s.2.2.2 ∧ ((s.1 = 1 ∧ s.2.1 = i ∧ i ≤ h ∧ ∃ T, gm_sp n h (gd_t lim) (gq_ct act) (gq_ac act) (gq_i sh) (gq_i lg) T ∧ ∀ e, e < n → gm_pos (gq_ct act) T (12 * i) e = gq_p s.2.2.2 e) ∨
      (s.1 = 2 ∧ ∃ T, gm_sp n h (gd_t lim) (gq_ct act) (gq_ac act) (gq_i sh) (gq_i lg) T ∧ ∀ e, e < n → gq_p s.2.2.2 e = T e))) (h + 1) (1, 0, pol, tim) ⟨htr, Or.inl ⟨rfl, rfl, by omega, T0, hT0, hp⟩⟩ ?_ ?_
  · intro m s hs
    obtain ⟨ph, t', pol, tim⟩ := s
    obtain ⟨s1, s2⟩ := hs
    rcases s2 with ⟨_, _, q, _⟩ | ⟨q, s3⟩
    · exact absurd q (by omega)
    · have q' : ph = 2 := q
      subst q'
      exact br_t (nI_lt (by omega) (by omega)) (fin (k + 2 * (h + 1)) t' pol tim (by omega) s1 s3)
  · intro m i s hi hs ih
    obtain ⟨ph, t', pol, tim⟩ := s
    obtain ⟨s1, s2⟩ := hs
    refine br_f (nI_nlt (by omega) (by omega)) ?_
    rcases s2 with ⟨q1, q2, q3, T, s3, s4⟩ | ⟨q, s3⟩
    · have q1' : ph = 1 := q1
      have q2' : t' = i := q2
      subst q1'
      subst q2'
      have n12 : ¬ (1 : Int32) = 2 := by decide
      refine br_f n12 (br_f (nI_pos (by omega)) (br_t (nI_le q3 (by omega)) ?_))
      have e2 : k + 2 * t' + 2 = k + 2 * (t' + 1) := by omega
      refine lz_724 n h t' ij wa f lim act sh lg pol tim b w Ls xs h3 h6 h7 q3 B hBB hN hA hX hS hB hlr s1 T s3 s4 l0 l1 K z y hz hK hL post J44 _ (k + 2 * t') t' (by omega) (nI x5) kc ks ?_ ?_
      · intro pol' tim' a1 a2
        rw [e2]
        exact ih (2, t', pol', tim') ⟨a1, Or.inr ⟨rfl, a2⟩⟩
      · intro hlt pol' tim' a1 a2
        rw [e2]
        exact ih (1, t' + 1, pol', tim') ⟨a1, Or.inl ⟨rfl, rfl, by omega, a2⟩⟩
    · have q' : ph = 2 := q
      subst q'
      exact br_t rfl (fin (k + 2 * i) t' pol tim (by omega) s1 s3)
end lz
