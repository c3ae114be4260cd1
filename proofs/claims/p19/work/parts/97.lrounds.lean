-- the law: a run's rounds and its end
section lz
variable (n h t : Nat) (ij wa f : Int32) (lim act sh lg pol tim b w : Nat → Int32) (Ls : Nat) (xs : Nat → Int32)

theorem lz_cell (post : Int32 → Prop) (k : Nat) (hk : k < 100000) (hL : Ls ≤ 260) (g : ∀ r, post r) : wpL_cell post Ls xs () (nI k) := by
  refine br_c (fun _ => g _) (fun q => ⟨?_, g _⟩)
  refine vp_in_nI ?_ (by omega)
  by_cases z : k < Ls
  · exact z
  · exact absurd (nI_le (a := Ls) (by omega) (by omega)) q

theorem lz_pick (post : Int32 → Prop) (k m : Nat) (hk : k < 100000) (hL : Ls ≤ 260) (hm : 0 < m) (hm2 : m < 1000) (g : ∀ j, j < m → post (nI j)) : wpL_pick post Ls xs () (nI k) (nI m) := by
  unfold wpL_pick
  refine lz_cell Ls xs _ k hk hL (fun r => ⟨nI_ne0 hm (by omega), ?_⟩)
  obtain ⟨j, hj, e⟩ := pk_andE r (m := 2147483647) 31 (by decide)
  rw [e, pk_rem hj hm (by omega)]
  exact g _ (Nat.mod_lt _ hm)

/-- all is done: every event has its time in a safe play -/
def lz_done (tim : Nat → Int32) (T : Nat → Int) : Prop :=
  gm_sp n h (gd_t lim) (gq_ct act) (gq_ac act) (gq_i sh) (gq_i lg) T ∧ ∀ e, e < n → tim e = nI (T e).toNat

theorem lz_done_of (h7 : h ≤ 7) (htr : ox_tr n h tim) (T : Nat → Int) (hT : gm_sp n h (gd_t lim) (gq_ct act) (gq_ac act) (gq_i sh) (gq_i lg) T) (hp : ∀ e, e < n → gq_p tim e = T e) : lz_done n h lim act sh lg tim T := by
  refine ⟨hT, fun e he => ?_⟩
  have y := hp e he
  have tt := hT.2.1 e he
  rcases htr e he with q | ⟨τ, hτ, q⟩
  · rw [gq_p_n tim e q] at y; omega
  · rw [gq_p_t tim e τ (by omega) q] at y
    rw [q, ← y]
    rfl

theorem lz_948 (h6 : n ≤ 6) (h7 : h ≤ 7) (hN : gm_net n h (gd_t lim) (gq_ct act) (gq_ac act) (gq_i sh) (gq_i lg)) (hA : ∀ k, k < n → gq_ct act k = true → act k = nI (gq_ac act k) ∧ gq_ac act k < n)
    (T : Nat → Int) (hD : lz_done n h lim act sh lg tim T) (post : Int32 → Prop) (J44 : Int32 → Int32 → Int32 → Int32 → Int32 → Int32 → Int32 → Int32 → Int32 → (Nat → Int32) → (Nat → Int32) → (Nat → Int32) → (Nat → Int32) → (Nat → Int32) → (Nat → Int32) → (Nat → Int32) → (Nat → Int32) → Prop) (J917 : Int32 → Prop) (x3 x5 : Int32) (kc ks e : Nat) (he : e < n) (g : J917 (nI (e + 1))) :
    ∃ m, wL_law_948 post Ls xs J44 J917 (nI n) (nI h) x3 x5 (nI e) (tim e) kc ks (nI n) (nI h) ij wa f 2 (nI t) lim act sh lg pol tim b w m 0 := by
  obtain ⟨hT, hti⟩ := hD
  have hb := hT.2.1
  have nz : ∀ x, x < n → ¬ tim x = -1 := fun x hx => by rw [hti x hx]; exact gq_nIm _ (by have := hb x hx; omega)
  have sub : ∀ x y, x < n → y < n → (tim x - tim y).toInt = T x - T y := by
    intro x y hx hy
    have b1 := hb x hx
    have b2 := hb y hy
    rw [hti x hx, hti y hy, pk_sub_toInt (by omega) (by omega)]
    omega
  have tmo : ∀ (P : Int32 → Prop) (x : Nat), x < n → P (tim x) → wpX_timeOf P (nI n, nI h, ij, wa, f, 2, nI t, lim, act, sh, lg, pol, tim, b, w) (nI x) := fun P x hx gp =>
    om_time n h t ij wa f 2 lim act sh lg pol tim b w h6 P x hx (fun z => absurd z (nz x hx)) (fun _ => gp)
  refine loop_0 (fun m i (_ : Unit) => wL_law_948 post Ls xs J44 J917 (nI n) (nI h) x3 x5 (nI e) (tim e) kc ks (nI n) (nI h) ij wa f 2 (nI t) lim act sh lg pol tim b w m (nI i)) (fun _ _ => True) n () trivial ?_ ?_
  · intro m _ _
    refine br_t (Int32.le_refl _) (br_c (fun _ => nm_r (nI_1 e) g) (fun q => ?_))
    have e1 : 1 ≤ e := by
      by_cases z : e = 0
      · exact absurd (by rw [z]; rfl) q
      · omega
    refine om_link n h t ij wa f 2 lim act sh lg pol tim b w h6 _ e 0 e1 he (by omega) (fun _ => br_t rfl (nm_r (nI_1 e) g)) (fun hc => ?_)
    obtain ⟨a1, a2⟩ := hA e he hc
    have bb := hN.2.2.2.2.2.2 e he hc
    have tt := hT.2.2.1 e he hc
    have n100 : ¬ act e = 100 := by rw [a1]; exact gq_nI100 _ (by omega)
    refine br_f n100 (om_link n h t ij wa f 2 lim act sh lg pol tim b w h6 _ e 0 e1 he (by omega) (fun z => by rw [hc] at z; simp at z) (fun _ => ?_))
    rw [if_pos rfl, a1]
    refine tmo _ _ a2 (nm_e ?_)
    have dd := sub e _ he a2
    refine om_link n h t ij wa f 2 lim act sh lg pol tim b w h6 _ e 1 e1 he (by omega) (fun z => by rw [hc] at z; simp at z) (fun _ => br_f (fun z => ?_) ?_)
    · have y := (gn_lt _ _).1 z
      rw [dd] at y
      have y2 : (if (1 : Nat) = 0 then act e else if (1 : Nat) = 1 then sh e else lg e).toInt = gq_i sh e := rfl
      rw [y2] at y
      omega
    · refine om_link n h t ij wa f 2 lim act sh lg pol tim b w h6 _ e 2 e1 he (by omega) (fun z => by rw [hc] at z; simp at z) (fun _ => br_t ?_ (nm_r (nI_1 e) g))
      rw [gn_le, dd]
      show _ ≤ gq_i lg e
      omega
  · intro m u _ hu _ ih
    refine br_f (nI_ge hu (by omega)) (br_c (fun _ => nm_r (nI_1 u) (ih () trivial)) (fun q => ?_))
    have hue : u ≠ e := fun z => q (by rw [z])
    refine tmo _ u hu (om_lim n h t ij wa f 2 lim act sh lg pol tim b w h6 _ u e hu he hue (br_t ?_ (nm_r (nI_1 u) (ih () trivial))))
    rw [gn_le, sub e u he hu]
    exact gv_lim n h (gd_t lim) (gq_ct act) (gq_ac act) (gq_i sh) (gq_i lg) hN T hT u e hu he hue

theorem lz_917 (h6 : n ≤ 6) (h7 : h ≤ 7) (hN : gm_net n h (gd_t lim) (gq_ct act) (gq_ac act) (gq_i sh) (gq_i lg)) (hL : ol_lim n h lim) (hK : ol_lk n h act sh lg)
    (T : Nat → Int) (hD : lz_done n h lim act sh lg tim T) (hw : wa = 0 ∨ wa = 1) (hJ : ij = 1 ∧ gv_jud n h (gd_t lim) (gq_ct act) (gq_ac act) (gq_i sh) (gq_i lg) wa b w)
    (post : Int32 → Prop) (J44 : Int32 → Int32 → Int32 → Int32 → Int32 → Int32 → Int32 → Int32 → Int32 → (Nat → Int32) → (Nat → Int32) → (Nat → Int32) → (Nat → Int32) → (Nat → Int32) → (Nat → Int32) → (Nat → Int32) → (Nat → Int32) → Prop) (x3 : Int32) (x5 : Nat) (kc ks : Nat)
    (g : ∀ (tim : Nat → Int32), (∀ e, e < n → tim e = -1) → J44 x3 (nI (x5 + 1)) (nI n) (nI h) ij wa f 0 (nI 0) lim act sh lg pol tim b w) :
    ∃ m, wL_law_917 post Ls xs J44 (nI n) (nI h) x3 (nI x5) kc ks (nI n) (nI h) ij wa f 2 (nI t) lim act sh lg pol tim b w m 0 := by
  have hA := gq_link n h act sh lg h6 hK.2
  refine loop_0 (fun m i (_ : Unit) => wL_law_917 post Ls xs J44 (nI n) (nI h) x3 (nI x5) kc ks (nI n) (nI h) ij wa f 2 (nI t) lim act sh lg pol tim b w m (nI i)) (fun _ _ => True) n () trivial ?_ ?_
  · intro m _ _
    refine br_t (Int32.le_refl _) ?_
    unfold wpX_restart
    dsimp only
    exact br_f (by decide) (zh_enter n h t ij wa f 2 lim act sh lg pol tim b w h6 _ (fun tim' ht' => nm_r (nI_1 x5) (g tim' ht')))
  · intro m e _ he _ ih
    have hb := hD.1.2.1 e he
    have hte := hD.2 e he
    refine br_f (nI_ge he (by omega)) (om_time n h t ij wa f 2 lim act sh lg pol tim b w h6 _ e he (fun z => ?_) (fun _ => br_f (fun z => ?_) (br_t ?_ ?_)))
    · rw [hte] at z
      exact absurd z (gq_nIm _ (by omega))
    · rw [hte] at z
      exact nI_pos (by omega) z
    · rw [hte]
      exact nI_le (by omega) (by omega)
    · exact lz_948 n h t ij wa f lim act sh lg pol tim b w Ls xs h6 h7 hN hA T hD post J44 _ x3 (nI x5) kc ks e he (ih () trivial)

/-- the looks and calls within a round -/
theorem lz_828 (h3 : 3 ≤ n) (h6 : n ≤ 6) (h7 : h ≤ 7) (ht : t ≤ h) (hN : gm_net n h (gd_t lim) (gq_ct act) (gq_ac act) (gq_i sh) (gq_i lg)) (hA : ∀ k, k < n → gq_ct act k = true → act k = nI (gq_ac act k) ∧ gq_ac act k < n)
    (hX : gc_fix n (gd_t lim) (gq_ct act) (gq_ac act) (gq_i sh) (gq_i lg) (gd_t b) (gd_t w)) (hS : gs_snd n h (gd_t lim) (gq_ct act) (gq_ac act) (gq_i sh) (gq_i lg) (gd_t b) (gd_t w))
    (hB : ∀ u v, u < n → v < n → -7 ≤ gd_t b u v ∧ gd_t b u v ≤ 7) (htr : ox_tr n h tim) (T : Nat → Int) (hg : gr_at n h (gd_t lim) (gq_ct act) (gq_ac act) (gq_i sh) (gq_i lg) t T (gq_p tim))
    (post : Int32 → Prop) (J44 J683 : Int32 → Int32 → Int32 → Int32 → Int32 → Int32 → Int32 → Int32 → Int32 → (Nat → Int32) → (Nat → Int32) → (Nat → Int32) → (Nat → Int32) → (Nat → Int32) → (Nat → Int32) → (Nat → Int32) → (Nat → Int32) → Prop) (k i : Nat) (x5 : Int32) (l0 l1 lk : Int64) (c1 c2 : Int32) (kc ks : Nat)
    (hd : ∀ (pol tim : Nat → Int32), ox_tr n h tim → (∃ T, gm_sp n h (gd_t lim) (gq_ct act) (gq_ac act) (gq_i sh) (gq_i lg) T ∧ ∀ e, e < n → gq_p tim e = T e) → J683 (nI (k + 2)) (nI (i + 1)) (nI n) (nI h) ij wa f 2 (nI t) lim act sh lg pol tim b w)
    (hr : t < h → ∀ (pol tim : Nat → Int32), ox_tr n h tim → (∃ T, gm_sp n h (gd_t lim) (gq_ct act) (gq_ac act) (gq_i sh) (gq_i lg) T ∧ ∀ e, e < n → gm_pos (gq_ct act) T (12 * (t + 1)) e = gq_p tim e) → J683 (nI (k + 2)) (nI (i + 1)) (nI n) (nI h) ij wa f 1 (nI (t + 1)) lim act sh lg pol tim b w) :
    ∃ m, wL_law_828 post Ls xs J44 J683 (nI n) (nI h) (nI k) x5 l0 l1 lk (nI i) c1 c2 kc ks m 1 (nI n) (nI h) ij wa f 1 (nI t) lim act sh lg pol tim b w := by
  have k2 : nI k + 2 = nI (k + 2) := nI_add k 2
  refine pk_loop (fun m e (s : (Nat → Int32) × (Nat → Int32)) => wL_law_828 post Ls xs J44 J683 (nI n) (nI h) (nI k) x5 l0 l1 lk (nI i) c1 c2 kc ks m (nI e) (nI n) (nI h) ij wa f 1 (nI t) lim act sh lg s.1 s.2 b w)
    (fun _ s => ox_tr n h s.2 ∧ gr_at n h (gd_t lim) (gq_ct act) (gq_ac act) (gq_i sh) (gq_i lg) t T (gq_p s.2)) n 1 (pol, tim) (by omega) ⟨htr, hg⟩ ?_ ?_
  · intro m s hs
    obtain ⟨pol, tim⟩ := s
    refine br_t (Int32.le_refl _) (br_f (by decide) ?_)
    exact ox_step n h t ij wa f lim act sh lg pol b w h6 (by omega) h7 ht hN hA hX hS hB tim hs.1 T hs.2 _
      (fun r tim' a1 a2 => nm_r (nI_1 i) (nm_r k2 (hd pol tim' a1 a2))) (fun hlt r tim' a1 a2 => nm_r (nI_1 i) (nm_r k2 (hr hlt pol tim' a1 a2)))
  · intro m e s he hs ih
    obtain ⟨pol, tim⟩ := s
    sorry
end lz
