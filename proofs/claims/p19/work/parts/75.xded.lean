-- the deduction: its walks
section xd
variable (n h : Nat) (ij wa ph rd : Int32) (lim act sh lg pol tim : Nat → Int32)

theorem xd_in (u v : Nat) (hu : u < 6) (hv : v < 6) : vp_in (nI u * 6 + nI v) 36 := by
  rw [gq_ix]; exact vp_in_nI (by omega) (by omega)
theorem xd_cl (u v : Nat) (hu : u < 6) (hv : v < 6) : (nI u * 6 + nI v).toNatClampNeg = u * 6 + v := by
  rw [gq_ix]; exact nI_clamp (by omega)
theorem xd_c1 (u : Nat) (hu : u < 6) : (nI u).toNatClampNeg = u := nI_clamp (by omega)
theorem xd_i1 (u : Nat) (hu : u < 6) : vp_in (nI u) 6 := vp_in_nI hu (by omega)

theorem xd_tb (post : St2 → Prop) (f : Int32) (b w : Nat → Int32) (u v : Nat) (most : Int32) (hu : u < 6) (hv : v < 6)
    (h1 : b (u * 6 + v) ≤ most → post (nI n, nI h, ij, wa, f, ph, rd, lim, act, sh, lg, pol, tim, b, w))
    (h2 : ¬ b (u * 6 + v) ≤ most → post (nI n, nI h, ij, wa, 1, ph, rd, lim, act, sh, lg, pol, tim, upd b (u * 6 + v) most, w)) :
    wpX_tightenBound post (nI n, nI h, ij, wa, f, ph, rd, lim, act, sh, lg, pol, tim, b, w) (nI u) (nI v) most := by
  have hi := xd_in u v hu hv
  have hc := xd_cl u v hu hv
  unfold wpX_tightenBound
  dsimp only
  rw [hc]
  exact ⟨hi, h1, fun hn => ⟨hi, fun a ea => by rw [ea]; exact h2 hn⟩⟩

theorem xd_lw (post : St2 → Prop) (f : Int32) (b w : Nat → Int32) (c u : Nat) (least : Int32) (hc6 : c < 6) (hu : u < 6)
    (h1 : least ≤ w (c * 6 + u) → post (nI n, nI h, ij, wa, f, ph, rd, lim, act, sh, lg, pol, tim, b, w))
    (h2 : ¬ least ≤ w (c * 6 + u) → post (nI n, nI h, ij, wa, 1, ph, rd, lim, act, sh, lg, pol, tim, b, upd w (c * 6 + u) least)) :
    wpX_lengthenWait post (nI n, nI h, ij, wa, f, ph, rd, lim, act, sh, lg, pol, tim, b, w) (nI c) (nI u) least := by
  have hi := xd_in c u hc6 hu
  have hc := xd_cl c u hc6 hu
  unfold wpX_lengthenWait
  dsimp only
  rw [hc]
  exact ⟨hi, h1, fun hn => ⟨hi, fun a ea => by rw [ea]; exact h2 hn⟩⟩

theorem xd_ct (post : Int32 → Prop) (f : Int32) (b w : Nat → Int32) (e : Nat) (he : e < 6)
    (h0 : gq_ct act e = false → post 0) (h1 : gq_ct act e = true → post 1) :
    wpX_isContingent post (nI n, nI h, ij, wa, f, ph, rd, lim, act, sh, lg, pol, tim, b, w) (nI e) := by
  have hi := xd_i1 e he
  have hc := xd_c1 e he
  unfold wpX_isContingent
  dsimp only
  rw [hc]
  exact ⟨hi, fun z => h0 (gq_ct_n act e z), fun z => h1 (gq_ct_i act e z)⟩

theorem xd_cb22 (hn : n ≤ 6) (hN : gm_net n h (gd_t lim) (gq_ct act) (gq_ac act) (gq_i sh) (gq_i lg)) (post : St2 → Prop) (J2 J12 : Int32 → Int32 → Int32 → Int32 → Int32 → Int32 → Int32 → Int32 → (Nat → Int32) → (Nat → Int32) → (Nat → Int32) → (Nat → Int32) → (Nat → Int32) → (Nat → Int32) → (Nat → Int32) → (Nat → Int32) → Prop)
    (K : Int) (b0 w0 : Nat → Int32) (Q : Prop) (j : Nat) (bJ w : Nat → Int32) (u : Nat) (hj : j < n) (hu : u < n)
    (hx : ∀ f b, gz_cb n h (gd_t lim) (gq_ct act) (gq_ac act) (gq_i sh) (gq_i lg) K b0 w0 Q j bJ u n f b w → J12 (nI (u + 1)) (nI n) (nI h) ij wa f ph rd lim act sh lg pol tim b w)
    (f : Int32) (b : Nat → Int32) (hI : gz_cb n h (gd_t lim) (gq_ct act) (gq_ac act) (gq_i sh) (gq_i lg) K b0 w0 Q j bJ u 0 f b w) :
    ∃ m, wX_chainBounds_22 post J2 J12 (nI j) (nI u) m 0 (nI n) (nI h) ij wa f ph rd lim act sh lg pol tim b w := by
  refine loop_0 (fun m i (s : Int32 × (Nat → Int32)) => wX_chainBounds_22 post J2 J12 (nI j) (nI u) m (nI i) (nI n) (nI h) ij wa s.1 ph rd lim act sh lg pol tim s.2 w)
    (fun i s => gz_cb n h (gd_t lim) (gq_ct act) (gq_ac act) (gq_i sh) (gq_i lg) K b0 w0 Q j bJ u i s.1 s.2 w) n (f, b) hI ?_ ?_
  · intro m s hs
    exact br_t (Int32.le_refl _) (nm_r (nI_1 u) (hx _ _ hs))
  · intro m i s hi hs ih
    obtain ⟨f, b⟩ := s
    refine br_f (nI_ge hi (by omega)) ⟨xd_in u j (by omega) (by omega), xd_in j i (by omega) (by omega), ?_⟩
    rw [xd_cl u j (by omega) (by omega), xd_cl j i (by omega) (by omega)]
    have st := gz_cb_s n h (gd_t lim) (gq_ct act) (gq_ac act) (gq_i sh) (gq_i lg) hN K b0 w0 Q j bJ u i f b w hj hu hi hs
    exact xd_tb n h ij wa ph rd lim act sh lg pol tim _ f b w u i _ (by omega) (by omega)
      (fun hle => nm_r (nI_1 i) (ih (f, b) (st.1 hle))) (fun hle => nm_r (nI_1 i) (ih (1, _) (st.2 hle)))

theorem xd_cb12 (hn : n ≤ 6) (hN : gm_net n h (gd_t lim) (gq_ct act) (gq_ac act) (gq_i sh) (gq_i lg)) (post : St2 → Prop) (J2 : Int32 → Int32 → Int32 → Int32 → Int32 → Int32 → Int32 → Int32 → (Nat → Int32) → (Nat → Int32) → (Nat → Int32) → (Nat → Int32) → (Nat → Int32) → (Nat → Int32) → (Nat → Int32) → (Nat → Int32) → Prop)
    (K : Int) (b0 w0 : Nat → Int32) (Q : Prop) (j : Nat) (bJ w : Nat → Int32) (hj : j < n)
    (hx : ∀ f b, gz_cb n h (gd_t lim) (gq_ct act) (gq_ac act) (gq_i sh) (gq_i lg) K b0 w0 Q j bJ n 0 f b w → J2 (nI (j + 1)) (nI n) (nI h) ij wa f ph rd lim act sh lg pol tim b w)
    (f : Int32) (b : Nat → Int32) (hI : gz_cb n h (gd_t lim) (gq_ct act) (gq_ac act) (gq_i sh) (gq_i lg) K b0 w0 Q j bJ 0 0 f b w) :
    ∃ m, wX_chainBounds_12 post J2 (nI j) m 0 (nI n) (nI h) ij wa f ph rd lim act sh lg pol tim b w := by
  refine loop_0 (fun m i (s : Int32 × (Nat → Int32)) => wX_chainBounds_12 post J2 (nI j) m (nI i) (nI n) (nI h) ij wa s.1 ph rd lim act sh lg pol tim s.2 w)
    (fun i s => gz_cb n h (gd_t lim) (gq_ct act) (gq_ac act) (gq_i sh) (gq_i lg) K b0 w0 Q j bJ i 0 s.1 s.2 w) n (f, b) hI ?_ ?_
  · intro m s hs
    exact br_t (Int32.le_refl _) (nm_r (nI_1 j) (hx _ _ hs))
  · intro m i s hi hs ih
    obtain ⟨f, b⟩ := s
    exact br_f (nI_ge hi (by omega)) (xd_cb22 n h ij wa ph rd lim act sh lg pol tim hn hN post J2 _ K b0 w0 Q j bJ w i hj hi
      (fun f' b' z => ih (f', b') (gy_cbr n h (gd_t lim) (gq_ct act) (gq_ac act) (gq_i sh) (gq_i lg) K b0 w0 Q j bJ i f' b' w z)) f b hs)

theorem xd_cb (hn : n ≤ 6) (hN : gm_net n h (gd_t lim) (gq_ct act) (gq_ac act) (gq_i sh) (gq_i lg)) (post : St2 → Prop) (K : Int) (b0 w0 w : Nat → Int32)
    (hx : ∀ f b, gy_in n h (gd_t lim) (gq_ct act) (gq_ac act) (gq_i sh) (gq_i lg) K b0 w0 (∀ j, j < n → gy_d1 n b0 j) f b w → post (nI n, nI h, ij, wa, f, ph, rd, lim, act, sh, lg, pol, tim, b, w))
    (f : Int32) (b : Nat → Int32) (hI : gy_in n h (gd_t lim) (gq_ct act) (gq_ac act) (gq_i sh) (gq_i lg) K b0 w0 True f b w) :
    wpX_chainBounds post (nI n, nI h, ij, wa, f, ph, rd, lim, act, sh, lg, pol, tim, b, w) := by
  refine loop_0 (fun m i (s : Int32 × (Nat → Int32)) => wX_chainBounds_2 post m (nI i) (nI n) (nI h) ij wa s.1 ph rd lim act sh lg pol tim s.2 w)
    (fun i s => gy_in n h (gd_t lim) (gq_ct act) (gq_ac act) (gq_i sh) (gq_i lg) K b0 w0 (∀ j, j < i → gy_d1 n b0 j) s.1 s.2 w) n (f, b) ?_ ?_ ?_
  · exact gy_up n h (gd_t lim) (gq_ct act) (gq_ac act) (gq_i sh) (gq_i lg) K K (Int.le_refl _) b0 w0 _ _ (fun _ j hj => absurd hj (by omega)) f b w hI
  · intro m s hs
    exact br_t (Int32.le_refl _) (hx _ _ hs)
  · intro m i s hi hs ih
    obtain ⟨f, b⟩ := s
    refine br_f (nI_ge hi (by omega)) (xd_cb12 n h ij wa ph rd lim act sh lg pol tim hn hN post _ K b0 w0 _ i b w hi
      (fun f' b' z => ih (f', b') ?_) f b (gy_cb0 n h (gd_t lim) (gq_ct act) (gq_ac act) (gq_i sh) (gq_i lg) K b0 w0 _ i f b w hs))
    refine gy_up n h (gd_t lim) (gq_ct act) (gq_ac act) (gq_i sh) (gq_i lg) K K (Int.le_refl _) b0 w0 _ _ (fun q j hj => ?_) f' b' w (gy_cbe n h (gd_t lim) (gq_ct act) (gq_ac act) (gq_i sh) (gq_i lg) hN K b0 w0 _ i hi b f' b' w z)
    by_cases e : j = i
    · rw [e]; exact q.2
    · exact q.1 j (by omega)

theorem xd_cw12 (hn : n ≤ 6) (hN : gm_net n h (gd_t lim) (gq_ct act) (gq_ac act) (gq_i sh) (gq_i lg)) (post : St2 → Prop) (J2 : Int32 → Int32 → Int32 → Int32 → Int32 → Int32 → Int32 → Int32 → (Nat → Int32) → (Nat → Int32) → (Nat → Int32) → (Nat → Int32) → (Nat → Int32) → (Nat → Int32) → (Nat → Int32) → (Nat → Int32) → Prop)
    (K : Int) (hK0 : 0 ≤ K) (hK : K ≤ 10000000) (b0 w0 : Nat → Int32) (Q : Prop) (c : Nat) (b : Nat → Int32) (u : Nat) (hc : c < n) (hcc : gq_ct act c = true) (hu : u < n)
    (hx : ∀ f w, gz_cw n h (gd_t lim) (gq_ct act) (gq_ac act) (gq_i sh) (gq_i lg) K b0 w0 Q c u n f b w → J2 (nI (u + 1)) (nI n) (nI h) ij wa f ph rd lim act sh lg pol tim b w)
    (f : Int32) (w : Nat → Int32) (hI : gz_cw n h (gd_t lim) (gq_ct act) (gq_ac act) (gq_i sh) (gq_i lg) K b0 w0 Q c u 0 f b w) :
    ∃ m, wX_chainWaits_12 post J2 (nI c) (nI u) m 0 (nI n) (nI h) ij wa f ph rd lim act sh lg pol tim b w := by
  refine loop_0 (fun m i (s : Int32 × (Nat → Int32)) => wX_chainWaits_12 post J2 (nI c) (nI u) m (nI i) (nI n) (nI h) ij wa s.1 ph rd lim act sh lg pol tim b s.2)
    (fun i s => gz_cw n h (gd_t lim) (gq_ct act) (gq_ac act) (gq_i sh) (gq_i lg) K b0 w0 Q c u i s.1 b s.2) n (f, w) hI ?_ ?_
  · intro m s hs
    exact br_t (Int32.le_refl _) (nm_r (nI_1 u) (hx _ _ hs))
  · intro m i s hi hs ih
    obtain ⟨f, w⟩ := s
    refine br_f (nI_ge hi (by omega)) ⟨xd_in c i (by omega) (by omega), xd_in u i (by omega) (by omega), ?_⟩
    rw [xd_cl c i (by omega) (by omega), xd_cl u i (by omega) (by omega)]
    have st := gz_cw_s n h (gd_t lim) (gq_ct act) (gq_ac act) (gq_i sh) (gq_i lg) hN K hK0 hK b0 w0 Q c u i f b w hc hcc hu hi hs
    exact xd_lw n h ij wa ph rd lim act sh lg pol tim _ f b w c u _ (by omega) (by omega)
      (fun hle => nm_r (nI_1 i) (ih (f, w) (st.1 hle))) (fun hle => nm_r (nI_1 i) (ih (1, _) (st.2 hle)))

theorem xd_cw (hn : n ≤ 6) (hN : gm_net n h (gd_t lim) (gq_ct act) (gq_ac act) (gq_i sh) (gq_i lg)) (post : St2 → Prop)
    (K : Int) (hK0 : 0 ≤ K) (hK : K ≤ 10000000) (b0 w0 : Nat → Int32) (Q : Prop) (c : Nat) (b : Nat → Int32) (hc : c < n) (hcc : gq_ct act c = true)
    (hx : ∀ f w, gy_in n h (gd_t lim) (gq_ct act) (gq_ac act) (gq_i sh) (gq_i lg) (K + 14 * (n : Int)) b0 w0 (Q ∧ gy_d2 n b0 w0 c n) f b w → post (nI n, nI h, ij, wa, f, ph, rd, lim, act, sh, lg, pol, tim, b, w))
    (f : Int32) (w : Nat → Int32) (hI : gy_in n h (gd_t lim) (gq_ct act) (gq_ac act) (gq_i sh) (gq_i lg) K b0 w0 Q f b w) :
    wpX_chainWaits post (nI n, nI h, ij, wa, f, ph, rd, lim, act, sh, lg, pol, tim, b, w) (nI c) := by
  refine loop_0 (fun m i (s : Int32 × (Nat → Int32)) => wX_chainWaits_2 post (nI c) m (nI i) (nI n) (nI h) ij wa s.1 ph rd lim act sh lg pol tim b s.2)
    (fun i s => gy_in n h (gd_t lim) (gq_ct act) (gq_ac act) (gq_i sh) (gq_i lg) (K + 14 * (i : Int)) b0 w0 (Q ∧ gy_d2 n b0 w0 c i) s.1 b s.2) n (f, w) ?_ ?_ ?_
  · exact gy_up n h (gd_t lim) (gq_ct act) (gq_ac act) (gq_i sh) (gq_i lg) K _ (by omega) b0 w0 _ _ (fun q => ⟨q, fun x hx => absurd hx (by omega)⟩) f b w hI
  · intro m s hs
    exact br_t (Int32.le_refl _) (hx _ _ hs)
  · intro m i s hi hs ih
    obtain ⟨f, w⟩ := s
    exact br_f (nI_ge hi (by omega)) (xd_cw12 n h ij wa ph rd lim act sh lg pol tim hn hN post _ K hK0 hK b0 w0 Q c b i hc hcc hi
      (fun f' w' z => ih (f', w') (gy_cwr n h (gd_t lim) (gq_ct act) (gq_ac act) (gq_i sh) (gq_i lg) K b0 w0 Q c i f' b w' z)) f w (gy_cw0 n h (gd_t lim) (gq_ct act) (gq_ac act) (gq_i sh) (gq_i lg) K b0 w0 Q c i hc hcc f b w hs))

theorem xd_wa (hn : n ≤ 6) (hN : gm_net n h (gd_t lim) (gq_ct act) (gq_ac act) (gq_i sh) (gq_i lg)) (post : St2 → Prop)
    (hA : ∀ k, k < n → gq_ct act k = true → act k = nI (gq_ac act k) ∧ gq_ac act k < n)
    (K : Int) (hK : K ≤ 10000000) (b0 w0 : Nat → Int32) (Q : Prop) (c : Nat) (b : Nat → Int32) (hc : c < n) (hcc : gq_ct act c = true) (hn1 : 1 ≤ n)
    (hx : ∀ f w, gz_wa n h (gd_t lim) (gq_ct act) (gq_ac act) (gq_i sh) (gq_i lg) K b0 w0 Q c n f b w → post (nI n, nI h, ij, wa, f, ph, rd, lim, act, sh, lg, pol, tim, b, w))
    (f : Int32) (w : Nat → Int32) (hI : gz_wa n h (gd_t lim) (gq_ct act) (gq_ac act) (gq_i sh) (gq_i lg) K b0 w0 Q c 1 f b w) :
    wpX_waitBeforeActivations post (nI n, nI h, ij, wa, f, ph, rd, lim, act, sh, lg, pol, tim, b, w) (nI c) := by
  refine pk_loop (fun m i (s : Int32 × (Nat → Int32)) => wX_waitBeforeActivations_2 post (nI c) m (nI i) (nI n) (nI h) ij wa s.1 ph rd lim act sh lg pol tim b s.2)
    (fun i s => gz_wa n h (gd_t lim) (gq_ct act) (gq_ac act) (gq_i sh) (gq_i lg) K b0 w0 Q c i s.1 b s.2) n 1 (f, w) hn1 hI ?_ ?_
  · intro m s hs
    exact br_t (Int32.le_refl _) (hx _ _ hs)
  · intro m i s hi hs ih
    obtain ⟨f, w⟩ := s
    have hi6 : i < 6 := by omega
    refine br_f (nI_ge hi (by omega)) (br_c (fun e => ?_) (fun e => ?_))
    · have e' : i = c := (nI_eq (by omega) (by omega)).1 e
      exact nm_r (nI_1 i) (ih (f, w) (gz_wa_n n h (gd_t lim) (gq_ct act) (gq_ac act) (gq_i sh) (gq_i lg) K b0 w0 Q c i f b w (Or.inl e') hs))
    · have e' : i ≠ c := fun z => e (by rw [z])
      refine xd_ct n h ij wa ph rd lim act sh lg pol tim _ f b w i hi6 (fun z => ?_) (fun z => ?_)
      · exact br_t rfl (nm_r (nI_1 i) (ih (f, w) (gz_wa_n n h (gd_t lim) (gq_ct act) (gq_ac act) (gq_i sh) (gq_i lg) K b0 w0 Q c i f b w (Or.inr (Or.inl z)) hs)))
      · refine br_f (by decide) ⟨xd_in c i (by omega) hi6, ?_⟩
        rw [xd_cl c i (by omega) hi6, xd_c1 i hi6]
        refine br_c (fun q => ?_) (fun q => ?_)
        · have q' : gd_t w c i ≤ 0 := (gn_le _ _).1 q
          exact nm_r (nI_1 i) (ih (f, w) (gz_wa_n n h (gd_t lim) (gq_ct act) (gq_ac act) (gq_i sh) (gq_i lg) K b0 w0 Q c i f b w (Or.inr (Or.inr q')) hs))
        · have q' : 0 < gd_t w c i := (gn_lt _ _).1 (Int32.not_le.1 q)
          refine ⟨xd_i1 i hi6, xd_in c i (by omega) hi6, xd_i1 i hi6, ?_⟩
          obtain ⟨a1, a2⟩ := hA i hi z
          rw [a1]
          have st := gz_wa_s n h (gd_t lim) (gq_ct act) (gq_ac act) (gq_i sh) (gq_i lg) hN K hK b0 w0 Q c i f b w hc hcc hi z e' (sh i) rfl q' hs
          exact xd_lw n h ij wa ph rd lim act sh lg pol tim _ f b w c (gq_ac act i) _ (by omega) (by omega)
            (fun hle => nm_r (nI_1 i) (ih (f, w) (st.1 hle))) (fun hle => nm_r (nI_1 i) (ih (1, _) (st.2 hle)))

theorem xd_bw (hn : n ≤ 6) (hN : gm_net n h (gd_t lim) (gq_ct act) (gq_ac act) (gq_i sh) (gq_i lg)) (post : St2 → Prop)
    (hA : ∀ k, k < n → gq_ct act k = true → act k = nI (gq_ac act k) ∧ gq_ac act k < n)
    (K : Int) (hK : K ≤ 10000000) (b0 w0 : Nat → Int32) (Q : Prop) (c : Nat) (w : Nat → Int32) (hc : c < n) (hcc : gq_ct act c = true)
    (hx : ∀ f b, gz_bw n h (gd_t lim) (gq_ct act) (gq_ac act) (gq_i sh) (gq_i lg) K b0 w0 Q c n f b w → post (nI n, nI h, ij, wa, f, ph, rd, lim, act, sh, lg, pol, tim, b, w))
    (f : Int32) (b : Nat → Int32) (hI : gz_bw n h (gd_t lim) (gq_ct act) (gq_ac act) (gq_i sh) (gq_i lg) K b0 w0 Q c 0 f b w) :
    wpX_boundByWaits post (nI n, nI h, ij, wa, f, ph, rd, lim, act, sh, lg, pol, tim, b, w) (nI c) := by
  have hc6 : c < 6 := by omega
  refine loop_0 (fun m i (s : Int32 × (Nat → Int32)) => wX_boundByWaits_2 post (nI c) m (nI i) (nI n) (nI h) ij wa s.1 ph rd lim act sh lg pol tim s.2 w)
    (fun i s => gz_bw n h (gd_t lim) (gq_ct act) (gq_ac act) (gq_i sh) (gq_i lg) K b0 w0 Q c i s.1 s.2 w) n (f, b) hI ?_ ?_
  · intro m s hs
    exact br_t (Int32.le_refl _) (hx _ _ hs)
  · intro m i s hi hs ih
    obtain ⟨f, b⟩ := s
    have hi6 : i < 6 := by omega
    obtain ⟨a1, a2⟩ := hA c hc hcc
    have fin : ∀ z0 : Int32, ((z0.toInt = gd_t w c i ∧ gd_t w c i ≤ gq_i sh c) ∨ (z0.toInt = gq_i sh c ∧ gq_i sh c ≤ gd_t w c i)) →
        wX_boundByWaits_42 post (wX_boundByWaits_2 post (nI c) m) (nI c) (nI i) z0 (nI n) (nI h) ij wa f ph rd lim act sh lg pol tim b w := by
      intro z0 hz
      have st := gz_bw_s n h (gd_t lim) (gq_ct act) (gq_ac act) (gq_i sh) (gq_i lg) hN K hK b0 w0 Q c i f b w hc hcc hi z0 hz hs
      refine ⟨xd_i1 c hc6, ?_⟩
      rw [xd_c1 c hc6, a1]
      exact xd_tb n h ij wa ph rd lim act sh lg pol tim _ f b w i (gq_ac act c) _ hi6 (by omega)
        (fun hle => nm_r (nI_1 i) (ih (f, b) (st.1 hle))) (fun hle => nm_r (nI_1 i) (ih (1, _) (st.2 hle)))
    refine br_f (nI_ge hi (by omega)) ⟨xd_in c i hc6 hi6, ?_⟩
    rw [xd_cl c i hc6 hi6, xd_c1 c hc6]
    refine nm_e ⟨xd_i1 c hc6, br_c (fun q => ⟨xd_i1 c hc6, fin _ ?_⟩) (fun q => fin _ ?_)⟩
    · exact Or.inr ⟨rfl, (gn_le _ _).1 q⟩
    · have q' : (w (c * 6 + i)).toInt < (sh c).toInt := (gn_lt _ _).1 (Int32.not_le.1 q)
      exact Or.inl ⟨rfl, Int.le_of_lt q'⟩

theorem xd_bs (hn : n ≤ 6) (hN : gm_net n h (gd_t lim) (gq_ct act) (gq_ac act) (gq_i sh) (gq_i lg)) (post : St2 → Prop)
    (hA : ∀ k, k < n → gq_ct act k = true → act k = nI (gq_ac act k) ∧ gq_ac act k < n)
    (K : Int) (b0 w0 : Nat → Int32) (Q : Prop) (c : Nat) (w : Nat → Int32) (hc : c < n) (hcc : gq_ct act c = true)
    (hx : ∀ f b, gz_bs n h (gd_t lim) (gq_ct act) (gq_ac act) (gq_i sh) (gq_i lg) K b0 w0 Q c n f b w → post (nI n, nI h, ij, wa, f, ph, rd, lim, act, sh, lg, pol, tim, b, w))
    (f : Int32) (b : Nat → Int32) (hI : gz_bs n h (gd_t lim) (gq_ct act) (gq_ac act) (gq_i sh) (gq_i lg) K b0 w0 Q c 0 f b w) :
    wpX_boundByShortest post (nI n, nI h, ij, wa, f, ph, rd, lim, act, sh, lg, pol, tim, b, w) (nI c) := by
  have hc6 : c < 6 := by omega
  refine loop_0 (fun m i (s : Int32 × (Nat → Int32)) => wX_boundByShortest_2 post (nI c) m (nI i) (nI n) (nI h) ij wa s.1 ph rd lim act sh lg pol tim s.2 w)
    (fun i s => gz_bs n h (gd_t lim) (gq_ct act) (gq_ac act) (gq_i sh) (gq_i lg) K b0 w0 Q c i s.1 s.2 w) n (f, b) hI ?_ ?_
  · intro m s hs
    exact br_t (Int32.le_refl _) (hx _ _ hs)
  · intro m i s hi hs ih
    obtain ⟨f, b⟩ := s
    have hi6 : i < 6 := by omega
    obtain ⟨a1, a2⟩ := hA c hc hcc
    refine br_f (nI_ge hi (by omega)) ⟨xd_in c i hc6 hi6, ?_⟩
    rw [xd_cl c i hc6 hi6, xd_c1 c hc6]
    refine br_c (fun q => ?_) (fun q => ?_)
    · have q' : 0 ≤ gd_t b c i := (gn_le _ _).1 q
      exact nm_r (nI_1 i) (ih (f, b) (gz_bs_n n h (gd_t lim) (gq_ct act) (gq_ac act) (gq_i sh) (gq_i lg) K b0 w0 Q c i f b w (by omega) hs))
    · have q' : gd_t b c i < 0 := (gn_lt _ _).1 (Int32.not_le.1 q)
      refine ⟨xd_i1 c hc6, xd_i1 c hc6, xd_in c i hc6 hi6, ?_⟩
      rw [a1]
      have st := gz_bs_s n h (gd_t lim) (gq_ct act) (gq_ac act) (gq_i sh) (gq_i lg) hN K b0 w0 Q c i f b w hc hcc hi (sh c) rfl q' hs
      exact xd_tb n h ij wa ph rd lim act sh lg pol tim _ f b w (gq_ac act c) i _ (by omega) hi6
        (fun hle => nm_r (nI_1 i) (ih (f, b) (st.1 hle))) (fun hle => nm_r (nI_1 i) (ih (1, _) (st.2 hle)))
end xd
