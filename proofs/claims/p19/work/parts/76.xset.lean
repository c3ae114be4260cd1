-- loading, a pass, the settling: their walks
section xe
variable (n h : Nat) (ij wa ph rd : Int32) (lim act sh lg pol tim : Nat → Int32)

def xe_lb (u v : Nat) (b : Nat → Int32) : Prop :=
  ∀ x y, x < n → y < n → (x < u ∨ (x = u ∧ y < v)) → gd_t b x y = (if x = y then 0 else gd_t lim x y)

theorem xe_lb_s (hn : n ≤ 6) (u v : Nat) (b : Nat → Int32) (z : Int32) (hv : v < n) (hz : z.toInt = (if u = v then 0 else gd_t lim u v))
    (hI : xe_lb n lim u v b) : xe_lb n lim u (v + 1) (upd b (u * 6 + v) z) := by
  intro x y hx hy hxy
  rcases gd_cell b u v x y z (by omega) (by omega) with ⟨e1, e2, e3⟩ | ⟨e0, e3⟩
  · rw [e3, e1, e2]; exact hz
  · rw [e3]; exact hI x y hx hy (by omega)

theorem xe_lb12 (hn : n ≤ 6) (post : St2 → Prop) (J2 : Int32 → (Nat → Int32) → (Nat → Int32) → (Nat → Int32) → (Nat → Int32) → (Nat → Int32) → (Nat → Int32) → (Nat → Int32) → (Nat → Int32) → Prop) (f : Int32) (w : Nat → Int32) (u : Nat) (hu : u < n)
    (hx : ∀ b, xe_lb n lim u n b → J2 (nI (u + 1)) lim act sh lg pol tim b w) (b : Nat → Int32) (hI : xe_lb n lim u 0 b) :
    ∃ m, wX_loadBounds_12 post J2 (nI u) (nI n) (nI h) ij wa f ph rd m 0 lim act sh lg pol tim b w := by
  refine loop_0 (fun m i (b : Nat → Int32) => wX_loadBounds_12 post J2 (nI u) (nI n) (nI h) ij wa f ph rd m (nI i) lim act sh lg pol tim b w)
    (fun i b => xe_lb n lim u i b) n b hI ?_ ?_
  · intro m b hs
    exact br_t (Int32.le_refl _) (nm_r (nI_1 u) (hx _ hs))
  · intro m i b hi hs ih
    refine br_f (nI_ge hi (by omega)) ?_
    rw [xd_cl u i (by omega) (by omega)]
    refine br_c (fun e => ⟨xd_in u i (by omega) (by omega), nm_e (nm_r (nI_1 i) (ih _ ?_))⟩)
      (fun e => ⟨xd_in u i (by omega) (by omega), xd_in u i (by omega) (by omega), nm_e (nm_r (nI_1 i) (ih _ ?_))⟩)
    · have e' : u = i := (nI_eq (by omega) (by omega)).1 e
      exact xe_lb_s n lim hn u i b 0 hi (by rw [if_pos e']; rfl) hs
    · have e' : ¬ u = i := fun z => e (by rw [z])
      exact xe_lb_s n lim hn u i b _ hi (by rw [if_neg e']; rfl) hs

theorem xe_ldb (hn : n ≤ 6) (post : St2 → Prop) (f : Int32) (w : Nat → Int32)
    (hx : ∀ b, (∀ u v, u < n → v < n → gd_t b u v = (if u = v then 0 else gd_t lim u v)) → post (nI n, nI h, ij, wa, f, ph, rd, lim, act, sh, lg, pol, tim, b, w)) (b : Nat → Int32) :
    wpX_loadBounds post (nI n, nI h, ij, wa, f, ph, rd, lim, act, sh, lg, pol, tim, b, w) := by
  refine loop_0 (fun m i (b : Nat → Int32) => wX_loadBounds_2 post (nI n) (nI h) ij wa f ph rd m (nI i) lim act sh lg pol tim b w)
    (fun i b => xe_lb n lim i 0 b) n b (fun x y _ _ z => by omega) ?_ ?_
  · intro m b hs
    exact br_t (Int32.le_refl _) (hx _ (fun u v hu hv => hs u v hu hv (Or.inl hu)))
  · intro m i b hi hs ih
    exact br_f (nI_ge hi (by omega)) (xe_lb12 n h ij wa ph rd lim act sh lg pol tim hn post _ f w i hi
      (fun b' z => ih b' (fun x y hx hy hxy => z x y hx hy (by omega))) b hs)

theorem xe_lw12 (hn : n ≤ 6) (hN : gm_net n h (gd_t lim) (gq_ct act) (gq_ac act) (gq_i sh) (gq_i lg)) (post : St2 → Prop) (J2 : Int32 → Int32 → Int32 → Int32 → Int32 → Int32 → Int32 → Int32 → (Nat → Int32) → (Nat → Int32) → (Nat → Int32) → (Nat → Int32) → (Nat → Int32) → (Nat → Int32) → (Nat → Int32) → (Nat → Int32) → Prop)
    (hA : ∀ k, k < n → gq_ct act k = true → act k = nI (gq_ac act k) ∧ gq_ac act k < n)
    (f : Int32) (b w0 : Nat → Int32) (c : Nat) (hc : c < n)
    (hB : gz_ld n (gd_t lim) (gq_ct act) (gq_ac act) (gq_i lg) c b) (hW : gz_lw n h (gq_ct act) (gq_i lg) c w0)
    (hx : ∀ f b w, gz_ld n (gd_t lim) (gq_ct act) (gq_ac act) (gq_i lg) (c + 1) b → gz_lw n h (gq_ct act) (gq_i lg) (c + 1) w → J2 (nI (c + 1)) (nI n) (nI h) ij wa f ph rd lim act sh lg pol tim b w) :
    ∃ m, wX_loadWaits_12 post J2 (nI c) (nI n) (nI h) ij wa f ph rd m 0 lim act sh lg pol tim b w0 := by
  have hc6 : c < 6 := by omega
  have h7 : h ≤ 7 := hN.2.2.1
  refine loop_0 (fun m i (w : Nat → Int32) => wX_loadWaits_12 post J2 (nI c) (nI n) (nI h) ij wa f ph rd m (nI i) lim act sh lg pol tim b w)
    (fun i w => (∀ x y, x < c → y < n → gd_t w x y = gd_t w0 x y) ∧ ∀ y, y < i → y < n → gd_t w c y = -(h : Int)) n w0
    ⟨fun _ _ _ _ => rfl, fun y hy => absurd hy (by omega)⟩ ?_ ?_
  · intro m w hs
    refine br_t (Int32.le_refl _) (xd_ct n h ij wa ph rd lim act sh lg pol tim _ f b w c hc6 (fun z => ?_) (fun z => ?_))
    · exact br_t rfl (nm_r (nI_1 c) (hx f b w (gz_ld_s n (gd_t lim) (gq_ct act) (gq_ac act) (gq_i lg) c b z hB)
        (gz_lw_s n h (gq_ct act) (gq_i lg) c w0 w hs.1 (fun q => absurd q (by rw [z]; simp)) hW)))
    · have hw' : gz_lw n h (gq_ct act) (gq_i lg) (c + 1) (upd w (c * 6 + c) (lg c)) := by
        refine gz_lw_s n h (gq_ct act) (gq_i lg) c w0 _ (fun x y hx hy => ?_) (fun _ y hy => ?_) hW
        · rw [gd_t_n w c c x y _ hc6 (by omega) (by omega)]; exact hs.1 x y hx hy
        · rcases gd_cell w c c c y (lg c) hc6 (by omega) with ⟨_, e2, e3⟩ | ⟨e0, e3⟩
          · exact Or.inr ⟨e2, e3⟩
          · exact Or.inl ⟨by omega, by rw [e3]; exact hs.2 y hy hy⟩
      obtain ⟨a1, a2⟩ := hA c hc z
      refine br_f (by decide) ⟨xd_i1 c hc6, xd_in c c hc6 hc6, ?_⟩
      rw [xd_cl c c hc6 hc6, xd_c1 c hc6, a1]
      refine nm_e ⟨xd_i1 c hc6, xd_i1 c hc6, ?_⟩
      refine xd_tb n h ij wa ph rd lim act sh lg pol tim _ f b _ (gq_ac act c) c _ (by omega) hc6 (fun q => ?_) (fun q => ?_)
      · exact nm_r (nI_1 c) (hx f b _ (gz_ld_k n (gd_t lim) (gq_ct act) (gq_ac act) (gq_i lg) c b ((gn_le _ _).1 q) hB) hw')
      · exact nm_r (nI_1 c) (hx 1 _ _ (gz_ld_t n h (gd_t lim) (gq_ct act) (gq_ac act) (gq_i sh) (gq_i lg) hN c hc z b (lg c) rfl ((gn_lt _ _).1 (Int32.not_le.1 q)) hB) hw')
  · intro m i w hi hs ih
    refine br_f (nI_ge hi (by omega)) ⟨xd_in c i hc6 (by omega), ?_⟩
    rw [xd_cl c i hc6 (by omega)]
    refine nm_e (nm_r (nI_1 i) (ih _ ⟨fun x y hx hy => ?_, fun y hy hyn => ?_⟩))
    · rw [gd_t_n w c i x y _ (by omega) (by omega) (by omega)]; exact hs.1 x y hx hy
    · have hneg : (-nI h).toInt = -(h : Int) := by
        have e := gq_nI h (by omega)
        rw [gn_neg _ ⟨by omega, by omega⟩, e]
      rcases gd_cell w c i c y (-nI h) (by omega) (by omega) with ⟨_, e2, e3⟩ | ⟨e0, e3⟩
      · rw [e3]; exact hneg
      · rw [e3]; exact hs.2 y (by omega) hyn

theorem xe_ldw (hn : n ≤ 6) (hn1 : 1 ≤ n) (hN : gm_net n h (gd_t lim) (gq_ct act) (gq_ac act) (gq_i sh) (gq_i lg)) (hL : ∀ u v, u < n → v < n → -7 ≤ gd_t lim u v) (post : St2 → Prop)
    (hA : ∀ k, k < n → gq_ct act k = true → act k = nI (gq_ac act k) ∧ gq_ac act k < n)
    (hx : ∀ f b w, gd_good n h (gd_t lim) (gq_ct act) (gq_ac act) (gq_i sh) (gq_i lg) 7 b w → post (nI n, nI h, ij, wa, f, ph, rd, lim, act, sh, lg, pol, tim, b, w))
    (f : Int32) (b w : Nat → Int32) (hb : ∀ u v, u < n → v < n → gd_t b u v = (if u = v then 0 else gd_t lim u v)) :
    wpX_loadWaits post (nI n, nI h, ij, wa, f, ph, rd, lim, act, sh, lg, pol, tim, b, w) := by
  have h0 := hN.2.2.2.1
  refine pk_loop (fun m i (s : Int32 × (Nat → Int32) × (Nat → Int32)) => wX_loadWaits_2 post m (nI i) (nI n) (nI h) ij wa s.1 ph rd lim act sh lg pol tim s.2.1 s.2.2)
    (fun i s => gz_ld n (gd_t lim) (gq_ct act) (gq_ac act) (gq_i lg) i s.2.1 ∧ gz_lw n h (gq_ct act) (gq_i lg) i s.2.2) n 1 (f, b, w) hn1
    ⟨gz_ld_0 n (gd_t lim) (gq_ct act) (gq_ac act) (gq_i lg) b h0 hb, fun x u hx _ hxc _ => ?_⟩ ?_ ?_
  · have e : x = 0 := by omega
    rw [e, h0] at hxc
    simp at hxc
  · intro m s hs
    obtain ⟨f, b, w⟩ := s
    refine br_t (Int32.le_refl _) (hx _ _ _ (gv_init n h (gd_t lim) (gq_ct act) (gq_ac act) (gq_i sh) (gq_i lg) hN hL b w hs.1.1 (fun c hc hcc => hs.1.2 c hc hc hcc) (fun c u hc hcc hu => hs.2 c u hc hc hcc hu)))
  · intro m i s hi hs ih
    obtain ⟨f, b, w⟩ := s
    exact br_f (nI_ge hi (by omega)) (xe_lw12 n h ij wa ph rd lim act sh lg pol tim hn hN post _ hA f b w i hi hs.1 hs.2 (fun f' b' w' z1 z2 => ih (f', b', w') ⟨z1, z2⟩))

theorem xe_ded (hn : n ≤ 6) (hn1 : 1 ≤ n) (hN : gm_net n h (gd_t lim) (gq_ct act) (gq_ac act) (gq_i sh) (gq_i lg)) (post : St2 → Prop)
    (hA : ∀ k, k < n → gq_ct act k = true → act k = nI (gq_ac act k) ∧ gq_ac act k < n)
    (K : Int) (hK0 : 0 ≤ K) (hK : K ≤ 5000000) (b0 w0 : Nat → Int32) (hG0 : gd_good n h (gd_t lim) (gq_ct act) (gq_ac act) (gq_i sh) (gq_i lg) K b0 w0)
    (hx : ∀ f b w, gy_dd n h (gd_t lim) (gq_ct act) (gq_ac act) (gq_i sh) (gq_i lg) K b0 w0 n f b w → post (nI n, nI h, ij, wa, f, ph, rd, lim, act, sh, lg, pol, tim, b, w)) :
    wpX_deduce post (nI n, nI h, ij, wa, 0, ph, rd, lim, act, sh, lg, pol, tim, b0, w0) := by
  have h0 := hN.2.2.2.1
  refine xd_cb n h ij wa ph rd lim act sh lg pol tim hn hN _ K b0 w0 w0 (fun f b hI => ?_) 0 b0 (gy_begin n h (gd_t lim) (gq_ct act) (gq_ac act) (gq_i sh) (gq_i lg) K b0 w0 hG0)
  refine pk_loop (fun m i (s : Int32 × (Nat → Int32) × (Nat → Int32)) => wX_deduce_6 post m (nI i) (nI n) (nI h) ij wa s.1 ph rd lim act sh lg pol tim s.2.1 s.2.2)
    (fun i s => gy_dd n h (gd_t lim) (gq_ct act) (gq_ac act) (gq_i sh) (gq_i lg) K b0 w0 i s.1 s.2.1 s.2.2) n 1 (f, b, w0) hn1 ?_ ?_ ?_
  · refine gy_up n h (gd_t lim) (gq_ct act) (gq_ac act) (gq_i sh) (gq_i lg) K _ (by omega) b0 w0 _ _ (fun q => ⟨q, fun x _ hx1 hxc => ?_⟩) f b w0 hI
    have e : x = 0 := by omega
    rw [e, h0] at hxc
    simp at hxc
  · intro m s hs
    exact br_t (Int32.le_refl _) (hx _ _ _ hs)
  · intro m i s hi hs ih
    obtain ⟨f, b, w⟩ := s
    have hi6 : i < 6 := by omega
    refine br_f (nI_ge hi (by omega)) (xd_ct n h ij wa ph rd lim act sh lg pol tim _ f b w i hi6 (fun z => ?_) (fun z => ?_))
    · exact br_t rfl (nm_r (nI_1 i) (ih (f, b, w) (gy_dd_n n h (gd_t lim) (gq_ct act) (gq_ac act) (gq_i sh) (gq_i lg) K b0 w0 i z f b w hs)))
    · refine br_f (by decide) ?_
      refine xd_cw n h ij wa ph rd lim act sh lg pol tim hn hN _ (K + 84 * (i : Int)) (by omega) (by omega) b0 w0 _ i b hi z (fun f1 w1 h1 => ?_) f w hs
      refine xd_wa n h ij wa ph rd lim act sh lg pol tim hn hN _ hA (K + 84 * (i : Int) + 14 * (n : Int)) (by omega) b0 w0 _ i b hi z hn1 (fun f2 w2 h2 => ?_) f1 w1
        (gy_wa0 n h (gd_t lim) (gq_ct act) (gq_ac act) (gq_i sh) (gq_i lg) _ b0 w0 _ i h0 f1 b w1 h1)
      refine xd_bw n h ij wa ph rd lim act sh lg pol tim hn hN _ hA (K + 84 * (i : Int) + 14 * (n : Int)) (by omega) b0 w0 _ i w2 hi z (fun f3 b3 h3 => ?_) f2 b
        (gy_wae n h (gd_t lim) (gq_ct act) (gq_ac act) (gq_i sh) (gq_i lg) _ b0 w0 _ i f2 b w2 h2)
      refine xd_bs n h ij wa ph rd lim act sh lg pol tim hn hN _ hA (K + 84 * (i : Int) + 14 * (n : Int)) b0 w0 _ i w2 hi z (fun f4 b4 h4 => ?_) f3 b3
        (gy_bwe n h (gd_t lim) (gq_ct act) (gq_ac act) (gq_i sh) (gq_i lg) _ b0 w0 _ i f3 b3 w2 h3)
      exact nm_r (nI_1 i) (ih (f4, b4, w2) (gy_dd_s n h (gd_t lim) (gq_ct act) (gq_ac act) (gq_i sh) (gq_i lg) hn K b0 w0 i f4 b4 w2 (gy_bse n h (gd_t lim) (gq_ct act) (gq_ac act) (gq_i sh) (gq_i lg) _ b0 w0 _ i f4 b4 w2 h4)))

theorem xe_con (hn : n ≤ 6) (post : Int32 → Prop) (f : Int32) (b w : Nat → Int32)
    (h1 : (∃ u, u < n ∧ gd_t b u u < 0) → post 1) (h0 : (∀ u, u < n → 0 ≤ gd_t b u u) → post 0) :
    wpX_isContradiction post (nI n, nI h, ij, wa, f, ph, rd, lim, act, sh, lg, pol, tim, b, w) := by
  refine loop_0 (fun m i (_ : Unit) => wX_isContradiction_2 post (nI n) (nI h) ij wa f ph rd lim act sh lg pol tim b w m (nI i))
    (fun i _ => ∀ u, u < i → 0 ≤ gd_t b u u) n () (fun u hu => absurd hu (by omega)) ?_ ?_
  · intro m _ hs
    exact br_t (Int32.le_refl _) (h0 hs)
  · intro m i _ hi hs ih
    refine br_f (nI_ge hi (by omega)) ⟨xd_in i i (by omega) (by omega), ?_⟩
    rw [xd_cl i i (by omega) (by omega)]
    refine br_c (fun q => nm_r (nI_1 i) (ih () (fun u hu => ?_))) (fun q => h1 ⟨i, hi, (gn_lt _ _).1 (Int32.not_le.1 q)⟩)
    by_cases e : u = i
    · rw [e]; exact (gn_le _ _).1 q
    · exact hs u (by omega)

theorem xe_set (hn : n ≤ 6) (hn1 : 1 ≤ n) (hN : gm_net n h (gd_t lim) (gq_ct act) (gq_ac act) (gq_i sh) (gq_i lg)) (post : Int32 → St2 → Prop)
    (hA : ∀ k, k < n → gq_ct act k = true → act k = nI (gq_ac act k) ∧ gq_ac act k < n)
    (hx : ∀ r f b w, (r = 0 ∨ r = 1) → gv_jud n h (gd_t lim) (gq_ct act) (gq_ac act) (gq_i sh) (gq_i lg) r b w → post r (nI n, nI h, ij, wa, f, ph, rd, lim, act, sh, lg, pol, tim, b, w))
    (f : Int32) (b w : Nat → Int32) (hG : gd_good n h (gd_t lim) (gq_ct act) (gq_ac act) (gq_i sh) (gq_i lg) 7 b w) :
    wpX_settle post (nI n, nI h, ij, wa, f, ph, rd, lim, act, sh, lg, pol, tim, b, w) := by
  refine loop_0 (fun m i (s : Int32 × (Nat → Int32) × (Nat → Int32)) => wX_settle_2 post m (nI i) (nI n) (nI h) ij wa s.1 ph rd lim act sh lg pol tim s.2.1 s.2.2)
    (fun i s => i ≤ 2000 ∧ gd_good n h (gd_t lim) (gq_ct act) (gq_ac act) (gq_i sh) (gq_i lg) (7 + 504 * (i : Int)) s.2.1 s.2.2 ∧ gd_phi n (gq_ct act) s.2.1 s.2.2 + (i : Int) ≤ 504) 2000 (f, b, w) ?_ ?_ ?_
  · have y := gd_phi_ub n h (gd_t lim) (gq_ct act) (gq_ac act) (gq_i sh) (gq_i lg) b w 7 hG
    exact ⟨by omega, gd_good_up n h (gd_t lim) (gq_ct act) (gq_ac act) (gq_i sh) (gq_i lg) 7 _ b w (by omega) hG, by show gd_phi n (gq_ct act) b w + ((0 : Nat) : Int) ≤ 504; omega⟩
  · intro m s hs
    obtain ⟨f, b, w⟩ := s
    refine br_t (Int32.le_refl _) (hx 0 f b w (Or.inl rfl) (Or.inr ⟨rfl, fun T hT => ?_⟩))
    have y := gd_phi_lb n h (gd_t lim) (gq_ct act) (gq_ac act) (gq_i sh) (gq_i lg) hN b w _ hs.2.1 T hT
    have z := hs.2.2
    dsimp only at z
    omega
  · intro m i s hi hs ih
    obtain ⟨f, b, w⟩ := s
    obtain ⟨_, g1, g2⟩ := hs
    dsimp only at g1 g2
    have hlt : ¬ (2000 : Int32) ≤ nI i := nI_ge (b := 2000) hi (by decide)
    refine br_f hlt (xe_ded n h ij wa ph rd lim act sh lg pol tim hn hn1 hN _ hA (7 + 504 * (i : Int)) (by omega) (by omega) b w g1 (fun f' b' w' hI => ?_))
    have e := gy_end n h (gd_t lim) (gq_ct act) (gq_ac act) (gq_i sh) (gq_i lg) hN _ b w g1 f' b' w' hI
    refine xe_con n h ij wa ph rd lim act sh lg pol tim hn _ f' b' w' (fun hneg => ?_) (fun hpos => ?_)
    · refine br_f (by decide) (hx 0 f' b' w' (Or.inl rfl) (Or.inr ⟨rfl, ?_⟩))
      rcases e with e | ⟨e, _⟩
      · exact e.2
      · obtain ⟨u, hu, hu0⟩ := hneg
        have := e.2.1 u hu
        omega
    · refine br_t rfl ?_
      rcases e with e | ⟨e1, e2⟩
      · obtain ⟨⟨u, hu, hu0⟩, _⟩ := e
        have := hpos u hu
        omega
      · rcases e2 with ⟨q1, q2, q3, q4⟩ | ⟨q1, q2⟩
        · refine br_t q1 (hx 1 f' b' w' (Or.inr rfl) (Or.inl ⟨rfl, ?_, e1.2.2.2.2.2⟩))
          rw [q2, q3]; exact q4
        · refine br_f (by rw [q1]; decide) (nm_r (nI_1 i) (ih (f', b', w') ⟨by omega, gd_good_up n h (gd_t lim) (gq_ct act) (gq_ac act) (gq_i sh) (gq_i lg) _ _ b' w' (by omega) e1, ?_⟩))
          show gd_phi n (gq_ct act) b' w' + ((i + 1 : Nat) : Int) ≤ 504
          omega

theorem xe_nar (r : Int32) (hr : r = 0 ∨ r = 1) : narrow .boolean (.int r) = .int r ∧ fits .boolean (.int r) = true := by
  rcases hr with e | e
  · rw [e]; exact ⟨rfl, rfl⟩
  · rw [e]; exact ⟨rfl, rfl⟩

theorem xe_acc (hn : n ≤ 6) (hn1 : 1 ≤ n) (hN : gm_net n h (gd_t lim) (gq_ct act) (gq_ac act) (gq_i sh) (gq_i lg)) (hL : ∀ u v, u < n → v < n → -7 ≤ gd_t lim u v) (post : Int32 → St2 → Prop)
    (hA : ∀ k, k < n → gq_ct act k = true → act k = nI (gq_ac act k) ∧ gq_ac act k < n)
    (f : Int32) (b w : Nat → Int32) (hw : wa = 0 ∨ wa = 1) (hJ : ij = 0 ∨ (ij = 1 ∧ gv_jud n h (gd_t lim) (gq_ct act) (gq_ac act) (gq_i sh) (gq_i lg) wa b w))
    (hx : ∀ r f b w, (r = 0 ∨ r = 1) → gv_jud n h (gd_t lim) (gq_ct act) (gq_ac act) (gq_i sh) (gq_i lg) r b w → post r (nI n, nI h, 1, r, f, ph, rd, lim, act, sh, lg, pol, tim, b, w)) :
    wpX_isAccepted post (nI n, nI h, ij, wa, f, ph, rd, lim, act, sh, lg, pol, tim, b, w) := by
  rcases hJ with e | ⟨e, hj⟩
  · refine br_t e (xe_ldb n h ij wa ph rd lim act sh lg pol tim hn _ f w (fun b hb => xe_ldw n h ij wa ph rd lim act sh lg pol tim hn hn1 hN hL _ hA (fun f b w hg => xe_set n h ij wa ph rd lim act sh lg pol tim hn hn1 hN _ hA (fun r f b w hr hj => ?_) f b w hg) f b w hb) b)
    have q := xe_nar r hr
    exact ⟨q.1, q.2, q.1, hx r f b w hr hj⟩
  · subst e
    exact br_f (by decide) ⟨(xe_nar wa hw).1, hx wa f b w hw hj⟩
end xe
