-- the law: its edits, its phases, its beginning
section zj
variable (n h : Nat) (ij wa f ph rd : Int32) (lim act sh lg pol tim b w : Nat → Int32)

def zj_row (N m : Nat) (x : Nat) (lim : Nat → Int32) : Prop := ∀ y, y < m → y < N → lim (x * 6 + y) = (if y = 0 then (0 : Int32) else nI h)

theorem zj_26 (hn : n ≤ 6) (post : St2 → Prop) (J2 : Int32 → Int32 → Int32 → Int32 → Int32 → Int32 → Int32 → Int32 → (Nat → Int32) → (Nat → Int32) → (Nat → Int32) → (Nat → Int32) → (Nat → Int32) → (Nat → Int32) → (Nat → Int32) → (Nat → Int32) → Prop) (u : Nat) (hu : u < n) (lim0 : Nat → Int32)
    (hx : ∀ lim, (∀ x, x ≠ u → ∀ y, y < 6 → lim (x * 6 + y) = lim0 (x * 6 + y)) → zj_row h n n u lim → J2 (nI (u + 1)) (nI n) (nI h) ij wa f ph rd lim act sh lg pol tim b w) :
    ∃ m, wX_clearLinks_26 post J2 (nI u) m 0 (nI n) (nI h) ij wa f ph rd lim0 act sh lg pol tim b w := by
  have hu6 : u < 6 := by omega
  refine loop_0 (fun m i (lim : Nat → Int32) => wX_clearLinks_26 post J2 (nI u) m (nI i) (nI n) (nI h) ij wa f ph rd lim act sh lg pol tim b w)
    (fun i lim => (∀ x, x ≠ u → ∀ y, y < 6 → lim (x * 6 + y) = lim0 (x * 6 + y)) ∧ zj_row h n i u lim) n lim0 ⟨fun _ _ _ _ => rfl, fun y hy => absurd hy (by omega)⟩ ?_ ?_
  · intro m lim hs
    exact br_t (Int32.le_refl _) (nm_r (nI_1 u) (hx lim hs.1 hs.2))
  · intro m i lim hi hs ih
    have hi6 : i < 6 := by omega
    have hin := xd_in u i hu6 hi6
    have step : ∀ z : Int32, z = (if i = 0 then (0 : Int32) else nI h) →
        (∀ x, x ≠ u → ∀ y, y < 6 → upd lim (u * 6 + i) z (x * 6 + y) = lim0 (x * 6 + y)) ∧ zj_row h n (i + 1) u (upd lim (u * 6 + i) z) := by
      intro z hz
      refine ⟨fun x hx y hy => ?_, fun y hy hyn => ?_⟩
      · rw [pk_un (by omega)]; exact hs.1 x hx y hy
      · by_cases e : y = i
        · rw [e, pk_us]; exact hz
        · rw [pk_un (by omega)]; exact hs.2 y (by omega) hyn
    refine br_f (nI_ge hi (by omega)) ?_
    unfold wpX_loosen
    dsimp only
    rw [xd_cl u i hu6 hi6]
    refine br_c (fun q => ⟨hin, nm_e (nm_r (nI_1 i) (ih _ (step 0 ?_)))⟩) (fun q => ⟨hin, nm_e (nm_r (nI_1 i) (ih _ (step (nI h) ?_)))⟩)
    · rw [if_pos ((nI_eq (b := 0) (by omega) (by omega)).1 q)]
    · rw [if_neg (fun y => q (by rw [y]; rfl))]

theorem zj_clear (hn : n ≤ 6) (post : St2 → Prop)
    (g : ∀ lim act pol, (∀ x, x < n → act x = -1 ∧ pol x = 0 ∧ zj_row h n n x lim) → post (nI n, nI h, ij, wa, f, ph, rd, lim, act, sh, lg, pol, tim, b, w)) : wpX_clearLinks post (nI n, nI h, ij, wa, f, ph, rd, lim, act, sh, lg, pol, tim, b, w) := by
  refine loop_0 (fun m i (s : (Nat → Int32) × (Nat → Int32) × (Nat → Int32)) => wX_clearLinks_2 post m (nI i) (nI n) (nI h) ij wa f ph rd s.1 s.2.1 sh lg s.2.2 tim b w)
    (fun i s => ∀ x, x < i → s.2.1 x = -1 ∧ s.2.2 x = 0 ∧ zj_row h n n x s.1) n (lim, act, pol) (fun x hx => absurd hx (by omega)) ?_ ?_
  · intro m s hs
    obtain ⟨lim, act, pol⟩ := s
    exact br_t (Int32.le_refl _) (g lim act pol hs)
  · intro m i s hi hs ih
    obtain ⟨lim, act, pol⟩ := s
    have hi6 : i < 6 := by omega
    refine br_f (nI_ge hi (by omega)) ⟨xd_i1 i hi6, ?_⟩
    rw [xd_c1 i hi6]
    refine nm_e ⟨xd_i1 i hi6, nm_e (zj_26 n h ij wa f ph rd _ sh lg _ tim b w hn post _ i hi lim (fun lim' h1 h2 => ih (lim', upd act i (-1), upd pol i 0) (fun x hx => ?_)))⟩
    by_cases e : x = i
    · rw [e]; exact ⟨pk_us, pk_us, h2⟩
    · obtain ⟨c1, c2, c3⟩ := hs x (by omega)
      refine ⟨?_, ?_, fun y hy hyn => ?_⟩
      · show upd act i (-1) x = -1
        rw [pk_un e]; exact c1
      · show upd pol i 0 x = 0
        rw [pk_un e]; exact c2
      · show lim' (x * 6 + y) = _
        rw [h1 x e y (by omega)]; exact c3 y hy hyn

end zj

section lu
variable (n h : Nat) (Ls : Nat) (xs : Nat → Int32)

/-- the calls behind the edits -/
def lu_J (J44 : Int32 → Int32 → Int32 → Int32 → Int32 → Int32 → Int32 → Int32 → Int32 → (Nat → Int32) → (Nat → Int32) → (Nat → Int32) → (Nat → Int32) → (Nat → Int32) → (Nat → Int32) → (Nat → Int32) → (Nat → Int32) → Prop) (x5 kb : Nat) : Prop := ∀ (k' : Nat) (s : St2), k' ≤ kb → ol_ld n h s → J44 (nI k') (nI (x5 + 1)) s.1 s.2.1 s.2.2.1 s.2.2.2.1 s.2.2.2.2.1 s.2.2.2.2.2.1 s.2.2.2.2.2.2.1 s.2.2.2.2.2.2.2.1 s.2.2.2.2.2.2.2.2.1 s.2.2.2.2.2.2.2.2.2.1 s.2.2.2.2.2.2.2.2.2.2.1 s.2.2.2.2.2.2.2.2.2.2.2.1 s.2.2.2.2.2.2.2.2.2.2.2.2.1 s.2.2.2.2.2.2.2.2.2.2.2.2.2.1 s.2.2.2.2.2.2.2.2.2.2.2.2.2.2

theorem lu_284 (h3 : 3 ≤ n) (h6 : n ≤ 6) (hh : 3 ≤ h) (h7 : h ≤ 7) (hL : Ls ≤ 260) (post : Int32 → Prop) (J44 : Int32 → Int32 → Int32 → Int32 → Int32 → Int32 → Int32 → Int32 → Int32 → (Nat → Int32) → (Nat → Int32) → (Nat → Int32) → (Nat → Int32) → (Nat → Int32) → (Nat → Int32) → (Nat → Int32) → (Nat → Int32) → Prop) (x5 c k : Nat) (hk : k + 4 * c < 8000) (kc ks : Nat)
    (s0 : St2) (hs0 : ol_ld n h s0) (g : lu_J n h J44 x5 (k + 4 * c + 16)) :
    ∃ m, wL_law_284 post Ls xs J44 (nI n) (nI h) (nI x5) (nI c) kc ks m (nI k) 0 s0.1 s0.2.1 s0.2.2.1 s0.2.2.2.1 s0.2.2.2.2.1 s0.2.2.2.2.2.1 s0.2.2.2.2.2.2.1 s0.2.2.2.2.2.2.2.1 s0.2.2.2.2.2.2.2.2.1 s0.2.2.2.2.2.2.2.2.2.1 s0.2.2.2.2.2.2.2.2.2.2.1 s0.2.2.2.2.2.2.2.2.2.2.2.1 s0.2.2.2.2.2.2.2.2.2.2.2.2.1 s0.2.2.2.2.2.2.2.2.2.2.2.2.2.1 s0.2.2.2.2.2.2.2.2.2.2.2.2.2.2 := by
  refine loop_0 (fun m i (s : St2) => wL_law_284 post Ls xs J44 (nI n) (nI h) (nI x5) (nI c) kc ks m (nI (k + 4 * i)) (nI i) s.1 s.2.1 s.2.2.1 s.2.2.2.1 s.2.2.2.2.1 s.2.2.2.2.2.1 s.2.2.2.2.2.2.1 s.2.2.2.2.2.2.2.1 s.2.2.2.2.2.2.2.2.1 s.2.2.2.2.2.2.2.2.2.1 s.2.2.2.2.2.2.2.2.2.2.1 s.2.2.2.2.2.2.2.2.2.2.2.1 s.2.2.2.2.2.2.2.2.2.2.2.2.1 s.2.2.2.2.2.2.2.2.2.2.2.2.2.1 s.2.2.2.2.2.2.2.2.2.2.2.2.2.2) (fun _ s => ol_ld n h s) c s0 hs0 ?_ ?_
  · intro m s hs
    obtain ⟨ij, wa, f, lim, act, sh, lg, pol, tim, b, w, rfl, a1, a2, a3, a4, a5⟩ := hs
    refine br_t (Int32.le_refl _) ?_
    exact lv_412 n h ij wa f lim act sh lg pol tim b w Ls xs h3 h6 h7 hL (2 * n) (by unfold ls_B; omega) a1 a2 a3 a4 a5 post J44 (k + 4 * c) x5 (by omega) kc ks
      (fun k' ij wa f pol tim b w hk' hl => g k' _ hk' hl)
  · intro m i s hi hs ih
    have e1 : ∀ a b : Nat, nI a + nI b = nI (a + b) := nI_add
    have n1 : nI n - 1 = nI (n - 1) := pk_sub (b := 1) (by omega)
    have nn : ¬ nI n = 0 := nI_ne0 (by omega) (by omega)
    have add : ∀ z0 z1 z2 z3 : Int32, wL_law_385 post Ls xs J44 (wL_law_284 post Ls xs J44 (nI n) (nI h) (nI x5) (nI c) kc ks m) (nI n) (nI h) (nI (k + 4 * i)) (nI x5) (nI c) (nI i) z0 z1 z2 z3 kc ks s.1 s.2.1 s.2.2.1 s.2.2.2.1 s.2.2.2.2.1 s.2.2.2.2.2.1 s.2.2.2.2.2.2.1 s.2.2.2.2.2.2.2.1 s.2.2.2.2.2.2.2.2.1 s.2.2.2.2.2.2.2.2.2.1 s.2.2.2.2.2.2.2.2.2.2.1 s.2.2.2.2.2.2.2.2.2.2.2.1 s.2.2.2.2.2.2.2.2.2.2.2.2.1 s.2.2.2.2.2.2.2.2.2.2.2.2.2.1 s.2.2.2.2.2.2.2.2.2.2.2.2.2.2 := by
      intro z0 z1 z2 z3
      refine ol_addReq n h h3 h6 hh h7 s hs _ (fun r u' hu' => ?_) z3 z2 z1 z0
      exact nm_r (nI_1 i) (nm_r (nI_add (k + 4 * i) 4) (ih u' hu'))
    have a371 : ∀ x11 x12 z0 z1 : Int32, wL_law_371 post Ls xs J44 (wL_law_284 post Ls xs J44 (nI n) (nI h) (nI x5) (nI c) kc ks m) (nI n) (nI h) (nI (k + 4 * i)) (nI x5) (nI c) (nI i) x11 x12 z0 z1 kc ks s.1 s.2.1 s.2.2.1 s.2.2.2.1 s.2.2.2.2.1 s.2.2.2.2.2.1 s.2.2.2.2.2.2.1 s.2.2.2.2.2.2.2.1 s.2.2.2.2.2.2.2.2.1 s.2.2.2.2.2.2.2.2.2.1 s.2.2.2.2.2.2.2.2.2.2.1 s.2.2.2.2.2.2.2.2.2.2.2.1 s.2.2.2.2.2.2.2.2.2.2.2.2.1 s.2.2.2.2.2.2.2.2.2.2.2.2.2.1 s.2.2.2.2.2.2.2.2.2.2.2.2.2.2 :=
      fun x11 x12 z0 z1 => br_c (fun _ => add _ _ _ _) (fun _ => add _ _ _ _)
    refine br_f (nI_ge hi (by omega)) (lz_pick Ls xs _ (k + 4 * i) n (by omega) hL (by omega) (by omega) (fun j1 hj1 => ?_))
    rw [nI_1 (k + 4 * i), n1]
    refine lz_pick Ls xs _ (k + 4 * i + 1) (n - 1) (by omega) hL (by omega) (by omega) (fun j2 hj2 => ⟨nn, ?_⟩)
    rw [show nI (k + 4 * i) + 2 = nI (k + 4 * i + 2) from nI_add _ 2, show nI (k + 4 * i) + 3 = nI (k + 4 * i + 3) from nI_add _ 3]
    refine nm_e (lz_pick Ls xs _ (k + 4 * i + 2) 5 (by omega) hL (by omega) (by omega) (fun j3 hj3 => nm_e (lz_pick Ls xs _ (k + 4 * i + 3) h (by omega) hL (by omega) (by omega) (fun j4 hj4 => nm_e ?_))))
    exact br_c (fun _ => br_c (fun _ => a371 _ _ _ _) (fun _ => a371 _ _ _ _)) (fun _ => br_c (fun _ => a371 _ _ _ _) (fun _ => a371 _ _ _ _))

theorem lu_161 (h3 : 3 ≤ n) (h6 : n ≤ 6) (hh : 3 ≤ h) (h7 : h ≤ 7) (hL : Ls ≤ 260) (post : Int32 → Prop) (J44 : Int32 → Int32 → Int32 → Int32 → Int32 → Int32 → Int32 → Int32 → Int32 → (Nat → Int32) → (Nat → Int32) → (Nat → Int32) → (Nat → Int32) → (Nat → Int32) → (Nat → Int32) → (Nat → Int32) → (Nat → Int32) → Prop) (x5 c k : Nat) (hk : k + 4 * c < 7000) (kc ks : Nat)
    (s0 : St2) (hs0 : ol_ld n h s0) (g : lu_J n h J44 x5 (k + 4 * c + 33)) :
    ∃ m, wL_law_161 post Ls xs J44 (nI n) (nI h) (nI x5) (nI c) kc ks m (nI k) 0 s0.1 s0.2.1 s0.2.2.1 s0.2.2.2.1 s0.2.2.2.2.1 s0.2.2.2.2.2.1 s0.2.2.2.2.2.2.1 s0.2.2.2.2.2.2.2.1 s0.2.2.2.2.2.2.2.2.1 s0.2.2.2.2.2.2.2.2.2.1 s0.2.2.2.2.2.2.2.2.2.2.1 s0.2.2.2.2.2.2.2.2.2.2.2.1 s0.2.2.2.2.2.2.2.2.2.2.2.2.1 s0.2.2.2.2.2.2.2.2.2.2.2.2.2.1 s0.2.2.2.2.2.2.2.2.2.2.2.2.2.2 := by
  refine loop_0 (fun m i (s : St2) => wL_law_161 post Ls xs J44 (nI n) (nI h) (nI x5) (nI c) kc ks m (nI (k + 4 * i)) (nI i) s.1 s.2.1 s.2.2.1 s.2.2.2.1 s.2.2.2.2.1 s.2.2.2.2.2.1 s.2.2.2.2.2.2.1 s.2.2.2.2.2.2.2.1 s.2.2.2.2.2.2.2.2.1 s.2.2.2.2.2.2.2.2.2.1 s.2.2.2.2.2.2.2.2.2.2.1 s.2.2.2.2.2.2.2.2.2.2.2.1 s.2.2.2.2.2.2.2.2.2.2.2.2.1 s.2.2.2.2.2.2.2.2.2.2.2.2.2.1 s.2.2.2.2.2.2.2.2.2.2.2.2.2.2) (fun _ s => ol_ld n h s) c s0 hs0 ?_ ?_
  · intro m s hs
    refine br_t (Int32.le_refl _) (nm_r (nI_1 (k + 4 * c)) (lz_pick Ls xs _ (k + 4 * c) 4 (by omega) hL (by omega) (by omega) (fun j hj => ?_)))
    have nx : ∀ c' : Nat, c' ≤ 4 → ∃ m, wL_law_284 post Ls xs J44 (nI n) (nI h) (nI x5) (nI c') kc ks m (nI (k + 4 * c + 1)) 0 s.1 s.2.1 s.2.2.1 s.2.2.2.1 s.2.2.2.2.1 s.2.2.2.2.2.1 s.2.2.2.2.2.2.1 s.2.2.2.2.2.2.2.1 s.2.2.2.2.2.2.2.2.1 s.2.2.2.2.2.2.2.2.2.1 s.2.2.2.2.2.2.2.2.2.2.1 s.2.2.2.2.2.2.2.2.2.2.2.1 s.2.2.2.2.2.2.2.2.2.2.2.2.1 s.2.2.2.2.2.2.2.2.2.2.2.2.2.1 s.2.2.2.2.2.2.2.2.2.2.2.2.2.2 := fun c' hc' =>
      lu_284 n h Ls xs h3 h6 hh h7 hL post J44 x5 c' (k + 4 * c + 1) (by omega) kc ks s hs (fun k' s' hk' hl => g k' s' (by omega) hl)
    refine br_c (fun _ => nm_r (nI_1 j) (nx (j + 1) (by omega))) (fun _ => nm_r (nI_add j 0) (nx (j + 0) (by omega)))
  · intro m i s hi hs ih
    have n1 : nI n - 1 = nI (n - 1) := pk_sub (b := 1) (by omega)
    have add : ∀ z0 z1 z2 z3 : Int32, wL_law_246 post Ls xs J44 (wL_law_161 post Ls xs J44 (nI n) (nI h) (nI x5) (nI c) kc ks m) (nI n) (nI h) (nI (k + 4 * i)) (nI x5) (nI c) (nI i) z0 z1 z2 z3 kc ks s.1 s.2.1 s.2.2.1 s.2.2.2.1 s.2.2.2.2.1 s.2.2.2.2.2.1 s.2.2.2.2.2.2.1 s.2.2.2.2.2.2.2.1 s.2.2.2.2.2.2.2.2.1 s.2.2.2.2.2.2.2.2.2.1 s.2.2.2.2.2.2.2.2.2.2.1 s.2.2.2.2.2.2.2.2.2.2.2.1 s.2.2.2.2.2.2.2.2.2.2.2.2.1 s.2.2.2.2.2.2.2.2.2.2.2.2.2.1 s.2.2.2.2.2.2.2.2.2.2.2.2.2.2 := by
      intro z0 z1 z2 z3
      refine ol_addCon n h h3 h6 h7 s hs _ (fun r u' hu' => ?_) z3 z2 z1 z0
      exact nm_r (nI_1 i) (nm_r (nI_add (k + 4 * i) 4) (ih u' hu'))
    have a230 : ∀ x8 x10 x11 z0 : Int32, wL_law_230 post Ls xs J44 (wL_law_161 post Ls xs J44 (nI n) (nI h) (nI x5) (nI c) kc ks m) (nI n) (nI h) (nI (k + 4 * i)) (nI x5) (nI c) (nI i) x8 x10 x11 z0 kc ks s.1 s.2.1 s.2.2.1 s.2.2.2.1 s.2.2.2.2.1 s.2.2.2.2.2.1 s.2.2.2.2.2.2.1 s.2.2.2.2.2.2.2.1 s.2.2.2.2.2.2.2.2.1 s.2.2.2.2.2.2.2.2.2.1 s.2.2.2.2.2.2.2.2.2.2.1 s.2.2.2.2.2.2.2.2.2.2.2.1 s.2.2.2.2.2.2.2.2.2.2.2.2.1 s.2.2.2.2.2.2.2.2.2.2.2.2.2.1 s.2.2.2.2.2.2.2.2.2.2.2.2.2.2 :=
      fun x8 x10 x11 z0 => br_c (fun _ => add _ _ _ _) (fun _ => add _ _ _ _)
    refine br_f (nI_ge hi (by omega)) ?_
    rw [n1]
    refine lz_pick Ls xs _ (k + 4 * i) (n - 1) (by omega) hL (by omega) (by omega) (fun j1 hj1 => nm_e ?_)
    rw [nI_1 (k + 4 * i)]
    refine lz_pick Ls xs _ (k + 4 * i + 1) n (by omega) hL (by omega) (by omega) (fun j2 hj2 => ?_)
    rw [show nI (k + 4 * i) + 2 = nI (k + 4 * i + 2) from nI_add _ 2, show nI (k + 4 * i) + 3 = nI (k + 4 * i + 3) from nI_add _ 3]
    refine lz_pick Ls xs _ (k + 4 * i + 2) 2 (by omega) hL (by omega) (by omega) (fun j3 hj3 => nm_e (lz_pick Ls xs _ (k + 4 * i + 3) 3 (by omega) hL (by omega) (by omega) (fun j4 hj4 => nm_e ?_)))
    exact br_c (fun _ => a230 _ _ _ _) (fun _ => a230 _ _ _ _)

theorem lu_136 (h3 : 3 ≤ n) (h6 : n ≤ 6) (hh : 3 ≤ h) (h7 : h ≤ 7) (hL : Ls ≤ 260) (post : Int32 → Prop) (J44 : Int32 → Int32 → Int32 → Int32 → Int32 → Int32 → Int32 → Int32 → Int32 → (Nat → Int32) → (Nat → Int32) → (Nat → Int32) → (Nat → Int32) → (Nat → Int32) → (Nat → Int32) → (Nat → Int32) → (Nat → Int32) → Prop) (x5 k : Nat) (hk : k < 6000) (kc ks : Nat)
    (s : St2) (hs : ol_ld n h s) (g : lu_J n h J44 x5 (k + 50)) :
    wL_law_136 post Ls xs J44 (nI n) (nI h) (nI k) (nI x5) kc ks s.1 s.2.1 s.2.2.1 s.2.2.2.1 s.2.2.2.2.1 s.2.2.2.2.2.1 s.2.2.2.2.2.2.1 s.2.2.2.2.2.2.2.1 s.2.2.2.2.2.2.2.2.1 s.2.2.2.2.2.2.2.2.2.1 s.2.2.2.2.2.2.2.2.2.2.1 s.2.2.2.2.2.2.2.2.2.2.2.1 s.2.2.2.2.2.2.2.2.2.2.2.2.1 s.2.2.2.2.2.2.2.2.2.2.2.2.2.1 s.2.2.2.2.2.2.2.2.2.2.2.2.2.2 := by
  refine nm_r (nI_1 k) (lz_pick Ls xs _ k 3 (by omega) hL (by omega) (by omega) (fun j hj => ?_))
  have nx : ∀ c' : Nat, c' ≤ 3 → ∃ m, wL_law_161 post Ls xs J44 (nI n) (nI h) (nI x5) (nI c') kc ks m (nI (k + 1)) 0 s.1 s.2.1 s.2.2.1 s.2.2.2.1 s.2.2.2.2.1 s.2.2.2.2.2.1 s.2.2.2.2.2.2.1 s.2.2.2.2.2.2.2.1 s.2.2.2.2.2.2.2.2.1 s.2.2.2.2.2.2.2.2.2.1 s.2.2.2.2.2.2.2.2.2.2.1 s.2.2.2.2.2.2.2.2.2.2.2.1 s.2.2.2.2.2.2.2.2.2.2.2.2.1 s.2.2.2.2.2.2.2.2.2.2.2.2.2.1 s.2.2.2.2.2.2.2.2.2.2.2.2.2.2 := fun c' hc' =>
    lu_161 n h Ls xs h3 h6 hh h7 hL post J44 x5 c' (k + 1) (by omega) kc ks s hs (fun k' s' hk' hl => g k' s' (by omega) hl)
  exact br_c (fun _ => nm_r (nI_1 j) (nx (j + 1) (by omega))) (fun _ => nm_r (nI_add j 0) (nx (j + 0) (by omega)))

theorem lu_69 (h3 : 3 ≤ n) (h6 : n ≤ 6) (hh : 3 ≤ h) (h7 : h ≤ 7) (hL : Ls ≤ 260) (post : Int32 → Prop) (J44 : Int32 → Int32 → Int32 → Int32 → Int32 → Int32 → Int32 → Int32 → Int32 → (Nat → Int32) → (Nat → Int32) → (Nat → Int32) → (Nat → Int32) → (Nat → Int32) → (Nat → Int32) → (Nat → Int32) → (Nat → Int32) → Prop) (x5 k : Nat) (hk : k < 5000) (kc ks : Nat)
    (s0 : St2) (hs0 : ol_ld n h s0) (g : lu_J n h J44 x5 (k + 60)) :
    ∃ m, wL_law_69 post Ls xs J44 (nI n) (nI h) (nI x5) kc ks m (nI k) 0 s0.1 s0.2.1 s0.2.2.1 s0.2.2.2.1 s0.2.2.2.2.1 s0.2.2.2.2.2.1 s0.2.2.2.2.2.2.1 s0.2.2.2.2.2.2.2.1 s0.2.2.2.2.2.2.2.2.1 s0.2.2.2.2.2.2.2.2.2.1 s0.2.2.2.2.2.2.2.2.2.2.1 s0.2.2.2.2.2.2.2.2.2.2.2.1 s0.2.2.2.2.2.2.2.2.2.2.2.2.1 s0.2.2.2.2.2.2.2.2.2.2.2.2.2.1 s0.2.2.2.2.2.2.2.2.2.2.2.2.2.2 := by
  have n1 : nI n - 1 = nI (n - 1) := pk_sub (b := 1) (by omega)
  have nn : ¬ nI n = 0 := nI_ne0 (by omega) (by omega)
  refine loop_0 (fun m i (s : St2) => wL_law_69 post Ls xs J44 (nI n) (nI h) (nI x5) kc ks m (nI (k + 2 * i)) (nI i) s.1 s.2.1 s.2.2.1 s.2.2.2.1 s.2.2.2.2.1 s.2.2.2.2.2.1 s.2.2.2.2.2.2.1 s.2.2.2.2.2.2.2.1 s.2.2.2.2.2.2.2.2.1 s.2.2.2.2.2.2.2.2.2.1 s.2.2.2.2.2.2.2.2.2.2.1 s.2.2.2.2.2.2.2.2.2.2.2.1 s.2.2.2.2.2.2.2.2.2.2.2.2.1 s.2.2.2.2.2.2.2.2.2.2.2.2.2.1 s.2.2.2.2.2.2.2.2.2.2.2.2.2.2) (fun _ s => ol_ld n h s) 3 s0 hs0 ?_ ?_
  · intro m s hs
    refine br_t (Int32.le_refl _) (nm_r (nI_1 (k + 2 * 3)) ?_)
    rw [n1]
    refine lz_pick Ls xs _ (k + 2 * 3) (n - 1) (by omega) hL (by omega) (by omega) (fun j hj => ?_)
    exact ol_dropCon n h h6 s hs _ (fun r u' hu' => lu_136 n h Ls xs h3 h6 hh h7 hL post J44 x5 (k + 2 * 3 + 1) (by omega) kc ks u' hu' (fun k' s' hk' hl => g k' s' (by omega) hl)) _
  · intro m i s hi hs ih
    refine br_f (nI_ge (b := 3) hi (by decide)) (lz_pick Ls xs _ (k + 2 * i) n (by omega) hL (by omega) (by omega) (fun j1 hj1 => ?_))
    rw [nI_1 (k + 2 * i), n1]
    refine lz_pick Ls xs _ (k + 2 * i + 1) (n - 1) (by omega) hL (by omega) (by omega) (fun j2 hj2 => ⟨nn, ?_⟩)
    exact ol_dropReq n h h6 h7 s hs _ (fun r u' hu' => nm_r (nI_1 i) (nm_r (nI_add (k + 2 * i) 2) (ih u' hu'))) _ _

theorem lu_44 (h3 : 3 ≤ n) (h6 : n ≤ 6) (hh : 3 ≤ h) (h7 : h ≤ 7) (hL : Ls ≤ 260) (post : Int32 → Prop) (hp1 : post 1) (kc ks : Nat) (s0 : St2) (hs0 : ol_ld n h s0) :
    ∃ m, wL_law_44 post Ls xs (nI n) (nI h) kc ks m 2 0 s0.1 s0.2.1 s0.2.2.1 s0.2.2.2.1 s0.2.2.2.2.1 s0.2.2.2.2.2.1 s0.2.2.2.2.2.2.1 s0.2.2.2.2.2.2.2.1 s0.2.2.2.2.2.2.2.2.1 s0.2.2.2.2.2.2.2.2.2.1 s0.2.2.2.2.2.2.2.2.2.2.1 s0.2.2.2.2.2.2.2.2.2.2.2.1 s0.2.2.2.2.2.2.2.2.2.2.2.2.1 s0.2.2.2.2.2.2.2.2.2.2.2.2.2.1 s0.2.2.2.2.2.2.2.2.2.2.2.2.2.2 := by
  refine loop_0 (fun m i (s : Nat × St2) => wL_law_44 post Ls xs (nI n) (nI h) kc ks m (nI s.1) (nI i) s.2.1 s.2.2.1 s.2.2.2.1 s.2.2.2.2.1 s.2.2.2.2.2.1 s.2.2.2.2.2.2.1 s.2.2.2.2.2.2.2.1 s.2.2.2.2.2.2.2.2.1 s.2.2.2.2.2.2.2.2.2.1 s.2.2.2.2.2.2.2.2.2.2.1 s.2.2.2.2.2.2.2.2.2.2.2.1 s.2.2.2.2.2.2.2.2.2.2.2.2.1 s.2.2.2.2.2.2.2.2.2.2.2.2.2.1 s.2.2.2.2.2.2.2.2.2.2.2.2.2.2.1 s.2.2.2.2.2.2.2.2.2.2.2.2.2.2.2) (fun i s => s.1 ≤ 2 + 100 * i ∧ ol_ld n h s.2) 3 (2, s0) ⟨by omega, hs0⟩ ?_ ?_
  · intro m s hs
    exact br_t (Int32.le_refl _) hp1
  · intro m i s hi hs ih
    obtain ⟨k, s⟩ := s
    obtain ⟨hk, hs⟩ := hs
    have hk' : k ≤ 2 + 100 * i := hk
    have hs' : ol_ld n h s := hs
    have gg : lu_J n h (wL_law_44 post Ls xs (nI n) (nI h) kc ks m) i (k + 60) := fun k2 s2 hk2 hl => ih (k2, s2) ⟨by show k2 ≤ _; omega, hl⟩
    have gg2 : lu_J n h (wL_law_44 post Ls xs (nI n) (nI h) kc ks m) i (k + 50) := fun k2 s2 hk2 hl => gg k2 s2 (by omega) hl
    have go : wL_law_61 post Ls xs (wL_law_44 post Ls xs (nI n) (nI h) kc ks m) (nI n) (nI h) (nI k) (nI i) kc ks s.1 s.2.1 s.2.2.1 s.2.2.2.1 s.2.2.2.2.1 s.2.2.2.2.2.1 s.2.2.2.2.2.2.1 s.2.2.2.2.2.2.2.1 s.2.2.2.2.2.2.2.2.1 s.2.2.2.2.2.2.2.2.2.1 s.2.2.2.2.2.2.2.2.2.2.1 s.2.2.2.2.2.2.2.2.2.2.2.1 s.2.2.2.2.2.2.2.2.2.2.2.2.1 s.2.2.2.2.2.2.2.2.2.2.2.2.2.1 s.2.2.2.2.2.2.2.2.2.2.2.2.2.2 :=
      br_c (fun _ => lu_136 n h Ls xs h3 h6 hh h7 hL post _ i k (by omega) kc ks s hs' gg2) (fun _ => lu_69 n h Ls xs h3 h6 hh h7 hL post _ i k (by omega) kc ks s hs' gg)
    exact br_f (nI_ge (b := 3) hi (by decide)) (br_c (fun _ => go) (fun _ => br_c (fun _ => hp1) (fun _ => go)))

theorem lu_clamp (c M : Nat) (h3 : 3 ≤ c) (hM : c ≤ M) (hM7 : M ≤ 7) (post : Int32 → Prop) (g : post (nI c)) : wpX_clamp post () (nI c) 3 (nI M) :=
  br_t (nI_le (a := 3) h3 (by omega)) (br_t (nI_le hM (by omega)) g)

theorem lu_23 (h3 : 3 ≤ n) (h6 : n ≤ 6) (hL : Ls ≤ 260) (post : Int32 → Prop) (hp1 : post 1) (m : Nat) (hm : 0 < m) (hm5 : m ≤ 5) : wL_law_23 post Ls xs (nI n) (nI m) 1 3 0 0 := by
  refine lz_pick Ls xs _ 1 m (by omega) hL hm (by omega) (fun j hj => ?_)
  refine nm_r (show (3 : Int32) + nI j = nI (3 + j) from nI_add 3 j) ⟨by omega, by omega, 8, 138, by omega, by omega, ?_⟩
  generalize hh : 3 + j = hz
  have g3 : 3 ≤ hz := by omega
  have g7 : hz ≤ 7 := by omega
  refine ⟨by omega, by omega, by omega, by omega, by omega, by omega, by omega, by omega, by omega, by omega, by omega, by omega, by omega, by omega, by omega, by omega, ?_⟩
  refine lu_clamp n 6 h3 h6 (by omega) _ (lu_clamp hz 7 g3 g7 (by omega) _ ?_)
  refine zj_clear n hz 0 0 0 0 0 _ _ _ _ _ _ _ _ h6 _ (fun lim act pol h1 => ?_)
  refine loop_0 (fun m i (tim : Nat → Int32) => wX_enterLoad_12 _ (nI n) (nI hz) 0 0 0 0 0 m (nI i) lim act (fun _ => 0) (fun _ => 0) pol tim (fun _ => 0) (fun _ => 0))
    (fun i tim => ∀ e, e < i → tim e = -1) n (fun _ => 0) (fun e he => absurd he (by omega)) ?_ ?_
  · intro m tim ht
    refine br_t (Int32.le_refl _) ?_
    refine lu_44 n hz Ls xs h3 h6 g3 g7 hL post hp1 _ _ (nI n, nI hz, 0, 0, 0, 0, nI 0, lim, act, (fun _ => 0), (fun _ => 0), pol, tim, (fun _ => 0), (fun _ => 0)) ?_
    have nh := gq_nI hz (by omega)
    have z0 : (0 : Int32).toInt = 0 := by decide
    refine ⟨0, 0, 0, lim, act, _, _, pol, tim, _, _, rfl, ⟨fun u v hu hv => ?_, fun u hu hu0 => ?_⟩, ⟨(h1 0 (by omega)).1, fun c hc => Or.inl (h1 c hc).1⟩, ht, Or.inl rfl, Or.inl rfl⟩
    · unfold gd_t
      rw [(h1 u hu).2.2 v hv hv]
      by_cases q : v = 0
      · rw [if_pos q, z0]; exact ⟨by omega, by omega⟩
      · rw [if_neg q, nh]; exact ⟨by omega, by omega⟩
    · unfold gd_t
      rw [(h1 u hu).2.2 0 (by omega) (by omega), if_pos rfl, z0]
      omega
  · intro m i tim hi hs ih
    have hi6 : i < 6 := by omega
    refine br_f (nI_ge hi (by omega)) ⟨xd_i1 i hi6, ?_⟩
    rw [xd_c1 i hi6]
    refine nm_e (nm_r (nI_1 i) (ih _ (fun e he => ?_)))
    by_cases q : e = i
    · rw [q, pk_us]
    · rw [pk_un q]; exact hs e (by omega)
end lu

theorem i_vc (xs : Nat → Int32) (L : Nat) (hL : L ≤ 260) : wpL_law (fun r => r = 1) L xs := by
  unfold wpL_law
  refine lz_pick L xs _ 0 4 (by omega) hL (by omega) (by omega) (fun j hj => nm_r (show (3 : Int32) + nI j = nI (3 + j) from nI_add 3 j) ?_)
  exact br_c (fun _ => lu_23 (3 + j) L xs (by omega) (by omega) hL (fun r => r = 1) rfl 3 (by omega) (by omega)) (fun _ => lu_23 (3 + j) L xs (by omega) (by omega) hL (fun r => r = 1) rfl 5 (by omega) (by omega))
