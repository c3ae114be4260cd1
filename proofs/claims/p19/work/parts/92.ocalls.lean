-- the calls on the program alone
section zf
variable (n h t : Nat) (ij wa f ph : Int32) (lim act sh lg pol tim b w : Nat → Int32)

theorem zf_ti (post : St2 → Prop) (u v : Nat) (most : Int32) (hu : u < 6) (hv : v < 6)
    (h1 : lim (u * 6 + v) ≤ most → post (nI n, nI h, ij, wa, f, ph, nI t, lim, act, sh, lg, pol, tim, b, w))
    (h2 : ¬ lim (u * 6 + v) ≤ most → post (nI n, nI h, ij, wa, f, ph, nI t, upd lim (u * 6 + v) most, act, sh, lg, pol, tim, b, w)) :
    wpX_tighten post (nI n, nI h, ij, wa, f, ph, nI t, lim, act, sh, lg, pol, tim, b, w) (nI u) (nI v) most := by
  have hi := xd_in u v hu hv
  have hc := xd_cl u v hu hv
  unfold wpX_tighten
  dsimp only
  rw [hc]
  exact ⟨hi, h1, fun hn => ⟨hi, fun a ea => by rw [ea]; exact h2 hn⟩⟩

theorem zf_lo (post : St2 → Prop) (u v : Nat) (hu : u < 6) (hv : v < 6)
    (g : post (nI n, nI h, ij, wa, f, ph, nI t, upd lim (u * 6 + v) (if v = 0 then 0 else nI h), act, sh, lg, pol, tim, b, w)) :
    wpX_loosen post (nI n, nI h, ij, wa, f, ph, nI t, lim, act, sh, lg, pol, tim, b, w) (nI u) (nI v) := by
  have hi := xd_in u v hu hv
  have hc := xd_cl u v hu hv
  unfold wpX_loosen
  dsimp only
  rw [hc]
  refine br_c (fun q => ⟨hi, nm_e ?_⟩) (fun q => ⟨hi, nm_e ?_⟩)
  · have e : v = 0 := (nI_eq (b := 0) (by omega) (by omega)).1 q
    rw [if_pos e] at g
    exact g
  · have e : ¬ v = 0 := fun z => q (by rw [z]; rfl)
    rw [if_neg e] at g
    exact g
end zf

section zg
variable (n h t : Nat) (ij wa f ph : Int32) (lim act sh lg pol tim b w : Nat → Int32)

theorem zg_dep (hn : n ≤ 6) (hn0 : 0 < n) (h0 : gq_ct act 0 = false)
    (hA : ∀ k, k < n → gq_ct act k = true → act k = nI (gq_ac act k) ∧ gq_ac act k < n)
    (post : Int32 → Prop) (a c : Nat) (ha : a < n) (hc : c < n)
    (h1 : (∃ m, gw_at (gq_ct act) (gq_ac act) a m = c) → post 1) (hz : (∀ m, gw_at (gq_ct act) (gq_ac act) a m ≠ c) → post 0) :
    wpX_dependsOn post (nI n, nI h, ij, wa, f, ph, nI t, lim, act, sh, lg, pol, tim, b, w) (nI a) (nI c) := by
  have hac : ∀ c, c < n → gq_ct act c = true → gq_ac act c < n := fun c hc hcc => (hA c hc hcc).2
  have hlt := gw_lt n (gq_ct act) (gq_ac act) hac a ha
  refine loop_0 (fun m i (_ : Unit) => wX_dependsOn_5 post (nI c) (nI n) (nI h) ij wa f ph (nI t) lim act sh lg pol tim b w m (nI (gw_at (gq_ct act) (gq_ac act) a i)) (nI i))
    (fun i _ => ∀ k, k < i → gw_at (gq_ct act) (gq_ac act) a k ≠ c ∧ gq_ct act (gw_at (gq_ct act) (gq_ac act) a k) = true) n () (fun k hk => absurd hk (by omega)) ?_ ?_
  · intro m _ hs
    refine br_t (Int32.le_refl _) (hz (fun m => ?_))
    obtain ⟨k, hk, e⟩ := gw_round n (gq_ct act) (gq_ac act) hac hn0 h0 a ha (fun k hk => (hs k hk).2) m
    rw [e]; exact (hs k hk).1
  · intro m i _ hi hs ih
    have hx := hlt i
    have hx6 : gw_at (gq_ct act) (gq_ac act) a i < 6 := by omega
    refine br_f (nI_ge hi (by omega)) (br_c (fun q => h1 ⟨i, (nI_eq (by omega) (by omega)).1 q⟩) (fun q => ?_))
    have hne : gw_at (gq_ct act) (gq_ac act) a i ≠ c := fun z => q (by rw [z])
    refine xr_ct n h ij wa f ph (nI t) lim act sh lg pol tim b w _ _ hx6 (fun z => br_t rfl (hz (fun m => ?_))) (fun z => br_f (by decide) ⟨xd_i1 _ hx6, ?_⟩)
    · by_cases hm : m < i
      · exact (hs m hm).1
      · obtain ⟨d, hd⟩ : ∃ d, m = i + d := ⟨m - i, by omega⟩
        rw [hd, gw_root (gq_ct act) (gq_ac act) a i z d]; exact hne
    · rw [xd_c1 _ hx6, (hA _ hx z).1]
      have en : nI (gq_ac act (gw_at (gq_ct act) (gq_ac act) a i)) = nI (gw_at (gq_ct act) (gq_ac act) a (i + 1)) := by
        show _ = nI (gw_next (gq_ct act) (gq_ac act) (gw_at (gq_ct act) (gq_ac act) a i))
        unfold gw_next
        rw [if_pos z]
      refine nm_r en (nm_r (nI_1 i) (ih () (fun k hk => ?_)))
      by_cases e : k = i
      · rw [e]; exact ⟨hne, z⟩
      · exact hs k (by omega)

end zg
section zh
variable (n h t : Nat) (ij wa f ph : Int32) (lim act sh lg pol tim b w : Nat → Int32)

theorem zh_enter (hn : n ≤ 6) (post : St2 → Prop) (g : ∀ tim', (∀ e, e < n → tim' e = -1) → post (nI n, nI h, ij, wa, f, 0, 0, lim, act, sh, lg, pol, tim', b, w)) :
    wpX_enterLoad post (nI n, nI h, ij, wa, f, ph, nI t, lim, act, sh, lg, pol, tim, b, w) := by
  refine loop_0 (fun m i (tim : Nat → Int32) => wX_enterLoad_12 post (nI n) (nI h) ij wa f 0 0 m (nI i) lim act sh lg pol tim b w) (fun i tim => ∀ e, e < i → tim e = -1) n tim
    (fun e he => absurd he (by omega)) ?_ ?_
  · intro m tim hs
    exact br_t (Int32.le_refl _) (g tim hs)
  · intro m i tim hi hs ih
    have hi6 : i < 6 := by omega
    refine br_f (nI_ge hi (by omega)) ⟨xd_i1 i hi6, ?_⟩
    rw [xd_c1 i hi6]
    refine nm_e (nm_r (nI_1 i) (ih _ (fun e he => ?_)))
    by_cases q : e = i
    · rw [q, pk_us]
    · rw [pk_un q]; exact hs e (by omega)

end zh

section ol
variable (n h : Nat)

def ol_lim (lim : Nat → Int32) : Prop :=
  (∀ u v, u < n → v < n → -(h : Int) ≤ gd_t lim u v ∧ gd_t lim u v ≤ (h : Int)) ∧ (∀ u, u < n → u ≠ 0 → gd_t lim u 0 ≤ 0)

theorem ol_lim_u (hn : n ≤ 6) (lim : Nat → Int32) (hI : ol_lim n h lim) (u v : Nat) (hv : v < n) (x : Int32)
    (hx : -(h : Int) ≤ x.toInt ∧ x.toInt ≤ (h : Int)) (h0 : v = 0 → x.toInt ≤ 0) : ol_lim n h (upd lim (u * 6 + v) x) := by
  obtain ⟨i2, i3⟩ := hI
  refine ⟨fun a c ha hc => ?_, fun a ha ha0 => ?_⟩
  · rcases gd_cell lim u v a c x (by omega) (by omega) with ⟨_, _, e3⟩ | ⟨_, e3⟩
    · rw [e3]; exact hx
    · rw [e3]; exact i2 a c ha hc
  · rcases gd_cell lim u v a 0 x (by omega) (by omega) with ⟨_, e2, e3⟩ | ⟨_, e3⟩
    · rw [e3]; exact h0 e2.symm
    · rw [e3]; exact i3 a ha ha0

def ol_lk (act sh lg : Nat → Int32) : Prop :=
  act 0 = -1 ∧ (∀ c, c < n → act c = -1 ∨ ∃ a, a < n ∧ a ≠ c ∧ act c = nI a ∧ 1 ≤ (sh c).toInt ∧ (sh c).toInt ≤ (lg c).toInt ∧ (lg c).toInt ≤ (h : Int))

theorem ol_net (h3 : 3 ≤ n) (h6 : n ≤ 6) (h7 : h ≤ 7) (lim act sh lg : Nat → Int32) (hL : ol_lim n h lim) (hK : ol_lk n h act sh lg) :
    gm_net n h (gd_t lim) (gq_ct act) (gq_ac act) (gq_i sh) (gq_i lg) := by
  refine ⟨by omega, h6, h7, gq_ct_n act 0 hK.1, hL.2, fun u v hu hv => (hL.1 u v hu hv).2, fun c hc hcc => ?_⟩
  rcases hK.2 c hc with q | ⟨a, q1, q2, q3, q4, q5, q6⟩
  · exact absurd q (gq_ct_t act c hcc)
  · have e : gq_ac act c = a := by
      unfold gq_ac
      rw [q3]
      exact nI_clamp (by omega)
    rw [e]
    exact ⟨q1, q2, q4, q5, q6⟩

/-- LOAD -/
def ol_ld (u : St2) : Prop :=
  ∃ (ij wa f : Int32) (lim act sh lg pol tim b w : Nat → Int32), u = (nI n, nI h, ij, wa, f, 0, nI 0, lim, act, sh, lg, pol, tim, b, w) ∧ ol_lim n h lim ∧ ol_lk n h act sh lg ∧
    (∀ e, e < n → tim e = -1) ∧ (wa = 0 ∨ wa = 1) ∧ (ij = 0 ∨ (ij = 1 ∧ gv_jud n h (gd_t lim) (gq_ct act) (gq_ac act) (gq_i sh) (gq_i lg) wa b w))

theorem ol_addReq (h3 : 3 ≤ n) (h6 : n ≤ 6) (hh : 3 ≤ h) (h7 : h ≤ 7) (u : St2) (I : ol_ld n h u) (post : Int32 → St2 → Prop) (g : ∀ r u', ol_ld n h u' → post r u')
    (v1 v2 v3 v4 : Int32) : wpX_addRequirement post u v1 v2 v3 v4 := by
  have I0 := I
  obtain ⟨ij, wa, f, lim, act, sh, lg, pol, tim, b, w, rfl, hL, hK, hT, hw, hJ⟩ := I
  unfold wpX_addRequirement
  dsimp only
  refine br_t rfl ?_
  by_cases q : ∃ i j, i < n ∧ j < n ∧ i ≠ j ∧ v1 = nI i ∧ v2 = nI j
  · obtain ⟨i, j, hi, hj, hij, e1, e2⟩ := q
    subst e1
    subst e2
    have hi6 : i < 6 := by omega
    have hj6 : j < 6 := by omega
    refine xr_pr1 n h ij wa f 0 (nI 0) lim act sh lg pol tim b w _ i j h6 hi hj hij (br_f (by decide) ?_)
    refine br_c (fun c1 => g _ _ I0) (fun c1 => br_c (fun c2 => g _ _ I0) (fun c2 => br_c (fun c3 => ?_) (fun c3 => g _ _ I0)))
    have nh := gq_nI h (by omega)
    have d1 : ¬ v3.toInt < -(h : Int) := by
      intro z
      refine c1 ((gn_lt _ _).2 ?_)
      rw [gn_neg _ ⟨by omega, by omega⟩, nh]; exact z
    have d2 : ¬ v4.toInt < v3.toInt := fun z => c2 ((gn_lt _ _).2 z)
    have d3 : v4.toInt ≤ (h : Int) := by
      have z := (gn_le _ _).1 c3
      rw [nh] at z
      exact z
    have d4 : (-v3).toInt = -v3.toInt := gn_neg _ ⟨by omega, by omega⟩
    have fin : ∀ lim2 : Nat → Int32, ol_lim n h lim2 → ol_ld n h (nI n, nI h, 0, wa, f, 0, nI 0, lim2, act, sh, lg, pol, tim, b, w) := fun lim2 hl =>
      ⟨0, wa, f, lim2, act, sh, lg, pol, tim, b, w, rfl, hl, hK, hT, hw, Or.inl rfl⟩
    have up1 : ¬ lim (i * 6 + j) ≤ v4 → ol_lim n h (upd lim (i * 6 + j) v4) := fun c =>
      ol_lim_u n h h6 lim hL i j hj v4 ⟨by omega, d3⟩ (fun z => by
        have y := (gn_lt _ _).1 (Int32.not_le.1 c)
        have y2 := hL.2 i hi (by omega)
        unfold gd_t at y2
        rw [z] at y
        omega)
    have up2 : ∀ lim1, ol_lim n h lim1 → ¬ lim1 (j * 6 + i) ≤ -v3 → ol_lim n h (upd lim1 (j * 6 + i) (-v3)) := fun lim1 hl c =>
      ol_lim_u n h h6 lim1 hl j i hi (-v3) ⟨by omega, by omega⟩ (fun z => by
        have y := (gn_lt _ _).1 (Int32.not_le.1 c)
        have y2 := hl.2 j hj (by omega)
        unfold gd_t at y2
        rw [z] at y
        omega)
    exact zf_ti n h 0 ij wa f 0 lim act sh lg pol tim b w _ i j v4 hi6 hj6
      (fun c => zf_ti n h 0 ij wa f 0 lim act sh lg pol tim b w _ j i (-v3) hj6 hi6 (fun _ => g _ _ (fin lim hL)) (fun c' => g _ _ (fin _ (up2 lim hL c'))))
      (fun c => zf_ti n h 0 ij wa f 0 _ act sh lg pol tim b w _ j i (-v3) hj6 hi6 (fun _ => g _ _ (fin _ (up1 c))) (fun c' => g _ _ (fin _ (up2 _ (up1 c) c'))))
  · exact xr_pr0 n h ij wa f 0 (nI 0) lim act sh lg pol tim b w _ v1 v2 h6 q (br_t rfl (g _ _ I0))

theorem ol_dropReq (h6 : n ≤ 6) (h7 : h ≤ 7) (u : St2) (I : ol_ld n h u) (post : Int32 → St2 → Prop) (g : ∀ r u', ol_ld n h u' → post r u')
    (v1 v2 : Int32) : wpX_dropRequirement post u v1 v2 := by
  have I0 := I
  obtain ⟨ij, wa, f, lim, act, sh, lg, pol, tim, b, w, rfl, hL, hK, hT, hw, hJ⟩ := I
  unfold wpX_dropRequirement
  dsimp only
  refine br_t rfl ?_
  by_cases q : ∃ i j, i < n ∧ j < n ∧ i ≠ j ∧ v1 = nI i ∧ v2 = nI j
  · obtain ⟨i, j, hi, hj, hij, e1, e2⟩ := q
    subst e1
    subst e2
    have hi6 : i < 6 := by omega
    have hj6 : j < 6 := by omega
    have nh := gq_nI h (by omega)
    have val : ∀ x : Nat, (-(h : Int) ≤ (if x = 0 then (0 : Int32) else nI h).toInt ∧ (if x = 0 then (0 : Int32) else nI h).toInt ≤ (h : Int)) ∧
        (x = 0 → (if x = 0 then (0 : Int32) else nI h).toInt ≤ 0) := by
      intro x
      have z0 : (0 : Int32).toInt = 0 := by decide
      by_cases z : x = 0
      · rw [if_pos z, z0]; exact ⟨⟨by omega, by omega⟩, fun _ => by omega⟩
      · rw [if_neg z, nh]; exact ⟨⟨by omega, by omega⟩, fun y => absurd y z⟩
    have hl1 := ol_lim_u n h h6 lim hL i j hj _ (val j).1 (val j).2
    have hl2 := ol_lim_u n h h6 _ hl1 j i hi _ (val i).1 (val i).2
    refine xr_pr1 n h ij wa f 0 (nI 0) lim act sh lg pol tim b w _ i j h6 hi hj hij (br_f (by decide) ?_)
    refine zf_lo n h 0 ij wa f 0 lim act sh lg pol tim b w _ i j hi6 hj6 ?_
    refine zf_lo n h 0 ij wa f 0 _ act sh lg pol tim b w _ j i hj6 hi6 (g _ _ ?_)
    exact ⟨0, wa, f, _, act, sh, lg, pol, tim, b, w, rfl, hl2, hK, hT, hw, Or.inl rfl⟩
  · exact xr_pr0 n h ij wa f 0 (nI 0) lim act sh lg pol tim b w _ v1 v2 h6 q (br_t rfl (g _ _ I0))

theorem ol_dropCon (h6 : n ≤ 6) (u : St2) (I : ol_ld n h u) (post : Int32 → St2 → Prop) (g : ∀ r u', ol_ld n h u' → post r u')
    (v1 : Int32) : wpX_dropContingent post u v1 := by
  have I0 := I
  obtain ⟨ij, wa, f, lim, act, sh, lg, pol, tim, b, w, rfl, hL, hK, hT, hw, hJ⟩ := I
  unfold wpX_dropContingent
  dsimp only
  refine br_t rfl ?_
  by_cases q : ∃ j, 1 ≤ j ∧ j < n ∧ v1 = nI j
  · obtain ⟨j, h1, hj, e⟩ := q
    subst e
    have hj6 : j < 6 := by omega
    refine xr_lt1 n h ij wa f 0 (nI 0) lim act sh lg pol tim b w _ j h6 h1 hj (br_f (by decide) (xr_ct n h ij wa f 0 (nI 0) lim act sh lg pol tim b w _ j hj6 (fun z => br_t rfl (g _ _ I0)) (fun z => br_f (by decide) ⟨xd_i1 j hj6, ?_⟩)))
    rw [xd_c1 j hj6]
    refine nm_e (g _ _ ⟨0, wa, f, lim, upd act j (-1), sh, lg, pol, tim, b, w, rfl, hL, ⟨by rw [pk_un (by omega)]; exact hK.1, fun c hc => ?_⟩, hT, hw, Or.inl rfl⟩)
    by_cases y : c = j
    · rw [y, pk_us]; exact Or.inl rfl
    · rw [pk_un y]; exact hK.2 c hc
  · exact xr_lt0 n h ij wa f 0 (nI 0) lim act sh lg pol tim b w _ v1 h6 q (br_t rfl (g _ _ I0))

theorem ol_addCon (h3 : 3 ≤ n) (h6 : n ≤ 6) (h7 : h ≤ 7) (u : St2) (I : ol_ld n h u) (post : Int32 → St2 → Prop) (g : ∀ r u', ol_ld n h u' → post r u')
    (v1 v2 v3 v4 : Int32) : wpX_addContingent post u v1 v2 v3 v4 := by
  have I0 := I
  obtain ⟨ij, wa, f, lim, act, sh, lg, pol, tim, b, w, rfl, hL, hK, hT, hw, hJ⟩ := I
  have hA := gq_link n h act sh lg h6 hK.2
  unfold wpX_addContingent
  dsimp only
  refine br_t rfl ?_
  by_cases q : ∃ i j, i < n ∧ j < n ∧ i ≠ j ∧ v1 = nI i ∧ v2 = nI j
  · obtain ⟨i, j, hi, hj, hij, e1, e2⟩ := q
    subst e1
    subst e2
    have hi6 : i < 6 := by omega
    have hj6 : j < 6 := by omega
    refine xr_pr1 n h ij wa f 0 (nI 0) lim act sh lg pol tim b w _ i j h6 hi hj hij (br_f (by decide) ?_)
    refine br_c (fun _ => g _ _ I0) (fun c0 => br_c (fun _ => g _ _ I0) (fun c1 => br_c (fun _ => g _ _ I0) (fun c2 => br_c (fun c3 => ?_) (fun _ => g _ _ I0))))
    have hj0 : j ≠ 0 := fun z => c0 (by rw [z]; rfl)
    have nh := gq_nI h (by omega)
    have one : (1 : Int32).toInt = 1 := by decide
    have d1 : 1 ≤ v3.toInt := by
      have z := (gn_le _ _).1 (Int32.not_lt.1 c1)
      rw [one] at z
      exact z
    have d2 : v3.toInt ≤ v4.toInt := (gn_le _ _).1 (Int32.not_lt.1 c2)
    have d3 : v4.toInt ≤ (h : Int) := by
      have z := (gn_le _ _).1 c3
      rw [nh] at z
      exact z
    refine xr_ct n h ij wa f 0 (nI 0) lim act sh lg pol tim b w _ j hj6 (fun z => br_t rfl ?_) (fun z => br_f (by decide) (g _ _ I0))
    refine zg_dep n h 0 ij wa f 0 lim act sh lg pol tim b w h6 (by omega) (gq_ct_n act 0 hK.1) hA _ i j hi hj (fun _ => br_f (by decide) (g _ _ I0)) (fun _ => br_t rfl ⟨xd_i1 j hj6, ?_⟩)
    rw [xd_c1 j hj6]
    refine nm_e ⟨xd_i1 j hj6, nm_e ⟨xd_i1 j hj6, nm_e (g _ _ ?_)⟩⟩
    refine ⟨0, wa, f, lim, upd act j (nI i), upd sh j v3, upd lg j v4, pol, tim, b, w, rfl, hL, ⟨by rw [pk_un (by omega)]; exact hK.1, fun c hc => ?_⟩, hT, hw, Or.inl rfl⟩
    by_cases y : c = j
    · rw [y, pk_us, pk_us, pk_us]; exact Or.inr ⟨i, hi, hij, rfl, d1, d2, d3⟩
    · rw [pk_un y, pk_un y, pk_un y]; exact hK.2 c hc
  · exact xr_pr0 n h ij wa f 0 (nI 0) lim act sh lg pol tim b w _ v1 v2 h6 q (br_t rfl (g _ _ I0))
end ol

section om
variable (n h t : Nat) (ij wa f ph : Int32) (lim act sh lg pol tim b w : Nat → Int32)

theorem om_time (h6 : n ≤ 6) (post : Int32 → Prop) (e : Nat) (he : e < n) (g0 : tim e = -1 → post 100) (g1 : ¬ tim e = -1 → post (tim e)) :
    wpX_timeOf post (nI n, nI h, ij, wa, f, ph, nI t, lim, act, sh, lg, pol, tim, b, w) (nI e) := by
  have he6 : e < 6 := by omega
  unfold wpX_timeOf
  dsimp only
  refine xr_ev1 n h ij wa f ph (nI t) lim act sh lg pol tim b w _ e h6 he (br_f (by decide) ⟨xd_i1 e he6, ?_⟩)
  rw [xd_c1 e he6]
  exact br_c g0 (fun z => ⟨xd_i1 e he6, g1 z⟩)

theorem om_lim (h6 : n ≤ 6) (post : Int32 → Prop) (u v : Nat) (hu : u < n) (hv : v < n) (huv : u ≠ v) (g : post (lim (u * 6 + v))) :
    wpX_limit post (nI n, nI h, ij, wa, f, ph, nI t, lim, act, sh, lg, pol, tim, b, w) (nI u) (nI v) := by
  unfold wpX_limit
  dsimp only
  refine xr_pr1 n h ij wa f ph (nI t) lim act sh lg pol tim b w _ u v h6 hu hv huv (br_f (by decide) ⟨xd_in u v (by omega) (by omega), ?_⟩)
  rw [xd_cl u v (by omega) (by omega)]
  exact g

theorem om_link (h6 : n ≤ 6) (post : Int32 → Prop) (e k : Nat) (he1 : 1 ≤ e) (he : e < n) (hk : k < 3)
    (g0 : gq_ct act e = false → post 100) (g1 : gq_ct act e = true → post (if k = 0 then act e else if k = 1 then sh e else lg e)) :
    wpX_linkOf post (nI n, nI h, ij, wa, f, ph, nI t, lim, act, sh, lg, pol, tim, b, w) (nI e) (nI k) := by
  have he6 : e < 6 := by omega
  unfold wpX_linkOf
  dsimp only
  have l0 : ¬ nI k < 0 := nI_pos (by omega)
  have l2 : nI k ≤ 2 := nI_le (b := 2) (by omega) (by omega)
  refine xr_lt1 n h ij wa f ph (nI t) lim act sh lg pol tim b w _ e h6 he1 he (br_f (by decide) (br_f l0 (br_t l2 (xr_ct n h ij wa f ph (nI t) lim act sh lg pol tim b w _ e he6 (fun z => br_t rfl (g0 z)) (fun z => br_f (by decide) ?_)))))
  have gg := g1 z
  refine br_c (fun q => ⟨xd_i1 e he6, ?_⟩) (fun q => br_c (fun q2 => ⟨xd_i1 e he6, ?_⟩) (fun q2 => ⟨xd_i1 e he6, ?_⟩))
  · have k0 : k = 0 := (nI_eq (b := 0) (by omega) (by omega)).1 q
    rw [xd_c1 e he6]
    rw [if_pos k0] at gg
    exact gg
  · have k0 : ¬ k = 0 := fun y => q (by rw [y]; rfl)
    have k1 : k = 1 := (nI_eq (b := 1) (by omega) (by omega)).1 q2
    rw [xd_c1 e he6]
    rw [if_neg k0, if_pos k1] at gg
    exact gg
  · have k0 : ¬ k = 0 := fun y => q (by rw [y]; rfl)
    have k1 : ¬ k = 1 := fun y => q2 (by rw [y]; rfl)
    rw [xd_c1 e he6]
    rw [if_neg k0, if_neg k1] at gg
    exact gg

theorem om_pol (h6 : n ≤ 6) (post : Int32 → St2 → Prop) (e : Nat) (he1 : 1 ≤ e) (he : e < n) (p1 : Int32) (g : ∀ r pol', post r (nI n, nI h, ij, wa, f, ph, nI t, lim, act, sh, lg, pol', tim, b, w)) :
    wpX_setPolicy post (nI n, nI h, ij, wa, f, ph, nI t, lim, act, sh, lg, pol, tim, b, w) (nI e) p1 := by
  have he6 : e < 6 := by omega
  unfold wpX_setPolicy
  dsimp only
  refine xr_lt1 n h ij wa f ph (nI t) lim act sh lg pol tim b w _ e h6 he1 he (br_f (by decide) (br_c (fun _ => ⟨xd_i1 e he6, nm_e (g _ _)⟩) (fun _ => br_c (fun _ => ⟨xd_i1 e he6, nm_e (g _ _)⟩) (fun _ => g _ _))))

theorem om_rev (h6 : n ≤ 6) (h7 : h ≤ 7) (ht : t ≤ h) (hN : gm_net n h (gd_t lim) (gq_ct act) (gq_ac act) (gq_i sh) (gq_i lg))
    (hA : ∀ k, k < n → gq_ct act k = true → act k = nI (gq_ac act k) ∧ gq_ac act k < n) (htr : ox_tr n h tim) (T : Nat → Int) (hg : gr_at n h (gd_t lim) (gq_ct act) (gq_ac act) (gq_i sh) (gq_i lg) t T (gq_p tim))
    (post : Int32 → St2 → Prop) (e : Nat) (he1 : 1 ≤ e) (he : e < n)
    (g : ∀ r tim', ox_tr n h tim' → gr_at n h (gd_t lim) (gq_ct act) (gq_ac act) (gq_i sh) (gq_i lg) t T (gq_p tim') → post r (nI n, nI h, ij, wa, f, 1, nI t, lim, act, sh, lg, pol, tim', b, w)) : wpX_reveal post (nI n, nI h, ij, wa, f, 1, nI t, lim, act, sh, lg, pol, tim, b, w) (nI e) := by
  have he6 : e < 6 := by omega
  have g0 := fun r => g r tim htr hg
  unfold wpX_reveal
  dsimp only
  refine br_t rfl (xr_lt1 n h ij wa f 1 (nI t) lim act sh lg pol tim b w _ e h6 he1 he (br_f (by decide) (xr_ct n h ij wa f 1 (nI t) lim act sh lg pol tim b w _ e he6 (fun z => br_t rfl (g0 _)) (fun z => br_f (by decide) ?_))))
  obtain ⟨c1, c2⟩ := hA e he z
  have c6 : gq_ac act e < 6 := by omega
  refine xr_run n h ij wa f 1 (nI t) lim act sh lg pol tim b w _ e he6 c1 c6 (fun q1 q2 => br_f (by decide) (xr_ela n h ij wa f 1 (nI t) lim act sh lg pol tim b w _ e he6 c1 c6 ⟨xd_i1 e he6, ?_⟩)) (fun _ => br_t rfl (g0 _))
  rw [xd_c1 e he6]
  rcases htr _ c2 with r | ⟨τ, hτ, r⟩
  · exact absurd r q2
  · refine br_c (fun q3 => ⟨xd_i1 e he6, nm_e (g _ _ (ox_tr_u n h tim htr e t ht) ?_)⟩) (fun _ => g0 _)
    have pa := gq_p_t tim _ τ (by omega) r
    rw [ox_p_u tim e t (by omega)]
    refine gr_rev n h (gd_t lim) (gq_ct act) (gq_ac act) (gq_i sh) (gq_i lg) hN t T (gq_p tim) hg e he z (gq_p_n tim e q1) (by rw [pa]; omega) ?_
    have es : (nI t - nI τ).toInt = (t : Int) - (τ : Int) := pk_sub_toInt (by omega) (by omega)
    rw [r] at q3
    have y6 := (gn_le _ _).1 q3
    rw [es] at y6
    rw [pa]
    exact y6

theorem om_ver (h3 : 3 ≤ n) (h6 : n ≤ 6) (h7 : h ≤ 7) (hL : ol_lim n h lim) (hK : ol_lk n h act sh lg) (hw : wa = 0 ∨ wa = 1) (hJ : ij = 0 ∨ (ij = 1 ∧ gv_jud n h (gd_t lim) (gq_ct act) (gq_ac act) (gq_i sh) (gq_i lg) wa b w))
    (post : Int32 → St2 → Prop) (g : ∀ r f b w, (r = 0 ∨ r = 1) → gv_jud n h (gd_t lim) (gq_ct act) (gq_ac act) (gq_i sh) (gq_i lg) r b w → post r (nI n, nI h, 1, r, f, 0, nI t, lim, act, sh, lg, pol, tim, b, w)) : wpX_verdict post (nI n, nI h, ij, wa, f, 0, nI t, lim, act, sh, lg, pol, tim, b, w) := by
  have hN := ol_net n h h3 h6 h7 lim act sh lg hL hK
  have hA := gq_link n h act sh lg h6 hK.2
  unfold wpX_verdict
  dsimp only
  refine br_t rfl (xe_acc n h ij wa 0 (nI t) lim act sh lg pol tim h6 hN.1 hN (fun u v hu hv => by have := (hL.1 u v hu hv).1; omega) _ hA f b w hw hJ (fun r f b w hr hj => ?_))
  have y := g r f b w hr hj
  rcases hr with e | e
  · rw [e] at y ⊢
    exact br_t rfl y
  · rw [e] at y ⊢
    exact br_f (by decide) y

theorem om_start (h3 : 3 ≤ n) (h6 : n ≤ 6) (h7 : h ≤ 7) (hL : ol_lim n h lim) (hK : ol_lk n h act sh lg) (hw : wa = 0 ∨ wa = 1) (hJ : ij = 0 ∨ (ij = 1 ∧ gv_jud n h (gd_t lim) (gq_ct act) (gq_ac act) (gq_i sh) (gq_i lg) wa b w))
    (post : Int32 → St2 → Prop)
    (g1 : ∀ f b w, gv_jud n h (gd_t lim) (gq_ct act) (gq_ac act) (gq_i sh) (gq_i lg) 1 b w → post 0 (nI n, nI h, 1, 1, f, 1, nI t, lim, act, sh, lg, pol, upd tim 0 (nI 0), b, w))
    (g0 : ∀ f b w, gv_jud n h (gd_t lim) (gq_ct act) (gq_ac act) (gq_i sh) (gq_i lg) 0 b w → post 105 (nI n, nI h, 1, 0, f, 0, nI t, lim, act, sh, lg, pol, tim, b, w)) : wpX_start post (nI n, nI h, ij, wa, f, 0, nI t, lim, act, sh, lg, pol, tim, b, w) := by
  have hN := ol_net n h h3 h6 h7 lim act sh lg hL hK
  have hA := gq_link n h act sh lg h6 hK.2
  unfold wpX_start
  dsimp only
  refine br_t rfl (xe_acc n h ij wa 0 (nI t) lim act sh lg pol tim h6 hN.1 hN (fun u v hu hv => by have := (hL.1 u v hu hv).1; omega) _ hA f b w hw hJ (fun r f b w hr hj => ?_))
  rcases hr with e | e
  · rw [e] at hj ⊢
    exact br_t rfl (g0 f b w hj)
  · rw [e] at hj ⊢
    exact br_f (by decide) (nm_e (g1 f b w hj))
end om
