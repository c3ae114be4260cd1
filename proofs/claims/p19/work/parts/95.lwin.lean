-- the law's own search: its looks
section lw
variable (n h : Nat) (L : Nat → Nat → Int) (ct : Nat → Bool) (ac : Nat → Nat) (lo hi : Nat → Int) (B : Nat)

/-- times as the law packs them: 15 for none -/
def lw_T (p : Nat → Int) (N : Nat) (x : Nat → Nat) : Prop :=
  lb4_P N x ∧ N < 2 ^ 24 ∧ (∀ e, n ≤ e → x e = 0) ∧ ∀ e, e < n → (p e = 100 ∧ x e = 15) ∨ (0 ≤ p e ∧ p e ≤ 7 ∧ (x e : Int) = p e)

/-- links as the law packs them -/
def lw_K (N : Nat) (y : Nat → Nat) : Prop :=
  lb3_P N y ∧ N < 2 ^ 62 ∧ (∀ i, y i < 8) ∧ (∀ e, e < n → (ct e = false → y (3 * e) = 7) ∧
    (ct e = true → y (3 * e) = ac e ∧ (y (3 * e + 1) : Int) = lo e ∧ (y (3 * e + 2) : Int) = hi e))

/-- limits as the law packs them -/
def lw_L (N0 N1 : Nat) (z : Nat → Nat) : Prop :=
  lb4_P N0 (fun i => if i < 15 then z i else 0) ∧ lb4_P N1 (fun i => if i < 15 then z (i + 15) else 0) ∧ (∀ i, z i < 16) ∧
  ∀ u v, u < n → v < n → u ≠ v → (z (lc_ix u v) : Int) = L u v + 7

theorem lw_lt16 (p : Nat → Int) (N : Nat) (x : Nat → Nat) (hT : lw_T n p N x) (e : Nat) : x e < 16 := by
  obtain ⟨_, _, h3, h4⟩ := hT
  by_cases he : e < n
  · rcases h4 e he with ⟨_, b⟩ | ⟨a, b, c⟩ <;> omega
  · rw [h3 e (by omega)]; omega

theorem lw_15 (p : Nat → Int) (N : Nat) (x : Nat → Nat) (hT : lw_T n p N x) (e : Nat) (he : e < n) : nI (x e) = 15 ↔ p e = 100 := by
  have l16 := lw_lt16 n p N x hT e
  have e15 : (15 : Int32) = nI 15 := by decide
  rw [e15, nI_eq (by omega) (by omega)]
  rcases hT.2.2.2 e he with ⟨a, b⟩ | ⟨a, b, c⟩
  · exact ⟨fun _ => a, fun _ => b⟩
  · constructor
    · intro z; omega
    · intro z; omega

/-- a time put in, or taken away -/
theorem lw_set (hn : n ≤ 6) (p : Nat → Int) (N : Nat) (x : Nat → Nat) (hT : lw_T n p N x) (e t : Nat) (he : e < n) (ht : t ≤ 7) (hp : p e = 100) :
    ∃ N' x', lw_T n (gm_set p e (t : Int)) N' x' ∧ nI N ^^^ ((15 ^^^ nI t) <<< ((4 * nI e) &&& 31)) = nI N' := by
  obtain ⟨h1, h2, h3, h4⟩ := hT
  have xe : x e = 15 := by
    rcases h4 e he with ⟨_, b⟩ | ⟨a, b, c⟩
    · exact b
    · omega
  have ht16 : 15 ^^^ t < 16 := by
    have : ∀ t, t ≤ 7 → 15 ^^^ t < 16 := by decide
    exact this t ht
  have hxt : 15 ^^^ (15 ^^^ t) = t := by
    have : ∀ t, t ≤ 7 → 15 ^^^ (15 ^^^ t) = t := by decide
    exact this t ht
  have P := lb4_xor N x h1 e (15 ^^^ t) ht16
  have hx' : ∀ k, (fun k => if k = e then x k ^^^ (15 ^^^ t) else x k) k = (if k = e then t else x k) := by
    intro k
    show (if k = e then x k ^^^ (15 ^^^ t) else x k) = (if k = e then t else x k)
    by_cases q : k = e
    · rw [if_pos q, if_pos q, q, xe, hxt]
    · rw [if_neg q, if_neg q]
  have P' := lb4_c _ _ _ P hx'
  have hz : ∀ k, n ≤ k → (if k = e then t else x k) = 0 := by
    intro k hk
    rw [if_neg (by omega)]; exact h3 k hk
  have hlt := lb4_lt _ _ P' n hz
  have hle : 2 ^ (4 * n) ≤ 2 ^ 24 := Nat.pow_le_pow_right (by decide) (by omega)
  refine ⟨_, _, ⟨P', Nat.lt_of_lt_of_le hlt hle, hz, fun k hk => ?_⟩, ?_⟩
  · by_cases q : k = e
    · rw [q, gm_set_s, if_pos rfl]; exact Or.inr ⟨by omega, by omega, rfl⟩
    · rw [gm_set_n _ _ _ _ q, if_neg q]; exact h4 k hk
  · have e15 : (15 : Int32) = nI 15 := by decide
    rw [e15, nx_xor, lc_shl (15 ^^^ t) e ht16 (by omega), nx_xor]

theorem lw_uns (hn : n ≤ 6) (p : Nat → Int) (N : Nat) (x : Nat → Nat) (hT : lw_T n p N x) (e : Nat) (he : e < n) :
    ∃ N' x', lw_T n (gm_set p e 100) N' x' ∧ nI N ||| ((15 : Int32) <<< ((4 * nI e) &&& 31)) = nI N' := by
  have l16 := lw_lt16 n p N x hT e
  obtain ⟨h1, h2, h3, h4⟩ := hT
  have P := lb4_or N x h1 e 15 (by decide)
  have h15 : x e ||| 15 = 15 := by
    have : ∀ t, t < 16 → t ||| 15 = 15 := by decide
    exact this (x e) l16
  have hx' : ∀ k, (fun k => if k = e then x k ||| 15 else x k) k = (if k = e then 15 else x k) := by
    intro k
    show (if k = e then x k ||| 15 else x k) = (if k = e then 15 else x k)
    by_cases q : k = e
    · rw [if_pos q, if_pos q, q, h15]
    · rw [if_neg q, if_neg q]
  have P' := lb4_c _ _ _ P hx'
  have hz : ∀ k, n ≤ k → (if k = e then 15 else x k) = 0 := by
    intro k hk
    rw [if_neg (by omega)]; exact h3 k hk
  have hlt := lb4_lt _ _ P' n hz
  have hle : 2 ^ (4 * n) ≤ 2 ^ 24 := Nat.pow_le_pow_right (by decide) (by omega)
  refine ⟨_, _, ⟨P', Nat.lt_of_lt_of_le hlt hle, hz, fun k hk => ?_⟩, ?_⟩
  · by_cases q : k = e
    · rw [q, gm_set_s, if_pos rfl]; exact Or.inl ⟨rfl, rfl⟩
    · rw [gm_set_n _ _ _ _ q, if_neg q]; exact h4 k hk
  · have e15 : (15 : Int32) = nI 15 := by decide
    rw [e15, lc_shl 15 e (by decide) (by omega), lc_or]

theorem lw_full (hn : n ≤ 6) (post : Int32 → Prop) (p : Nat → Int) (N : Nat) (x : Nat → Nat) (hT : lw_T n p N x)
    (h1 : gm_full n p → post 1) (h0 : ¬ gm_full n p → post 0) : wpL_full post () (nI n) (nI N) := by
  refine loop_0 (fun m i (_ : Unit) => wL_full_2 post (nI n) (nI N) m (nI i)) (fun i _ => ∀ e, e < i → p e ≠ 100) n () (fun u hu => absurd hu (by omega)) ?_ ?_
  · intro m _ hs
    exact br_t (Int32.le_refl _) (h1 hs)
  · intro m i _ hi hs ih
    refine br_f (nI_ge hi (by omega)) (lc_get _ N x hT.1 hT.2.1 i (by omega) (lw_lt16 n p N x hT i) ?_)
    have iff := lw_15 n p N x hT i hi
    refine br_c (fun q => h0 (fun z => z i hi (iff.1 q))) (fun q => nm_r (nI_1 i) (ih () (fun e he => ?_)))
    by_cases y : e = i
    · rw [y]; exact fun z => q (iff.2 z)
    · exact hs e (by omega)

/-- a limit read back -/
theorem lw_lim (hn : n ≤ 6) (N0 N1 : Nat) (z : Nat → Nat) (hz : lw_L n L N0 N1 z) (hr : ∀ u v, u < n → v < n → -7 ≤ L u v ∧ L u v ≤ 7) (post : Int32 → Prop) (u v : Nat) (hu : u < n) (hv : v < n) (huv : u ≠ v)
    (g : ∀ r : Int32, r.toInt = L u v → post r) : wpL_lim post () (nI u) (nI v) (lN N0) (lN N1) := by
  refine lc_lim post N0 N1 z hz.1 hz.2.1 u v (by omega) (by omega) huv (hz.2.2.1 _) (g _ ?_)
  have e := hz.2.2.2 u v hu hv huv
  have l := hz.2.2.1 (lc_ix u v)
  have r := hr u v hu hv
  have e7 : (7 : Int32) = nI 7 := by decide
  rw [e7, pk_sub_toInt (by omega) (by omega)]
  omega

theorem lw_fits (hn : n ≤ 6) (N0 N1 : Nat) (z : Nat → Nat) (hz : lw_L n L N0 N1 z) (hr : ∀ u v, u < n → v < n → -7 ≤ L u v ∧ L u v ≤ 7) (post : Int32 → Prop) (p : Nat → Int) (N : Nat) (x : Nat → Nat)
    (hT : lw_T n p N x) (e : Nat) (he : e < n)
    (h1 : (∀ u, u < n → u ≠ e → p u ≠ 100 → p e ≠ 100 → p e - p u ≤ L u e ∧ p u - p e ≤ L e u) → post 1)
    (h0 : (∃ u, u < n ∧ u ≠ e ∧ p u ≠ 100 ∧ p e ≠ 100 ∧ (L u e < p e - p u ∨ L e u < p u - p e)) → post 0) :
    wpL_fits post () (nI n) (lN N0) (lN N1) (nI N) (nI e) := by
  have iffe := lw_15 n p N x hT e he
  unfold wpL_fits
  refine lc_get _ N x hT.1 hT.2.1 e (by omega) (lw_lt16 n p N x hT e) (br_c (fun q => h1 (fun u _ _ _ y => absurd (iffe.1 q) y)) (fun q => ?_))
  have pe : p e ≠ 100 := fun y => q (iffe.2 y)
  have xe : 0 ≤ p e ∧ p e ≤ 7 ∧ (x e : Int) = p e := (hT.2.2.2 e he).resolve_left (fun y => pe y.1)
  refine loop_0 (fun m i (_ : Unit) => wL_fits_21 post (nI n) (lN N0) (lN N1) (nI N) (nI e) (nI (x e)) m (nI i))
    (fun i _ => ∀ u, u < i → u ≠ e → p u ≠ 100 → p e - p u ≤ L u e ∧ p u - p e ≤ L e u) n () (fun u hu => absurd hu (by omega)) ?_ ?_
  · intro m _ hs
    exact br_t (Int32.le_refl _) (h1 (fun u hu hue hpu _ => hs u hu hue hpu))
  · intro m u _ hu hs ih
    have iffu := lw_15 n p N x hT u hu
    have nx : (u ≠ e → p u ≠ 100 → p e - p u ≤ L u e ∧ p u - p e ≤ L e u) → wL_fits_21 post (nI n) (lN N0) (lN N1) (nI N) (nI e) (nI (x e)) m (nI (u + 1)) := by
      intro y
      refine ih () (fun u' hu' => ?_)
      by_cases a : u' = u
      · rw [a]; exact y
      · exact hs u' (by omega)
    refine br_f (nI_ge hu (by omega)) (lc_get _ N x hT.1 hT.2.1 u (by omega) (lw_lt16 n p N x hT u) (br_c (fun q1 => nm_r (nI_1 u) (nx (fun y => absurd ((nI_eq (by omega) (by omega)).1 q1) y))) (fun q1 => br_c (fun q2 => nm_r (nI_1 u) (nx (fun _ y => absurd (iffu.1 q2) y))) (fun q2 => ?_))))
    have hue : u ≠ e := fun y => q1 (by rw [y])
    have pu : p u ≠ 100 := fun y => q2 (iffu.2 y)
    have xu : 0 ≤ p u ∧ p u ≤ 7 ∧ (x u : Int) = p u := (hT.2.2.2 u hu).resolve_left (fun y => pu y.1)
    have d1 : (nI (x e) - nI (x u)).toInt = p e - p u := by
      rw [pk_sub_toInt (by omega) (by omega)]; omega
    have d2 : (nI (x u) - nI (x e)).toInt = p u - p e := by
      rw [pk_sub_toInt (by omega) (by omega)]; omega
    refine lw_lim n L hn N0 N1 z hz hr _ u e hu he hue (fun r1 hr1 => br_c (fun q3 => h0 ⟨u, hu, hue, pu, pe, Or.inl ?_⟩) (fun q3 => lw_lim n L hn N0 N1 z hz hr _ e u he hu (fun y => hue y.symm) (fun r2 hr2 => br_c (fun q4 => nm_r (nI_1 u) (nx (fun _ _ => ⟨?_, ?_⟩))) (fun q4 => h0 ⟨u, hu, hue, pu, pe, Or.inr ?_⟩))))
    · have y := (gn_lt _ _).1 q3
      rw [hr1, d1] at y
      exact y
    · have y := (gn_le _ _).1 (Int32.not_lt.1 q3)
      rw [hr1, d1] at y
      exact y
    · have y := (gn_le _ _).1 q4
      rw [hr2, d2] at y
      exact y
    · have y := (gn_lt _ _).1 (Int32.not_le.1 q4)
      rw [hr2, d2] at y
      exact y

/-- what a slot can do -/
def lw_can (x0 x : Nat → Nat) (q : Nat) : Prop :=
  q % B % n ≠ 0 ∧ x0 (q % B % n) = 15 ∧ (ct (q % B % n) = true ↔ q % B < n) ∧ (x (q % B % n) = 15 ∨ x (q % B % n) = q / B) ∧
  (ct (q % B % n) = true → lo (q % B % n) ≤ ((q / B : Nat) : Int) - (x (ac (q % B % n)) : Int) ∧ ((q / B : Nat) : Int) - (x (ac (q % B % n)) : Int) ≤ hi (q % B % n))

theorem lw_120 (hN : gm_net n h L ct ac lo hi) (hB : ls_B n B) (post : Int32 → Prop) (J : Int32 → Int32 → Int32 → Int32 → Int32 → Prop) (l0 l1 : Int64) (K : Nat) (y : Nat → Nat) (hK : lw_K n ct ac lo hi K y)
    (p0 p : Nat → Int) (N0 N : Nat) (x0 x : Nat → Nat) (hT0 : lw_T n p0 N0 x0) (hT : lw_T n p N x) (q : Nat) (hq : q < (h + 1) * B) (up v i fi en : Int32)
    (H : ∀ can d : Int32, (can = 1 ∧ lw_can n ct ac lo hi B x0 x q ∨ can = 0 ∧ ¬ lw_can n ct ac lo hi B x0 x q) →
      (ct (q % B % n) = true → d.toInt = ((q / B : Nat) : Int) - (x (ac (q % B % n)) : Int)) →
      wL_win_282 post J (nI n) l0 l1 (lN K) (nI N0) (nI B) fi en (nI q) (nI N) up v i (nI (q / B)) (nI (q % B % n)) (nI (x (q % B % n))) (if ct (q % B % n) = true then 1 else 0) can d) :
    wL_win_120 post J (nI n) l0 l1 (lN K) (nI N0) (nI B) fi en (nI q) (nI N) up v i := by
  have h7 : h ≤ 7 := hN.2.2.1
  have hn6 : n ≤ 6 := hN.2.1
  have hn3 : 3 ≤ n := by rcases hB with ⟨a, _⟩ | ⟨a, _⟩ | ⟨a, _⟩ | ⟨a, _⟩ <;> omega
  have hb12 : B ≤ 12 ∧ 6 ≤ B := by rcases hB with ⟨_, a⟩ | ⟨_, a⟩ | ⟨_, a⟩ | ⟨_, a⟩ <;> omega
  have hq96 : q < 96 := by rcases hB with ⟨_, a⟩ | ⟨_, a⟩ | ⟨_, a⟩ | ⟨_, a⟩ <;> subst a <;> omega
  have hen : q % B % n < n := Nat.mod_lt _ (by omega)
  have hslot : q % B < B := Nat.mod_lt _ (by omega)
  have htd : q / B ≤ 7 := by rcases hB with ⟨_, a⟩ | ⟨_, a⟩ | ⟨_, a⟩ | ⟨_, a⟩ <;> subst a <;> omega
  have nB : ¬ nI B = 0 := nI_ne0 (by omega) (by omega)
  have nn : ¬ nI n = 0 := nI_ne0 (by omega) (by omega)
  obtain ⟨k1, k2, k3, k4⟩ := hK
  have ke := k4 _ hen
  unfold lw_can at H
  refine ⟨nB, nm_r (pk_div (by omega) (by omega) (by omega)) ⟨nB, nm_r (pk_rem (by omega) (by omega) (by omega)) ⟨nn, nm_r (pk_rem (by omega) (by omega) (by omega)) ?_⟩⟩⟩
  refine lc_get _ N x hT.1 hT.2.1 _ (by omega) (lw_lt16 n p N x hT _) ?_
  refine lc_link _ K y k1 k2 _ 0 (by omega) (by omega) (k3 _) ?_
  generalize q % B % n = e at *
  generalize hsl : q % B = slot at *
  generalize q / B = t at *
  have x16 := lw_lt16 n p N x hT
  have ey : y (3 * e + 0) = y (3 * e) := rfl
  rw [ey]
  -- the slot's looks behind con
  have rest : ∀ (a con : Int32), (ct e = true → a = nI (ac e)) → con = (if ct e = true then 1 else 0) →
      wL_win_171 post J (nI n) l0 l1 (lN K) (nI N0) (nI B) fi en (nI q) (nI N) up v i (nI t) (nI slot) (nI e) (nI (x e)) a con := by
    intro a con ha hcon
    have c225 : ∀ can : Int32, (can = 1 ∧ (e ≠ 0 ∧ x0 e = 15 ∧ (ct e = true ↔ slot < n) ∧ (x e = 15 ∨ x e = t)) ∨ can = 0 ∧ ¬ (e ≠ 0 ∧ x0 e = 15 ∧ (ct e = true ↔ slot < n) ∧ (x e = 15 ∨ x e = t))) →
        wL_win_225 post J (nI n) l0 l1 (lN K) (nI N0) (nI B) fi en (nI q) (nI N) up v i (nI t) (nI e) (nI (x e)) a con can := by
      intro can hcan
      cases hc : ct e with
      | false =>
        have e0 : con = 0 := by rw [hcon, hc]; rfl
        have f0 : ∀ P : Prop, ct e = true → P := fun P z => by rw [hc] at z; simp at z
        refine br_t e0 (br_t e0 ?_)
        rw [e0]
        have HH := H can 0 (by
          rcases hcan with ⟨z1, z2⟩ | ⟨z1, z2⟩
          · exact Or.inl ⟨z1, z2.1, z2.2.1, z2.2.2.1, z2.2.2.2, fun z => f0 _ z⟩
          · exact Or.inr ⟨z1, fun z => z2 ⟨z.1, z.2.1, z.2.2.1, z.2.2.2.1⟩⟩) (fun z => f0 _ z)
        rw [hc] at HH
        exact HH
      | true =>
        have e1 : con = 1 := by rw [hcon, hc]; rfl
        have ne1 : ¬ con = 0 := by rw [e1]; decide
        have b := hN.2.2.2.2.2.2 e hen hc
        obtain ⟨y0, y1, y2⟩ := ke.2 hc
        rw [ha hc]
        refine br_f ne1 (lc_get _ N x hT.1 hT.2.1 _ (by omega) (x16 _) (br_f ne1 ?_))
        rw [e1]
        have xa := x16 (ac e)
        have dd : (nI t - nI (x (ac e))).toInt = (t : Int) - (x (ac e) : Int) := pk_sub_toInt (by omega) (by omega)
        have r1 := gq_nI (y (3 * e + 1)) (by have := k3 (3 * e + 1); omega)
        have r2 := gq_nI (y (3 * e + 2)) (by have := k3 (3 * e + 2); omega)
        have HH := fun can' hcan' => H can' (nI t - nI (x (ac e))) hcan' (fun _ => dd)
        rw [hc] at HH
        refine lc_link _ K y k1 k2 e 1 (by omega) (by omega) (k3 _) (br_c (fun q1 => ?_) (fun q1 => lc_link _ K y k1 k2 e 2 (by omega) (by omega) (k3 _) (br_c (fun q2 => ?_) (fun q2 => ?_))))
        · refine HH 0 (Or.inr ⟨rfl, fun z => ?_⟩)
          have z1 := (z.2.2.2.2 rfl).1
          have z2 := (gn_lt _ _).1 q1
          rw [dd, r1] at z2
          omega
        · have z1 := (gn_le _ _).1 (Int32.not_lt.1 q1)
          have z2 := (gn_le _ _).1 q2
          rw [dd, r1] at z1
          rw [dd, r2] at z2
          refine HH can ?_
          rcases hcan with ⟨w1, w2⟩ | ⟨w1, w2⟩
          · exact Or.inl ⟨w1, w2.1, w2.2.1, by rw [hc] at w2; exact w2.2.2.1, w2.2.2.2, fun _ => ⟨by omega, by omega⟩⟩
          · refine Or.inr ⟨w1, fun z => w2 ⟨z.1, z.2.1, by rw [hc]; exact z.2.2.1, z.2.2.2.1⟩⟩
        · refine HH 0 (Or.inr ⟨rfl, fun z => ?_⟩)
          have z1 := (z.2.2.2.2 rfl).2
          have z2 := (gn_lt _ _).1 (Int32.not_le.1 q2)
          rw [dd, r2] at z2
          omega
    refine br_c (fun q1 => c225 0 (Or.inr ⟨rfl, fun z => z.1 ?_⟩)) (fun q1 => ?_)
    · have z0 := (gn_le _ _).1 q1
      rw [gq_nI e (by omega), show (0 : Int32).toInt = 0 by decide] at z0
      omega
    · have e0 : e ≠ 0 := fun z => q1 (by rw [z]; decide)
      have hl0 := lw_lt16 n p0 N0 x0 hT0 e
      refine lc_get _ N0 x0 hT0.1 hT0.2.1 e (by omega) hl0 (br_c (fun q2 => ?_) (fun q2 => c225 0 (Or.inr ⟨rfl, fun z => q2 (by rw [z.2.1]; rfl)⟩)))
      have p15 : x0 e = 15 := (nI_eq (b := 15) (by omega) (by omega)).1 q2
      have c203 : ∀ z0 : Int32, (z0 = 1 ∧ slot < n ∨ z0 = 0 ∧ ¬ slot < n) →
          wL_win_203 post J (nI n) l0 l1 (lN K) (nI N0) (nI B) fi en (nI q) (nI N) up v i (nI t) (nI e) (nI (x e)) a con z0 con := by
        intro z0 hz0
        have ciff : con = z0 ↔ (ct e = true ↔ slot < n) := by
          cases hc : ct e with
          | false =>
            have e0 : con = 0 := by rw [hcon, hc]; rfl
            rcases hz0 with ⟨w1, w2⟩ | ⟨w1, w2⟩
            · rw [e0, w1]
              exact ⟨fun z => absurd z (by decide), fun z => by have := z.2 w2; simp at this⟩
            · rw [e0, w1]
              exact ⟨fun _ => ⟨fun z => by simp at z, fun z => absurd z w2⟩, fun _ => rfl⟩
          | true =>
            have e1 : con = 1 := by rw [hcon, hc]; rfl
            rcases hz0 with ⟨w1, w2⟩ | ⟨w1, w2⟩
            · rw [e1, w1]
              exact ⟨fun _ => ⟨fun _ => w2, fun _ => rfl⟩, fun _ => rfl⟩
            · rw [e1, w1]
              exact ⟨fun z => absurd z (by decide), fun z => absurd (z.1 rfl) w2⟩
        have xl := x16 e
        refine br_c (fun q3 => br_c (fun q4 => c225 1 (Or.inl ⟨rfl, e0, p15, ciff.1 q3, Or.inl ((nI_eq (b := 15) (by omega) (by omega)).1 q4)⟩))
          (fun q4 => br_c (fun q5 => c225 1 (Or.inl ⟨rfl, e0, p15, ciff.1 q3, Or.inr ((nI_eq (by omega) (by omega)).1 q5)⟩)) (fun q5 => c225 0 (Or.inr ⟨rfl, fun z => ?_⟩))))
          (fun q3 => c225 0 (Or.inr ⟨rfl, fun z => q3 (ciff.2 z.2.2.1)⟩))
        rcases z.2.2.2 with w | w
        · exact q4 (by rw [w]; rfl)
        · exact q5 (by rw [w])
      refine br_c (fun q3 => c203 0 (Or.inr ⟨rfl, ?_⟩)) (fun q3 => c203 1 (Or.inl ⟨rfl, ?_⟩))
      · have := (nI_leI (by omega) (by omega)).1 q3; omega
      · by_cases z : slot < n
        · exact z
        · exact absurd (nI_le (by omega) (by omega)) q3
  cases hc : ct e with
  | false =>
    have y7 := ke.1 hc
    exact br_t (by rw [y7]; rfl) (rest _ 0 (fun z => by rw [hc] at z; simp at z) (by rw [hc]; rfl))
  | true =>
    have b := hN.2.2.2.2.2.2 e hen hc
    obtain ⟨y0, y1, y2⟩ := ke.2 hc
    refine br_f (fun z => ?_) (rest _ 1 (fun _ => by rw [y0]) (by rw [hc]; rfl))
    have z7 : y (3 * e) = 7 := (nI_eq (b := 7) (by have := k3 (3 * e); omega) (by omega)).1 z
    omega
end lw
