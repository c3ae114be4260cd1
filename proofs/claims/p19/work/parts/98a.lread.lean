-- the law: reading the network, verdict and start
section lr
variable (n h : Nat) (ij wa f : Int32) (lim act sh lg pol tim b w : Nat → Int32) (Ls : Nat) (xs : Nat → Int32)

def lr_v (i : Nat) : Nat := if i % 5 < i / 5 then i % 5 else i % 5 + 1

def lr_z (c i : Nat) : Nat := if i < c ∧ i / 5 < n ∧ lr_v i < n then (gd_t lim (i / 5) (lr_v i) + 7).toNat else 0

def lr_b (u v : Nat) : Nat := u * 5 + (if v ≤ u then v else v - 1)

def lr_P (c N0 N1 : Nat) : Prop := lb4_P N0 (fun i => if i < 15 then lr_z n lim c i else 0) ∧ lb4_P N1 (fun i => if i < 15 then lr_z n lim c (i + 15) else 0)

theorem lr_ix (u v : Nat) (hu : u < 6) (hv : v < 6) (huv : u ≠ v) : lc_ix u v / 5 = u ∧ lr_v (lc_ix u v) = v ∧ lc_ix u v < 30 ∧ lr_b u v = lc_ix u v ∧ lr_b u (v + 1) = lc_ix u v + 1 := by
  unfold lc_ix lr_v lr_b
  by_cases c : v < u
  · rw [if_pos c, if_pos (show v ≤ u by omega), if_pos (show v + 1 ≤ u by omega)]
    refine ⟨by omega, ?_, by omega, rfl, by omega⟩
    rw [if_pos (by omega)]; omega
  · rw [if_neg c, if_neg (show ¬ v ≤ u by omega), if_neg (show ¬ v + 1 ≤ u by omega)]
    refine ⟨by omega, ?_, by omega, rfl, by omega⟩
    rw [if_neg (by omega)]; omega

theorem lr_z_c (c c' : Nat) (hcc : c ≤ c') (hx : ∀ i, c ≤ i → i < c' → ¬ (i / 5 < n ∧ lr_v i < n)) (i : Nat) : lr_z n lim c i = lr_z n lim c' i := by
  unfold lr_z
  by_cases q : i / 5 < n ∧ lr_v i < n
  · by_cases q2 : i < c
    · rw [if_pos ⟨q2, q⟩, if_pos ⟨by omega, q⟩]
    · by_cases q3 : i < c'
      · exact absurd q (hx i (by omega) q3)
      · rw [if_neg (fun z => q2 z.1), if_neg (fun z => q3 z.1)]
  · rw [if_neg (fun z => q z.2), if_neg (fun z => q z.2)]

theorem lr_P_c (c c' N0 N1 : Nat) (hcc : c ≤ c') (hx : ∀ i, c ≤ i → i < c' → ¬ (i / 5 < n ∧ lr_v i < n)) (hP : lr_P n lim c N0 N1) : lr_P n lim c' N0 N1 := by
  refine ⟨lb4_c _ _ _ hP.1 (fun i => ?_), lb4_c _ _ _ hP.2 (fun i => ?_)⟩
  · show (if i < 15 then lr_z n lim c i else 0) = (if i < 15 then lr_z n lim c' i else 0)
    rw [lr_z_c n lim c c' hcc hx]
  · show (if i < 15 then lr_z n lim c (i + 15) else 0) = (if i < 15 then lr_z n lim c' (i + 15) else 0)
    rw [lr_z_c n lim c c' hcc hx]

theorem lr_z_lt (hlr : ∀ u v, u < n → v < n → -7 ≤ gd_t lim u v ∧ gd_t lim u v ≤ 7) (c i : Nat) : lr_z n lim c i < 16 := by
  unfold lr_z
  by_cases q : i < c ∧ i / 5 < n ∧ lr_v i < n
  · rw [if_pos q]
    have := hlr _ _ q.2.1 q.2.2
    omega
  · rw [if_neg q]; omega

/-- one limit more -/
theorem lr_put (hlr : ∀ u v, u < n → v < n → -7 ≤ gd_t lim u v ∧ gd_t lim u v ≤ 7) (c N0 N1 : Nat) (hc : c < 30) (hin : c / 5 < n ∧ lr_v c < n) (hP : lr_P n lim c N0 N1) (y : Nat) (hy : y < 16) (hyv : (y : Int) = gd_t lim (c / 5) (lr_v c) + 7) :
    (c < 15 → lr_P n lim (c + 1) (N0 ||| (y <<< (4 * c))) N1) ∧ (15 ≤ c → lr_P n lim (c + 1) N0 (N1 ||| (y <<< (4 * (c - 15))))) := by
  have zc : lr_z n lim c c = 0 := by unfold lr_z; rw [if_neg (fun z => absurd z.1 (by omega))]
  have zc1 : lr_z n lim (c + 1) c = y := by unfold lr_z; rw [if_pos ⟨by omega, hin⟩]; omega
  have oth : ∀ i, i ≠ c → lr_z n lim c i = lr_z n lim (c + 1) i := by
    intro i hi
    unfold lr_z
    by_cases q : i < c ∧ i / 5 < n ∧ lr_v i < n
    · rw [if_pos q, if_pos ⟨by omega, q.2⟩]
    · rw [if_neg q, if_neg (fun z => q ⟨by omega, z.2⟩)]
  constructor
  · intro h15
    refine ⟨lb4_c _ _ _ (lb4_or N0 _ hP.1 c y hy) (fun i => ?_), lb4_c _ _ _ hP.2 (fun i => ?_)⟩
    · show (if i = c then (if i < 15 then lr_z n lim c i else 0) ||| y else (if i < 15 then lr_z n lim c i else 0)) = (if i < 15 then lr_z n lim (c + 1) i else 0)
      by_cases e : i = c
      · rw [if_pos e, e, if_pos h15, if_pos h15, zc, zc1, Nat.zero_or]
      · rw [if_neg e, oth i e]
    · show (if i < 15 then lr_z n lim c (i + 15) else 0) = (if i < 15 then lr_z n lim (c + 1) (i + 15) else 0)
      rw [oth (i + 15) (by omega)]
  · intro h15
    refine ⟨lb4_c _ _ _ hP.1 (fun i => ?_), lb4_c _ _ _ (lb4_or N1 _ hP.2 (c - 15) y hy) (fun i => ?_)⟩
    · show (if i < 15 then lr_z n lim c i else 0) = (if i < 15 then lr_z n lim (c + 1) i else 0)
      by_cases e : i < 15
      · rw [if_pos e, if_pos e, oth i (by omega)]
      · rw [if_neg e, if_neg e]
    · show (if i = c - 15 then (if i < 15 then lr_z n lim c (i + 15) else 0) ||| y else (if i < 15 then lr_z n lim c (i + 15) else 0)) = (if i < 15 then lr_z n lim (c + 1) (i + 15) else 0)
      by_cases e : i = c - 15
      · rw [if_pos e, e, if_pos (by omega), if_pos (by omega), show c - 15 + 15 = c by omega, zc, zc1, Nat.zero_or]
      · rw [if_neg e, oth (i + 15) (by omega)]

theorem lr_b60 (hlr : ∀ u v, u < n → v < n → -7 ≤ gd_t lim u v ∧ gd_t lim u v ≤ 7) (c N0 N1 : Nat) (hP : lr_P n lim c N0 N1) : N0 < 2 ^ 60 ∧ N1 < 2 ^ 60 :=
  ⟨lb4_lt N0 _ hP.1 15 (fun i hi => if_neg (by omega)), lb4_lt N1 _ hP.2 15 (fun i hi => if_neg (by omega))⟩

theorem lr_or (N y k : Nat) (hN : N < 2 ^ 60) (hy : y < 16) (hk : k ≤ 56) : lN N ||| ((nI y).toInt64 <<< ((nI k).toInt64 &&& 63)) = lN (N ||| (y <<< k)) := by
  have hle : 2 ^ k ≤ 2 ^ 56 := Nat.pow_le_pow_right (by decide) hk
  have hm : y * 2 ^ k ≤ 15 * 2 ^ 56 := Nat.mul_le_mul (by omega) hle
  rw [nI_l (by omega), wb_shl y (by omega), wb_or (by omega) (by omega), Nat.shiftLeft_eq]

theorem lr_L (hlr : ∀ u v, u < n → v < n → -7 ≤ gd_t lim u v ∧ gd_t lim u v ≤ 7) (h6 : n ≤ 6) (N0 N1 : Nat) (hP : lr_P n lim 30 N0 N1) : lw_L n (gd_t lim) N0 N1 (lr_z n lim 30) := by
  refine ⟨hP.1, hP.2, lr_z_lt n lim hlr 30, fun u v hu hv huv => ?_⟩
  obtain ⟨i1, i2, i3, i4, i5⟩ := lr_ix u v (by omega) (by omega) huv
  have r := hlr u v hu hv
  unfold lr_z
  rw [i1, i2, if_pos ⟨i3, hu, hv⟩]
  omega

-- links
def lr_tg (j : Nat) : Nat :=
  if j / 3 = 0 then (if j % 3 = 0 then 7 else 0) else if j / 3 < n then
    (if gq_ct act (j / 3) = true then (if j % 3 = 0 then gq_ac act (j / 3) else if j % 3 = 1 then (gq_i sh (j / 3)).toNat else (gq_i lg (j / 3)).toNat) else (if j % 3 = 0 then 7 else 0)) else 0

def lr_Q (c N : Nat) : Prop := lb3_P N (fun j => if j < c then lr_tg n act sh lg j else 0)

theorem lr_tg_lt (hN : gm_net n h (gd_t lim) (gq_ct act) (gq_ac act) (gq_i sh) (gq_i lg)) (j : Nat) : lr_tg n act sh lg j < 8 := by
  have h6 : n ≤ 6 := hN.2.1
  have h7 : h ≤ 7 := hN.2.2.1
  unfold lr_tg
  by_cases q0 : j / 3 = 0
  · rw [if_pos q0]; split <;> omega
  · rw [if_neg q0]
    by_cases q1 : j / 3 < n
    · rw [if_pos q1]
      by_cases q2 : gq_ct act (j / 3) = true
      · rw [if_pos q2]
        have bb := hN.2.2.2.2.2.2 _ q1 q2
        split
        · omega
        · split <;> omega
      · rw [if_neg q2]; split <;> omega
    · rw [if_neg q1]; omega

theorem lr_Q_b (hN : gm_net n h (gd_t lim) (gq_ct act) (gq_ac act) (gq_i sh) (gq_i lg)) (c N : Nat) (hc : c ≤ 18) (hQ : lr_Q n act sh lg c N) : N < 2 ^ 54 := by
  exact lb3_lt N _ hQ 18 (fun i hi => if_neg (by omega))

theorem lr_Q_put (c N y : Nat) (hy : y < 8) (hQ : lr_Q n act sh lg c N) (hyv : lr_tg n act sh lg c = y) : lr_Q n act sh lg (c + 1) (N ||| (y <<< (3 * c))) := by
  refine lb3_c _ _ _ (lb3_or N _ hQ c y hy) (fun j => ?_)
  show (if j = c then (if j < c then lr_tg n act sh lg j else 0) ||| y else (if j < c then lr_tg n act sh lg j else 0)) = (if j < c + 1 then lr_tg n act sh lg j else 0)
  by_cases e : j = c
  · rw [if_pos e, if_neg (by omega), if_pos (by omega), e, hyv, Nat.zero_or]
  · rw [if_neg e]
    by_cases q : j < c
    · rw [if_pos q, if_pos (by omega)]
    · rw [if_neg q, if_neg (by omega)]

theorem lr_Q_c (c c' N : Nat) (hcc : c ≤ c') (hx : ∀ j, c ≤ j → j < c' → lr_tg n act sh lg j = 0) (hQ : lr_Q n act sh lg c N) : lr_Q n act sh lg c' N := by
  refine lb3_c _ _ _ hQ (fun j => ?_)
  show (if j < c then lr_tg n act sh lg j else 0) = (if j < c' then lr_tg n act sh lg j else 0)
  by_cases q : j < c
  · rw [if_pos q, if_pos (by omega)]
  · by_cases q2 : j < c'
    · rw [if_neg q, if_pos q2, hx j (by omega) q2]
    · rw [if_neg q, if_neg q2]

theorem lr_or3 (N y k : Nat) (hN : N < 2 ^ 54) (hy : y < 8) (hk : k ≤ 51) : lN N ||| ((nI y).toInt64 <<< ((nI k).toInt64 &&& 63)) = lN (N ||| (y <<< k)) := lr_or N y k (by omega) (by omega) (by omega)

theorem lr_K (hN : gm_net n h (gd_t lim) (gq_ct act) (gq_ac act) (gq_i sh) (gq_i lg)) (h3 : 3 ≤ n) (N : Nat) (hQ : lr_Q n act sh lg 18 N) : lw_K n (gq_ct act) (gq_ac act) (gq_i sh) (gq_i lg) N (fun j => if j < 18 then lr_tg n act sh lg j else 0) := by
  have h6 : n ≤ 6 := hN.2.1
  have h7 : h ≤ 7 := hN.2.2.1
  have hb := lr_Q_b n h lim act sh lg hN 18 N (by omega) hQ
  refine ⟨hQ, by omega, fun i => ?_, fun e he => ⟨fun hc => ?_, fun hc => ?_⟩⟩
  · show (if i < 18 then lr_tg n act sh lg i else 0) < 8
    split
    · exact lr_tg_lt n h lim act sh lg hN i
    · omega
  · show (if 3 * e < 18 then lr_tg n act sh lg (3 * e) else 0) = 7
    rw [if_pos (by omega)]
    unfold lr_tg
    rw [show 3 * e / 3 = e by omega, show 3 * e % 3 = 0 by omega]
    by_cases e0 : e = 0
    · rw [if_pos e0, if_pos rfl]
    · rw [if_neg e0, if_pos he, if_neg (by rw [hc]; simp), if_pos rfl]
  · have e0 : ¬ e = 0 := gc_0 n h (gd_t lim) (gq_ct act) (gq_ac act) (gq_i sh) (gq_i lg) hN e hc
    have bb := hN.2.2.2.2.2.2 e he hc
    refine ⟨?_, ?_, ?_⟩
    · show (if 3 * e < 18 then lr_tg n act sh lg (3 * e) else 0) = gq_ac act e
      rw [if_pos (by omega)]
      unfold lr_tg
      rw [show 3 * e / 3 = e by omega, show 3 * e % 3 = 0 by omega, if_neg e0, if_pos he, if_pos hc, if_pos rfl]
    · show ((if 3 * e + 1 < 18 then lr_tg n act sh lg (3 * e + 1) else 0 : Nat) : Int) = gq_i sh e
      rw [if_pos (by omega)]
      unfold lr_tg
      rw [show (3 * e + 1) / 3 = e by omega, show (3 * e + 1) % 3 = 1 by omega, if_neg e0, if_pos he, if_pos hc, if_neg (by omega), if_pos rfl]
      omega
    · show ((if 3 * e + 2 < 18 then lr_tg n act sh lg (3 * e + 2) else 0 : Nat) : Int) = gq_i lg e
      rw [if_pos (by omega)]
      unfold lr_tg
      rw [show (3 * e + 2) / 3 = e by omega, show (3 * e + 2) % 3 = 2 by omega, if_neg e0, if_pos he, if_pos hc, if_neg (by omega), if_neg (by omega)]
      omega
end lr
