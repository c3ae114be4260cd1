-- numbers packed in groups of 4 bits
section lb4
def lb4_P (N : Nat) (x : Nat → Nat) : Prop := ∀ j, N.testBit j = (x (j / 4)).testBit (j % 4)

theorem lb4_get (N : Nat) (x : Nat → Nat) (hP : lb4_P N x) (i : Nat) (hx : x i < 2 ^ 4) : N / 2 ^ (4 * i) % 2 ^ 4 = x i := by
  apply Nat.eq_of_testBit_eq
  intro j
  rw [Nat.testBit_mod_two_pow, Nat.testBit_div_two_pow, hP]
  by_cases hj : j < 4
  · rw [show (j + 4 * i) / 4 = i by omega, show (j + 4 * i) % 4 = j by omega]
    simp [hj]
  · rw [Nat.testBit_lt_two_pow (x := x i) (i := j) (Nat.lt_of_lt_of_le hx (Nat.pow_le_pow_right (by decide) (by omega)))]
    simp [hj]

theorem lb4_or (N : Nat) (x : Nat → Nat) (hP : lb4_P N x) (i y : Nat) (hy : y < 2 ^ 4) :
    lb4_P (N ||| (y <<< (4 * i))) (fun k => if k = i then x k ||| y else x k) := by
  intro j
  show (N ||| (y <<< (4 * i))).testBit j = (if j / 4 = i then x (j / 4) ||| y else x (j / 4)).testBit (j % 4)
  rw [Nat.testBit_or, Nat.testBit_shiftLeft, hP]
  by_cases hk : j / 4 = i
  · rw [if_pos hk, Nat.testBit_or]
    rw [show j - 4 * i = j % 4 by omega]
    have : j ≥ 4 * i := by omega
    simp [this]
  · rw [if_neg hk]
    by_cases hge : j ≥ 4 * i
    · rw [Nat.testBit_lt_two_pow (x := y) (i := j - 4 * i) (Nat.lt_of_lt_of_le hy (Nat.pow_le_pow_right (by decide) (by omega)))]
      simp
    · simp [hge]

theorem lb4_xor (N : Nat) (x : Nat → Nat) (hP : lb4_P N x) (i y : Nat) (hy : y < 2 ^ 4) :
    lb4_P (N ^^^ (y <<< (4 * i))) (fun k => if k = i then x k ^^^ y else x k) := by
  intro j
  show (N ^^^ (y <<< (4 * i))).testBit j = (if j / 4 = i then x (j / 4) ^^^ y else x (j / 4)).testBit (j % 4)
  rw [Nat.testBit_xor, Nat.testBit_shiftLeft, hP]
  by_cases hk : j / 4 = i
  · rw [if_pos hk, Nat.testBit_xor]
    rw [show j - 4 * i = j % 4 by omega]
    have : j ≥ 4 * i := by omega
    simp [this]
  · rw [if_neg hk]
    by_cases hge : j ≥ 4 * i
    · rw [Nat.testBit_lt_two_pow (x := y) (i := j - 4 * i) (Nat.lt_of_lt_of_le hy (Nat.pow_le_pow_right (by decide) (by omega)))]
      simp
    · simp [hge]

theorem lb4_0 : lb4_P 0 (fun _ => 0) := by
  intro j
  simp

theorem lb4_lt (N : Nat) (x : Nat → Nat) (hP : lb4_P N x) (m : Nat) (hx : ∀ i, m ≤ i → x i = 0) : N < 2 ^ (4 * m) := by
  apply Nat.lt_pow_two_of_testBit
  intro j hj
  rw [hP, hx (j / 4) (by omega)]
  simp

theorem lb4_c (N : Nat) (x y : Nat → Nat) (hP : lb4_P N x) (hxy : ∀ i, x i = y i) : lb4_P N y := by
  intro j
  rw [hP, hxy]
end lb4
-- numbers packed in groups of 3 bits
section lb3
def lb3_P (N : Nat) (x : Nat → Nat) : Prop := ∀ j, N.testBit j = (x (j / 3)).testBit (j % 3)

theorem lb3_get (N : Nat) (x : Nat → Nat) (hP : lb3_P N x) (i : Nat) (hx : x i < 2 ^ 3) : N / 2 ^ (3 * i) % 2 ^ 3 = x i := by
  apply Nat.eq_of_testBit_eq
  intro j
  rw [Nat.testBit_mod_two_pow, Nat.testBit_div_two_pow, hP]
  by_cases hj : j < 3
  · rw [show (j + 3 * i) / 3 = i by omega, show (j + 3 * i) % 3 = j by omega]
    simp [hj]
  · rw [Nat.testBit_lt_two_pow (x := x i) (i := j) (Nat.lt_of_lt_of_le hx (Nat.pow_le_pow_right (by decide) (by omega)))]
    simp [hj]

theorem lb3_or (N : Nat) (x : Nat → Nat) (hP : lb3_P N x) (i y : Nat) (hy : y < 2 ^ 3) :
    lb3_P (N ||| (y <<< (3 * i))) (fun k => if k = i then x k ||| y else x k) := by
  intro j
  show (N ||| (y <<< (3 * i))).testBit j = (if j / 3 = i then x (j / 3) ||| y else x (j / 3)).testBit (j % 3)
  rw [Nat.testBit_or, Nat.testBit_shiftLeft, hP]
  by_cases hk : j / 3 = i
  · rw [if_pos hk, Nat.testBit_or]
    rw [show j - 3 * i = j % 3 by omega]
    have : j ≥ 3 * i := by omega
    simp [this]
  · rw [if_neg hk]
    by_cases hge : j ≥ 3 * i
    · rw [Nat.testBit_lt_two_pow (x := y) (i := j - 3 * i) (Nat.lt_of_lt_of_le hy (Nat.pow_le_pow_right (by decide) (by omega)))]
      simp
    · simp [hge]

theorem lb3_xor (N : Nat) (x : Nat → Nat) (hP : lb3_P N x) (i y : Nat) (hy : y < 2 ^ 3) :
    lb3_P (N ^^^ (y <<< (3 * i))) (fun k => if k = i then x k ^^^ y else x k) := by
  intro j
  show (N ^^^ (y <<< (3 * i))).testBit j = (if j / 3 = i then x (j / 3) ^^^ y else x (j / 3)).testBit (j % 3)
  rw [Nat.testBit_xor, Nat.testBit_shiftLeft, hP]
  by_cases hk : j / 3 = i
  · rw [if_pos hk, Nat.testBit_xor]
    rw [show j - 3 * i = j % 3 by omega]
    have : j ≥ 3 * i := by omega
    simp [this]
  · rw [if_neg hk]
    by_cases hge : j ≥ 3 * i
    · rw [Nat.testBit_lt_two_pow (x := y) (i := j - 3 * i) (Nat.lt_of_lt_of_le hy (Nat.pow_le_pow_right (by decide) (by omega)))]
      simp
    · simp [hge]

theorem lb3_0 : lb3_P 0 (fun _ => 0) := by
  intro j
  simp

theorem lb3_lt (N : Nat) (x : Nat → Nat) (hP : lb3_P N x) (m : Nat) (hx : ∀ i, m ≤ i → x i = 0) : N < 2 ^ (3 * m) := by
  apply Nat.lt_pow_two_of_testBit
  intro j hj
  rw [hP, hx (j / 3) (by omega)]
  simp

theorem lb3_c (N : Nat) (x y : Nat → Nat) (hP : lb3_P N x) (hxy : ∀ i, x i = y i) : lb3_P N y := by
  intro j
  rw [hP, hxy]
end lb3

section lc
theorem lc_or (a b : Nat) : nI a ||| nI b = nI (a ||| b) := by
  apply Int32.toBitVec_inj.mp
  show BitVec.ofNat 32 a ||| BitVec.ofNat 32 b = BitVec.ofNat 32 (a ||| b)
  rw [BitVec.ofNat_or]

theorem lc_4 (e : Nat) : 4 * nI e = nI (4 * e) := by
  have e4 : (4 : Int32) = nI 4 := by decide
  rw [e4, pk_mul]

/-- reading a packed time -/
theorem lc_get (post : Int32 → Prop) (N : Nat) (x : Nat → Nat) (hP : lb4_P N x) (hN : N < 2 ^ 24) (e : Nat) (he : e < 6) (hx : x e < 16)
    (g : post (nI (x e))) : wpL_get post () (nI N) (nI e) := by
  show post ((nI N >>> ((4 * nI e) &&& 31)) &&& 15)
  rw [lc_4, pk_shrN (by omega) (nI (4 * e) &&& 31) (4 * e) (s_l (4 * e) (by omega)), pk_andN (by
    have := Nat.div_le_self N (2 ^ (4 * e))
    omega) 4 (by decide), lb4_get N x hP e hx]
  exact g

theorem lc_shl (y e : Nat) (hy : y < 16) (he : e < 6) : nI y <<< ((4 * nI e) &&& 31) = nI (y <<< (4 * e)) := by
  have hle : 2 ^ (4 * e) ≤ 2 ^ 20 := Nat.pow_le_pow_right (by decide) (by omega)
  have hm : y * 2 ^ (4 * e) ≤ 15 * 2 ^ 20 := Nat.mul_le_mul (by omega) hle
  rw [lc_4, pk_shlN (nI (4 * e) &&& 31) (4 * e) (s_l (4 * e) (by omega)) (by omega), Nat.shiftLeft_eq]

/-- Int64: one field out of a packed word -/
theorem lc_r (N k w : Nat) (hN : N < 2 ^ 62) (hk : k < 64) (hw : w < 64) :
    (lN N >>> ((nI k).toInt64 &&& 63)) &&& lN (2 ^ w - 1) = lN (N / 2 ^ k % 2 ^ w) := by
  rw [pf_shr (d := k) (by rw [wb_c k hk, wb_tb, wb_sm k hk, BitVec.toNat_ofNat]; exact Nat.mod_eq_of_lt (by omega)) hN]
  have := Nat.div_le_self N (2 ^ k)
  rw [wb_mask (by omega) hw]

theorem lc_link (post : Int32 → Prop) (N : Nat) (x : Nat → Nat) (hP : lb3_P N x) (hN : N < 2 ^ 62) (e f : Nat) (he : e < 6) (hf : f < 3) (hx : x (3 * e + f) < 8)
    (g : post (nI (x (3 * e + f)))) : wpL_link post () (lN N) (nI e) (nI f) := by
  show post (((lN N >>> (((9 * nI e) + (3 * nI f)).toInt64 &&& 63)) &&& 7).toInt32)
  have e9 : (9 : Int32) = nI 9 := by decide
  have e3 : (3 : Int32) = nI 3 := by decide
  rw [e9, e3, pk_mul, pk_mul, nI_add, show 9 * e + 3 * f = 3 * (3 * e + f) by omega]
  rw [show (7 : Int64) = lN (2 ^ 3 - 1) by decide, lc_r N (3 * (3 * e + f)) 3 hN (by omega) (by omega), lb3_get N x hP (3 * e + f) hx, lN_i]
  exact g

def lc_ix (u v : Nat) : Nat := u * 5 + (if v < u then v else v - 1)

theorem lc_lim (post : Int32 → Prop) (N0 N1 : Nat) (x : Nat → Nat) (h0 : lb4_P N0 (fun i => if i < 15 then x i else 0)) (h1 : lb4_P N1 (fun i => if i < 15 then x (i + 15) else 0))
    (u v : Nat) (hu : u < 6) (hv : v < 6) (huv : u ≠ v) (hx : x (lc_ix u v) < 16) (g : post (nI (x (lc_ix u v)) - 7)) : wpL_lim post () (nI u) (nI v) (lN N0) (lN N1) := by
  have b0 : N0 < 2 ^ 60 := lb4_lt N0 _ h0 15 (fun i hi => if_neg (by omega))
  have b1 : N1 < 2 ^ 60 := lb4_lt N1 _ h1 15 (fun i hi => if_neg (by omega))
  have e5 : (5 : Int32) = nI 5 := by decide
  have e4 : (4 : Int32) = nI 4 := by decide
  have e15 : (15 : Int32) = nI 15 := by decide
  have key : ∀ z : Nat, u * 5 + z = lc_ix u v → wL_lim_15 post (lN N0) (lN N1) (nI z) (nI u * 5) := by
    intro z hz
    have hi : lc_ix u v < 30 := by unfold lc_ix; split <;> omega
    refine nm_r (e' := nI (lc_ix u v)) (by rw [e5, pk_mul, nI_add, hz]) ?_
    generalize lc_ix u v = i at *
    refine br_c (fun q => ?_) (fun q => ?_)
    · have q' : 15 ≤ i := (nI_leI (a := 15) (by omega) (by omega)).1 q
      have k1 : (4 : Int32) * (nI i - 15) = nI (4 * (i - 15)) := by rw [e15, pk_sub q', e4, pk_mul]
      have hv : (if i - 15 < 15 then x (i - 15 + 15) else 0) = x i := by
        rw [if_pos (by omega), show i - 15 + 15 = i by omega]
      rw [k1, show (15 : Int64) = lN (2 ^ 4 - 1) by decide, lc_r N1 (4 * (i - 15)) 4 (by omega) (by omega) (by omega), lb4_get N1 _ h1 (i - 15) (by rw [hv]; exact hx), hv, lN_i]
      exact g
    · have q' : i < 15 := by
        by_cases z : i < 15
        · exact z
        · exact absurd (nI_le (a := 15) (by omega) (by omega)) q
      have k1 : (4 : Int32) * nI i = nI (4 * i) := lc_4 i
      have hv : (if i < 15 then x i else 0) = x i := by
        rw [if_pos q']
      rw [k1, show (15 : Int64) = lN (2 ^ 4 - 1) by decide, lc_r N0 (4 * i) 4 (by omega) (by omega) (by omega), lb4_get N0 _ h0 i (by rw [hv]; exact hx), hv, lN_i]
      exact g
  refine br_c (fun q => ?_) (fun q => ?_)
  · have q' : u ≤ v := (nI_leI (by omega) (by omega)).1 q
    have e1 : nI v - 1 = nI (v - 1) := pk_sub (b := 1) (by omega)
    rw [e1]
    exact key (v - 1) (by unfold lc_ix; rw [if_neg (by omega)])
  · have q' : v < u := by
      by_cases z : v < u
      · exact z
      · exact absurd (nI_le (by omega) (by omega)) q
    exact key v (by unfold lc_ix; rw [if_pos q'])
end lc
