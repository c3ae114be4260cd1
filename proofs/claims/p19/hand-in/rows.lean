section
theorem s_l : ∀ n, n < 32 → ((nI n &&& 31).toBitVec.smod 32).toNat = n := by decide +kernel
theorem nx_xor (a b : Nat) : nI a ^^^ nI b = nI (a ^^^ b) := by
  apply Int32.toBitVec_inj.1
  show BitVec.ofNat 32 a ^^^ BitVec.ofNat 32 b = BitVec.ofNat 32 (a ^^^ b)
  apply BitVec.eq_of_getLsbD_eq
  intro i hi
  simp [hi]
theorem wb_tb (n : Nat) : (lN n).toBitVec = BitVec.ofNat 64 n := rfl
theorem wb_inj {a b : Int64} (h : a.toBitVec = b.toBitVec) : a = b := Int64.toBitVec_inj.mp h
theorem wb_tn {n : Nat} (h : n < 2 ^ 64) : (lN n).toBitVec.toNat = n := by rw [wb_tb, BitVec.toNat_ofNat, Nat.mod_eq_of_lt h]
theorem wb_of (x : Int64) : ∃ n, n < 2 ^ 64 ∧ x = lN n := ⟨x.toBitVec.toNat, x.toBitVec.isLt, wb_inj (by rw [wb_tb]; simp)⟩
theorem wb_of32 (x : Int32) : ∃ n, n < 2 ^ 32 ∧ x = nI n := ⟨x.toBitVec.toNat, x.toBitVec.isLt, Int32.toBitVec_inj.mp (by show _ = BitVec.ofNat 32 _; simp)⟩
theorem wb_c : ∀ k, k < 64 → ((nI k).toInt64 &&& 63) = lN k := by decide +kernel
theorem wb_cu : ∀ k, k < 64 → ((nI k).toInt64.toUInt64 &&& Int64.toUInt64 63) = UInt64.ofNat k := by decide +kernel
theorem wb_sm : ∀ k, k < 64 → (BitVec.ofNat 64 k).smod 64 = BitVec.ofNat 64 k := by decide +kernel
theorem wb_pw {a b : Nat} (h : a ≤ b) : 2 ^ b = 2 ^ a * 2 ^ (b - a) := by rw [← Nat.pow_add]; congr 1; omega
theorem wb_lt2 {a b : Nat} (h : a < b) : 2 ^ a < 2 ^ b := Nat.pow_lt_pow_right (by decide) h
theorem wb_mod (n : Nat) : lN n = lN (n % 2 ^ 64) := wb_inj (by rw [wb_tb, wb_tb]; apply BitVec.eq_of_toNat_eq; rw [BitVec.toNat_ofNat, BitVec.toNat_ofNat, Nat.mod_mod])
theorem wb_shr {n k : Nat} (hn : n < 2 ^ 64) (hk : k < 64) : ((lN n).toUInt64 >>> ((nI k).toInt64.toUInt64 &&& Int64.toUInt64 63)).toInt64 = lN (n / 2 ^ k) := by
  rw [wb_cu k hk]
  apply wb_inj
  apply BitVec.eq_of_toNat_eq
  show ((lN n).toUInt64 >>> UInt64.ofNat k).toNat = (BitVec.ofNat 64 _).toNat
  have h1 : (UInt64.ofNat k).toNat = k := by
    show (BitVec.ofNat 64 k).toNat = k
    rw [BitVec.toNat_ofNat, Nat.mod_eq_of_lt (by omega)]
  have h2 : (lN n).toUInt64.toNat = n := wb_tn hn
  rw [UInt64.toNat_shiftRight, h1, h2, Nat.mod_eq_of_lt hk, Nat.shiftRight_eq_div_pow, BitVec.toNat_ofNat, Nat.mod_eq_of_lt (Nat.lt_of_le_of_lt (Nat.div_le_self _ _) hn)]
theorem wb_shl (n : Nat) {k : Nat} (hk : k < 64) : lN n <<< ((nI k).toInt64 &&& 63) = lN (n * 2 ^ k) := by
  rw [wb_c k hk]
  apply wb_inj
  rw [Int64.toBitVec_shiftLeft, wb_tb, wb_tb, wb_tb, wb_sm k hk]
  apply BitVec.eq_of_toNat_eq
  rw [BitVec.shiftLeft_eq', BitVec.toNat_shiftLeft, BitVec.toNat_ofNat, BitVec.toNat_ofNat, BitVec.toNat_ofNat, Nat.mod_eq_of_lt (show k < 2 ^ 64 by omega), Nat.shiftLeft_eq, Nat.mul_mod, Nat.mod_mod, ← Nat.mul_mod]
theorem wb_and {a b : Nat} (ha : a < 2 ^ 64) (hb : b < 2 ^ 64) : lN a &&& lN b = lN (a &&& b) := by
  apply wb_inj
  rw [Int64.toBitVec_and, wb_tb, wb_tb, wb_tb]
  apply BitVec.eq_of_toNat_eq
  rw [BitVec.toNat_and, BitVec.toNat_ofNat, BitVec.toNat_ofNat, BitVec.toNat_ofNat, Nat.mod_eq_of_lt ha, Nat.mod_eq_of_lt hb, Nat.mod_eq_of_lt (Nat.and_lt_two_pow _ hb)]
theorem wb_or {a b : Nat} (ha : a < 2 ^ 64) (hb : b < 2 ^ 64) : lN a ||| lN b = lN (a ||| b) := by
  apply wb_inj
  rw [Int64.toBitVec_or, wb_tb, wb_tb, wb_tb]
  apply BitVec.eq_of_toNat_eq
  rw [BitVec.toNat_or, BitVec.toNat_ofNat, BitVec.toNat_ofNat, BitVec.toNat_ofNat, Nat.mod_eq_of_lt ha, Nat.mod_eq_of_lt hb, Nat.mod_eq_of_lt (Nat.or_lt_two_pow ha hb)]
theorem wb_mask {n k : Nat} (hn : n < 2 ^ 64) (hk : k < 64) : lN n &&& lN (2 ^ k - 1) = lN (n % 2 ^ k) := by
  rw [wb_and hn (by have := wb_lt2 hk; omega), Nat.and_two_pow_sub_one_eq_mod]
theorem wb_a1 {n : Nat} (hn : n < 2 ^ 64) : lN n &&& 1 = lN (n % 2) := wb_mask (k := 1) hn (by decide)
theorem wb_bit {n k : Nat} (hn : n < 2 ^ 64) (hk : k < 64) : ((lN n).toUInt64 >>> ((nI k).toInt64.toUInt64 &&& Int64.toUInt64 63)).toInt64 &&& 1 = lN (n / 2 ^ k % 2) := by
  rw [wb_shr hn hk, wb_a1 (Nat.lt_of_le_of_lt (Nat.div_le_self _ _) hn)]
theorem pf_lI {a : Nat} (h : a < 2 ^ 63) : (lN a).toInt = (a : Int) := lg_ofNat_toInt h
theorem pf_shr {a d : Nat} {D : Int64} (hD : (D.toBitVec.smod 64).toNat = d) (h : a < 2 ^ 62) : lN a >>> D = lN (a / 2 ^ d) := by
  have hd : a / 2 ^ d ≤ a := Nat.div_le_self _ _
  apply Int64.toInt_inj.mp
  have e : (lN a >>> D).toInt = (lN a).toInt >>> d := by
    rw [← hD]
    exact BitVec.toInt_sshiftRight ..
  rw [e, Int.shiftRight_eq_div_pow, pf_lI (by omega), pf_lI (by omega)]
  rfl
end
section
-- ints of 32 bits as whole numbers, while they are small
section gn

theorem gn_add (a b : Int32) (ha : -100000000 ≤ a.toInt ∧ a.toInt ≤ 100000000) (hb : -100000000 ≤ b.toInt ∧ b.toInt ≤ 100000000) :
    (a + b).toInt = a.toInt + b.toInt := by
  rw [Int32.toInt_add]
  exact Int.bmod_eq_of_le (by omega) (by omega)

theorem gn_sub (a b : Int32) (ha : -100000000 ≤ a.toInt ∧ a.toInt ≤ 100000000) (hb : -100000000 ≤ b.toInt ∧ b.toInt ≤ 100000000) :
    (a - b).toInt = a.toInt - b.toInt := by
  rw [Int32.toInt_sub]
  exact Int.bmod_eq_of_le (by omega) (by omega)

theorem gn_neg (a : Int32) (ha : -100000000 ≤ a.toInt ∧ a.toInt ≤ 100000000) : (-a).toInt = -a.toInt := by
  rw [Int32.toInt_neg]
  exact Int.bmod_eq_of_le (by omega) (by omega)

theorem gn_lt (a b : Int32) : a < b ↔ a.toInt < b.toInt := Int32.lt_iff_toInt_lt
theorem gn_le (a b : Int32) : a ≤ b ↔ a.toInt ≤ b.toInt := Int32.le_iff_toInt_le

/-- sums over the first k cells -/
def gn_sum (f : Nat → Int32) : Nat → Int
  | 0 => 0
  | k + 1 => gn_sum f k + (f k).toInt

theorem gn_sum_same (f : Nat → Int32) (i : Nat) (x : Int32) : ∀ k, k ≤ i → gn_sum (upd f i x) k = gn_sum f k := by
  intro k
  induction k with
  | zero => intro _; rfl
  | succ k ih =>
    intro hk
    unfold gn_sum
    rw [ih (by omega)]
    have : upd f i x k = f k := by
      unfold upd; rw [if_neg (by omega)]
    rw [this]

theorem gn_sum_upd (f : Nat → Int32) (i : Nat) (x : Int32) : ∀ k, i < k → gn_sum (upd f i x) k = gn_sum f k - (f i).toInt + x.toInt := by
  intro k
  induction k with
  | zero => intro h; omega
  | succ k ih =>
    intro hk
    unfold gn_sum
    by_cases hx : i = k
    · subst hx
      rw [gn_sum_same f i x i (Nat.le_refl i)]
      have : upd f i x i = x := by unfold upd; rw [if_pos rfl]
      rw [this]
      omega
    · rw [ih (by omega)]
      have : upd f i x k = f k := by unfold upd; rw [if_neg (fun z => hx z.symm)]
      rw [this]
      omega

theorem gn_sum_ge (f : Nat → Int32) (d : Int) : ∀ k : Nat, (∀ i, i < k → d ≤ (f i).toInt) → d * (k : Int) ≤ gn_sum f k := by
  intro k
  induction k with
  | zero => intro _; simp [gn_sum]
  | succ k ih =>
    intro hh
    have a := ih (fun i hi => hh i (by omega))
    have b := hh k (by omega)
    unfold gn_sum
    have c : d * ((k + 1 : Nat) : Int) = d * (k : Int) + d := by
      rw [Int.natCast_succ, Int.mul_add, Int.mul_one]
    omega

theorem gn_sum_le (f : Nat → Int32) (d : Int) : ∀ k : Nat, (∀ i, i < k → (f i).toInt ≤ d) → gn_sum f k ≤ d * (k : Int) := by
  intro k
  induction k with
  | zero => intro _; simp [gn_sum]
  | succ k ih =>
    intro hh
    have a := ih (fun i hi => hh i (by omega))
    have b := hh k (by omega)
    unfold gn_sum
    have c : d * ((k + 1 : Nat) : Int) = d * (k : Int) + d := by
      rw [Int.natCast_succ, Int.mul_add, Int.mul_one]
    omega
end gn
end
section
-- the game of the document, over plain functions
-- n events, horizon h, limits L u v, contingent ct c with activation ac c and durations lo c .. hi c.
-- A position: step s (12 steps a round: 0..5 outcomes, 6..11 choices), times p (100: no time yet).
section gm
variable (n h : Nat) (L : Nat → Nat → Int) (ct : Nat → Bool) (ac : Nat → Nat) (lo hi : Nat → Int)

def gm_set (p : Nat → Int) (e : Nat) (t : Int) : Nat → Int := fun x => if x = e then t else p x

def gm_broken (p : Nat → Int) : Prop :=
  ∃ u v, u < n ∧ v < n ∧ u ≠ v ∧ p u ≠ 100 ∧ p v ≠ 100 ∧ L u v < p v - p u

def gm_full (p : Nat → Int) : Prop := ∀ e, e < n → p e ≠ 100

def gm_kind (p : Nat → Int) (s : Nat) : Nat :=
  if s % 6 = 0 ∨ n ≤ s % 6 ∨ p (s % 6) ≠ 100 then 0
  else if 6 ≤ s % 12 then (if ct (s % 6) = true then 0 else 3)
  else if ct (s % 6) = false ∨ p (ac (s % 6)) = 100 then 0
  else if ((s / 12 : Nat) : Int) - p (ac (s % 6)) = hi (s % 6) then 1
  else if lo (s % 6) ≤ ((s / 12 : Nat) : Int) - p (ac (s % 6)) ∧ ((s / 12 : Nat) : Int) - p (ac (s % 6)) < hi (s % 6) then 2
  else 0

def gm_val : Nat → Nat → (Nat → Int) → Prop
  | 0, _, p => ¬ gm_broken n L p ∧ gm_full n p
  | m + 1, s, p => ¬ gm_broken n L p ∧ (gm_full n p ∨
      (gm_kind n ct ac lo hi p s = 0 ∧ gm_val m (s + 1) p) ∨
      (gm_kind n ct ac lo hi p s = 1 ∧ gm_val m (s + 1) (gm_set p (s % 6) ((s / 12 : Nat) : Int))) ∨
      (gm_kind n ct ac lo hi p s = 2 ∧ gm_val m (s + 1) (gm_set p (s % 6) ((s / 12 : Nat) : Int)) ∧ gm_val m (s + 1) p) ∨
      (gm_kind n ct ac lo hi p s = 3 ∧ (gm_val m (s + 1) (gm_set p (s % 6) ((s / 12 : Nat) : Int)) ∨ gm_val m (s + 1) p)))

/-- what the editing calls keep of a network -/
def gm_net : Prop :=
  0 < n ∧ n ≤ 6 ∧ h ≤ 7 ∧ ct 0 = false ∧ (∀ u, u < n → u ≠ 0 → L u 0 ≤ 0) ∧ (∀ u v, u < n → v < n → L u v ≤ (h : Int)) ∧
  (∀ c, c < n → ct c = true → ac c < n ∧ ac c ≠ c ∧ 1 ≤ lo c ∧ lo c ≤ hi c ∧ hi c ≤ (h : Int))

def gm_of (e : Nat) : Int := if ct e = true then (e : Int) else 6 + (e : Int)

/-- the step at which event e gets the time t -/
def gm_stp (e : Nat) (t : Int) : Int := if e = 0 then -1 else 12 * t + gm_of ct e

def gm_pos (T : Nat → Int) (s : Nat) (e : Nat) : Int := if gm_stp ct e (T e) < (s : Int) then T e else 100

/-- the times of a position at step s, as play can have given them -/
def gm_wf (s : Nat) (p : Nat → Int) : Prop :=
  p 0 = 0 ∧ (∀ e, e < n → p e = 100 ∨ (0 ≤ p e ∧ p e ≤ (h : Int) ∧ gm_stp ct e (p e) < (s : Int))) ∧
  (∀ c, c < n → ct c = true → p c ≠ 100 → p (ac c) ≠ 100 ∧ p (ac c) + lo c ≤ p c ∧ p c ≤ p (ac c) + hi c)

/-- a whole play all of whose positions are safe -/
def gm_sp (T : Nat → Int) : Prop :=
  T 0 = 0 ∧ (∀ e, e < n → 0 ≤ T e ∧ T e ≤ (h : Int)) ∧
  (∀ c, c < n → ct c = true → T (ac c) + lo c ≤ T c ∧ T c ≤ T (ac c) + hi c) ∧
  (∀ m s, s + m = 12 * (h + 1) → gm_val n L ct ac lo hi m s (gm_pos ct T s))

theorem gm_set_s (p : Nat → Int) (e : Nat) (t : Int) : gm_set p e t e = t := by
  simp [gm_set]

theorem gm_set_n (p : Nat → Int) (e : Nat) (t : Int) (x : Nat) (hx : x ≠ e) : gm_set p e t x = p x := by
  simp [gm_set, hx]

theorem gm_of_t (e : Nat) (hc : ct e = true) : gm_of ct e = (e : Int) := by
  simp [gm_of, hc]

theorem gm_of_f (e : Nat) (hc : ct e = false) : gm_of ct e = 6 + (e : Int) := by
  simp [gm_of, hc]

theorem gm_stp_0 (t : Int) : gm_stp ct 0 t = -1 := by
  simp [gm_stp]

theorem gm_stp_t (e : Nat) (t : Int) (he : e ≠ 0) (hc : ct e = true) : gm_stp ct e t = 12 * t + (e : Int) := by
  simp [gm_stp, gm_of, he, hc]

theorem gm_stp_f (e : Nat) (t : Int) (he : e ≠ 0) (hc : ct e = false) : gm_stp ct e t = 12 * t + (6 + (e : Int)) := by
  simp [gm_stp, gm_of, he, hc]

/-- a step within its round -/
theorem gm_stp_b (e : Nat) (t : Int) (he : e ≠ 0) (h6 : e < 6) :
    12 * t + 1 ≤ gm_stp ct e t ∧ gm_stp ct e t ≤ 12 * t + 11 := by
  cases hc : ct e with
  | true => rw [gm_stp_t ct e t he hc]; omega
  | false => rw [gm_stp_f ct e t he hc]; omega

theorem gm_stp_u (e : Nat) (t : Int) (h6 : e < 6) (h0 : 0 ≤ t) : gm_stp ct e t ≤ 12 * t + 11 := by
  by_cases he : e = 0
  · subst he; rw [gm_stp_0]; omega
  · exact (gm_stp_b ct e t he h6).2

theorem gm_stp_add (e : Nat) (t d : Int) (he : e ≠ 0) : gm_stp ct e (t + d) = gm_stp ct e t + 12 * d := by
  cases hc : ct e with
  | true => rw [gm_stp_t ct e _ he hc, gm_stp_t ct e _ he hc]; omega
  | false => rw [gm_stp_f ct e _ he hc, gm_stp_f ct e _ he hc]; omega

theorem gm_stp_mono (e : Nat) (t t' : Int) (he : e ≠ 0) : gm_stp ct e t ≤ gm_stp ct e t' ↔ t ≤ t' := by
  cases hc : ct e with
  | true => rw [gm_stp_t ct e _ he hc, gm_stp_t ct e _ he hc]; omega
  | false => rw [gm_stp_f ct e _ he hc, gm_stp_f ct e _ he hc]; omega

/-- a step belongs to one event and one time -/
theorem gm_slot (e s : Nat) (t : Int) (he : e ≠ 0) (h6 : e < 6) (hs : gm_stp ct e t = (s : Int)) :
    e = s % 6 ∧ t = ((s / 12 : Nat) : Int) ∧ (ct e = true → s % 12 < 6) ∧ (ct e = false → 6 ≤ s % 12) := by
  cases hc : ct e with
  | true =>
    rw [gm_stp_t ct e t he hc] at hs
    refine ⟨by omega, by omega, fun _ => by omega, fun z => by simp at z⟩
  | false =>
    rw [gm_stp_f ct e t he hc] at hs
    refine ⟨by omega, by omega, fun z => by simp at z, fun _ => by omega⟩

theorem gm_slot_t (s : Nat) (he : s % 6 ≠ 0) (hc : ct (s % 6) = true) (hs : s % 12 < 6) :
    gm_stp ct (s % 6) ((s / 12 : Nat) : Int) = (s : Int) := by
  rw [gm_stp_t ct _ _ he hc]; omega

theorem gm_slot_f (s : Nat) (he : s % 6 ≠ 0) (hc : ct (s % 6) = false) (hs : 6 ≤ s % 12) :
    gm_stp ct (s % 6) ((s / 12 : Nat) : Int) = (s : Int) := by
  rw [gm_stp_f ct _ _ he hc]; omega

/-- what a kind says -/
theorem gm_kind_3 (p : Nat → Int) (s : Nat) (hk : gm_kind n ct ac lo hi p s = 3) :
    s % 6 ≠ 0 ∧ s % 6 < n ∧ p (s % 6) = 100 ∧ ct (s % 6) = false ∧ 6 ≤ s % 12 := by
  unfold gm_kind at hk
  split at hk
  · omega
  · rename_i h1
    split at hk
    · rename_i h2
      split at hk
      · omega
      · rename_i h3
        refine ⟨by omega, by omega, by omega, by simpa using h3, h2⟩
    · split at hk
      · omega
      · split at hk
        · omega
        · split at hk <;> omega

theorem gm_kind_12 (p : Nat → Int) (s : Nat) (hk : gm_kind n ct ac lo hi p s = 1 ∨ gm_kind n ct ac lo hi p s = 2) :
    s % 6 ≠ 0 ∧ s % 6 < n ∧ p (s % 6) = 100 ∧ ct (s % 6) = true ∧ s % 12 < 6 ∧ p (ac (s % 6)) ≠ 100 := by
  unfold gm_kind at hk
  split at hk
  · omega
  · rename_i h1
    split at hk
    · split at hk <;> omega
    · rename_i h2
      split at hk
      · omega
      · rename_i h3
        refine ⟨by omega, by omega, by omega, ?_, by omega, ?_⟩
        · cases hc : ct (s % 6) with
          | true => rfl
          | false => exact absurd (Or.inl hc) h3
        · exact fun z => h3 (Or.inr z)

theorem gm_kind_1 (p : Nat → Int) (s : Nat) (hk : gm_kind n ct ac lo hi p s = 1) :
    ((s / 12 : Nat) : Int) - p (ac (s % 6)) = hi (s % 6) := by
  unfold gm_kind at hk
  split at hk
  · omega
  · split at hk
    · split at hk <;> omega
    · split at hk
      · omega
      · split at hk
        · assumption
        · split at hk <;> omega

theorem gm_kind_2 (p : Nat → Int) (s : Nat) (hk : gm_kind n ct ac lo hi p s = 2) :
    lo (s % 6) ≤ ((s / 12 : Nat) : Int) - p (ac (s % 6)) ∧ ((s / 12 : Nat) : Int) - p (ac (s % 6)) < hi (s % 6) := by
  unfold gm_kind at hk
  split at hk
  · omega
  · split at hk
    · split at hk <;> omega
    · split at hk
      · omega
      · split at hk
        · omega
        · split at hk
          · assumption
          · omega

/-- a running contingent event at its own step, by how long it has run -/
theorem gm_kind_run (p : Nat → Int) (s : Nat) (he : s % 6 ≠ 0) (hn : s % 6 < n) (hp : p (s % 6) = 100)
    (hc : ct (s % 6) = true) (hs : s % 12 < 6) (ha : p (ac (s % 6)) ≠ 100) :
    (((s / 12 : Nat) : Int) - p (ac (s % 6)) = hi (s % 6) → gm_kind n ct ac lo hi p s = 1) ∧
    (lo (s % 6) ≤ ((s / 12 : Nat) : Int) - p (ac (s % 6)) → ((s / 12 : Nat) : Int) - p (ac (s % 6)) < hi (s % 6) →
      gm_kind n ct ac lo hi p s = 2) := by
  have h1 : ¬ (s % 6 = 0 ∨ n ≤ s % 6 ∨ p (s % 6) ≠ 100) := by
    intro z
    rcases z with z | z | z
    · exact he z
    · omega
    · exact z hp
  have h2 : ¬ 6 ≤ s % 12 := by omega
  have h3 : ¬ (ct (s % 6) = false ∨ p (ac (s % 6)) = 100) := by
    intro z
    rcases z with z | z
    · rw [hc] at z; simp at z
    · exact ha z
  constructor
  · intro hd
    unfold gm_kind
    rw [if_neg h1, if_neg h2, if_neg h3, if_pos hd]
  · intro hl hh
    have h4 : ¬ ((s / 12 : Nat) : Int) - p (ac (s % 6)) = hi (s % 6) := by omega
    unfold gm_kind
    rw [if_neg h1, if_neg h2, if_neg h3, if_neg h4, if_pos ⟨hl, hh⟩]

theorem gm_kind_exe (p : Nat → Int) (s : Nat) (he : s % 6 ≠ 0) (hn : s % 6 < n) (hp : p (s % 6) = 100)
    (hc : ct (s % 6) = false) (hs : 6 ≤ s % 12) : gm_kind n ct ac lo hi p s = 3 := by
  have h1 : ¬ (s % 6 = 0 ∨ n ≤ s % 6 ∨ p (s % 6) ≠ 100) := by
    intro z
    rcases z with z | z | z
    · exact he z
    · omega
    · exact z hp
  have h3 : ¬ ct (s % 6) = true := by rw [hc]; simp
  unfold gm_kind
  rw [if_neg h1, if_pos hs, if_neg h3]

theorem gm_kind_lt (p : Nat → Int) (s : Nat) :
    gm_kind n ct ac lo hi p s = 0 ∨ gm_kind n ct ac lo hi p s = 1 ∨ gm_kind n ct ac lo hi p s = 2 ∨ gm_kind n ct ac lo hi p s = 3 := by
  unfold gm_kind
  split
  · exact Or.inl rfl
  · split
    · split
      · exact Or.inl rfl
      · exact Or.inr (Or.inr (Or.inr rfl))
    · split
      · exact Or.inl rfl
      · split
        · exact Or.inr (Or.inl rfl)
        · split
          · exact Or.inr (Or.inr (Or.inl rfl))
          · exact Or.inl rfl

/-- only the times of the n events matter -/
theorem gm_broken_c (p q : Nat → Int) (hpq : ∀ e, e < n → p e = q e) (hb : gm_broken n L p) : gm_broken n L q := by
  obtain ⟨u, v, hu, hv, huv, h1, h2, h3⟩ := hb
  exact ⟨u, v, hu, hv, huv, by rw [← hpq u hu]; exact h1, by rw [← hpq v hv]; exact h2, by rw [← hpq u hu, ← hpq v hv]; exact h3⟩

theorem gm_full_c (p q : Nat → Int) (hpq : ∀ e, e < n → p e = q e) (hb : gm_full n p) : gm_full n q :=
  fun e he => by rw [← hpq e he]; exact hb e he

theorem gm_kind_c (p q : Nat → Int) (s : Nat) (hpq : ∀ e, e < n → p e = q e)
    (hac : ∀ c, c < n → ct c = true → ac c < n) : gm_kind n ct ac lo hi p s = gm_kind n ct ac lo hi q s := by
  by_cases h1 : s % 6 < n
  · have e1 : p (s % 6) = q (s % 6) := hpq _ h1
    cases hc : ct (s % 6) with
    | true =>
      have e2 : p (ac (s % 6)) = q (ac (s % 6)) := hpq _ (hac _ h1 hc)
      unfold gm_kind
      rw [e1, e2]
    | false =>
      unfold gm_kind
      rw [e1, hc]
      simp
  · have h2 : n ≤ s % 6 := by omega
    have a1 : s % 6 = 0 ∨ n ≤ s % 6 ∨ p (s % 6) ≠ 100 := Or.inr (Or.inl h2)
    have a2 : s % 6 = 0 ∨ n ≤ s % 6 ∨ q (s % 6) ≠ 100 := Or.inr (Or.inl h2)
    unfold gm_kind
    rw [if_pos a1, if_pos a2]

theorem gm_set_c (p q : Nat → Int) (x : Nat) (t : Int) (hpq : ∀ e, e < n → p e = q e) :
    ∀ e, e < n → gm_set p x t e = gm_set q x t e := by
  intro e he
  by_cases hx : e = x
  · subst hx; rw [gm_set_s, gm_set_s]
  · rw [gm_set_n _ _ _ _ hx, gm_set_n _ _ _ _ hx, hpq e he]

theorem gm_val_c (hac : ∀ c, c < n → ct c = true → ac c < n) : ∀ (m s : Nat) (p q : Nat → Int),
    (∀ e, e < n → p e = q e) → gm_val n L ct ac lo hi m s p → gm_val n L ct ac lo hi m s q := by
  intro m
  induction m with
  | zero =>
    intro s p q hpq hv
    unfold gm_val at hv ⊢
    exact ⟨fun z => hv.1 (gm_broken_c n L q p (fun e he => (hpq e he).symm) z), gm_full_c n p q hpq hv.2⟩
  | succ m ih =>
    intro s p q hpq hv
    unfold gm_val at hv ⊢
    have hk := gm_kind_c n ct ac lo hi p q s hpq hac
    have hs := gm_set_c n p q (s % 6) ((s / 12 : Nat) : Int) hpq
    refine ⟨fun z => hv.1 (gm_broken_c n L q p (fun e he => (hpq e he).symm) z), ?_⟩
    rw [← hk]
    rcases hv.2 with hf | ⟨k, a⟩ | ⟨k, a⟩ | ⟨k, a, b⟩ | ⟨k, a | b⟩
    · exact Or.inl (gm_full_c n p q hpq hf)
    · exact Or.inr (Or.inl ⟨k, ih _ _ _ hpq a⟩)
    · exact Or.inr (Or.inr (Or.inl ⟨k, ih _ _ _ hs a⟩))
    · exact Or.inr (Or.inr (Or.inr (Or.inl ⟨k, ih _ _ _ hs a, ih _ _ _ hpq b⟩)))
    · exact Or.inr (Or.inr (Or.inr (Or.inr ⟨k, Or.inl (ih _ _ _ hs a)⟩)))
    · exact Or.inr (Or.inr (Or.inr (Or.inr ⟨k, Or.inr (ih _ _ _ hpq b)⟩)))

theorem gm_val_full (m s : Nat) (p : Nat → Int) (hb : ¬ gm_broken n L p) (hf : gm_full n p) :
    gm_val n L ct ac lo hi m s p := by
  cases m with
  | zero => unfold gm_val; exact ⟨hb, hf⟩
  | succ m => unfold gm_val; exact ⟨hb, Or.inl hf⟩

theorem gm_val_nb (m s : Nat) (p : Nat → Int) (hv : gm_val n L ct ac lo hi m s p) : ¬ gm_broken n L p := by
  cases m with
  | zero => unfold gm_val at hv; exact hv.1
  | succ m => unfold gm_val at hv; exact hv.1
end gm
end
section
-- plays all of whose positions are safe; from a safe position the environment's durations may be chosen
section gp
variable (n h : Nat) (L : Nat → Nat → Int) (ct : Nat → Bool) (ac : Nat → Nat) (lo hi : Nat → Int)

theorem gp_wf_s (s : Nat) (p : Nat → Int) (hw : gm_wf n h ct ac lo hi s p) : gm_wf n h ct ac lo hi (s + 1) p := by
  refine ⟨hw.1, fun e he => ?_, hw.2.2⟩
  rcases hw.2.1 e he with a | ⟨a, b, c⟩
  · exact Or.inl a
  · exact Or.inr ⟨a, b, by omega⟩

/-- a time given at its own step -/
theorem gp_wf_set (hN : gm_net n h L ct ac lo hi) (s : Nat) (p : Nat → Int) (hs : s < 12 * (h + 1))
    (hw : gm_wf n h ct ac lo hi s p) (he : s % 6 ≠ 0) (hen : s % 6 < n) (hp : p (s % 6) = 100)
    (hst : gm_stp ct (s % 6) ((s / 12 : Nat) : Int) = (s : Int))
    (hd : ct (s % 6) = true → p (ac (s % 6)) ≠ 100 ∧ p (ac (s % 6)) + lo (s % 6) ≤ ((s / 12 : Nat) : Int) ∧
      ((s / 12 : Nat) : Int) ≤ p (ac (s % 6)) + hi (s % 6)) :
    gm_wf n h ct ac lo hi (s + 1) (gm_set p (s % 6) ((s / 12 : Nat) : Int)) := by
  obtain ⟨_, _, h7, _, _, _, hc⟩ := hN
  refine ⟨?_, ?_, ?_⟩
  · rw [gm_set_n _ _ _ _ (fun z => he z.symm)]; exact hw.1
  · intro e hen'
    by_cases hx : e = s % 6
    · subst hx
      rw [gm_set_s]
      refine Or.inr ⟨by omega, by omega, by omega⟩
    · rw [gm_set_n _ _ _ _ hx]
      rcases hw.2.1 e hen' with a | ⟨a, b, c⟩
      · exact Or.inl a
      · exact Or.inr ⟨a, b, by omega⟩
  · intro c hcn hcc hpc
    obtain ⟨h1, h2, h3⟩ := hc c hcn hcc
    by_cases hx : c = s % 6
    · subst hx
      rw [gm_set_s, gm_set_n _ _ _ _ h2]
      exact hd hcc
    · rw [gm_set_n _ _ _ _ hx] at hpc ⊢
      have hq := hw.2.2 c hcn hcc hpc
      have hax : ac c ≠ s % 6 := fun z => hq.1 (by rw [z]; exact hp)
      rw [gm_set_n _ _ _ _ hax]
      exact hq

theorem gp_ext_full (hN : gm_net n h L ct ac lo hi) (D : Nat → Int) (s : Nat) (p : Nat → Int)
    (hw : gm_wf n h ct ac lo hi s p) (hb : ¬ gm_broken n L p) (hf : gm_full n p) :
    ∃ T : Nat → Int, (∀ e, e < n → gm_pos ct T s e = p e) ∧ (∀ e, e < n → 0 ≤ T e ∧ T e ≤ (h : Int)) ∧ T 0 = 0 ∧
      (∀ c, c < n → ct c = true → T (ac c) + lo c ≤ T c ∧ T c ≤ T (ac c) + hi c) ∧
      (∀ c, c < n → ct c = true → p c = 100 → T c = T (ac c) + D c) ∧
      (∀ m' s', s ≤ s' → s' + m' = 12 * (h + 1) → gm_val n L ct ac lo hi m' s' (gm_pos ct T s')) := by
  have hpos : ∀ s', s ≤ s' → ∀ e, e < n → gm_pos ct p s' e = p e := by
    intro s' hs' e he
    rcases hw.2.1 e he with a | ⟨a, b, c⟩
    · exact absurd a (hf e he)
    · unfold gm_pos
      rw [if_pos (by omega)]
  refine ⟨p, hpos s (Nat.le_refl s), ?_, hw.1, ?_, ?_, ?_⟩
  · intro e he
    rcases hw.2.1 e he with a | ⟨a, b, c⟩
    · exact absurd a (hf e he)
    · exact ⟨a, b⟩
  · intro c hcn hcc
    exact (hw.2.2 c hcn hcc (hf c hcn)).2
  · intro c hcn _ hp
    exact absurd hp (hf c hcn)
  · intro m' s' hs' _
    exact gm_val_c n L ct ac lo hi (fun c hcn hcc => (hN.2.2.2.2.2.2 c hcn hcc).1) m' s' p _
      (fun e he => (hpos s' hs' e he).symm) (gm_val_full n L ct ac lo hi m' s' p hb hf)

/-- from a safe position the environment may choose every duration that is still to come -/
theorem gp_ext (hN : gm_net n h L ct ac lo hi) (D : Nat → Int) (hD : ∀ c, c < n → ct c = true → lo c ≤ D c ∧ D c ≤ hi c) :
    ∀ (m s : Nat) (p : Nat → Int), s + m = 12 * (h + 1) → gm_wf n h ct ac lo hi s p → gm_val n L ct ac lo hi m s p →
      (∀ c, c < n → ct c = true → p c = 100 → p (ac c) ≠ 100 → (s : Int) ≤ gm_stp ct c (p (ac c) + D c)) →
      ∃ T : Nat → Int, (∀ e, e < n → gm_pos ct T s e = p e) ∧ (∀ e, e < n → 0 ≤ T e ∧ T e ≤ (h : Int)) ∧ T 0 = 0 ∧
        (∀ c, c < n → ct c = true → T (ac c) + lo c ≤ T c ∧ T c ≤ T (ac c) + hi c) ∧
        (∀ c, c < n → ct c = true → p c = 100 → T c = T (ac c) + D c) ∧
        (∀ m' s', s ≤ s' → s' + m' = 12 * (h + 1) → gm_val n L ct ac lo hi m' s' (gm_pos ct T s')) := by
  have hac : ∀ c, c < n → ct c = true → ac c < n := fun c hcn hcc => (hN.2.2.2.2.2.2 c hcn hcc).1
  have hn6 : n ≤ 6 := hN.2.1
  have h7 : h ≤ 7 := hN.2.2.1
  intro m
  induction m with
  | zero =>
    intro s p hs hw hv ho
    unfold gm_val at hv
    exact gp_ext_full n h L ct ac lo hi hN D s p hw hv.1 hv.2
  | succ m ih =>
    intro s p hs hw hv ho
    have hv0 := hv
    unfold gm_val at hv
    have hb := hv.1
    -- the slot passes: the same times at the next step
    have hpass : gm_val n L ct ac lo hi m (s + 1) p →
        (∀ c, c < n → ct c = true → p c = 100 → p (ac c) ≠ 100 → gm_stp ct c (p (ac c) + D c) ≠ (s : Int)) →
        ∃ T : Nat → Int, (∀ e, e < n → gm_pos ct T s e = p e) ∧ (∀ e, e < n → 0 ≤ T e ∧ T e ≤ (h : Int)) ∧ T 0 = 0 ∧
          (∀ c, c < n → ct c = true → T (ac c) + lo c ≤ T c ∧ T c ≤ T (ac c) + hi c) ∧
          (∀ c, c < n → ct c = true → p c = 100 → T c = T (ac c) + D c) ∧
          (∀ m' s', s ≤ s' → s' + m' = 12 * (h + 1) → gm_val n L ct ac lo hi m' s' (gm_pos ct T s')) := by
      intro hv1 hne
      obtain ⟨T, t1, t2, t3, t4, t5, t6⟩ := ih (s + 1) p (by omega) (gp_wf_s n h ct ac lo hi s p hw) hv1
        (fun c a b d e => by
          have x1 := ho c a b d e
          have x2 := hne c a b d e
          omega)
      have hpos : ∀ e, e < n → gm_pos ct T s e = p e := by
        intro e he
        have y := t1 e he
        unfold gm_pos at y ⊢
        by_cases h1 : gm_stp ct e (T e) < (s : Int)
        · rw [if_pos h1]
          rw [if_pos (by omega)] at y
          exact y
        · rw [if_neg h1]
          by_cases h2 : gm_stp ct e (T e) < ((s + 1 : Nat) : Int)
          · rw [if_pos h2] at y
            exfalso
            have z := t2 e he
            rcases hw.2.1 e he with a | ⟨_, _, c⟩
            · omega
            · rw [← y] at c; exact h1 c
          · rw [if_neg h2] at y
            exact y
      refine ⟨T, hpos, t2, t3, t4, t5, ?_⟩
      intro m' s' hs' hm'
      by_cases hx : s' = s
      · subst hx
        have hm : m' = m + 1 := by omega
        subst hm
        exact gm_val_c n L ct ac lo hi hac (m + 1) s' p _ (fun e he => (hpos e he).symm) hv0
      · exact t6 m' s' (by omega) hm'
    -- the slot's event gets its time
    have hset : gm_val n L ct ac lo hi m (s + 1) (gm_set p (s % 6) ((s / 12 : Nat) : Int)) →
        s % 6 ≠ 0 → s % 6 < n → p (s % 6) = 100 → gm_stp ct (s % 6) ((s / 12 : Nat) : Int) = (s : Int) →
        (ct (s % 6) = true → p (ac (s % 6)) ≠ 100 ∧ ((s / 12 : Nat) : Int) = p (ac (s % 6)) + D (s % 6)) →
        ∃ T : Nat → Int, (∀ e, e < n → gm_pos ct T s e = p e) ∧ (∀ e, e < n → 0 ≤ T e ∧ T e ≤ (h : Int)) ∧ T 0 = 0 ∧
          (∀ c, c < n → ct c = true → T (ac c) + lo c ≤ T c ∧ T c ≤ T (ac c) + hi c) ∧
          (∀ c, c < n → ct c = true → p c = 100 → T c = T (ac c) + D c) ∧
          (∀ m' s', s ≤ s' → s' + m' = 12 * (h + 1) → gm_val n L ct ac lo hi m' s' (gm_pos ct T s')) := by
      intro hv1 he hen hpe hst hd
      have hw1 : gm_wf n h ct ac lo hi (s + 1) (gm_set p (s % 6) ((s / 12 : Nat) : Int)) :=
        gp_wf_set n h L ct ac lo hi hN s p (by omega) hw he hen hpe hst (fun hc => by
          have x := hd hc
          have y := hD _ hen hc
          refine ⟨x.1, by omega, by omega⟩)
      obtain ⟨T, t1, t2, t3, t4, t5, t6⟩ := ih (s + 1) _ (by omega) hw1 hv1 (fun c a b d e => by
          have hc0 : c ≠ 0 := by
            intro z; subst z
            have y := hN.2.2.2.1
            rw [b] at y; simp at y
          by_cases hx : c = s % 6
          · subst hx; rw [gm_set_s] at d
            omega
          · rw [gm_set_n _ _ _ _ hx] at d
            by_cases hax : ac c = s % 6
            · rw [hax, gm_set_s]
              have y := (hD c a b)
              have y2 := (hN.2.2.2.2.2.2 c a b).2.2.1
              have y3 := (gm_stp_b ct c (((s / 12 : Nat) : Int) + D c) hc0 (by omega)).1
              omega
            · rw [gm_set_n _ _ _ _ hax] at e ⊢
              have y := ho c a b d e
              by_cases hq : gm_stp ct c (p (ac c) + D c) = (s : Int)
              · exact absurd (gm_slot ct c s _ hc0 (by omega) hq).1 hx
              · omega)
      have hTe : T (s % 6) = ((s / 12 : Nat) : Int) := by
        have y := t1 _ hen
        rw [gm_set_s] at y
        unfold gm_pos at y
        by_cases h1 : gm_stp ct (s % 6) (T (s % 6)) < ((s + 1 : Nat) : Int)
        · rw [if_pos h1] at y; exact y
        · rw [if_neg h1] at y; omega
      have hpos : ∀ e, e < n → gm_pos ct T s e = p e := by
        intro e hen'
        by_cases hx : e = s % 6
        · subst hx
          unfold gm_pos
          rw [hTe, hst, if_neg (by omega), hpe]
        · have y := t1 e hen'
          rw [gm_set_n _ _ _ _ hx] at y
          unfold gm_pos at y ⊢
          by_cases h1 : gm_stp ct e (T e) < (s : Int)
          · rw [if_pos h1]; rw [if_pos (by omega)] at y; exact y
          · rw [if_neg h1]
            by_cases h2 : gm_stp ct e (T e) < ((s + 1 : Nat) : Int)
            · exfalso
              by_cases he0 : e = 0
              · subst he0; rw [gm_stp_0] at h1; omega
              · exact hx (gm_slot ct e s (T e) he0 (by omega) (by omega)).1
            · rw [if_neg h2] at y; exact y
      refine ⟨T, hpos, t2, t3, t4, ?_, ?_⟩
      · intro c hcn hcc hpc
        by_cases hx : c = s % 6
        · subst hx
          have x := hd hcc
          have hax : ac (s % 6) ≠ s % 6 := (hN.2.2.2.2.2.2 _ hcn hcc).2.1
          have y := hpos _ (hac _ hcn hcc)
          unfold gm_pos at y
          by_cases h1 : gm_stp ct (ac (s % 6)) (T (ac (s % 6))) < (s : Int)
          · rw [if_pos h1] at y
            rw [hTe, y]; exact x.2
          · rw [if_neg h1] at y
            exact absurd y.symm x.1
        · exact t5 c hcn hcc (by rw [gm_set_n _ _ _ _ hx]; exact hpc)
      · intro m' s' hs' hm'
        by_cases hx : s' = s
        · subst hx
          have hm : m' = m + 1 := by omega
          subst hm
          exact gm_val_c n L ct ac lo hi hac (m + 1) s' p _ (fun e he => (hpos e he).symm) hv0
        · exact t6 m' s' (by omega) hm'
    -- a contingent event whose chosen time is this step's
    have hc0 : ∀ c, ct c = true → c ≠ 0 := by
      intro c b z; subst z
      have y := hN.2.2.2.1
      rw [b] at y; simp at y
    rcases hv.2 with hf | ⟨k, a⟩ | ⟨k, a⟩ | ⟨k, a, b⟩ | ⟨k, ab⟩
    · exact gp_ext_full n h L ct ac lo hi hN D s p hw hb hf
    · refine hpass a (fun c x1 x2 x3 x4 x5 => ?_)
      obtain ⟨y1, y2, y3, _⟩ := gm_slot ct c s _ (hc0 c x2) (by omega) x5
      have z := hD c x1 x2
      have zr := gm_kind_run n ct ac lo hi p s (by rw [← y1]; exact hc0 c x2) (by rw [← y1]; exact x1) (by rw [← y1]; exact x3)
        (by rw [← y1]; exact x2) (y3 x2) (by rw [← y1]; exact x4)
      rw [← y1] at zr
      by_cases hq : D c = hi c
      · have w := zr.1 (by omega); omega
      · have w := zr.2 (by omega) (by omega); omega
    · obtain ⟨k1, k2, k3, k4, k5, k6⟩ := gm_kind_12 n ct ac lo hi p s (Or.inl k)
      have kd := gm_kind_1 n ct ac lo hi p s k
      have hst := gm_slot_t ct s k1 k4 k5
      have y := ho _ k2 k4 k3 k6
      have z := hD _ k2 k4
      have w : gm_stp ct (s % 6) ((s / 12 : Nat) : Int) ≤ gm_stp ct (s % 6) (p (ac (s % 6)) + D (s % 6)) := by omega
      have w2 := (gm_stp_mono ct (s % 6) _ _ k1).1 w
      exact hset a k1 k2 k3 hst (fun _ => ⟨k6, by omega⟩)
    · obtain ⟨k1, k2, k3, k4, k5, k6⟩ := gm_kind_12 n ct ac lo hi p s (Or.inr k)
      have hst := gm_slot_t ct s k1 k4 k5
      by_cases hq : ((s / 12 : Nat) : Int) = p (ac (s % 6)) + D (s % 6)
      · exact hset a k1 k2 k3 hst (fun _ => ⟨k6, hq⟩)
      · refine hpass b (fun c x1 x2 x3 x4 x5 => ?_)
        obtain ⟨y1, y2, _, _⟩ := gm_slot ct c s _ (hc0 c x2) (by omega) x5
        subst y1
        exact hq y2.symm
    · obtain ⟨k1, k2, k3, k4, k5⟩ := gm_kind_3 n ct ac lo hi p s k
      rcases ab with a | b
      · exact hset a k1 k2 k3 (gm_slot_f ct s k1 k4 k5) (fun z => by rw [k4] at z; simp at z)
      · refine hpass b (fun c x1 x2 x3 x4 x5 => ?_)
        obtain ⟨y1, y2, y3, _⟩ := gm_slot ct c s _ (hc0 c x2) (by omega) x5
        have := y3 x2
        omega

/-- a position of a safe play -/
theorem gp_pos_wf (s : Nat) (T : Nat → Int) (hN : gm_net n h L ct ac lo hi) (hT : gm_sp n h L ct ac lo hi T) :
    gm_wf n h ct ac lo hi s (gm_pos ct T s) := by
  obtain ⟨a1, a2, a3, _⟩ := hT
  have hn6 : n ≤ 6 := hN.2.1
  have h7 : h ≤ 7 := hN.2.2.1
  refine ⟨?_, ?_, ?_⟩
  · unfold gm_pos; rw [gm_stp_0, if_pos (by omega)]; exact a1
  · intro e he
    unfold gm_pos
    by_cases h1 : gm_stp ct e (T e) < (s : Int)
    · rw [if_pos h1]; exact Or.inr ⟨(a2 e he).1, (a2 e he).2, h1⟩
    · rw [if_neg h1]; exact Or.inl rfl
  · intro c hcn hcc hp
    obtain ⟨b1, b2, b3, b4, b5⟩ := hN.2.2.2.2.2.2 c hcn hcc
    have hc0 : c ≠ 0 := by
      intro z; subst z
      have y := hN.2.2.2.1
      rw [hcc] at y; simp at y
    have x := a3 c hcn hcc
    have ta := a2 _ b1
    unfold gm_pos at hp ⊢
    by_cases h1 : gm_stp ct c (T c) < (s : Int)
    · have h2 : gm_stp ct (ac c) (T (ac c)) < (s : Int) := by
        have y1 := (gm_stp_b ct c (T c) hc0 (by omega)).1
        have y2 := gm_stp_u ct (ac c) (T (ac c)) (by omega) ta.1
        omega
      rw [if_pos h1, if_pos h2]
      exact ⟨by omega, x.1, x.2⟩
    · rw [if_neg h1] at hp
      exact absurd rfl hp

/-- a safe position with a safe past lies on a safe play, with the durations that are wished -/
theorem gp_thru (hN : gm_net n h L ct ac lo hi) (D : Nat → Int) (hD : ∀ c, c < n → ct c = true → lo c ≤ D c ∧ D c ≤ hi c)
    (m s : Nat) (p : Nat → Int) (hs : s + m = 12 * (h + 1)) (hw : gm_wf n h ct ac lo hi s p)
    (hv : gm_val n L ct ac lo hi m s p)
    (ho : ∀ c, c < n → ct c = true → p c = 100 → p (ac c) ≠ 100 → (s : Int) ≤ gm_stp ct c (p (ac c) + D c))
    (hpast : ∀ m' s', s' < s → s' + m' = 12 * (h + 1) →
      gm_val n L ct ac lo hi m' s' (fun e => if gm_stp ct e (p e) < (s' : Int) then p e else 100)) :
    ∃ T : Nat → Int, gm_sp n h L ct ac lo hi T ∧ (∀ e, e < n → gm_pos ct T s e = p e) ∧
      (∀ c, c < n → ct c = true → p c = 100 → T c = T (ac c) + D c) := by
  have hac : ∀ c, c < n → ct c = true → ac c < n := fun c hcn hcc => (hN.2.2.2.2.2.2 c hcn hcc).1
  obtain ⟨T, t1, t2, t3, t4, t5, t6⟩ := gp_ext n h L ct ac lo hi hN D hD m s p hs hw hv ho
  refine ⟨T, ⟨t3, t2, t4, ?_⟩, t1, t5⟩
  intro m' s' hm'
  by_cases hlt : s' < s
  · refine gm_val_c n L ct ac lo hi hac m' s' _ _ ?_ (hpast m' s' hlt hm')
    intro e he
    have y := t1 e he
    have z := t2 e he
    have h7 : h ≤ 7 := hN.2.2.1
    show (if gm_stp ct e (p e) < (s' : Int) then p e else 100) = gm_pos ct T s' e
    unfold gm_pos at y ⊢
    by_cases h1 : gm_stp ct e (T e) < (s : Int)
    · rw [if_pos h1] at y
      rw [← y]
    · rw [if_neg h1] at y
      rw [← y, if_neg (show ¬ gm_stp ct e (T e) < (s' : Int) by omega)]
      split <;> rfl
  · exact t6 m' s' (by omega) hm'

/-- from a step of a safe play on, other durations -/
theorem gp_rer (hN : gm_net n h L ct ac lo hi) (D : Nat → Int) (hD : ∀ c, c < n → ct c = true → lo c ≤ D c ∧ D c ≤ hi c)
    (m s : Nat) (T : Nat → Int) (hs : s + m = 12 * (h + 1)) (hT : gm_sp n h L ct ac lo hi T)
    (ho : ∀ c, c < n → ct c = true → ¬ gm_stp ct c (T c) < (s : Int) → gm_stp ct (ac c) (T (ac c)) < (s : Int) →
      (s : Int) ≤ gm_stp ct c (T (ac c) + D c)) :
    ∃ T' : Nat → Int, gm_sp n h L ct ac lo hi T' ∧ (∀ e, e < n → gm_stp ct e (T e) < (s : Int) → T' e = T e) ∧
      (∀ e, e < n → ¬ gm_stp ct e (T e) < (s : Int) → ¬ gm_stp ct e (T' e) < (s : Int)) ∧
      (∀ c, c < n → ct c = true → ¬ gm_stp ct c (T c) < (s : Int) → T' c = T' (ac c) + D c) := by
  have h7 : h ≤ 7 := hN.2.2.1
  have hac : ∀ c, c < n → ct c = true → ac c < n := fun c hcn hcc => (hN.2.2.2.2.2.2 c hcn hcc).1
  have hun : ∀ e, e < n → gm_pos ct T s e = 100 → ¬ gm_stp ct e (T e) < (s : Int) := by
    intro e he y h1
    unfold gm_pos at y
    rw [if_pos h1] at y
    have := hT.2.1 e he
    omega
  obtain ⟨T', u1, u2, u3⟩ := gp_thru n h L ct ac lo hi hN D hD m s (gm_pos ct T s) hs
    (gp_pos_wf n h L ct ac lo hi s T hN hT) (hT.2.2.2 m s hs)
    (fun c x1 x2 x3 x4 => by
      have y1 := hun c x1 x3
      have y2 : gm_stp ct (ac c) (T (ac c)) < (s : Int) := by
        by_cases h1 : gm_stp ct (ac c) (T (ac c)) < (s : Int)
        · exact h1
        · exact absurd (by unfold gm_pos; rw [if_neg h1]) x4
      have y3 : gm_pos ct T s (ac c) = T (ac c) := by unfold gm_pos; rw [if_pos y2]
      rw [y3]
      exact ho c x1 x2 y1 y2)
    (fun m' s' hlt hm' => by
      refine gm_val_c n L ct ac lo hi hac m' s' _ _ ?_ (hT.2.2.2 m' s' hm')
      intro e he
      show gm_pos ct T s' e = (if gm_stp ct e (gm_pos ct T s e) < (s' : Int) then gm_pos ct T s e else 100)
      unfold gm_pos
      by_cases h1 : gm_stp ct e (T e) < (s : Int)
      · rw [if_pos h1]
      · rw [if_neg h1, if_neg (show ¬ gm_stp ct e (T e) < (s' : Int) by omega)]
        split <;> rfl)
  have hnp : ∀ e, e < n → ¬ gm_stp ct e (T e) < (s : Int) → gm_pos ct T s e = 100 := by
    intro e _ h1
    unfold gm_pos; rw [if_neg h1]
  refine ⟨T', u1, ?_, ?_, ?_⟩
  · intro e he h1
    have y := u2 e he
    have z := hT.2.1 e he
    unfold gm_pos at y
    rw [if_pos h1] at y
    by_cases h2 : gm_stp ct e (T' e) < (s : Int)
    · rw [if_pos h2] at y; exact y
    · rw [if_neg h2] at y; omega
  · intro e he h1 h2
    have y := u2 e he
    have z := u1.2.1 e he
    unfold gm_pos at y
    rw [if_neg h1, if_pos h2] at y
    omega
  · intro c x1 x2 x3
    exact u3 c x1 x2 (hnp c x1 x3)
end gp
end
section
-- numbers packed in groups of 4 bits
section lb4
def lb4_P (N : Nat) (x : Nat → Nat) : Prop := ∀ j, N.testBit j = (x (j / 4)).testBit (j % 4)

theorem lb4_get (N : Nat) (x : Nat → Nat) (hP : lb4_P N x) (i : Nat) (hx : x i < 2 ^ 4) : N / 2 ^ (4 * i) % 2 ^ 4 = x i := by
  apply Nat.eq_of_testBit_eq
  intro j
  rw [Nat.testBit_mod_two_pow, Nat.testBit_div_two_pow, hP]
  by_cases hj : j < 4
  · rw [show (j + 4 * i) / 4 = i by omega, show (j + 4 * i) % 4 = j by omega]
    simp [hj]
  · rw [Nat.testBit_lt_two_pow (x := x i) (i := j) (Nat.lt_of_lt_of_le hx (Nat.pow_le_pow_right (by decide) (by omega)))]
    simp [hj]

theorem lb4_or (N : Nat) (x : Nat → Nat) (hP : lb4_P N x) (i y : Nat) (hy : y < 2 ^ 4) :
    lb4_P (N ||| (y <<< (4 * i))) (fun k => if k = i then x k ||| y else x k) := by
  intro j
  show (N ||| (y <<< (4 * i))).testBit j = (if j / 4 = i then x (j / 4) ||| y else x (j / 4)).testBit (j % 4)
  rw [Nat.testBit_or, Nat.testBit_shiftLeft, hP]
  by_cases hk : j / 4 = i
  · rw [if_pos hk, Nat.testBit_or]
    rw [show j - 4 * i = j % 4 by omega]
    have : j ≥ 4 * i := by omega
    simp [this]
  · rw [if_neg hk]
    by_cases hge : j ≥ 4 * i
    · rw [Nat.testBit_lt_two_pow (x := y) (i := j - 4 * i) (Nat.lt_of_lt_of_le hy (Nat.pow_le_pow_right (by decide) (by omega)))]
      simp
    · simp [hge]

theorem lb4_xor (N : Nat) (x : Nat → Nat) (hP : lb4_P N x) (i y : Nat) (hy : y < 2 ^ 4) :
    lb4_P (N ^^^ (y <<< (4 * i))) (fun k => if k = i then x k ^^^ y else x k) := by
  intro j
  show (N ^^^ (y <<< (4 * i))).testBit j = (if j / 4 = i then x (j / 4) ^^^ y else x (j / 4)).testBit (j % 4)
  rw [Nat.testBit_xor, Nat.testBit_shiftLeft, hP]
  by_cases hk : j / 4 = i
  · rw [if_pos hk, Nat.testBit_xor]
    rw [show j - 4 * i = j % 4 by omega]
    have : j ≥ 4 * i := by omega
    simp [this]
  · rw [if_neg hk]
    by_cases hge : j ≥ 4 * i
    · rw [Nat.testBit_lt_two_pow (x := y) (i := j - 4 * i) (Nat.lt_of_lt_of_le hy (Nat.pow_le_pow_right (by decide) (by omega)))]
      simp
    · simp [hge]

theorem lb4_0 : lb4_P 0 (fun _ => 0) := by
  intro j
  simp

theorem lb4_lt (N : Nat) (x : Nat → Nat) (hP : lb4_P N x) (m : Nat) (hx : ∀ i, m ≤ i → x i = 0) : N < 2 ^ (4 * m) := by
  apply Nat.lt_pow_two_of_testBit
  intro j hj
  rw [hP, hx (j / 4) (by omega)]
  simp

theorem lb4_c (N : Nat) (x y : Nat → Nat) (hP : lb4_P N x) (hxy : ∀ i, x i = y i) : lb4_P N y := by
  intro j
  rw [hP, hxy]
end lb4
-- numbers packed in groups of 3 bits
section lb3
def lb3_P (N : Nat) (x : Nat → Nat) : Prop := ∀ j, N.testBit j = (x (j / 3)).testBit (j % 3)

theorem lb3_get (N : Nat) (x : Nat → Nat) (hP : lb3_P N x) (i : Nat) (hx : x i < 2 ^ 3) : N / 2 ^ (3 * i) % 2 ^ 3 = x i := by
  apply Nat.eq_of_testBit_eq
  intro j
  rw [Nat.testBit_mod_two_pow, Nat.testBit_div_two_pow, hP]
  by_cases hj : j < 3
  · rw [show (j + 3 * i) / 3 = i by omega, show (j + 3 * i) % 3 = j by omega]
    simp [hj]
  · rw [Nat.testBit_lt_two_pow (x := x i) (i := j) (Nat.lt_of_lt_of_le hx (Nat.pow_le_pow_right (by decide) (by omega)))]
    simp [hj]

theorem lb3_or (N : Nat) (x : Nat → Nat) (hP : lb3_P N x) (i y : Nat) (hy : y < 2 ^ 3) :
    lb3_P (N ||| (y <<< (3 * i))) (fun k => if k = i then x k ||| y else x k) := by
  intro j
  show (N ||| (y <<< (3 * i))).testBit j = (if j / 3 = i then x (j / 3) ||| y else x (j / 3)).testBit (j % 3)
  rw [Nat.testBit_or, Nat.testBit_shiftLeft, hP]
  by_cases hk : j / 3 = i
  · rw [if_pos hk, Nat.testBit_or]
    rw [show j - 3 * i = j % 3 by omega]
    have : j ≥ 3 * i := by omega
    simp [this]
  · rw [if_neg hk]
    by_cases hge : j ≥ 3 * i
    · rw [Nat.testBit_lt_two_pow (x := y) (i := j - 3 * i) (Nat.lt_of_lt_of_le hy (Nat.pow_le_pow_right (by decide) (by omega)))]
      simp
    · simp [hge]

theorem lb3_xor (N : Nat) (x : Nat → Nat) (hP : lb3_P N x) (i y : Nat) (hy : y < 2 ^ 3) :
    lb3_P (N ^^^ (y <<< (3 * i))) (fun k => if k = i then x k ^^^ y else x k) := by
  intro j
  show (N ^^^ (y <<< (3 * i))).testBit j = (if j / 3 = i then x (j / 3) ^^^ y else x (j / 3)).testBit (j % 3)
  rw [Nat.testBit_xor, Nat.testBit_shiftLeft, hP]
  by_cases hk : j / 3 = i
  · rw [if_pos hk, Nat.testBit_xor]
    rw [show j - 3 * i = j % 3 by omega]
    have : j ≥ 3 * i := by omega
    simp [this]
  · rw [if_neg hk]
    by_cases hge : j ≥ 3 * i
    · rw [Nat.testBit_lt_two_pow (x := y) (i := j - 3 * i) (Nat.lt_of_lt_of_le hy (Nat.pow_le_pow_right (by decide) (by omega)))]
      simp
    · simp [hge]

theorem lb3_0 : lb3_P 0 (fun _ => 0) := by
  intro j
  simp

theorem lb3_lt (N : Nat) (x : Nat → Nat) (hP : lb3_P N x) (m : Nat) (hx : ∀ i, m ≤ i → x i = 0) : N < 2 ^ (3 * m) := by
  apply Nat.lt_pow_two_of_testBit
  intro j hj
  rw [hP, hx (j / 3) (by omega)]
  simp

theorem lb3_c (N : Nat) (x y : Nat → Nat) (hP : lb3_P N x) (hxy : ∀ i, x i = y i) : lb3_P N y := by
  intro j
  rw [hP, hxy]
end lb3

section lc
theorem lc_or (a b : Nat) : nI a ||| nI b = nI (a ||| b) := by
  apply Int32.toBitVec_inj.mp
  show BitVec.ofNat 32 a ||| BitVec.ofNat 32 b = BitVec.ofNat 32 (a ||| b)
  rw [BitVec.ofNat_or]

theorem lc_4 (e : Nat) : 4 * nI e = nI (4 * e) := by
  have e4 : (4 : Int32) = nI 4 := by decide
  rw [e4, pk_mul]

/-- reading a packed time -/
theorem lc_get (post : Int32 → Prop) (N : Nat) (x : Nat → Nat) (hP : lb4_P N x) (hN : N < 2 ^ 24) (e : Nat) (he : e < 6) (hx : x e < 16)
    (g : post (nI (x e))) : wpL_get post () (nI N) (nI e) := by
  show post ((nI N >>> ((4 * nI e) &&& 31)) &&& 15)
  rw [lc_4, pk_shrN (by omega) (nI (4 * e) &&& 31) (4 * e) (s_l (4 * e) (by omega)), pk_andN (by
    have := Nat.div_le_self N (2 ^ (4 * e))
    omega) 4 (by decide), lb4_get N x hP e hx]
  exact g

theorem lc_shl (y e : Nat) (hy : y < 16) (he : e < 6) : nI y <<< ((4 * nI e) &&& 31) = nI (y <<< (4 * e)) := by
  have hle : 2 ^ (4 * e) ≤ 2 ^ 20 := Nat.pow_le_pow_right (by decide) (by omega)
  have hm : y * 2 ^ (4 * e) ≤ 15 * 2 ^ 20 := Nat.mul_le_mul (by omega) hle
  rw [lc_4, pk_shlN (nI (4 * e) &&& 31) (4 * e) (s_l (4 * e) (by omega)) (by omega), Nat.shiftLeft_eq]

/-- Int64: one field out of a packed word -/
theorem lc_r (N k w : Nat) (hN : N < 2 ^ 62) (hk : k < 64) (hw : w < 64) :
    (lN N >>> ((nI k).toInt64 &&& 63)) &&& lN (2 ^ w - 1) = lN (N / 2 ^ k % 2 ^ w) := by
  rw [pf_shr (d := k) (by rw [wb_c k hk, wb_tb, wb_sm k hk, BitVec.toNat_ofNat]; exact Nat.mod_eq_of_lt (by omega)) hN]
  have := Nat.div_le_self N (2 ^ k)
  rw [wb_mask (by omega) hw]

theorem lc_link (post : Int32 → Prop) (N : Nat) (x : Nat → Nat) (hP : lb3_P N x) (hN : N < 2 ^ 62) (e f : Nat) (he : e < 6) (hf : f < 3) (hx : x (3 * e + f) < 8)
    (g : post (nI (x (3 * e + f)))) : wpL_link post () (lN N) (nI e) (nI f) := by
  show post (((lN N >>> (((9 * nI e) + (3 * nI f)).toInt64 &&& 63)) &&& 7).toInt32)
  have e9 : (9 : Int32) = nI 9 := by decide
  have e3 : (3 : Int32) = nI 3 := by decide
  rw [e9, e3, pk_mul, pk_mul, nI_add, show 9 * e + 3 * f = 3 * (3 * e + f) by omega]
  rw [show (7 : Int64) = lN (2 ^ 3 - 1) by decide, lc_r N (3 * (3 * e + f)) 3 hN (by omega) (by omega), lb3_get N x hP (3 * e + f) hx, lN_i]
  exact g

def lc_ix (u v : Nat) : Nat := u * 5 + (if v < u then v else v - 1)

theorem lc_lim (post : Int32 → Prop) (N0 N1 : Nat) (x : Nat → Nat) (h0 : lb4_P N0 (fun i => if i < 15 then x i else 0)) (h1 : lb4_P N1 (fun i => if i < 15 then x (i + 15) else 0))
    (u v : Nat) (hu : u < 6) (hv : v < 6) (huv : u ≠ v) (hx : x (lc_ix u v) < 16) (g : post (nI (x (lc_ix u v)) - 7)) : wpL_lim post () (nI u) (nI v) (lN N0) (lN N1) := by
  have b0 : N0 < 2 ^ 60 := lb4_lt N0 _ h0 15 (fun i hi => if_neg (by omega))
  have b1 : N1 < 2 ^ 60 := lb4_lt N1 _ h1 15 (fun i hi => if_neg (by omega))
  have e5 : (5 : Int32) = nI 5 := by decide
  have e4 : (4 : Int32) = nI 4 := by decide
  have e15 : (15 : Int32) = nI 15 := by decide
  have key : ∀ z : Nat, u * 5 + z = lc_ix u v → wL_lim_15 post (lN N0) (lN N1) (nI z) (nI u * 5) := by
    intro z hz
    have hi : lc_ix u v < 30 := by unfold lc_ix; split <;> omega
    refine nm_r (e' := nI (lc_ix u v)) (by rw [e5, pk_mul, nI_add, hz]) ?_
    generalize lc_ix u v = i at *
    refine br_c (fun q => ?_) (fun q => ?_)
    · have q' : 15 ≤ i := (nI_leI (a := 15) (by omega) (by omega)).1 q
      have k1 : (4 : Int32) * (nI i - 15) = nI (4 * (i - 15)) := by rw [e15, pk_sub q', e4, pk_mul]
      have hv : (if i - 15 < 15 then x (i - 15 + 15) else 0) = x i := by
        rw [if_pos (by omega), show i - 15 + 15 = i by omega]
      rw [k1, show (15 : Int64) = lN (2 ^ 4 - 1) by decide, lc_r N1 (4 * (i - 15)) 4 (by omega) (by omega) (by omega), lb4_get N1 _ h1 (i - 15) (by rw [hv]; exact hx), hv, lN_i]
      exact g
    · have q' : i < 15 := by
        by_cases z : i < 15
        · exact z
        · exact absurd (nI_le (a := 15) (by omega) (by omega)) q
      have k1 : (4 : Int32) * nI i = nI (4 * i) := lc_4 i
      have hv : (if i < 15 then x i else 0) = x i := by
        rw [if_pos q']
      rw [k1, show (15 : Int64) = lN (2 ^ 4 - 1) by decide, lc_r N0 (4 * i) 4 (by omega) (by omega) (by omega), lb4_get N0 _ h0 i (by rw [hv]; exact hx), hv, lN_i]
      exact g
  refine br_c (fun q => ?_) (fun q => ?_)
  · have q' : u ≤ v := (nI_leI (by omega) (by omega)).1 q
    have e1 : nI v - 1 = nI (v - 1) := pk_sub (b := 1) (by omega)
    rw [e1]
    exact key (v - 1) (by unfold lc_ix; rw [if_neg (by omega)])
  · have q' : v < u := by
      by_cases z : v < u
      · exact z
      · exact absurd (nI_le (by omega) (by omega)) q
    exact key v (by unfold lc_ix; rw [if_pos q'])
end lc
end
section
-- if nothing more follows from bounds and waits, keeping them wins
section gc
variable (n h : Nat) (L : Nat → Nat → Int) (ct : Nat → Bool) (ac : Nat → Nat) (lo hi : Nat → Int) (B W : Nat → Nat → Int)

/-- nothing more follows -/
def gc_fix : Prop :=
  (∀ u v, u < n → v < n → u ≠ v → B u v ≤ L u v) ∧ (∀ u, u < n → B u u = 0) ∧
  (∀ c, c < n → ct c = true → B (ac c) c ≤ hi c ∧ hi c ≤ W c c) ∧
  (∀ u v w, u < n → v < n → w < n → B u v ≤ B u w + B w v) ∧
  (∀ c, c < n → ct c = true → ∀ u v, u < n → v < n → W c v - B u v ≤ W c u) ∧
  (∀ c, c < n → ct c = true → ∀ k, k < n → ct k = true → k ≠ c → 0 < W c k → W c k - lo k ≤ W c (ac k)) ∧
  (∀ c, c < n → ct c = true → ∀ u, u < n → B u (ac c) ≤ - W c u ∨ B u (ac c) ≤ - lo c) ∧
  (∀ c, c < n → ct c = true → ∀ v, v < n → B c v < 0 → B (ac c) v ≤ lo c + B c v)

/-- what is kept at a position -/
def gc_inv (s : Nat) (p : Nat → Int) : Prop :=
  (∀ u v, u < n → v < n → p u ≠ 100 → p v ≠ 100 → p v - p u ≤ B u v) ∧
  (∀ u v, u < n → v < n → p u ≠ 100 → p v = 100 → (s : Int) ≤ gm_stp ct v (p u + B u v)) ∧
  (∀ c, c < n → ct c = true → p c = 100 → p (ac c) ≠ 100 → ∀ u, u < n → p u ≠ 100 → p (ac c) + W c u ≤ p u)

theorem gc_0 (hN : gm_net n h L ct ac lo hi) (c : Nat) (b : ct c = true) : c ≠ 0 := by
  intro z; subst z
  have y := hN.2.2.2.1
  rw [b] at y; simp at y

/-- the activation is at least the shortest duration earlier -/
theorem gc_ca (hN : gm_net n h L ct ac lo hi) (hF : gc_fix n L ct ac lo hi B W) (c : Nat) (hc : c < n) (hcc : ct c = true) :
    B c (ac c) ≤ - lo c := by
  obtain ⟨f0, f00, fc, f1, f2, f3, f4, f5⟩ := hF
  obtain ⟨b1, b2, b3, b4, b5⟩ := hN.2.2.2.2.2.2 c hc hcc
  have x := fc c hc hcc
  rcases f4 c hc hcc c hc with y | y <;> omega

theorem gc_nb (hF : gc_fix n L ct ac lo hi B W) (s : Nat) (p : Nat → Int) (hI : gc_inv n ct ac B W s p) : ¬ gm_broken n L p := by
  intro ⟨u, v, hu, hv, huv, h1, h2, h3⟩
  have x := hI.1 u v hu hv h1 h2
  have y := hF.1 u v hu hv huv
  omega

/-- a time given before step s is not later than the round of s -/
theorem gc_old (hN : gm_net n h L ct ac lo hi) (s : Nat) (p : Nat → Int) (hw : gm_wf n h ct ac lo hi s p) (u : Nat) (hu : u < n)
    (hp : p u ≠ 100) : p u ≤ ((s / 12 : Nat) : Int) := by
  have hn6 : n ≤ 6 := hN.2.1
  by_cases h0 : u = 0
  · subst h0; rw [hw.1]; omega
  · rcases hw.2.1 u hu with a | ⟨a, b, c⟩
    · exact absurd a hp
    · have y := (gm_stp_b ct u (p u) h0 (by omega)).1
      omega

/-- the slot passes -/
theorem gc_pass (hN : gm_net n h L ct ac lo hi) (s : Nat) (p : Nat → Int) (hI : gc_inv n ct ac B W s p)
    (hw0 : p 0 = 0)
    (hx : s % 6 ≠ 0 → s % 6 < n → p (s % 6) = 100 → gm_stp ct (s % 6) ((s / 12 : Nat) : Int) = (s : Int) →
      ∀ u, u < n → p u ≠ 100 → ((s / 12 : Nat) : Int) + 1 ≤ p u + B u (s % 6)) : gc_inv n ct ac B W (s + 1) p := by
  have hn6 : n ≤ 6 := hN.2.1
  refine ⟨hI.1, ?_, hI.2.2⟩
  intro u v hu hv h1 h2
  have y := hI.2.1 u v hu hv h1 h2
  have hv0 : v ≠ 0 := by intro z; subst z; omega
  by_cases hq : gm_stp ct v (p u + B u v) = (s : Int)
  · obtain ⟨z1, z2, _, _⟩ := gm_slot ct v s _ hv0 (by omega) hq
    subst z1
    rw [z2] at hq
    have w := hx hv0 hv h2 hq u hu h1
    omega
  · omega

/-- a new time: what must hold of it, and the rest stays -/
theorem gc_new (hN : gm_net n h L ct ac lo hi) (hF : gc_fix n L ct ac lo hi B W) (s : Nat) (p : Nat → Int)
    (hs : s < 12 * (h + 1)) (hw : gm_wf n h ct ac lo hi s p) (hI : gc_inv n ct ac B W s p)
    (he : s % 6 ≠ 0) (hen : s % 6 < n) (hpe : p (s % 6) = 100)
    (hst : gm_stp ct (s % 6) ((s / 12 : Nat) : Int) = (s : Int))
    (e1 : ∀ v, v < n → p v ≠ 100 → p v ≤ ((s / 12 : Nat) : Int) + B (s % 6) v)
    (e2 : ∀ v, v < n → v ≠ s % 6 → p v = 100 → ((s + 1 : Nat) : Int) ≤ gm_stp ct v (((s / 12 : Nat) : Int) + B (s % 6) v))
    (e3 : ∀ c, c < n → ct c = true → c ≠ s % 6 → p c = 100 → p (ac c) ≠ 100 → p (ac c) + W c (s % 6) ≤ ((s / 12 : Nat) : Int)) :
    gc_inv n ct ac B W (s + 1) (gm_set p (s % 6) ((s / 12 : Nat) : Int)) := by
  have hn6 : n ≤ 6 := hN.2.1
  have h7 : h ≤ 7 := hN.2.2.1
  have j1 : ∀ u v, u < n → v < n → gm_set p (s % 6) ((s / 12 : Nat) : Int) u ≠ 100 → gm_set p (s % 6) ((s / 12 : Nat) : Int) v ≠ 100 →
      gm_set p (s % 6) ((s / 12 : Nat) : Int) v - gm_set p (s % 6) ((s / 12 : Nat) : Int) u ≤ B u v := by
    intro u v hu hv h1 h2
    by_cases hue : u = s % 6
    · by_cases hve : v = s % 6
      · rw [hue, hve, hF.2.1 _ hen]; omega
      · rw [hue, gm_set_s, gm_set_n _ _ _ _ hve]
        rw [gm_set_n _ _ _ _ hve] at h2
        have y := e1 v hv h2
        omega
    · rw [gm_set_n _ _ _ _ hue] at h1 ⊢
      by_cases hve : v = s % 6
      · rw [hve, gm_set_s]
        have y := hI.2.1 u (s % 6) hu hen h1 hpe
        rw [← hst] at y
        have z := (gm_stp_mono ct (s % 6) _ _ he).1 y
        omega
      · rw [gm_set_n _ _ _ _ hve] at h2 ⊢
        exact hI.1 u v hu hv h1 h2
  refine ⟨j1, ?_, ?_⟩
  · intro u v hu hv h1 h2
    have hve : v ≠ s % 6 := by
      intro z
      rw [z, gm_set_s] at h2
      omega
    rw [gm_set_n _ _ _ _ hve] at h2
    by_cases hue : u = s % 6
    · rw [hue, gm_set_s]
      exact e2 v hv hve h2
    · rw [gm_set_n _ _ _ _ hue] at h1 ⊢
      have y := hI.2.1 u v hu hv h1 h2
      have hv0 : v ≠ 0 := by intro z; subst z; have := hw.1; omega
      by_cases hq : gm_stp ct v (p u + B u v) = (s : Int)
      · exact absurd (gm_slot ct v s _ hv0 (by omega) hq).1 hve
      · omega
  · intro c hcn hcc h1 h2 u hu h3
    have hce : c ≠ s % 6 := by
      intro z
      rw [z, gm_set_s] at h1
      omega
    rw [gm_set_n _ _ _ _ hce] at h1
    by_cases hae : ac c = s % 6
    · -- c begins to run now
      have hac : ac c < n := (hN.2.2.2.2.2.2 c hcn hcc).1
      have b3 := (hN.2.2.2.2.2.2 c hcn hcc).2.2.1
      have y := j1 u (ac c) hu hac h3 h2
      have old : gm_set p (s % 6) ((s / 12 : Nat) : Int) u ≤ ((s / 12 : Nat) : Int) := by
        by_cases hue : u = s % 6
        · rw [hue, gm_set_s]; omega
        · rw [gm_set_n _ _ _ _ hue] at h3 ⊢
          exact gc_old n h L ct ac lo hi hN s p hw u hu h3
      have ea : gm_set p (s % 6) ((s / 12 : Nat) : Int) (ac c) = ((s / 12 : Nat) : Int) := by rw [hae, gm_set_s]
      rw [ea] at y ⊢
      rcases hF.2.2.2.2.2.2.1 c hcn hcc u hu with z | z <;> omega
    · rw [gm_set_n _ _ _ _ hae] at h2 ⊢
      by_cases hue : u = s % 6
      · rw [hue, gm_set_s]
        exact e3 c hcn hcc hce h1 h2
      · rw [gm_set_n _ _ _ _ hue] at h3 ⊢
        exact hI.2.2 c hcn hcc h1 h2 u hu h3

/-- a contingent event at its own step happens, after lo .. hi rounds -/
theorem gc_hap (hN : gm_net n h L ct ac lo hi) (hF : gc_fix n L ct ac lo hi B W) (s : Nat) (p : Nat → Int)
    (hs : s < 12 * (h + 1)) (hw : gm_wf n h ct ac lo hi s p) (hI : gc_inv n ct ac B W s p)
    (he : s % 6 ≠ 0) (hen : s % 6 < n) (hpe : p (s % 6) = 100) (hcc : ct (s % 6) = true) (hs12 : s % 12 < 6)
    (ha : p (ac (s % 6)) ≠ 100) (hd : p (ac (s % 6)) + lo (s % 6) ≤ ((s / 12 : Nat) : Int)) :
    gc_inv n ct ac B W (s + 1) (gm_set p (s % 6) ((s / 12 : Nat) : Int)) := by
  have hn6 : n ≤ 6 := hN.2.1
  have hst := gm_slot_t ct s he hcc hs12
  obtain ⟨b1, b2, b3, b4, b5⟩ := hN.2.2.2.2.2.2 _ hen hcc
  have f5 := hF.2.2.2.2.2.2.2 _ hen hcc
  have f3 := hF.2.2.2.2.2.1
  have f2 := hF.2.2.2.2.1
  have f1 := hF.2.2.2.1
  have fc := hF.2.2.1
  generalize hcd : s % 6 = c at *
  generalize htd : ((s / 12 : Nat) : Int) = t at *
  -- the soonest round of what has no time yet is not before this one
  have hnow : ∀ v x, v < n → p v = 100 → (s : Int) ≤ gm_stp ct v x → t ≤ x := by
    intro v x hv hpv hx
    have hv0 : v ≠ 0 := by intro z; subst z; have := hw.1; omega
    have y := (gm_stp_b ct v x hv0 (by omega)).2
    omega
  have hB0 : ∀ v, v < n → p v = 100 → 0 ≤ B c v := by
    intro v hv hpv
    by_cases hneg : B c v < 0
    · have y := f5 v hv hneg
      have z := hnow v _ hv hpv (hI.2.1 (ac c) v b1 hv ha hpv)
      omega
    · omega
  have res := gc_new n h L ct ac lo hi B W hN hF s p hs hw hI
  rw [hcd, htd] at res
  refine res he hen hpe hst ?_ ?_ ?_
  · intro v hv hpv
    by_cases hneg : B c v < 0
    · have y := f5 v hv hneg
      have z := hI.1 (ac c) v b1 hv ha hpv
      omega
    · have y := gc_old n h L ct ac lo hi hN s p hw v hv hpv
      omega
  · intro v hv hvc hpv
    have y0 := hB0 v hv hpv
    have hv0 : v ≠ 0 := by intro z; subst z; have := hw.1; omega
    by_cases hbig : 1 ≤ B c v
    · have y := (gm_stp_b ct v (t + B c v) hv0 (by omega)).1
      omega
    · have e0 : B c v = 0 := by omega
      rw [e0, Int.add_zero]
      cases hcv : ct v with
      | false =>
        rw [gm_stp_f ct v t hv0 hcv]
        omega
      | true =>
        by_cases hlate : c < v
        · rw [gm_stp_t ct v t hv0 hcv]
          rw [gm_stp_t ct c t he hcc] at hst
          omega
        · -- v's step of this round is over, and v did not happen: impossible
          exfalso
          obtain ⟨d1, d2, d3, d4, d5⟩ := hN.2.2.2.2.2.2 v hv hcv
          have w1 := (fc v hv hcv)
          by_cases hrun : p (ac v) = 100
          · have g1 := gc_ca n h L ct ac lo hi B W hN hF v hv hcv
            have g2 := f1 c (ac v) v hen d1 hv
            have g3 := f5 (ac v) d1 (by omega)
            have g4 := hnow (ac v) _ d1 hrun (hI.2.1 (ac c) (ac v) b1 d1 ha hrun)
            omega
          · have g1 := f2 v hv hcv c v hen hv
            have g2 := f3 v hv hcv c hen hcc (fun z => hvc z.symm) (by omega)
            have g3 := hI.2.2 v hv hcv hpv hrun (ac c) b1 ha
            have g4 := hI.2.1 (ac v) v d1 hv hrun hpv
            rw [gm_stp_t ct v _ hv0 hcv] at g4
            rw [gm_stp_t ct c t he hcc] at hst
            omega
  · intro k hk hkc hkne hpk hak
    by_cases hpos : 0 < W k c
    · have g2 := f3 k hk hkc c hen hcc (fun z => hkne z.symm) hpos
      have g3 := hI.2.2 k hk hkc hpk hak (ac c) b1 ha
      omega
    · have y := gc_old n h L ct ac lo hi hN s p hw (ac k) (hN.2.2.2.2.2.2 k hk hkc).1 hak
      omega

/-- a contingent event at its own step may stay out while it has run for less than hi rounds, or does not run -/
theorem gc_stay (hN : gm_net n h L ct ac lo hi) (hF : gc_fix n L ct ac lo hi B W) (s : Nat) (p : Nat → Int)
    (hw : gm_wf n h ct ac lo hi s p) (hI : gc_inv n ct ac B W s p)
    (hx : s % 6 ≠ 0 → s % 6 < n → p (s % 6) = 100 → gm_stp ct (s % 6) ((s / 12 : Nat) : Int) = (s : Int) →
      ct (s % 6) = true ∧ (p (ac (s % 6)) = 100 ∨ ((s / 12 : Nat) : Int) - p (ac (s % 6)) ≠ hi (s % 6))) :
    gc_inv n ct ac B W (s + 1) p := by
  have hn6 : n ≤ 6 := hN.2.1
  refine gc_pass n h L ct ac lo hi B W hN s p hI hw.1 ?_
  intro he hen hpe hst u hu hpu
  obtain ⟨hcc, hd⟩ := hx he hen hpe hst
  obtain ⟨b1, b2, b3, b4, b5⟩ := hN.2.2.2.2.2.2 _ hen hcc
  have fc := hF.2.2.1 _ hen hcc
  generalize hcd : s % 6 = c at *
  generalize htd : ((s / 12 : Nat) : Int) = t at *
  by_cases hrun : p (ac c) = 100
  · have g1 := gc_ca n h L ct ac lo hi B W hN hF c hen hcc
    have g2 := hF.2.2.2.1 u (ac c) c hu b1 hen
    have g3 := hI.2.1 u (ac c) hu b1 hpu hrun
    have ha0 : ac c ≠ 0 := by intro z; rw [z] at hrun; have := hw.1; omega
    have g4 := (gm_stp_b ct (ac c) (p u + B u (ac c)) ha0 (by omega)).2
    omega
  · have g1 := hF.2.2.2.2.1 c hen hcc u c hu hen
    have g3 := hI.2.2 c hen hcc hpe hrun u hu hpu
    have g4 := hI.2.1 (ac c) c b1 hen hrun hpe
    rw [← hst] at g4
    have g5 := (gm_stp_mono ct c _ _ he).1 g4
    rcases hd with hd | hd
    · exact absurd hd hrun
    · omega

/-- at a choice: if declining breaks a bound, executing breaks none -/
theorem gc_must (hF : gc_fix n L ct ac lo hi B W) (hN : gm_net n h L ct ac lo hi) (s : Nat) (p : Nat → Int)
    (hs : s < 12 * (h + 1)) (hw : gm_wf n h ct ac lo hi s p) (hI : gc_inv n ct ac B W s p)
    (he : s % 6 ≠ 0) (hen : s % 6 < n) (hpe : p (s % 6) = 100)
    (hst : gm_stp ct (s % 6) ((s / 12 : Nat) : Int) = (s : Int))
    (u : Nat) (hu : u < n) (hpu : p u ≠ 100) (hle : p u + B u (s % 6) ≤ ((s / 12 : Nat) : Int)) :
    gc_inv n ct ac B W (s + 1) (gm_set p (s % 6) ((s / 12 : Nat) : Int)) := by
  have hn6 : n ≤ 6 := hN.2.1
  have f1 := hF.2.2.2.1
  have f2 := hF.2.2.2.2.1
  refine gc_new n h L ct ac lo hi B W hN hF s p hs hw hI he hen hpe hst ?_ ?_ ?_
  · intro v hv hpv
    have y := hI.1 u v hu hv hpu hpv
    have z := f1 u v (s % 6) hu hv hen
    omega
  · intro v hv hve hpv
    have y := hI.2.1 u v hu hv hpu hpv
    have z := f1 u v (s % 6) hu hv hen
    have hv0 : v ≠ 0 := by intro w; subst w; have := hw.1; omega
    have w := (gm_stp_mono ct v (p u + B u v) (((s / 12 : Nat) : Int) + B (s % 6) v) hv0).2 (by omega)
    by_cases hq : gm_stp ct v (p u + B u v) = (s : Int)
    · exact absurd (gm_slot ct v s _ hv0 (by omega) hq).1 hve
    · omega
  · intro c hcn hcc hce hpc hac
    have y := hI.2.2 c hcn hcc hpc hac u hu hpu
    have z := f2 c hcn hcc u (s % 6) hu hen
    omega

/-- keeping bounds and waits wins -/
theorem gc_win (hN : gm_net n h L ct ac lo hi) (hF : gc_fix n L ct ac lo hi B W) :
    ∀ (m s : Nat) (p : Nat → Int), s + m = 12 * (h + 1) → gm_wf n h ct ac lo hi s p → gc_inv n ct ac B W s p →
      gm_val n L ct ac lo hi m s p := by
  have hn6 : n ≤ 6 := hN.2.1
  intro m
  induction m with
  | zero =>
    intro s p hs hw hI
    unfold gm_val
    refine ⟨gc_nb n L ct ac lo hi B W hF s p hI, ?_⟩
    intro v hv hpv
    have hv0 : v ≠ 0 := by intro w; subst w; have := hw.1; omega
    have y := hI.2.1 0 v hN.1 hv (by rw [hw.1]; omega) hpv
    have z := (gm_stp_b ct v (p 0 + B 0 v) hv0 (by omega)).2
    have w := hF.1 0 v hN.1 hv (fun q => hv0 q.symm)
    have w2 := hN.2.2.2.2.2.1 0 v hN.1 hv
    have w3 := hw.1
    omega
  | succ m ih =>
    intro s p hs hw hI
    unfold gm_val
    refine ⟨gc_nb n L ct ac lo hi B W hF s p hI, Or.inr ?_⟩
    rcases gm_kind_lt n ct ac lo hi p s with k | k | k | k
    · refine Or.inl ⟨k, ih _ _ (by omega) (gp_wf_s n h ct ac lo hi s p hw) (gc_stay n h L ct ac lo hi B W hN hF s p hw hI ?_)⟩
      intro he hen hpe hst
      obtain ⟨_, _, y3, y4⟩ := gm_slot ct (s % 6) s _ he (by omega) hst
      cases hcc : ct (s % 6) with
      | false =>
        have := gm_kind_exe n ct ac lo hi p s he hen hpe hcc (y4 hcc)
        omega
      | true =>
        refine ⟨rfl, ?_⟩
        by_cases ha : p (ac (s % 6)) = 100
        · exact Or.inl ha
        · refine Or.inr (fun hd => ?_)
          have := (gm_kind_run n ct ac lo hi p s he hen hpe hcc (y3 hcc) ha).1 hd
          omega
    · obtain ⟨k1, k2, k3, k4, k5, k6⟩ := gm_kind_12 n ct ac lo hi p s (Or.inl k)
      have kd := gm_kind_1 n ct ac lo hi p s k
      have b := hN.2.2.2.2.2.2 _ k2 k4
      have hst := gm_slot_t ct s k1 k4 k5
      refine Or.inr (Or.inl ⟨k, ih _ _ (by omega) ?_ ?_⟩)
      · exact gp_wf_set n h L ct ac lo hi hN s p (by omega) hw k1 k2 k3 hst (fun _ => ⟨k6, by omega, by omega⟩)
      · exact gc_hap n h L ct ac lo hi B W hN hF s p (by omega) hw hI k1 k2 k3 k4 k5 k6 (by omega)
    · obtain ⟨k1, k2, k3, k4, k5, k6⟩ := gm_kind_12 n ct ac lo hi p s (Or.inr k)
      have kd := gm_kind_2 n ct ac lo hi p s k
      have hst := gm_slot_t ct s k1 k4 k5
      refine Or.inr (Or.inr (Or.inl ⟨k, ih _ _ (by omega) ?_ ?_, ih _ _ (by omega) (gp_wf_s n h ct ac lo hi s p hw) ?_⟩))
      · exact gp_wf_set n h L ct ac lo hi hN s p (by omega) hw k1 k2 k3 hst (fun _ => ⟨k6, by omega, by omega⟩)
      · exact gc_hap n h L ct ac lo hi B W hN hF s p (by omega) hw hI k1 k2 k3 k4 k5 k6 (by omega)
      · exact gc_stay n h L ct ac lo hi B W hN hF s p hw hI (fun _ _ _ _ => ⟨k4, Or.inr (by omega)⟩)
    · obtain ⟨k1, k2, k3, k4, k5⟩ := gm_kind_3 n ct ac lo hi p s k
      have hst := gm_slot_f ct s k1 k4 k5
      have hnc : ct (s % 6) = true → False := fun z => by rw [k4] at z; simp at z
      refine Or.inr (Or.inr (Or.inr ⟨k, ?_⟩))
      by_cases hall : ∀ u, u < n → p u ≠ 100 → ((s / 12 : Nat) : Int) + 1 ≤ p u + B u (s % 6)
      · exact Or.inr (ih _ _ (by omega) (gp_wf_s n h ct ac lo hi s p hw)
          (gc_pass n h L ct ac lo hi B W hN s p hI hw.1 (fun _ _ _ _ => hall)))
      · refine Or.inl (ih _ _ (by omega) ?_ ?_)
        · exact gp_wf_set n h L ct ac lo hi hN s p (by omega) hw k1 k2 k3 hst (fun z => absurd z hnc)
        · have hex : ∃ u, u < n ∧ p u ≠ 100 ∧ p u + B u (s % 6) ≤ ((s / 12 : Nat) : Int) := by
            refine Classical.byContradiction (fun hno => hall (fun u hu hpu => ?_))
            by_cases hq : ((s / 12 : Nat) : Int) + 1 ≤ p u + B u (s % 6)
            · exact hq
            · exact absurd ⟨u, hu, hpu, by omega⟩ hno
          obtain ⟨u, hu, hpu, hle⟩ := hex
          exact gc_must n h L ct ac lo hi B W hF hN s p (by omega) hw hI k1 k2 k3 hst u hu hpu hle

/-- the beginning -/
theorem gc_begin (hN : gm_net n h L ct ac lo hi) (hF : gc_fix n L ct ac lo hi B W) (p : Nat → Int) (hp0 : p 0 = 0)
    (hp : ∀ e, e < n → e ≠ 0 → p e = 100) : gm_wf n h ct ac lo hi 0 p ∧ gc_inv n ct ac B W 0 p := by
  have hn6 : n ≤ 6 := hN.2.1
  have h0 : ∀ u, u < n → p u ≠ 100 → u = 0 := by
    intro u hu hpu
    by_cases hq : u = 0
    · exact hq
    · exact absurd (hp u hu hq) hpu
  refine ⟨⟨hp0, ?_, ?_⟩, ?_, ?_, ?_⟩
  · intro e he
    by_cases hq : e = 0
    · subst hq; rw [hp0, gm_stp_0]; exact Or.inr ⟨by omega, by omega, by omega⟩
    · exact Or.inl (hp e he hq)
  · intro c hc hcc hpc
    exact absurd (h0 c hc hpc) (gc_0 n h L ct ac lo hi hN c hcc)
  · intro u v hu hv h1 h2
    rw [h0 u hu h1, h0 v hv h2, hp0, hF.2.1 0 hN.1]; omega
  · intro u v hu hv h1 h2
    have hv0 : v ≠ 0 := by intro w; subst w; omega
    rw [h0 u hu h1, hp0]
    have y := hF.2.2.2.1 0 0 v hN.1 hN.1 hv
    have z := hF.1 v 0 hv hN.1 hv0
    have w := hN.2.2.2.2.1 v hv hv0
    have x := hF.2.1 0 hN.1
    have q := (gm_stp_b ct v (0 + B 0 v) hv0 (by omega)).1
    omega
  · intro c hc hcc h1 h2 u hu h3
    have b := hN.2.2.2.2.2.2 c hc hcc
    have a0 := h0 _ b.1 h2
    rw [h0 u hu h3, a0, hp0]
    have y := hF.2.2.2.2.2.2.1 c hc hcc 0 hN.1
    have x := hF.2.1 0 hN.1
    rw [a0] at y
    rcases y with y | y <;> omega
end gc
end
section
-- what is deduced holds in every safe play
section gs
variable (n h : Nat) (L : Nat → Nat → Int) (ct : Nat → Bool) (ac : Nat → Nat) (lo hi : Nat → Int)

/-- one duration changed, the others as they were -/
theorem gs_one (hN : gm_net n h L ct ac lo hi) (T : Nat → Int) (hT : gm_sp n h L ct ac lo hi T) (k : Nat) (hk : k < n)
    (hkc : ct k = true) (d : Int) (hd : lo k ≤ d ∧ d ≤ hi k) (m s : Nat) (hs : s + m = 12 * (h + 1))
    (hu : ¬ gm_stp ct k (T k) < (s : Int)) (ho : (s : Int) ≤ gm_stp ct k (T (ac k) + d)) :
    ∃ T' : Nat → Int, gm_sp n h L ct ac lo hi T' ∧ (∀ e, e < n → gm_stp ct e (T e) < (s : Int) → T' e = T e) ∧
      (∀ e, e < n → ¬ gm_stp ct e (T e) < (s : Int) → ¬ gm_stp ct e (T' e) < (s : Int)) ∧
      T' k = T' (ac k) + d ∧
      (∀ c, c < n → ct c = true → c ≠ k → T c = T (ac c) + hi c → T' c = T' (ac c) + hi c) := by
  have hn6 : n ≤ 6 := hN.2.1
  obtain ⟨T', a1, a2, a3, a4⟩ := gp_rer n h L ct ac lo hi hN (fun x => if x = k then d else T x - T (ac x))
    (fun c x1 x2 => by
      have y := hT.2.2.1 c x1 x2
      by_cases hx : c = k
      · subst hx; simp; exact hd
      · simp only [if_neg hx]; omega) m s T hs hT
    (fun c x1 x2 x3 x4 => by
      by_cases hx : c = k
      · subst hx; simp only [if_pos rfl]; exact ho
      · simp only [if_neg hx]
        have e1 : T (ac c) + (T c - T (ac c)) = T c := by omega
        rw [e1]; omega)
  refine ⟨T', a1, a2, a3, ?_, ?_⟩
  · have y := a4 k hk hkc hu
    simp only [if_pos rfl] at y
    exact y
  · intro c x1 x2 x3 x4
    have hc0 : c ≠ 0 := by
      intro z; subst z
      have y := hN.2.2.2.1
      rw [x2] at y; simp at y
    by_cases h1 : gm_stp ct c (T c) < (s : Int)
    · have b := hN.2.2.2.2.2.2 c x1 x2
      have ta := hT.2.1 _ b.1
      have x := hT.2.2.1 c x1 x2
      have h2 : gm_stp ct (ac c) (T (ac c)) < (s : Int) := by
        have y1 := (gm_stp_b ct c (T c) hc0 (by omega)).1
        have y2 := gm_stp_u ct (ac c) (T (ac c)) (by omega) ta.1
        omega
      rw [a2 c x1 h1, a2 _ b.1 h2]; exact x4
    · have y := a4 c x1 x2 h1
      simp only [if_neg x3] at y
      omega

/-- rule: what must come before c cannot look at c first -/
theorem gs_r5 (hN : gm_net n h L ct ac lo hi) (c v : Nat) (hc : c < n) (hcc : ct c = true) (hv : v < n) (b : Int) (hb : b < 0)
    (hB : ∀ T, gm_sp n h L ct ac lo hi T → T v - T c ≤ b) (T : Nat → Int) (hT : gm_sp n h L ct ac lo hi T) :
    T v - T (ac c) ≤ lo c + b := by
  have hn6 : n ≤ 6 := hN.2.1
  obtain ⟨b1, b2, b3, b4, b5⟩ := hN.2.2.2.2.2.2 c hc hcc
  have hc0 : c ≠ 0 := by
    intro z; subst z
    have y := hN.2.2.2.1
    rw [hcc] at y; simp at y
  have ta := hT.2.1 _ b1
  have tc := hT.2.1 _ hc
  have tx := hT.2.2.1 c hc hcc
  have sb := gm_stp_b ct c (T (ac c) + lo c) hc0 (by omega)
  obtain ⟨s, hs⟩ : ∃ s : Nat, (s : Int) = gm_stp ct c (T (ac c) + lo c) := ⟨(gm_stp ct c (T (ac c) + lo c)).toNat, by omega⟩
  have hu : ¬ gm_stp ct c (T c) < (s : Int) := by
    rw [hs]
    have := (gm_stp_mono ct c (T (ac c) + lo c) (T c) hc0).2 (by omega)
    omega
  obtain ⟨T', a1, a2, a3, a4, _⟩ := gs_one n h L ct ac lo hi hN T hT c hc hcc (lo c) ⟨by omega, by omega⟩
    (12 * (h + 1) - s) s (by omega) hu (by omega)
  have ha : T' (ac c) = T (ac c) := a2 _ b1 (by
    have y2 := gm_stp_u ct (ac c) (T (ac c)) (by omega) ta.1
    omega)
  have y := hB T' a1
  have tv := a1.2.1 v hv
  have hvs : gm_stp ct v (T' v) < (s : Int) := by
    have y2 := gm_stp_u ct v (T' v) (by omega) tv.1
    omega
  by_cases h1 : gm_stp ct v (T v) < (s : Int)
  · have z := a2 v hv h1
    omega
  · exact absurd hvs (a3 v hv h1)

/-- rule: a wait within the shortest duration is a bound -/
theorem gs_r4 (hN : gm_net n h L ct ac lo hi) (c u : Nat) (hc : c < n) (hcc : ct c = true) (hun : u < n) (w : Int)
    (hW : ∀ T, gm_sp n h L ct ac lo hi T → T c = T (ac c) + hi c → T (ac c) + w ≤ T u)
    (T : Nat → Int) (hT : gm_sp n h L ct ac lo hi T) : T (ac c) + w ≤ T u ∨ T (ac c) + lo c ≤ T u := by
  by_cases hlt : T (ac c) + lo c ≤ T u
  · exact Or.inr hlt
  refine Or.inl ?_
  have hn6 : n ≤ 6 := hN.2.1
  obtain ⟨b1, b2, b3, b4, b5⟩ := hN.2.2.2.2.2.2 c hc hcc
  have hc0 : c ≠ 0 := by
    intro z; subst z
    have y := hN.2.2.2.1
    rw [hcc] at y; simp at y
  have ta := hT.2.1 _ b1
  have tu := hT.2.1 _ hun
  have tc := hT.2.1 _ hc
  have tx := hT.2.2.1 c hc hcc
  -- the end of the round in which both u and the activation have their times
  obtain ⟨r, hr1, hr2, hr3, hr4⟩ : ∃ r : Nat, T u ≤ (r : Int) ∧ T (ac c) ≤ (r : Int) ∧ (r : Int) < T (ac c) + lo c ∧ r ≤ h := by
    by_cases hx : T u ≤ T (ac c)
    · exact ⟨(T (ac c)).toNat, by omega, by omega, by omega, by omega⟩
    · exact ⟨(T u).toNat, by omega, by omega, by omega, by omega⟩
  have hu : ¬ gm_stp ct c (T c) < ((12 * (r + 1) : Nat) : Int) := by
    have := (gm_stp_b ct c (T c) hc0 (by omega)).1
    omega
  obtain ⟨T', a1, a2, a3, a4, _⟩ := gs_one n h L ct ac lo hi hN T hT c hc hcc (hi c) ⟨by omega, by omega⟩
    (12 * (h - r)) (12 * (r + 1)) (by omega) hu (by
      have := (gm_stp_b ct c (T (ac c) + hi c) hc0 (by omega)).1
      omega)
  have ha : T' (ac c) = T (ac c) := a2 _ b1 (by
    have y2 := gm_stp_u ct (ac c) (T (ac c)) (by omega) ta.1
    omega)
  have hu' : T' u = T u := a2 _ hun (by
    have y2 := gm_stp_u ct u (T u) (by omega) tu.1
    omega)
  have y := hW T' a1 a4
  omega

/-- rule: a contingent event that has to wait for c: its activation event must -/
theorem gs_r3 (hN : gm_net n h L ct ac lo hi) (c k : Nat) (hc : c < n) (hcc : ct c = true) (hk : k < n) (hkc : ct k = true)
    (hck : c ≠ k) (w : Int) (hw : 0 < w)
    (hW : ∀ T, gm_sp n h L ct ac lo hi T → T c = T (ac c) + hi c → T (ac c) + w ≤ T k)
    (T : Nat → Int) (hT : gm_sp n h L ct ac lo hi T) (hTc : T c = T (ac c) + hi c) : T (ac c) + (w - lo k) ≤ T (ac k) := by
  have hn6 : n ≤ 6 := hN.2.1
  obtain ⟨b1, b2, b3, b4, b5⟩ := hN.2.2.2.2.2.2 k hk hkc
  obtain ⟨c1, c2, c3, c4, c5⟩ := hN.2.2.2.2.2.2 c hc hcc
  have hk0 : k ≠ 0 := by
    intro z; subst z
    have y := hN.2.2.2.1
    rw [hkc] at y; simp at y
  have ta := hT.2.1 _ b1
  have tk := hT.2.1 _ hk
  have tx := hT.2.2.1 k hk hkc
  have sb := gm_stp_b ct k (T (ac k) + lo k) hk0 (by omega)
  obtain ⟨s, hs⟩ : ∃ s : Nat, (s : Int) = gm_stp ct k (T (ac k) + lo k) := ⟨(gm_stp ct k (T (ac k) + lo k)).toNat, by omega⟩
  have hu : ¬ gm_stp ct k (T k) < (s : Int) := by
    rw [hs]
    have := (gm_stp_mono ct k (T (ac k) + lo k) (T k) hk0).2 (by omega)
    omega
  obtain ⟨T', a1, a2, a3, a4, a5⟩ := gs_one n h L ct ac lo hi hN T hT k hk hkc (lo k) ⟨by omega, by omega⟩
    (12 * (h + 1) - s) s (by omega) hu (by omega)
  have ha : T' (ac k) = T (ac k) := a2 _ b1 (by
    have y2 := gm_stp_u ct (ac k) (T (ac k)) (by omega) ta.1
    omega)
  have y := hW T' a1 (a5 c hc hcc hck hTc)
  have tc' := a1.2.1 _ c1
  by_cases h1 : gm_stp ct (ac c) (T (ac c)) < (s : Int)
  · have z := a2 _ c1 h1
    omega
  · have z := a3 _ c1 h1
    have y2 := gm_stp_u ct (ac c) (T' (ac c)) (by omega) tc'.1
    omega

/-- bounds B and waits W hold in every safe play -/
def gs_snd (B W : Nat → Nat → Int) : Prop :=
  ∀ T, gm_sp n h L ct ac lo hi T → (∀ u v, u < n → v < n → T v - T u ≤ B u v) ∧
    (∀ c, c < n → ct c = true → T c = T (ac c) + hi c → ∀ u, u < n → T (ac c) + W c u ≤ T u)

/-- positions of a safe play keep bounds and waits -/
theorem gs_inv (hN : gm_net n h L ct ac lo hi) (B W : Nat → Nat → Int) (hS : gs_snd n h L ct ac lo hi B W)
    (m s : Nat) (hs : s + m = 12 * (h + 1)) (T : Nat → Int) (hT : gm_sp n h L ct ac lo hi T) :
    gc_inv n ct ac B W s (gm_pos ct T s) := by
  have hn6 : n ≤ 6 := hN.2.1
  have h7 : h ≤ 7 := hN.2.2.1
  have as1 : ∀ e, e < n → gm_pos ct T s e ≠ 100 → gm_stp ct e (T e) < (s : Int) ∧ gm_pos ct T s e = T e := by
    intro e _ x
    unfold gm_pos at x ⊢
    by_cases h1 : gm_stp ct e (T e) < (s : Int)
    · rw [if_pos h1]; exact ⟨h1, rfl⟩
    · rw [if_neg h1] at x; exact absurd rfl x
  have as2 : ∀ e, e < n → gm_pos ct T s e = 100 → ¬ gm_stp ct e (T e) < (s : Int) := by
    intro e he x h1
    unfold gm_pos at x
    rw [if_pos h1] at x
    have := hT.2.1 e he
    omega
  refine ⟨?_, ?_, ?_⟩
  · intro u v hu hv h1 h2
    rw [(as1 u hu h1).2, (as1 v hv h2).2]
    exact (hS T hT).1 u v hu hv
  · intro u v hu hv h1 h2
    rw [(as1 u hu h1).2]
    have y := (hS T hT).1 u v hu hv
    have z := as2 v hv h2
    have hv0 : v ≠ 0 := by
      intro w; subst w
      rw [gm_stp_0] at z; omega
    have w := (gm_stp_mono ct v (T v) (T u + B u v) hv0).2 (by omega)
    omega
  · intro c hc hcc h1 h2 u hu h3
    obtain ⟨b1, b2, b3, b4, b5⟩ := hN.2.2.2.2.2.2 c hc hcc
    have hc0 : c ≠ 0 := by
      intro z; subst z
      have y := hN.2.2.2.1
      rw [hcc] at y; simp at y
    have x1 := as2 c hc h1
    have tx := hT.2.2.1 c hc hcc
    obtain ⟨T', a1, a2, a3, a4, _⟩ := gs_one n h L ct ac lo hi hN T hT c hc hcc (hi c) ⟨b4, by omega⟩ m s hs x1 (by
      have := (gm_stp_mono ct c (T c) (T (ac c) + hi c) hc0).2 (by omega)
      omega)
    have ya := a2 _ b1 (as1 _ b1 h2).1
    have yu := a2 _ hu (as1 _ hu h3).1
    have z := (hS T' a1).2 c hc hcc a4 u hu
    rw [(as1 _ b1 h2).2, (as1 _ hu h3).2]
    omega

/-- the child of a choice, if it is safe, lies on a safe play in which every duration to come is the longest -/
theorem gs_next (hN : gm_net n h L ct ac lo hi) (m s : Nat) (hs : s + (m + 1) = 12 * (h + 1))
    (T0 : Nat → Int) (hT0 : gm_sp n h L ct ac lo hi T0)
    (he : s % 6 ≠ 0) (hen : s % 6 < n) (hcf : ct (s % 6) = false) (h6 : 6 ≤ s % 12)
    (p : Nat → Int) (hp : ∀ e, e < n → gm_pos ct T0 s e = p e) (hpe : p (s % 6) = 100)
    (q : Nat → Int) (hq : q = p ∨ q = gm_set p (s % 6) ((s / 12 : Nat) : Int))
    (hv : gm_val n L ct ac lo hi m (s + 1) q) :
    ∃ T, gm_sp n h L ct ac lo hi T ∧ (∀ e, e < n → gm_pos ct T (s + 1) e = q e) ∧
      (∀ c, c < n → ct c = true → q c = 100 → T c = T (ac c) + hi c) := by
  have hn6 : n ≤ 6 := hN.2.1
  have h7 : h ≤ 7 := hN.2.2.1
  have hac : ∀ c, c < n → ct c = true → ac c < n := fun c hcn hcc => (hN.2.2.2.2.2.2 c hcn hcc).1
  have hst := gm_slot_f ct s he hcf h6
  have hw0 := gp_pos_wf n h L ct ac lo hi s T0 hN hT0
  have hw : gm_wf n h ct ac lo hi s p := by
    refine ⟨by rw [← hp 0 hN.1]; exact hw0.1, fun e x => ?_, fun c x1 x2 x3 => ?_⟩
    · rw [← hp e x]; exact hw0.2.1 e x
    · rw [← hp c x1] at x3 ⊢
      rw [← hp _ (hac c x1 x2)]
      exact hw0.2.2 c x1 x2 x3
  have hnc : ct (s % 6) = true → False := fun z => by rw [hcf] at z; simp at z
  have hwq : gm_wf n h ct ac lo hi (s + 1) q := by
    rcases hq with hq | hq
    · rw [hq]; exact gp_wf_s n h ct ac lo hi s p hw
    · rw [hq]; exact gp_wf_set n h L ct ac lo hi hN s p (by omega) hw he hen hpe hst (fun z => absurd z hnc)
  have hpq : ∀ e, e < n → p e ≠ 100 → q e = p e := by
    intro e _ x
    rcases hq with hq | hq
    · rw [hq]
    · rw [hq]
      by_cases hx : e = s % 6
      · subst hx; exact absurd hpe x
      · exact gm_set_n _ _ _ _ hx
  have hqs : ∀ e, e < n → p e = 100 → q e = 100 ∨ (e = s % 6 ∧ q e = ((s / 12 : Nat) : Int)) := by
    intro e _ x
    rcases hq with hq | hq
    · rw [hq]; exact Or.inl x
    · rw [hq]
      by_cases hx : e = s % 6
      · subst hx; rw [gm_set_s]; exact Or.inr ⟨rfl, rfl⟩
      · rw [gm_set_n _ _ _ _ hx]; exact Or.inl x
  refine gp_thru n h L ct ac lo hi hN hi (fun c x1 x2 => ?_) m (s + 1) q (by omega) hwq hv ?_ ?_
  · have y := hN.2.2.2.2.2.2 c x1 x2
    exact ⟨y.2.2.2.1, by omega⟩
  · intro c x1 x2 x3 x4
    have hc0 : c ≠ 0 := by
      intro z; subst z
      have y := hN.2.2.2.1
      rw [x2] at y; simp at y
    obtain ⟨b1, b2, b3, b4, b5⟩ := hN.2.2.2.2.2.2 c x1 x2
    have x3' : p c = 100 := by
      by_cases hx : p c = 100
      · exact hx
      · exact absurd (hpq c x1 hx ▸ x3) hx
    by_cases hpa : p (ac c) = 100
    · rcases hqs _ b1 hpa with a | ⟨a, b⟩
      · exact absurd a x4
      · rw [b]
        have := (gm_stp_b ct c (((s / 12 : Nat) : Int) + hi c) hc0 (by omega)).1
        omega
    · rw [hpq _ b1 hpa]
      have y1 := hp c x1
      have y2 := hp _ b1
      have tc := hT0.2.1 c x1
      have tx := hT0.2.2.1 c x1 x2
      unfold gm_pos at y1 y2
      by_cases g1 : gm_stp ct c (T0 c) < (s : Int)
      · rw [if_pos g1] at y1; omega
      · by_cases g2 : gm_stp ct (ac c) (T0 (ac c)) < (s : Int)
        · rw [if_pos g2] at y2
          rw [← y2]
          have z := (gm_stp_mono ct c (T0 c) (T0 (ac c) + hi c) hc0).2 (by omega)
          by_cases hqq : gm_stp ct c (T0 (ac c) + hi c) = (s : Int)
          · have := (gm_slot ct c s _ hc0 (by omega) hqq).2.2.1 x2
            omega
          · omega
        · rw [if_neg g2] at y2; exact absurd y2.symm hpa
  · intro m' s' hlt hm'
    refine gm_val_c n L ct ac lo hi hac m' s' _ _ ?_ (hT0.2.2.2 m' s' hm')
    intro e x
    have y := hp e x
    have z := hT0.2.1 e x
    show gm_pos ct T0 s' e = (if gm_stp ct e (q e) < (s' : Int) then q e else 100)
    unfold gm_pos at y ⊢
    by_cases h1 : gm_stp ct e (T0 e) < (s : Int)
    · rw [if_pos h1] at y
      have w := hpq e x (by omega)
      rw [w, ← y]
    · rw [if_neg h1] at y
      rw [if_neg (show ¬ gm_stp ct e (T0 e) < (s' : Int) by omega)]
      rcases hqs e x y.symm with a | ⟨a, b⟩
      · rw [a]; split <;> rfl
      · subst a
        rw [b, hst, if_neg (by omega)]
end gs
end
section
-- at a choice on a safe play, looking at bounds and waits tells just what is safe
section gh
variable (n h : Nat) (L : Nat → Nat → Int) (ct : Nat → Bool) (ac : Nat → Nat) (lo hi : Nat → Int) (B W : Nat → Nat → Int)

/-- the time of v, or the soonest time that it can still get when event e is chosen about in round t -/
def gh_soon (p : Nat → Int) (t : Int) (e v : Nat) : Int :=
  if p v ≠ 100 then p v else if e < v ∧ ct v = false then t else t + 1

def gh_can (p : Nat → Int) (t : Int) (e : Nat) : Prop :=
  (∀ v, v < n → v ≠ e → gh_soon ct p t e v ≤ t + B e v) ∧
  (∀ c, c < n → ct c = true → p c = 100 → p (ac c) ≠ 100 → W c e ≤ t - p (ac c))

def gh_skip (p : Nat → Int) (t : Int) (e : Nat) : Prop := ∀ u, u < n → p u ≠ 100 → t < p u + B u e

/-- the soonest time, by steps -/
theorem gh_soon_s (e v : Nat) (t x : Int) (he : e ≠ 0) (he6 : e < 6) (hv : v ≠ 0) (hv6 : v < 6) (hve : v ≠ e) (p : Nat → Int)
    (hp : p v = 100) : gh_soon ct p t e v ≤ x ↔ 12 * t + 6 + (e : Int) + 1 ≤ gm_stp ct v x := by
  unfold gh_soon
  rw [if_neg (by simp [hp])]
  cases hc : ct v with
  | true =>
    rw [gm_stp_t ct v x hv hc, if_neg (by simp)]
    omega
  | false =>
    rw [gm_stp_f ct v x hv hc]
    by_cases hlt : e < v
    · rw [if_pos ⟨hlt, rfl⟩]; omega
    · rw [if_neg (fun z => hlt z.1)]; omega

/-- what holds of a position that lies on a safe play -/
theorem gh_at (hN : gm_net n h L ct ac lo hi) (hS : gs_snd n h L ct ac lo hi B W) (m s : Nat) (hs : s + m = 12 * (h + 1))
    (T0 : Nat → Int) (hT0 : gm_sp n h L ct ac lo hi T0) (p : Nat → Int) (hp : ∀ x, x < n → gm_pos ct T0 s x = p x) :
    gm_wf n h ct ac lo hi s p ∧ gc_inv n ct ac B W s p := by
  have hac : ∀ c, c < n → ct c = true → ac c < n := fun c hcn hcc => (hN.2.2.2.2.2.2 c hcn hcc).1
  have hw0 := gp_pos_wf n h L ct ac lo hi s T0 hN hT0
  have hi0 := gs_inv n h L ct ac lo hi hN B W hS m s hs T0 hT0
  refine ⟨⟨by rw [← hp 0 hN.1]; exact hw0.1, fun e x => ?_, fun c x1 x2 x3 => ?_⟩, ?_, ?_, ?_⟩
  · rw [← hp e x]; exact hw0.2.1 e x
  · rw [← hp c x1] at x3 ⊢
    rw [← hp _ (hac c x1 x2)]
    exact hw0.2.2 c x1 x2 x3
  · intro u v hu hv h1 h2
    rw [← hp u hu] at h1 ⊢
    rw [← hp v hv] at h2 ⊢
    exact hi0.1 u v hu hv h1 h2
  · intro u v hu hv h1 h2
    rw [← hp u hu] at h1 ⊢
    rw [← hp v hv] at h2
    exact hi0.2.1 u v hu hv h1 h2
  · intro c hc hcc h1 h2 u hu h3
    rw [← hp c hc] at h1
    rw [← hp _ (hac c hc hcc)] at h2 ⊢
    rw [← hp u hu] at h3 ⊢
    exact hi0.2.2 c hc hcc h1 h2 u hu h3

theorem gh_can_iff (hN : gm_net n h L ct ac lo hi) (hF : gc_fix n L ct ac lo hi B W) (hS : gs_snd n h L ct ac lo hi B W)
    (m s : Nat) (hs : s + (m + 1) = 12 * (h + 1)) (T0 : Nat → Int) (hT0 : gm_sp n h L ct ac lo hi T0)
    (e : Nat) (hes : e = s % 6) (he : e ≠ 0) (hen : e < n) (hcf : ct e = false) (h6 : 6 ≤ s % 12)
    (t : Int) (hts : t = ((s / 12 : Nat) : Int))
    (p : Nat → Int) (hp : ∀ x, x < n → gm_pos ct T0 s x = p x) (hpe : p e = 100) :
    gm_val n L ct ac lo hi m (s + 1) (gm_set p e t) ↔ gh_can n ct ac B W p t e := by
  subst hes
  subst hts
  have hn6 : n ≤ 6 := hN.2.1
  have h7 : h ≤ 7 := hN.2.2.1
  have hst := gm_slot_f ct s he hcf h6
  obtain ⟨hw, hI⟩ := gh_at n h L ct ac lo hi B W hN hS (m + 1) s hs T0 hT0 p hp
  have hnc : ct (s % 6) = true → False := fun z => by rw [hcf] at z; simp at z
  have hs12 : (s : Int) = 12 * ((s / 12 : Nat) : Int) + 6 + ((s % 6 : Nat) : Int) := by omega
  constructor
  · intro hv
    obtain ⟨T, t1, t2, t3⟩ := gs_next n h L ct ac lo hi hN m s hs T0 hT0 he hen hcf h6 p hp hpe _ (Or.inr rfl) hv
    have tt := t1.2.1
    have hTe : T (s % 6) = ((s / 12 : Nat) : Int) := by
      have y := t2 _ hen
      rw [gm_set_s] at y
      unfold gm_pos at y
      by_cases g : gm_stp ct (s % 6) (T (s % 6)) < ((s + 1 : Nat) : Int)
      · rw [if_pos g] at y; exact y
      · rw [if_neg g] at y; omega
    have hTa : ∀ x, x < n → p x ≠ 100 → T x = p x := by
      intro x hx hpx
      have y := t2 x hx
      rw [gm_set_n _ _ _ _ (fun z => by rw [z] at hpx; exact hpx hpe)] at y
      unfold gm_pos at y
      by_cases g : gm_stp ct x (T x) < ((s + 1 : Nat) : Int)
      · rw [if_pos g] at y; exact y
      · rw [if_neg g] at y; exact absurd y.symm hpx
    refine ⟨?_, ?_⟩
    · intro v hv' hve
      have y := (hS T t1).1 (s % 6) v hen hv'
      by_cases hpv : p v = 100
      · have hv0 : v ≠ 0 := by intro z; subst z; have := hw.1; omega
        have z := t2 v hv'
        rw [gm_set_n _ _ _ _ hve] at z
        have g : ¬ gm_stp ct v (T v) < ((s + 1 : Nat) : Int) := by
          intro g
          unfold gm_pos at z
          rw [if_pos g] at z
          have := tt v hv'
          omega
        have w := (gh_soon_s ct (s % 6) v ((s / 12 : Nat) : Int) (T v) he (by omega) hv0 (by omega) hve p hpv).2 (by omega)
        omega
      · have w := hTa v hv' hpv
        unfold gh_soon
        rw [if_pos hpv]
        omega
    · intro c hc hcc hpc hpa
      have hce : c ≠ s % 6 := fun z => by rw [z] at hcc; exact hnc hcc
      have a1 := t3 c hc hcc (by rw [gm_set_n _ _ _ _ hce]; exact hpc)
      have a2 := (hS T t1).2 c hc hcc a1 (s % 6) hen
      have a3 := hTa _ (hN.2.2.2.2.2.2 c hc hcc).1 hpa
      omega
  · intro ⟨c1, c2⟩
    refine gc_win n h L ct ac lo hi B W hN hF m (s + 1) _ (by omega) ?_ ?_
    · exact gp_wf_set n h L ct ac lo hi hN s p (by omega) hw he hen hpe hst (fun z => absurd z hnc)
    · refine gc_new n h L ct ac lo hi B W hN hF s p (by omega) hw hI he hen hpe hst ?_ ?_ ?_
      · intro v hv hpv
        have y := c1 v hv (fun z => by rw [z] at hpv; exact hpv hpe)
        unfold gh_soon at y
        rw [if_pos hpv] at y
        exact y
      · intro v hv hve hpv
        have hv0 : v ≠ 0 := by intro z; subst z; have := hw.1; omega
        have y := (gh_soon_s ct (s % 6) v ((s / 12 : Nat) : Int) _ he (by omega) hv0 (by omega) hve p hpv).1 (c1 v hv hve)
        omega
      · intro c hc hcc _ hpc hpa
        have y := c2 c hc hcc hpc hpa
        omega

theorem gh_skip_iff (hN : gm_net n h L ct ac lo hi) (hF : gc_fix n L ct ac lo hi B W) (hS : gs_snd n h L ct ac lo hi B W)
    (m s : Nat) (hs : s + (m + 1) = 12 * (h + 1)) (T0 : Nat → Int) (hT0 : gm_sp n h L ct ac lo hi T0)
    (e : Nat) (hes : e = s % 6) (he : e ≠ 0) (hen : e < n) (hcf : ct e = false) (h6 : 6 ≤ s % 12)
    (t : Int) (hts : t = ((s / 12 : Nat) : Int))
    (p : Nat → Int) (hp : ∀ x, x < n → gm_pos ct T0 s x = p x) (hpe : p e = 100) :
    gm_val n L ct ac lo hi m (s + 1) p ↔ gh_skip n B p t e := by
  subst hes
  subst hts
  have hn6 : n ≤ 6 := hN.2.1
  have h7 : h ≤ 7 := hN.2.2.1
  have hst := gm_slot_f ct s he hcf h6
  obtain ⟨hw, hI⟩ := gh_at n h L ct ac lo hi B W hN hS (m + 1) s hs T0 hT0 p hp
  constructor
  · intro hv u hu hpu
    obtain ⟨T, t1, t2, _⟩ := gs_next n h L ct ac lo hi hN m s hs T0 hT0 he hen hcf h6 p hp hpe p (Or.inl rfl) hv
    have y := (hS T t1).1 u (s % 6) hu hen
    have z := t2 u hu
    have w := t2 _ hen
    have tt := t1.2.1 _ hen
    unfold gm_pos at z w
    by_cases g : gm_stp ct (s % 6) (T (s % 6)) < ((s + 1 : Nat) : Int)
    · rw [if_pos g] at w; omega
    · by_cases g2 : gm_stp ct u (T u) < ((s + 1 : Nat) : Int)
      · rw [if_pos g2] at z
        have hm : ¬ T (s % 6) ≤ ((s / 12 : Nat) : Int) := by
          intro hle
          have := (gm_stp_mono ct (s % 6) _ _ he).2 hle
          omega
        omega
      · rw [if_neg g2] at z; exact absurd z.symm hpu
  · intro hk
    refine gc_win n h L ct ac lo hi B W hN hF m (s + 1) p (by omega) (gp_wf_s n h ct ac lo hi s p hw) ?_
    exact gc_pass n h L ct ac lo hi B W hN s p hI hw.1 (fun _ _ _ _ u hu hpu => by
      have := hk u hu hpu
      omega)

/-- on a safe play one of the two choices is safe -/
theorem gh_one (hN : gm_net n h L ct ac lo hi) (m s : Nat) (hs : s + (m + 1) = 12 * (h + 1)) (T0 : Nat → Int)
    (hT0 : gm_sp n h L ct ac lo hi T0) (he : s % 6 ≠ 0) (hen : s % 6 < n) (hcf : ct (s % 6) = false) (h6 : 6 ≤ s % 12)
    (p : Nat → Int) (hp : ∀ x, x < n → gm_pos ct T0 s x = p x) (hpe : p (s % 6) = 100) :
    gm_val n L ct ac lo hi m (s + 1) (gm_set p (s % 6) ((s / 12 : Nat) : Int)) ∨ gm_val n L ct ac lo hi m (s + 1) p := by
  have hac : ∀ c, c < n → ct c = true → ac c < n := fun c hcn hcc => (hN.2.2.2.2.2.2 c hcn hcc).1
  have hv := gm_val_c n L ct ac lo hi hac (m + 1) s _ p hp (hT0.2.2.2 (m + 1) s hs)
  have hk := gm_kind_exe n ct ac lo hi p s he hen hpe hcf h6
  unfold gm_val at hv
  rw [hk] at hv
  rcases hv.2 with hf | ⟨k, _⟩ | ⟨k, _⟩ | ⟨k, _⟩ | ⟨_, ab⟩
  · exact absurd hpe (hf _ hen)
  · exact absurd k (by decide)
  · exact absurd k (by decide)
  · exact absurd k (by decide)
  · exact ab
end gh
end
section
-- a round of the dispatcher: what was revealed and what is due, then the choices one by one
section gr
variable (n h : Nat) (L : Nat → Nat → Int) (ct : Nat → Bool) (ac : Nat → Nat) (lo hi : Nat → Int)

/-- times p in round t, with outcomes of this round already in: T is a safe play up to the round's beginning -/
def gr_at (t : Nat) (T p : Nat → Int) : Prop :=
  gm_sp n h L ct ac lo hi T ∧ p 0 = 0 ∧ (∀ e, e < n → e ≠ 0 → T e < (t : Int) → p e = T e) ∧
  (∀ e, e < n → e ≠ 0 → ¬ T e < (t : Int) → p e = 100 ∨
    (p e = (t : Int) ∧ ct e = true ∧ T (ac e) < (t : Int) ∧ T (ac e) + lo e ≤ (t : Int) ∧ (t : Int) ≤ T (ac e) + hi e))

/-- all that is due at the longest duration is in: then the times are a position of a safe play, at the first choice -/
theorem gr_out (hN : gm_net n h L ct ac lo hi) (t : Nat) (ht : t ≤ h) (T p : Nat → Int) (hA : gr_at n h L ct ac lo hi t T p)
    (hdue : ∀ c, c < n → ct c = true → p c = 100 → p (ac c) ≠ 100 → (t : Int) ≠ p (ac c) + hi c) :
    ∃ T', gm_sp n h L ct ac lo hi T' ∧ ∀ e, e < n → gm_pos ct T' (12 * t + 6) e = p e := by
  have hn6 : n ≤ 6 := hN.2.1
  have h7 : h ≤ 7 := hN.2.2.1
  obtain ⟨hT, p0, pa, pb⟩ := hA
  have t0 := hT.1
  have tb := hT.2.1
  -- before the round's first step: just the times below t
  have hbef : ∀ e, e < n → e ≠ 0 → (gm_stp ct e (T e) < ((12 * t : Nat) : Int) ↔ T e < (t : Int)) := by
    intro e he he0
    have y := gm_stp_b ct e (T e) he0 (by omega)
    constructor
    · intro z; omega
    · intro z; omega
  obtain ⟨T', a1, a2, a3, a4⟩ := gp_rer n h L ct ac lo hi hN
    (fun c => if p c = (t : Int) then (t : Int) - T (ac c) else hi c)
    (fun c x1 x2 => by
      have b := hN.2.2.2.2.2.2 c x1 x2
      have hc0 : c ≠ 0 := by
        intro z; subst z
        have y := hN.2.2.2.1
        rw [x2] at y; simp at y
      by_cases hx : p c = (t : Int)
      · simp only [if_pos hx]
        by_cases hlt : T c < (t : Int)
        · have := pa c x1 hc0 hlt; omega
        · rcases pb c x1 hc0 hlt with z | ⟨_, _, _, z1, z2⟩
          · omega
          · omega
      · simp only [if_neg hx]; omega)
    (12 * (h + 1) - 12 * t) (12 * t) T (by omega) hT
    (fun c x1 x2 x3 x4 => by
      have hc0 : c ≠ 0 := by
        intro z; subst z
        have y := hN.2.2.2.1
        rw [x2] at y; simp at y
      by_cases hx : p c = (t : Int)
      · simp only [if_pos hx]
        have e1 : T (ac c) + ((t : Int) - T (ac c)) = (t : Int) := by omega
        rw [e1]
        have := (gm_stp_b ct c (t : Int) hc0 (by omega)).1
        omega
      · simp only [if_neg hx]
        have y := (hT.2.2.1 c x1 x2).2
        have z := (gm_stp_mono ct c (T c) (T (ac c) + hi c) hc0).2 y
        omega)
  refine ⟨T', a1, ?_⟩
  intro e he
  by_cases he0 : e = 0
  · subst he0
    unfold gm_pos
    rw [gm_stp_0, if_pos (by omega), p0]
    exact a1.1
  by_cases hlt : T e < (t : Int)
  · have y := (hbef e he he0).2 hlt
    have z := a2 e he y
    unfold gm_pos
    rw [z, if_pos (by omega), pa e he he0 hlt]
  · have y : ¬ gm_stp ct e (T e) < ((12 * t : Nat) : Int) := fun z => hlt ((hbef e he he0).1 z)
    have z := a3 e he y
    have sb := gm_stp_b ct e (T' e) he0 (by omega)
    have hge : (t : Int) ≤ T' e := by omega
    cases hc : ct e with
    | false =>
      have hp : p e = 100 := by
        rcases pb e he he0 hlt with q | ⟨_, q, _⟩
        · exact q
        · rw [hc] at q; simp at q
      unfold gm_pos
      rw [gm_stp_f ct e _ he0 hc, if_neg (by omega), hp]
    | true =>
      obtain ⟨b1, b2, b3, b4, b5⟩ := hN.2.2.2.2.2.2 e he hc
      have w := a4 e he hc y
      have hta : T (ac e) < (t : Int) → T' (ac e) = T (ac e) := by
        intro hl
        by_cases ha0 : ac e = 0
        · rw [ha0, a1.1, t0]
        · exact a2 _ b1 ((hbef _ b1 ha0).2 hl)
      rcases pb e he he0 hlt with q | ⟨q1, _, q3, q4, q5⟩
      · -- not in: its time comes later
        have hne : p e ≠ (t : Int) := by omega
        simp only [if_neg hne] at w
        have hlater : (t : Int) + 1 ≤ T' e := by
          by_cases hl : T (ac e) < (t : Int)
          · have hpa : p (ac e) = T (ac e) := by
              by_cases ha0 : ac e = 0
              · rw [ha0, p0, t0]
              · exact pa _ b1 ha0 hl
            have hd := hdue e he hc q (by have := tb _ b1; omega)
            have := hta hl
            omega
          · -- its activation is not in before the round
            by_cases ha0 : ac e = 0
            · -- only in round 0
              have hpa : p (ac e) = 0 := by rw [ha0, p0]
              have := a1.1
              rw [ha0] at w
              rw [ha0, t0] at hl
              omega
            · have y2 : ¬ gm_stp ct (ac e) (T (ac e)) < ((12 * t : Nat) : Int) := fun z => hl ((hbef _ b1 ha0).1 z)
              have z2 := a3 _ b1 y2
              have sb2 := gm_stp_b ct (ac e) (T' (ac e)) ha0 (by omega)
              omega
        unfold gm_pos
        rw [gm_stp_t ct e _ he0 hc, if_neg (by omega), q]
      · simp only [if_pos q1] at w
        have := hta q3
        have he' : T' e = (t : Int) := by omega
        unfold gm_pos
        rw [he', gm_stp_t ct e _ he0 hc, if_pos (by omega), q1]

/-- a step that is no choice of an event without a time passes -/
theorem gr_skip (hN : gm_net n h L ct ac lo hi) (s : Nat) (h6 : 6 ≤ s % 12) (T p : Nat → Int) (hT : gm_sp n h L ct ac lo hi T)
    (hp : ∀ e, e < n → gm_pos ct T s e = p e) (hx : s % 6 = 0 ∨ n ≤ s % 6 ∨ ct (s % 6) = true ∨ p (s % 6) ≠ 100) :
    ∀ e, e < n → gm_pos ct T (s + 1) e = p e := by
  have hn6 : n ≤ 6 := hN.2.1
  intro e he
  have y := hp e he
  unfold gm_pos at y ⊢
  by_cases h1 : gm_stp ct e (T e) < (s : Int)
  · rw [if_pos h1] at y; rw [if_pos (by omega)]; exact y
  · rw [if_neg h1] at y
    by_cases h2 : gm_stp ct e (T e) < ((s + 1 : Nat) : Int)
    · exfalso
      by_cases he0 : e = 0
      · subst he0; rw [gm_stp_0] at h1; omega
      · obtain ⟨z1, z2, z3, z4⟩ := gm_slot ct e s (T e) he0 (by omega) (by omega)
        subst z1
        rcases hx with a | a | a | a
        · exact he0 a
        · omega
        · have := z3 a; omega
        · exact a y.symm
    · rw [if_neg h2]; exact y

/-- the next round's beginning -/
theorem gr_next (hN : gm_net n h L ct ac lo hi) (t : Nat) (T p : Nat → Int) (hT : gm_sp n h L ct ac lo hi T)
    (hp : ∀ e, e < n → gm_pos ct T (12 * t + 6 + n) e = p e) : gr_at n h L ct ac lo hi (t + 1) T p := by
  have hn6 : n ≤ 6 := hN.2.1
  have h7 : h ≤ 7 := hN.2.2.1
  refine ⟨hT, ?_, ?_, ?_⟩
  · rw [← hp 0 hN.1]; unfold gm_pos; rw [gm_stp_0, if_pos (by omega)]; exact hT.1
  · intro e he he0 hlt
    rw [← hp e he]
    unfold gm_pos
    have := gm_stp_b ct e (T e) he0 (by omega)
    cases hc : ct e with
    | true => rw [gm_stp_t ct e _ he0 hc, if_pos (by omega)]
    | false => rw [gm_stp_f ct e _ he0 hc, if_pos (by omega)]
  · intro e he he0 hlt
    rw [← hp e he]
    unfold gm_pos
    have := gm_stp_b ct e (T e) he0 (by omega)
    rw [if_neg (by omega)]
    exact Or.inl rfl

/-- an outcome that comes in this round -/
theorem gr_rev (hN : gm_net n h L ct ac lo hi) (t : Nat) (T p : Nat → Int) (hA : gr_at n h L ct ac lo hi t T p) (c : Nat) (hc : c < n)
    (hcc : ct c = true) (hpc : p c = 100) (hpa : p (ac c) ≠ 100) (hlo : lo c ≤ (t : Int) - p (ac c)) :
    gr_at n h L ct ac lo hi t T (gm_set p c (t : Int)) := by
  have hc0 := gc_0 n h L ct ac lo hi hN c hcc
  have h7 : h ≤ 7 := hN.2.2.1
  obtain ⟨b1, b2, b3, b4, b5⟩ := hN.2.2.2.2.2.2 c hc hcc
  obtain ⟨hT, p0, pa, pb⟩ := hA
  have hTc : ¬ T c < (t : Int) := by
    intro z
    have y := pa c hc hc0 z
    have y2 := hT.2.1 c hc
    omega
  have hTa : T (ac c) < (t : Int) ∧ p (ac c) = T (ac c) := by
    by_cases ha0 : ac c = 0
    · rw [ha0] at hlo ⊢
      rw [p0] at hlo ⊢
      rw [hT.1]
      exact ⟨by omega, rfl⟩
    · by_cases hl : T (ac c) < (t : Int)
      · exact ⟨hl, pa _ b1 ha0 hl⟩
      · exfalso
        rcases pb _ b1 ha0 hl with q | ⟨q, _⟩
        · exact hpa q
        · omega
  refine ⟨hT, ?_, fun e he he0 hl => ?_, fun e he he0 hl => ?_⟩
  · rw [gm_set_n _ _ _ _ (fun z => hc0 z.symm)]; exact p0
  · have hec : e ≠ c := fun z => by rw [z] at hl; exact hTc hl
    rw [gm_set_n _ _ _ _ hec]; exact pa e he he0 hl
  · by_cases hec : e = c
    · subst hec
      rw [gm_set_s]
      have y := hT.2.2.1 e hc hcc
      exact Or.inr ⟨rfl, hcc, hTa.1, by omega, by omega⟩
    · rw [gm_set_n _ _ _ _ hec]; exact pb e he he0 hl

theorem gr_start (T p : Nat → Int) (hT : gm_sp n h L ct ac lo hi T) (hp0 : p 0 = 0) (hp : ∀ e, e < n → e ≠ 0 → p e = 100) :
    gr_at n h L ct ac lo hi 0 T p := by
  refine ⟨hT, hp0, fun e he he0 hl => ?_, fun e he he0 _ => Or.inl (hp e he he0)⟩
  have y := hT.2.1 e he
  omega

/-- the times of a round -/
theorem gr_range (hN : gm_net n h L ct ac lo hi) (t : Nat) (ht : t ≤ h) (T p : Nat → Int) (hA : gr_at n h L ct ac lo hi t T p) (e : Nat) (he : e < n) :
    p e = 100 ∨ (0 ≤ p e ∧ p e ≤ (t : Int)) := by
  obtain ⟨hT, p0, pa, pb⟩ := hA
  by_cases he0 : e = 0
  · subst he0; rw [p0]; exact Or.inr ⟨by omega, by omega⟩
  · have y := hT.2.1 e he
    by_cases hl : T e < (t : Int)
    · rw [pa e he he0 hl]; exact Or.inr ⟨by omega, by omega⟩
    · rcases pb e he he0 hl with q | ⟨q, _⟩
      · exact Or.inl q
      · rw [q]; exact Or.inr ⟨by omega, by omega⟩

/-- only the times of the n events matter -/
theorem gr_c (t : Nat) (T p q : Nat → Int) (hn : 0 < n) (hpq : ∀ e, e < n → p e = q e) (hA : gr_at n h L ct ac lo hi t T p) :
    gr_at n h L ct ac lo hi t T q := by
  obtain ⟨hT, p0, pa, pb⟩ := hA
  refine ⟨hT, by rw [← hpq 0 hn]; exact p0, fun e he he0 hl => ?_, fun e he he0 hl => ?_⟩
  · rw [← hpq e he]; exact pa e he he0 hl
  · rw [← hpq e he]; exact pb e he he0 hl
end gr
end
section
-- the search that goes forward and back over the steps finds the value of a position,
-- within 2 * 97 * 9^5 turns. Pf k s won back p md stands for 'with k turns left the loop, in this state, ends as wished'.
section sr
variable (n h : Nat) (L : Nat → Nat → Int) (ct : Nat → Bool) (ac : Nat → Nat) (lo hi : Nat → Int)

def sr_pr (f : Nat → Nat) : Nat → Nat
  | 0 => 1
  | k + 1 => sr_pr f k * f (k + 1)

theorem sr_pr_c (f g : Nat → Nat) : ∀ k, (∀ e, 1 ≤ e → e ≤ k → f e = g e) → sr_pr f k = sr_pr g k := by
  intro k
  induction k with
  | zero => intro _; rfl
  | succ k ih =>
    intro hh
    unfold sr_pr
    rw [ih (fun e a b => hh e a (by omega)), hh (k + 1) (by omega) (by omega)]

theorem sr_pr_mono (f g : Nat → Nat) : ∀ k, (∀ e, 1 ≤ e → e ≤ k → f e ≤ g e) → sr_pr f k ≤ sr_pr g k := by
  intro k
  induction k with
  | zero => intro _; exact Nat.le_refl _
  | succ k ih =>
    intro hh
    unfold sr_pr
    exact Nat.mul_le_mul (ih (fun e a b => hh e a (by omega))) (hh (k + 1) (by omega) (by omega))

theorem sr_pr_pos (f : Nat → Nat) : ∀ k, (∀ e, 1 ≤ e → e ≤ k → 1 ≤ f e) → 1 ≤ sr_pr f k := by
  intro k
  induction k with
  | zero => intro _; exact Nat.le_refl _
  | succ k ih =>
    intro hh
    unfold sr_pr
    exact Nat.mul_le_mul (ih (fun e a b => hh e a (by omega))) (hh (k + 1) (by omega) (by omega))

/-- one factor taken out -/
theorem sr_pr_out (f : Nat → Nat) (e : Nat) : ∀ k, 1 ≤ e → e ≤ k →
    ∃ Y, ∀ g : Nat → Nat, (∀ x, 1 ≤ x → x ≤ k → x ≠ e → g x = f x) → sr_pr g k = Y * g e := by
  intro k
  induction k with
  | zero => intro a b; omega
  | succ k ih =>
    intro a b
    by_cases hx : e = k + 1
    · subst hx
      refine ⟨sr_pr f k, fun g hg => ?_⟩
      show sr_pr g k * g (k + 1) = sr_pr f k * g (k + 1)
      rw [sr_pr_c g f k (fun x p q => hg x p (by omega) (by omega))]
    · obtain ⟨Y, hY⟩ := ih a (by omega)
      refine ⟨Y * f (k + 1), fun g hg => ?_⟩
      show sr_pr g k * g (k + 1) = Y * f (k + 1) * g e
      rw [hY g (fun x p q r => hg x p (by omega) r), hg (k + 1) (by omega) (by omega) (fun z => hx z.symm)]
      rw [Nat.mul_assoc, Nat.mul_assoc, Nat.mul_comm (g e)]

/-- the steps of event e that are still to come -/
def sr_left (s e : Nat) : Nat := (h + 1) - (s + 11 - (if ct e = true then e else 6 + e)) / 12

def sr_fac (s : Nat) (p : Nat → Int) (e : Nat) : Nat := if e < n ∧ p e = 100 then 1 + sr_left h ct s e else 1

def sr_bd (m s : Nat) (p : Nat → Int) : Nat := 2 * (m + 1) * sr_pr (sr_fac n h ct s p) 5

theorem sr_left_mono (s e : Nat) : sr_left h ct (s + 1) e ≤ sr_left h ct s e := by
  unfold sr_left
  split <;> omega

theorem sr_left_b (s e : Nat) : sr_left h ct s e ≤ h + 1 := by
  unfold sr_left
  omega

/-- at its own step an event has one step less to come -/
theorem sr_left_own (s : Nat) (he : s % 6 ≠ 0) (hs : s < 12 * (h + 1)) (hst : gm_stp ct (s % 6) ((s / 12 : Nat) : Int) = (s : Int)) :
    sr_left h ct s (s % 6) = sr_left h ct (s + 1) (s % 6) + 1 := by
  unfold sr_left
  cases hc : ct (s % 6) with
  | true =>
    rw [gm_stp_t ct _ _ he hc] at hst
    simp only [if_pos]
    omega
  | false =>
    rw [gm_stp_f ct _ _ he hc] at hst
    simp only [Bool.false_eq_true, if_false]
    omega

theorem sr_left_oth (s e : Nat) (he : e ≠ 0) (he6 : e < 6) (hx : e ≠ s % 6) : sr_left h ct (s + 1) e = sr_left h ct s e := by
  unfold sr_left
  split <;> omega

theorem sr_fac_1 (s : Nat) (p : Nat → Int) (e : Nat) : 1 ≤ sr_fac n h ct s p e := by
  unfold sr_fac
  split <;> omega

theorem sr_bd_2 (m s : Nat) (p : Nat → Int) : 2 * (m + 1) ≤ sr_bd n h ct m s p := by
  unfold sr_bd
  have := sr_pr_pos (sr_fac n h ct s p) 5 (fun e _ _ => sr_fac_1 n h ct s p e)
  exact Nat.le_trans (by omega) (Nat.mul_le_mul_left (2 * (m + 1)) this)

/-- the slot passes -/
theorem sr_bd_pass (m s : Nat) (p : Nat → Int) : sr_bd n h ct m (s + 1) p + 2 ≤ sr_bd n h ct (m + 1) s p := by
  unfold sr_bd
  have x1 := sr_pr_pos (sr_fac n h ct s p) 5 (fun e _ _ => sr_fac_1 n h ct s p e)
  have x2 : sr_pr (sr_fac n h ct (s + 1) p) 5 ≤ sr_pr (sr_fac n h ct s p) 5 := by
    refine sr_pr_mono _ _ 5 (fun e _ _ => ?_)
    unfold sr_fac
    have := sr_left_mono h ct s e
    split <;> omega
  generalize sr_pr (sr_fac n h ct s p) 5 = X at *
  generalize sr_pr (sr_fac n h ct (s + 1) p) 5 = X' at *
  have x3 : 2 * (m + 1) * X' ≤ 2 * (m + 1) * X := Nat.mul_le_mul_left _ x2
  have x4 : 2 * (m + 1 + 1) * X = 2 * (m + 1) * X + 2 * X := by
    rw [← Nat.add_mul]
    congr 1
  omega

/-- the slot's event: both children -/
theorem sr_bd_two (m s : Nat) (p : Nat → Int) (hn : n ≤ 6) (he : s % 6 ≠ 0) (hen : s % 6 < n) (hpe : p (s % 6) = 100) (t : Int) (ht : t ≠ 100)
    (hs : s < 12 * (h + 1)) (hst : gm_stp ct (s % 6) ((s / 12 : Nat) : Int) = (s : Int)) :
    sr_bd n h ct m (s + 1) (gm_set p (s % 6) t) + sr_bd n h ct m (s + 1) p + 3 ≤ sr_bd n h ct (m + 1) s p := by
  unfold sr_bd
  obtain ⟨Y, hY⟩ := sr_pr_out (sr_fac n h ct s p) (s % 6) 5 (by omega) (by omega)
  have y1 := hY (sr_fac n h ct s p) (fun x _ _ _ => rfl)
  have y2 := hY (sr_fac n h ct (s + 1) p) (fun x a b c => by
    unfold sr_fac
    rw [sr_left_oth h ct s x (by omega) (by omega) c])
  have y3 := hY (sr_fac n h ct (s + 1) (gm_set p (s % 6) t)) (fun x a b c => by
    unfold sr_fac
    rw [sr_left_oth h ct s x (by omega) (by omega) c, gm_set_n _ _ _ _ c])
  have z1 : sr_fac n h ct s p (s % 6) = 1 + sr_left h ct s (s % 6) := by
    unfold sr_fac; rw [if_pos ⟨hen, hpe⟩]
  have z2 : sr_fac n h ct (s + 1) p (s % 6) = 1 + sr_left h ct (s + 1) (s % 6) := by
    unfold sr_fac; rw [if_pos ⟨hen, hpe⟩]
  have z3 : sr_fac n h ct (s + 1) (gm_set p (s % 6) t) (s % 6) = 1 := by
    unfold sr_fac; rw [gm_set_s, if_neg (fun z => ht z.2)]
  have z4 := sr_left_own h ct s he hs hst
  have y4 := sr_pr_pos (sr_fac n h ct (s + 1) (gm_set p (s % 6) t)) 5 (fun e _ _ => sr_fac_1 n h ct _ _ e)
  rw [y3, z3] at y4
  rw [y1, y2, y3, z1, z2, z3, z4]
  generalize sr_left h ct (s + 1) (s % 6) = r at *
  -- 2(m+1)Y + 2(m+1)Y(1+r) + 3 ≤ 2(m+2)Y(2+r)
  have hYp : 1 ≤ Y := by omega
  have w1 : 2 * (m + 1) * (Y * 1) + 2 * (m + 1) * (Y * (1 + r)) = 2 * (m + 1) * (Y * (1 + (r + 1))) := by
    rw [← Nat.mul_add, ← Nat.mul_add]
    congr 2
    omega
  have w2 : 2 * (m + 1 + 1) * (Y * (1 + (r + 1))) = 2 * (m + 1) * (Y * (1 + (r + 1))) + 2 * (Y * (1 + (r + 1))) := by
    rw [← Nat.add_mul]
    congr 1
  have w3 : 1 * 2 ≤ Y * (1 + (r + 1)) := Nat.mul_le_mul hYp (by omega)
  omega

theorem sr_bd_top (m s : Nat) (p : Nat → Int) (h7 : h ≤ 7) (hs : s + m = 12 * (h + 1)) : sr_bd n h ct m s p ≤ 11455506 := by
  unfold sr_bd
  have x : sr_pr (sr_fac n h ct s p) 5 ≤ sr_pr (fun _ => 9) 5 := by
    refine sr_pr_mono _ _ 5 (fun e _ _ => ?_)
    unfold sr_fac
    have := sr_left_b h ct s e
    split <;> omega
  have y : sr_pr (fun _ => 9) 5 = 59049 := by decide
  rw [y] at x
  have z : 2 * (m + 1) ≤ 194 := by omega
  have w := Nat.mul_le_mul z x
  omega

/-- the search -/
theorem sr_dfs (first : Nat) (hN : gm_net n h L ct ac lo hi)
    (Pf : Nat → Nat → Prop → Prop → (Nat → Int) → (Nat → Nat) → Prop)
    (r1 : ∀ k s won p md, first ≤ s → gm_full n p → Pf k s True True p md → Pf (k + 1) s won False p md)
    (r2 : ∀ k s won p md, first ≤ s → ¬ gm_full n p → s = 12 * (h + 1) → Pf k s False True p md → Pf (k + 1) s won False p md)
    (r3 : ∀ k s won p md, first ≤ s → ¬ gm_full n p → s < 12 * (h + 1) → gm_kind n ct ac lo hi p s = 0 →
      Pf k (s + 1) won False p (fun x => if x = s then 0 else md x) → Pf (k + 1) s won False p md)
    (r4 : ∀ k s won p md, first ≤ s → ¬ gm_full n p → s < 12 * (h + 1) → gm_kind n ct ac lo hi p s ≠ 0 →
      Pf k (s + 1) False (gm_broken n L (gm_set p (s % 6) ((s / 12 : Nat) : Int))) (gm_set p (s % 6) ((s / 12 : Nat) : Int))
        (fun x => if x = s then gm_kind n ct ac lo hi p s else md x) → Pf (k + 1) s won False p md)
    (r5 : ∀ k s won p md, first ≤ s → s < 12 * (h + 1) → md s = 0 → Pf k s won True p md → Pf (k + 1) (s + 1) won True p md)
    (r6 : ∀ k s (won : Prop) p md, first ≤ s → s < 12 * (h + 1) → md s ≠ 0 → ¬ (md s = 2 ∧ won ∨ md s = 3 ∧ ¬ won) →
      Pf k s won True (gm_set p (s % 6) 100) md → Pf (k + 1) (s + 1) won True p md)
    (r7 : ∀ k s (won : Prop) p md, first ≤ s → s < 12 * (h + 1) → md s ≠ 0 → (md s = 2 ∧ won ∨ md s = 3 ∧ ¬ won) →
      Pf k (s + 1) won False (gm_set p (s % 6) 100) (fun x => if x = s then 0 else md x) → Pf (k + 1) (s + 1) won True p md) :
    ∀ (m s : Nat) (p : Nat → Int) (k : Nat) (won : Prop) (md : Nat → Nat), first ≤ s → s + m = 12 * (h + 1) → ¬ gm_broken n L p →
      sr_bd n h ct m s p ≤ k →
      (∀ k' md', k ≤ k' + sr_bd n h ct m s p → (∀ x, x < s → md' x = md x) → Pf k' s (gm_val n L ct ac lo hi m s p) True p md') →
      Pf k s won False p md := by
  have hn6 : n ≤ 6 := hN.2.1
  have h7 : h ≤ 7 := hN.2.2.1
  intro m
  induction m with
  | zero =>
    intro s p k won md hf hs hb hk hc
    have b2 := sr_bd_2 n h ct 0 s p
    obtain ⟨k0, rfl⟩ : ∃ k0, k = k0 + 1 := ⟨k - 1, by omega⟩
    have e1 : gm_val n L ct ac lo hi 0 s p = gm_full n p := by
      unfold gm_val
      exact propext ⟨fun z => z.2, fun z => ⟨hb, z⟩⟩
    have c1 := hc k0 md (by omega) (fun _ _ => rfl)
    rw [e1] at c1
    by_cases hfull : gm_full n p
    · exact r1 k0 s won p md hf hfull (by
        have : gm_full n p = True := propext ⟨fun _ => trivial, fun _ => hfull⟩
        rw [this] at c1; exact c1)
    · exact r2 k0 s won p md hf hfull (by omega) (by
        have : gm_full n p = False := propext ⟨fun z => hfull z, fun z => z.elim⟩
        rw [this] at c1; exact c1)
  | succ m ih =>
    intro s p k won md hf hs hb hk hc
    have b2 := sr_bd_2 n h ct (m + 1) s p
    obtain ⟨k0, rfl⟩ : ∃ k0, k = k0 + 1 := ⟨k - 1, by omega⟩
    by_cases hfull : gm_full n p
    · have e1 : gm_val n L ct ac lo hi (m + 1) s p = True :=
        propext ⟨fun _ => trivial, fun _ => gm_val_full n L ct ac lo hi (m + 1) s p hb hfull⟩
      have c1 := hc k0 md (by omega) (fun _ _ => rfl)
      rw [e1] at c1
      exact r1 k0 s won p md hf hfull c1
    · have hslt : s < 12 * (h + 1) := by omega
      by_cases hk0 : gm_kind n ct ac lo hi p s = 0
      · have e1 : gm_val n L ct ac lo hi (m + 1) s p = gm_val n L ct ac lo hi m (s + 1) p := by
          conv => lhs; unfold gm_val
          rw [hk0]
          refine propext ⟨fun z => ?_, fun z => ⟨hb, Or.inr (Or.inl ⟨rfl, z⟩)⟩⟩
          rcases z.2 with a | ⟨_, a⟩ | ⟨a, _⟩ | ⟨a, _⟩ | ⟨a, _⟩
          · exact absurd a hfull
          · exact a
          · exact absurd a (by decide)
          · exact absurd a (by decide)
          · exact absurd a (by decide)
        rw [e1] at hc
        have bp := sr_bd_pass n h ct m s p
        refine r3 k0 s won p md hf hfull hslt hk0 (ih (s + 1) p k0 won _ (by omega) (by omega) hb (by omega) ?_)
        intro k' md' hk' hmd'
        obtain ⟨k1, rfl⟩ : ∃ k1, k' = k1 + 1 := ⟨k' - 1, by omega⟩
        refine r5 k1 s _ p md' hf hslt (by rw [hmd' s (by omega)]; simp) (hc k1 md' (by omega) ?_)
        intro x hx
        rw [hmd' x (by omega), if_neg (by omega)]
      · -- the slot's event gets the time, then perhaps not
        have hkind := gm_kind_lt n ct ac lo hi p s
        have hslot : s % 6 ≠ 0 ∧ s % 6 < n ∧ p (s % 6) = 100 ∧ gm_stp ct (s % 6) ((s / 12 : Nat) : Int) = (s : Int) := by
          rcases hkind with q | q | q | q
          · exact absurd q hk0
          · obtain ⟨k1, k2, k3, k4, k5, _⟩ := gm_kind_12 n ct ac lo hi p s (Or.inl q)
            exact ⟨k1, k2, k3, gm_slot_t ct s k1 k4 k5⟩
          · obtain ⟨k1, k2, k3, k4, k5, _⟩ := gm_kind_12 n ct ac lo hi p s (Or.inr q)
            exact ⟨k1, k2, k3, gm_slot_t ct s k1 k4 k5⟩
          · obtain ⟨k1, k2, k3, k4, k5⟩ := gm_kind_3 n ct ac lo hi p s q
            exact ⟨k1, k2, k3, gm_slot_f ct s k1 k4 k5⟩
        obtain ⟨g1, g2, g3, g4⟩ := hslot
        have hback : gm_set (gm_set p (s % 6) ((s / 12 : Nat) : Int)) (s % 6) 100 = p := by
          funext x
          by_cases hx : x = s % 6
          · subst hx; rw [gm_set_s, g3]
          · rw [gm_set_n _ _ _ _ hx, gm_set_n _ _ _ _ hx]
        have bt := sr_bd_two n h ct m s p hn6 g1 g2 g3 ((s / 12 : Nat) : Int) (by omega) hslt g4
        -- V1, V2: the values of the two children
        generalize hV1 : gm_val n L ct ac lo hi m (s + 1) (gm_set p (s % 6) ((s / 12 : Nat) : Int)) = V1 at *
        generalize hV2 : gm_val n L ct ac lo hi m (s + 1) p = V2 at *
        have e1 : gm_val n L ct ac lo hi (m + 1) s p =
            ((gm_kind n ct ac lo hi p s = 1 ∧ V1) ∨ (gm_kind n ct ac lo hi p s = 2 ∧ V1 ∧ V2) ∨ (gm_kind n ct ac lo hi p s = 3 ∧ (V1 ∨ V2))) := by
          conv => lhs; unfold gm_val
          rw [hV1, hV2]
          refine propext ⟨fun z => ?_, fun z => ⟨hb, Or.inr (Or.inr z)⟩⟩
          rcases z.2 with a | ⟨a, _⟩ | z
          · exact absurd a hfull
          · exact absurd a hk0
          · exact z
        rw [e1] at hc
        -- behind the first child
        have hpop : ∀ k1 md1, k0 ≤ k1 + sr_bd n h ct m (s + 1) (gm_set p (s % 6) ((s / 12 : Nat) : Int)) →
            (∀ x, x < s → md1 x = md x) → md1 s = gm_kind n ct ac lo hi p s →
            Pf k1 (s + 1) V1 True (gm_set p (s % 6) ((s / 12 : Nat) : Int)) md1 := by
          intro k1 md1 hk1 hm1 hm2
          have b3 := sr_bd_2 n h ct m (s + 1) p
          obtain ⟨k2, rfl⟩ : ∃ k2, k1 = k2 + 1 := ⟨k1 - 1, by omega⟩
          by_cases hturn : md1 s = 2 ∧ V1 ∨ md1 s = 3 ∧ ¬ V1
          · refine r7 k2 s V1 _ md1 hf hslt (by rw [hm2]; exact hk0) hturn ?_
            rw [hback]
            refine ih (s + 1) p k2 V1 _ (by omega) (by omega) hb (by omega) ?_
            intro k' md' hk' hmd'
            rw [hV2]
            obtain ⟨k3, rfl⟩ : ∃ k3, k' = k3 + 1 := ⟨k' - 1, by omega⟩
            refine r5 k3 s _ p md' hf hslt (by rw [hmd' s (by omega)]; simp) ?_
            have c1 := hc k3 md' (by omega) (fun x hx => by rw [hmd' x (by omega), if_neg (by omega), hm1 x hx])
            have e2 : ((gm_kind n ct ac lo hi p s = 1 ∧ V1) ∨ (gm_kind n ct ac lo hi p s = 2 ∧ V1 ∧ V2) ∨
                (gm_kind n ct ac lo hi p s = 3 ∧ (V1 ∨ V2))) = V2 := by
              rw [hm2] at hturn
              rcases hturn with ⟨a, b⟩ | ⟨a, b⟩
              · rw [a]; simp [b]
              · rw [a]; simp [b]
            rw [e2] at c1
            exact c1
          · refine r6 k2 s V1 _ md1 hf hslt (by rw [hm2]; exact hk0) hturn ?_
            rw [hback]
            have c1 := hc k2 md1 (by omega) hm1
            have e2 : ((gm_kind n ct ac lo hi p s = 1 ∧ V1) ∨ (gm_kind n ct ac lo hi p s = 2 ∧ V1 ∧ V2) ∨
                (gm_kind n ct ac lo hi p s = 3 ∧ (V1 ∨ V2))) = V1 := by
              rw [hm2] at hturn
              by_cases hv : V1
              · rcases hkind with q | q | q | q
                · exact absurd q hk0
                · rw [q]; simp [hv]
                · exact absurd (Or.inl ⟨q, hv⟩) hturn
                · rw [q]; simp [hv]
              · rcases hkind with q | q | q | q
                · exact absurd q hk0
                · rw [q]; simp [hv]
                · rw [q]; simp [hv]
                · exact absurd (Or.inr ⟨q, hv⟩) hturn
            rw [e2] at c1
            exact c1
        refine r4 k0 s won p md hf hfull hslt hk0 ?_
        by_cases hbr : gm_broken n L (gm_set p (s % 6) ((s / 12 : Nat) : Int))
        · have e3 : gm_broken n L (gm_set p (s % 6) ((s / 12 : Nat) : Int)) = True := propext ⟨fun _ => trivial, fun _ => hbr⟩
          have e4 : V1 = False := by
            rw [← hV1]
            exact propext ⟨fun z => gm_val_nb n L ct ac lo hi m (s + 1) _ z hbr, fun z => z.elim⟩
          rw [e3, ← e4]
          exact hpop k0 _ (by omega) (fun x hx => by simp [show x ≠ s by omega]) (by simp)
        · have e3 : gm_broken n L (gm_set p (s % 6) ((s / 12 : Nat) : Int)) = False := propext ⟨fun z => hbr z, fun z => z.elim⟩
          rw [e3]
          refine ih (s + 1) _ k0 False _ (by omega) (by omega) hbr (by omega) ?_
          intro k' md' hk' hmd'
          rw [hV1]
          refine hpop k' md' hk' (fun x hx => by rw [hmd' x (by omega), if_neg (by omega)]) (by rw [hmd' s (by omega)]; simp)
end sr
end
section
-- the deduction, over tables of 36 cells in rows of six
section gd
variable (n h : Nat) (L : Nat → Nat → Int) (ct : Nat → Bool) (ac : Nat → Nat) (lo hi : Nat → Int)

def gd_t (b : Nat → Int32) (u v : Nat) : Int := (b (u * 6 + v)).toInt

theorem gd_t_s (b : Nat → Int32) (u v : Nat) (x : Int32) : gd_t (upd b (u * 6 + v) x) u v = x.toInt := by
  show (if u * 6 + v = u * 6 + v then x else b (u * 6 + v)).toInt = x.toInt
  rw [if_pos rfl]

theorem gd_t_n (b : Nat → Int32) (u v u' v' : Nat) (x : Int32) (hv : v < 6) (hv' : v' < 6) (hne : u' ≠ u ∨ v' ≠ v) :
    gd_t (upd b (u * 6 + v) x) u' v' = gd_t b u' v' := by
  show (if u' * 6 + v' = u * 6 + v then x else b (u' * 6 + v')).toInt = (b (u' * 6 + v')).toInt
  rw [if_neg (by omega)]

/-- bounds and waits: ranges, what they begin from, and that they hold in every safe play -/
def gd_good (K : Int) (b w : Nat → Int32) : Prop :=
  (∀ u v, u < n → v < n → -14 ≤ gd_t b u v ∧ gd_t b u v ≤ 7) ∧ (∀ u, u < n → gd_t b u u = 0) ∧
  (∀ c u, c < n → ct c = true → u < n → -7 ≤ gd_t w c u ∧ gd_t w c u ≤ K) ∧
  (∀ u v, u < n → v < n → u ≠ v → gd_t b u v ≤ L u v) ∧
  (∀ c, c < n → ct c = true → gd_t b (ac c) c ≤ hi c ∧ hi c ≤ gd_t w c c) ∧
  gs_snd n h L ct ac lo hi (gd_t b) (gd_t w)

def gd_bad (b : Nat → Int32) : Prop := (∃ u, u < n ∧ gd_t b u u < 0) ∧ ∀ T, ¬ gm_sp n h L ct ac lo hi T

def gd_inv (K : Int) (b w : Nat → Int32) : Prop := gd_bad n h L ct ac lo hi b ∨ gd_good n h L ct ac lo hi K b w

theorem gd_good_up (K K' : Int) (b w : Nat → Int32) (hK : K ≤ K') (hG : gd_good n h L ct ac lo hi K b w) :
    gd_good n h L ct ac lo hi K' b w := by
  obtain ⟨a1, a2, a3, a4, a5, a6⟩ := hG
  refine ⟨a1, a2, fun c u x1 x2 x3 => ?_, a4, a5, a6⟩
  have y := a3 c u x1 x2 x3
  exact ⟨y.1, by omega⟩

theorem gd_inv_up (K K' : Int) (b w : Nat → Int32) (hK : K ≤ K') (hG : gd_inv n h L ct ac lo hi K b w) :
    gd_inv n h L ct ac lo hi K' b w := by
  rcases hG with a | a
  · exact Or.inl a
  · exact Or.inr (gd_good_up n h L ct ac lo hi K K' b w hK a)

/-- a cell of the table after one write -/
theorem gd_cell (b : Nat → Int32) (u v x y : Nat) (z : Int32) (hv : v < 6) (hy : y < 6) :
    (x = u ∧ y = v ∧ gd_t (upd b (u * 6 + v) z) x y = z.toInt) ∨
    ((x ≠ u ∨ y ≠ v) ∧ gd_t (upd b (u * 6 + v) z) x y = gd_t b x y) := by
  by_cases e : x = u ∧ y = v
  · obtain ⟨e1, e2⟩ := e
    subst e1
    subst e2
    exact Or.inl ⟨rfl, rfl, gd_t_s _ _ _ _⟩
  · have e' : x ≠ u ∨ y ≠ v := by omega
    exact Or.inr ⟨e', gd_t_n _ _ _ _ _ _ hv hy e'⟩

theorem gd_tight (hN : gm_net n h L ct ac lo hi) (K : Int) (b w : Nat → Int32) (u v : Nat) (most : Int32) (hu : u < n) (hv : v < n)
    (hG : gd_good n h L ct ac lo hi K b w) (hlt : most.toInt < gd_t b u v) (hlow : -14 ≤ most.toInt)
    (hS : ∀ T, gm_sp n h L ct ac lo hi T → T v - T u ≤ most.toInt) :
    gd_inv n h L ct ac lo hi K (upd b (u * 6 + v) most) w := by
  have hn : n ≤ 6 := hN.2.1
  obtain ⟨a1, a2, a3, a4, a5, a6⟩ := hG
  by_cases huv : u = v
  · subst huv
    have y := a2 u hu
    refine Or.inl ⟨⟨u, hu, ?_⟩, fun T hT => ?_⟩
    · rw [gd_t_s]; omega
    · have x := hS T hT
      omega
  · refine Or.inr ?_
    have low : ∀ x y, x < n → y < n → gd_t (upd b (u * 6 + v) most) x y ≤ gd_t b x y := by
      intro x y hx hy
      rcases gd_cell b u v x y most (by omega) (by omega) with ⟨e1, e2, e3⟩ | ⟨_, e3⟩
      · rw [e3, e1, e2]; omega
      · rw [e3]; omega
    refine ⟨fun x y hx hy => ?_, fun x hx => ?_, a3, fun x y hx hy hxy => ?_, fun c hc hcc => ?_, fun T hT => ?_⟩
    · have z := a1 x y hx hy
      rcases gd_cell b u v x y most (by omega) (by omega) with ⟨e1, e2, e3⟩ | ⟨_, e3⟩
      · rw [e1, e2] at z
        rw [e3]; exact ⟨hlow, by omega⟩
      · rw [e3]; exact z
    · rcases gd_cell b u v x x most (by omega) (by omega) with ⟨e1, e2, _⟩ | ⟨_, e3⟩
      · exact absurd (e1.symm.trans e2) huv
      · rw [e3]; exact a2 x hx
    · have z := a4 x y hx hy hxy
      have z2 := low x y hx hy
      omega
    · have z := a5 c hc hcc
      have z2 := low (ac c) c (hN.2.2.2.2.2.2 c hc hcc).1 hc
      exact ⟨by omega, z.2⟩
    · have z := a6 T hT
      refine ⟨fun x y hx hy => ?_, z.2⟩
      rcases gd_cell b u v x y most (by omega) (by omega) with ⟨e1, e2, e3⟩ | ⟨_, e3⟩
      · rw [e3, e1, e2]; exact hS T hT
      · rw [e3]; exact z.1 x y hx hy

theorem gd_bad_t (hn : n ≤ 6) (b : Nat → Int32) (u v : Nat) (most : Int32) (hv : v < n)
    (hB : gd_bad n h L ct ac lo hi b) (hlt : most.toInt < gd_t b u v) : gd_bad n h L ct ac lo hi (upd b (u * 6 + v) most) := by
  obtain ⟨⟨x, hx, hx0⟩, hno⟩ := hB
  refine ⟨⟨x, hx, ?_⟩, hno⟩
  rcases gd_cell b u v x x most (by omega) (by omega) with ⟨e1, e2, e3⟩ | ⟨_, e3⟩
  · rw [e3]
    rw [← e1, ← e2] at hlt
    omega
  · rw [e3]; exact hx0

theorem gd_long (hN : gm_net n h L ct ac lo hi) (K K' : Int) (b w : Nat → Int32) (c u : Nat) (least : Int32) (hc : c < n)
    (hu : u < n) (hG : gd_good n h L ct ac lo hi K b w) (hgt : gd_t w c u < least.toInt) (hKK : K ≤ K')
    (hK : least.toInt ≤ K') (hcc : ct c = true)
    (hS : ∀ T, gm_sp n h L ct ac lo hi T → T c = T (ac c) + hi c → T (ac c) + least.toInt ≤ T u) :
    gd_good n h L ct ac lo hi K' b (upd w (c * 6 + u) least) := by
  have hn : n ≤ 6 := hN.2.1
  obtain ⟨a1, a2, a3, a4, a5, a6⟩ := hG
  refine ⟨a1, a2, fun x y hx hxc hy => ?_, a4, fun x hx hxc => ?_, fun T hT => ?_⟩
  · have z := a3 x y hx hxc hy
    rcases gd_cell w c u x y least (by omega) (by omega) with ⟨e1, e2, e3⟩ | ⟨_, e3⟩
    · rw [e1, e2] at z
      rw [e3]; exact ⟨by omega, hK⟩
    · rw [e3]; exact ⟨z.1, by omega⟩
  · have z := a5 x hx hxc
    refine ⟨z.1, ?_⟩
    rcases gd_cell w c u x x least (by omega) (by omega) with ⟨e1, e2, e3⟩ | ⟨_, e3⟩
    · rw [e3]
      have z2 := z.2
      rw [← e1, ← e2] at hgt
      omega
    · rw [e3]; exact z.2
  · have z := a6 T hT
    refine ⟨z.1, fun x hx hxc hxT y hy => ?_⟩
    rcases gd_cell w c u x y least (by omega) (by omega) with ⟨e1, e2, e3⟩ | ⟨_, e3⟩
    · rw [e3, e2, e1]
      rw [e1] at hxT
      exact hS T hT hxT
    · rw [e3]; exact z.2 x hx hxc hxT y hy

-- how much is still to come
def gd_mk (b : Nat → Int32) (i : Nat) : Int32 := if i / 6 < n ∧ i % 6 < n then b i else 0
def gd_mw (w : Nat → Int32) (i : Nat) : Int32 := if i / 6 < n ∧ i % 6 < n ∧ ct (i / 6) = true then w i else 0
def gd_phi (b w : Nat → Int32) : Int := gn_sum (gd_mk n b) 36 - gn_sum (gd_mw n ct w) 36

theorem gd_mk_u (b : Nat → Int32) (u v : Nat) (x : Int32) (hv6 : v < 6) (hu : u < n) (hv : v < n) :
    gd_mk n (upd b (u * 6 + v) x) = upd (gd_mk n b) (u * 6 + v) x := by
  have e1 : (u * 6 + v) / 6 = u := by omega
  have e2 : (u * 6 + v) % 6 = v := by omega
  funext i
  by_cases e : i = u * 6 + v
  · have c1 : i / 6 < n ∧ i % 6 < n := by rw [e, e1, e2]; exact ⟨hu, hv⟩
    show (if i / 6 < n ∧ i % 6 < n then (if i = u * 6 + v then x else b i) else 0) = (if i = u * 6 + v then x else gd_mk n b i)
    rw [if_pos c1, if_pos e, if_pos e]
  · show (if i / 6 < n ∧ i % 6 < n then (if i = u * 6 + v then x else b i) else 0) =
      (if i = u * 6 + v then x else (if i / 6 < n ∧ i % 6 < n then b i else 0))
    rw [if_neg e, if_neg e]

theorem gd_mw_u (w : Nat → Int32) (u v : Nat) (x : Int32) (hv6 : v < 6) (hu : u < n) (hv : v < n) (huc : ct u = true) :
    gd_mw n ct (upd w (u * 6 + v) x) = upd (gd_mw n ct w) (u * 6 + v) x := by
  have e1 : (u * 6 + v) / 6 = u := by omega
  have e2 : (u * 6 + v) % 6 = v := by omega
  funext i
  by_cases e : i = u * 6 + v
  · have c1 : i / 6 < n ∧ i % 6 < n ∧ ct (i / 6) = true := by rw [e, e1, e2]; exact ⟨hu, hv, huc⟩
    show (if i / 6 < n ∧ i % 6 < n ∧ ct (i / 6) = true then (if i = u * 6 + v then x else w i) else 0) =
      (if i = u * 6 + v then x else gd_mw n ct w i)
    rw [if_pos c1, if_pos e, if_pos e]
  · show (if i / 6 < n ∧ i % 6 < n ∧ ct (i / 6) = true then (if i = u * 6 + v then x else w i) else 0) =
      (if i = u * 6 + v then x else (if i / 6 < n ∧ i % 6 < n ∧ ct (i / 6) = true then w i else 0))
    rw [if_neg e, if_neg e]

theorem gd_phi_t (b w : Nat → Int32) (u v : Nat) (x : Int32) (hn : n ≤ 6) (hu : u < n) (hv : v < n) (hlt : x.toInt < gd_t b u v) :
    gd_phi n ct (upd b (u * 6 + v) x) w < gd_phi n ct b w := by
  have e1 : (u * 6 + v) / 6 = u := by omega
  have e2 : (u * 6 + v) % 6 = v := by omega
  have e3 : (gd_mk n b (u * 6 + v)).toInt = gd_t b u v := by
    show (if (u * 6 + v) / 6 < n ∧ (u * 6 + v) % 6 < n then b (u * 6 + v) else 0).toInt = (b (u * 6 + v)).toInt
    rw [e1, e2, if_pos (show u < n ∧ v < n from ⟨hu, hv⟩)]
  unfold gd_phi
  rw [gd_mk_u n b u v x (by omega) hu hv, gn_sum_upd (gd_mk n b) (u * 6 + v) x 36 (by omega), e3]
  omega

theorem gd_phi_l (b w : Nat → Int32) (u v : Nat) (x : Int32) (hn : n ≤ 6) (hu : u < n) (hv : v < n) (huc : ct u = true)
    (hlt : gd_t w u v < x.toInt) : gd_phi n ct b (upd w (u * 6 + v) x) < gd_phi n ct b w := by
  have e1 : (u * 6 + v) / 6 = u := by omega
  have e2 : (u * 6 + v) % 6 = v := by omega
  have e3 : (gd_mw n ct w (u * 6 + v)).toInt = gd_t w u v := by
    show (if (u * 6 + v) / 6 < n ∧ (u * 6 + v) % 6 < n ∧ ct ((u * 6 + v) / 6) = true then w (u * 6 + v) else 0).toInt = (w (u * 6 + v)).toInt
    rw [e1, e2, if_pos (show u < n ∧ v < n ∧ ct u = true from ⟨hu, hv, huc⟩)]
  unfold gd_phi
  rw [gd_mw_u n ct w u v x (by omega) hu hv huc, gn_sum_upd (gd_mw n ct w) (u * 6 + v) x 36 (by omega), e3]
  omega

/-- since (b0, w0): nothing has changed, or something has, and less is to come -/
def gd_chg (b0 w0 : Nat → Int32) (f : Int32) (b w : Nat → Int32) : Prop :=
  (f = 0 ∧ b = b0 ∧ w = w0) ∨ (f = 1 ∧ gd_phi n ct b w < gd_phi n ct b0 w0)

theorem gd_chg_t (hn : n ≤ 6) (b0 w0 : Nat → Int32) (f : Int32) (b w : Nat → Int32) (u v : Nat) (x : Int32) (hu : u < n) (hv : v < n)
    (hC : gd_chg n ct b0 w0 f b w) (hlt : x.toInt < gd_t b u v) : gd_chg n ct b0 w0 1 (upd b (u * 6 + v) x) w := by
  have key := gd_phi_t n ct b w u v x hn hu hv hlt
  refine Or.inr ⟨rfl, ?_⟩
  rcases hC with ⟨_, e1, e2⟩ | ⟨_, e⟩
  · rw [← e1, ← e2]; exact key
  · omega

theorem gd_chg_l (hn : n ≤ 6) (b0 w0 : Nat → Int32) (f : Int32) (b w : Nat → Int32) (u v : Nat) (x : Int32) (hu : u < n) (hv : v < n)
    (huc : ct u = true) (hC : gd_chg n ct b0 w0 f b w) (hlt : gd_t w u v < x.toInt) :
    gd_chg n ct b0 w0 1 b (upd w (u * 6 + v) x) := by
  have key := gd_phi_l n ct b w u v x hn hu hv huc hlt
  refine Or.inr ⟨rfl, ?_⟩
  rcases hC with ⟨_, e1, e2⟩ | ⟨_, e⟩
  · rw [← e1, ← e2]; exact key
  · omega

theorem gd_phi_ub (b w : Nat → Int32) (K : Int) (hG : gd_good n h L ct ac lo hi K b w) : gd_phi n ct b w ≤ 504 := by
  obtain ⟨a1, _, a3, _⟩ := hG
  have x1 := gn_sum_le (gd_mk n b) 7 36 (fun i hi => by
    unfold gd_mk
    by_cases hx : i / 6 < n ∧ i % 6 < n
    · rw [if_pos hx]
      have y := (a1 _ _ hx.1 hx.2).2
      unfold gd_t at y
      rw [show i / 6 * 6 + i % 6 = i by omega] at y
      exact y
    · rw [if_neg hx]; decide)
  have x2 := gn_sum_ge (gd_mw n ct w) (-7) 36 (fun i hi => by
    unfold gd_mw
    by_cases hx : i / 6 < n ∧ i % 6 < n ∧ ct (i / 6) = true
    · rw [if_pos hx]
      have y := (a3 _ _ hx.1 hx.2.2 hx.2.1).1
      unfold gd_t at y
      rw [show i / 6 * 6 + i % 6 = i by omega] at y
      exact y
    · rw [if_neg hx]; decide)
  unfold gd_phi
  omega

/-- a safe play keeps bounds and waits from going on for ever -/
theorem gd_w7 (hN : gm_net n h L ct ac lo hi) (B W : Nat → Nat → Int) (hS : gs_snd n h L ct ac lo hi B W) (T : Nat → Int)
    (hT : gm_sp n h L ct ac lo hi T) (c u : Nat) (hc : c < n) (hcc : ct c = true) (hu : u < n) : W c u ≤ 7 := by
  have hn6 : n ≤ 6 := hN.2.1
  have h7 : h ≤ 7 := hN.2.2.1
  obtain ⟨b1, b2, b3, b4, b5⟩ := hN.2.2.2.2.2.2 c hc hcc
  have hc0 := gc_0 n h L ct ac lo hi hN c hcc
  have tc := hT.2.1 c hc
  have ta := hT.2.1 _ b1
  have s1 := (gm_stp_b ct c (T c) hc0 (by omega)).1
  have s2 := (gm_stp_b ct c (T (ac c) + hi c) hc0 (by omega)).1
  obtain ⟨T', a1, _, _, a4, _⟩ := gs_one n h L ct ac lo hi hN T hT c hc hcc (hi c) ⟨b4, by omega⟩ (12 * (h + 1)) 0 (by omega)
    (by omega) (by omega)
  have y := (hS T' a1).2 c hc hcc a4 u hu
  have z1 := a1.2.1 u hu
  have z2 := a1.2.1 _ b1
  omega

theorem gd_b7 (hN : gm_net n h L ct ac lo hi) (B W : Nat → Nat → Int) (hS : gs_snd n h L ct ac lo hi B W) (T : Nat → Int)
    (hT : gm_sp n h L ct ac lo hi T) (u v : Nat) (hu : u < n) (hv : v < n) : -7 ≤ B u v := by
  have h7 : h ≤ 7 := hN.2.2.1
  have y := (hS T hT).1 u v hu hv
  have z1 := hT.2.1 u hu
  have z2 := hT.2.1 v hv
  omega

theorem gd_phi_lb (hN : gm_net n h L ct ac lo hi) (b w : Nat → Int32) (K : Int) (hG : gd_good n h L ct ac lo hi K b w) (T : Nat → Int)
    (hT : gm_sp n h L ct ac lo hi T) : -504 ≤ gd_phi n ct b w := by
  obtain ⟨a1, _, a3, _, _, a6⟩ := hG
  have x1 := gn_sum_ge (gd_mk n b) (-7) 36 (fun i hi => by
    unfold gd_mk
    by_cases hx : i / 6 < n ∧ i % 6 < n
    · rw [if_pos hx]
      have y := gd_b7 n h L ct ac lo _ hN _ _ a6 T hT _ _ hx.1 hx.2
      unfold gd_t at y
      rw [show i / 6 * 6 + i % 6 = i by omega] at y
      exact y
    · rw [if_neg hx]; decide)
  have x2 := gn_sum_le (gd_mw n ct w) 7 36 (fun i hi => by
    unfold gd_mw
    by_cases hx : i / 6 < n ∧ i % 6 < n ∧ ct (i / 6) = true
    · rw [if_pos hx]
      have y := gd_w7 n h L ct ac lo _ hN _ _ a6 T hT _ _ hx.1 hx.2.2 hx.2.1
      unfold gd_t at y
      rw [show i / 6 * 6 + i % 6 = i by omega] at y
      exact y
    · rw [if_neg hx]; decide)
  unfold gd_phi
  omega
end gd
end
section
-- one pass of the deduction, its beginning and its end
section gv
variable (n h : Nat) (L : Nat → Nat → Int) (ct : Nat → Bool) (ac : Nat → Nat) (lo hi : Nat → Int)

/-- within one event j to go by: row and column j stand still, what has changed goes by j -/
def gv_via (j : Nat) (bJ b : Nat → Int32) : Prop :=
  (∀ x y, x < n → y < n → gd_t b x y = gd_t bJ x y ∨ gd_t b x y = gd_t bJ x j + gd_t bJ j y) ∧
  (∀ x, x < n → gd_t b x j = gd_t bJ x j ∧ gd_t b j x = gd_t bJ j x) ∧
  (∀ x y, x < n → y < n → gd_t b x y ≤ gd_t bJ x y)

theorem gv_via_0 (j : Nat) (bJ : Nat → Int32) : gv_via n j bJ bJ :=
  ⟨fun _ _ _ _ => Or.inl rfl, fun _ _ => ⟨rfl, rfl⟩, fun _ _ _ _ => Int.le_refl _⟩

theorem gv_via_t (hn : n ≤ 6) (j : Nat) (bJ b : Nat → Int32) (u v : Nat) (most : Int32) (hj : j < n) (hu : u < n) (hv : v < n)
    (hd : gd_t bJ j j = 0) (hV : gv_via n j bJ b) (hm : most.toInt = gd_t bJ u j + gd_t bJ j v) (hlt : most.toInt < gd_t b u v) :
    gv_via n j bJ (upd b (u * 6 + v) most) := by
  obtain ⟨a1, a2, a3⟩ := hV
  have hvj : v ≠ j := by
    intro e
    rw [e] at hm hlt
    have := (a2 u hu).1
    omega
  have huj : u ≠ j := by
    intro e
    rw [e] at hm hlt
    have := (a2 v hv).2
    omega
  refine ⟨fun x y hx hy => ?_, fun x hx => ⟨?_, ?_⟩, fun x y hx hy => ?_⟩
  · rcases gd_cell b u v x y most (by omega) (by omega) with ⟨e1, e2, e3⟩ | ⟨_, e3⟩
    · rw [e3, e1, e2]; exact Or.inr hm
    · rw [e3]; exact a1 x y hx hy
  · rw [gd_t_n b u v x j most (by omega) (by omega) (Or.inr (fun z => hvj z.symm))]
    exact (a2 x hx).1
  · rw [gd_t_n b u v j x most (by omega) (by omega) (Or.inl (fun z => huj z.symm))]
    exact (a2 x hx).2
  · have z := a3 x y hx hy
    rcases gd_cell b u v x y most (by omega) (by omega) with ⟨e1, e2, e3⟩ | ⟨_, e3⟩
    · rw [e1, e2] at z ⊢
      rw [e1, e2] at e3
      rw [e3]; omega
    · rw [e3]; exact z

theorem gv_via_end (hN : gm_net n h L ct ac lo hi) (K : Int) (j : Nat) (bJ b w : Nat → Int32) (hj : j < n)
    (hG : gd_good n h L ct ac lo hi K bJ w) (hV : gv_via n j bJ b)
    (hd : ∀ x, x < n → gd_t b x x ≤ gd_t bJ x j + gd_t bJ j x) : gd_inv n h L ct ac lo hi K b w := by
  obtain ⟨g1, g2, g3, g4, g5, g6⟩ := hG
  obtain ⟨a1, a2, a3⟩ := hV
  by_cases hneg : ∃ x, x < n ∧ gd_t bJ x j + gd_t bJ j x < 0
  · obtain ⟨x, hx, hx0⟩ := hneg
    refine Or.inl ⟨⟨x, hx, ?_⟩, fun T hT => ?_⟩
    · have := hd x hx; omega
    · have y1 := (g6 T hT).1 x j hx hj
      have y2 := (g6 T hT).1 j x hj hx
      omega
  · have hpos : ∀ x, x < n → 0 ≤ gd_t bJ x j + gd_t bJ j x := by
      intro x hx
      by_cases hq : 0 ≤ gd_t bJ x j + gd_t bJ j x
      · exact hq
      · exact absurd ⟨x, hx, by omega⟩ hneg
    refine Or.inr ⟨fun x y hx hy => ?_, fun x hx => ?_, g3, fun x y hx hy hxy => ?_, fun c hc hcc => ?_, fun T hT => ?_⟩
    · have z1 := g1 x y hx hy
      have z2 := a3 x y hx hy
      have p1 := hpos x hx
      have p2 := hpos y hy
      have q1 := g1 j x hj hx
      have q2 := g1 y j hy hj
      refine ⟨?_, by omega⟩
      rcases a1 x y hx hy with e | e <;> omega
    · have z1 := g2 x hx
      have z2 := a3 x x hx hx
      have p1 := hpos x hx
      rcases a1 x x hx hx with e | e <;> omega
    · have z1 := g4 x y hx hy hxy
      have z2 := a3 x y hx hy
      omega
    · have b1 := (hN.2.2.2.2.2.2 c hc hcc).1
      have z1 := g5 c hc hcc
      have z2 := a3 (ac c) c b1 hc
      exact ⟨by omega, z1.2⟩
    · have z := g6 T hT
      refine ⟨fun x y hx hy => ?_, z.2⟩
      rcases a1 x y hx hy with e | e
      · rw [e]; exact z.1 x y hx hy
      · rw [e]
        have y1 := z.1 x j hx hj
        have y2 := z.1 j y hj hy
        omega

/-- a pass in which every look failed -/
theorem gv_fix (K : Int) (b w : Nat → Int32) (hG : gd_good n h L ct ac lo hi K b w)
    (d1 : ∀ j, j < n → ∀ u, u < n → ∀ v, v < n → gd_t b u v ≤ gd_t b u j + gd_t b j v)
    (dc : ∀ c, c < n → ct c = true →
      (∀ u, u < n → ∀ v, v < n → gd_t w c v - gd_t b u v ≤ gd_t w c u) ∧
      (∀ k, k < n → ct k = true → k ≠ c → 0 < gd_t w c k → gd_t w c k - lo k ≤ gd_t w c (ac k)) ∧
      (∀ u, u < n → gd_t b u (ac c) ≤ - gd_t w c u ∨ gd_t b u (ac c) ≤ - lo c) ∧
      (∀ v, v < n → gd_t b c v < 0 → gd_t b (ac c) v ≤ lo c + gd_t b c v)) :
    gc_fix n L ct ac lo hi (gd_t b) (gd_t w) := by
  obtain ⟨g1, g2, g3, g4, g5, g6⟩ := hG
  exact ⟨g4, g2, g5, fun u v x hu hv hx => d1 x hx u hu v hv,
    fun c hc hcc u v hu hv => (dc c hc hcc).1 u hu v hv,
    fun c hc hcc k hk hkc hne hpos => (dc c hc hcc).2.1 k hk hkc hne hpos,
    fun c hc hcc u hu => (dc c hc hcc).2.2.1 u hu,
    fun c hc hcc v hv hneg => (dc c hc hcc).2.2.2 v hv hneg⟩

/-- the times at the beginning -/
theorem gv_wf0 (hN : gm_net n h L ct ac lo hi) (p : Nat → Int) (hp0 : p 0 = 0) (hp : ∀ e, e < n → e ≠ 0 → p e = 100) :
    gm_wf n h ct ac lo hi 0 p := by
  refine ⟨hp0, fun e he => ?_, fun c hc hcc hpc => ?_⟩
  · by_cases hq : e = 0
    · subst hq; rw [hp0, gm_stp_0]; exact Or.inr ⟨by omega, by omega, by omega⟩
    · exact Or.inl (hp e he hq)
  · exact absurd (hp c hc (gc_0 n h L ct ac lo hi hN c hcc)) hpc

/-- the beginning is safe if and only if there is a safe play -/
theorem gv_val0 (hN : gm_net n h L ct ac lo hi) (p : Nat → Int) (hp0 : p 0 = 0) (hp : ∀ e, e < n → e ≠ 0 → p e = 100) :
    gm_val n L ct ac lo hi (12 * (h + 1)) 0 p ↔ ∃ T, gm_sp n h L ct ac lo hi T := by
  have hn6 : n ≤ 6 := hN.2.1
  have hac : ∀ c, c < n → ct c = true → ac c < n := fun c hcn hcc => (hN.2.2.2.2.2.2 c hcn hcc).1
  have hw := gv_wf0 n h L ct ac lo hi hN p hp0 hp
  constructor
  · intro hv
    obtain ⟨T, t1, _⟩ := gp_thru n h L ct ac lo hi hN hi (fun c x1 x2 => by
        have y := hN.2.2.2.2.2.2 c x1 x2
        exact ⟨y.2.2.2.1, by omega⟩) (12 * (h + 1)) 0 p (by omega) hw hv
      (fun c x1 x2 x3 x4 => by
        have y := hN.2.2.2.2.2.2 c x1 x2
        have hc0 := gc_0 n h L ct ac lo hi hN c x2
        have s1 := (gm_stp_b ct c (p (ac c) + hi c) hc0 (by omega)).1
        rcases hw.2.1 _ y.1 with q | ⟨q, _, _⟩
        · exact absurd q x4
        · omega)
      (fun m' s' hlt _ => absurd hlt (by omega))
    exact ⟨T, t1⟩
  · intro ⟨T, hT⟩
    refine gm_val_c n L ct ac lo hi hac _ 0 (gm_pos ct T 0) p (fun e he => ?_) (hT.2.2.2 (12 * (h + 1)) 0 (by omega))
    by_cases hq : e = 0
    · subst hq
      unfold gm_pos
      rw [gm_stp_0, if_pos (by omega), hp0]; exact hT.1
    · have s1 := (gm_stp_b ct e (T e) hq (by omega)).1
      have tt := hT.2.1 e he
      unfold gm_pos
      rw [if_neg (by omega), hp e he hq]

theorem gv_play (hN : gm_net n h L ct ac lo hi) (B W : Nat → Nat → Int) (hF : gc_fix n L ct ac lo hi B W) :
    ∃ T, gm_sp n h L ct ac lo hi T := by
  have hp0 : (fun e : Nat => if e = 0 then (0 : Int) else 100) 0 = 0 := rfl
  have hp : ∀ e, e < n → e ≠ 0 → (fun e : Nat => if e = 0 then (0 : Int) else 100) e = 100 := by
    intro e _ he
    show (if e = 0 then (0 : Int) else 100) = 100
    rw [if_neg he]
  obtain ⟨hw, hI⟩ := gc_begin n h L ct ac lo hi B W hN hF (fun e : Nat => if e = 0 then (0 : Int) else 100) hp0 hp
  exact (gv_val0 n h L ct ac lo hi hN (fun e : Nat => if e = 0 then (0 : Int) else 100) hp0 hp).1 (gc_win n h L ct ac lo hi B W hN hF (12 * (h + 1)) 0 _ (by omega) hw hI)

theorem gv_lim (hN : gm_net n h L ct ac lo hi) (T : Nat → Int) (hT : gm_sp n h L ct ac lo hi T) (u v : Nat) (hu : u < n) (hv : v < n)
    (huv : u ≠ v) : T v - T u ≤ L u v := by
  have hn6 : n ≤ 6 := hN.2.1
  have h7 : h ≤ 7 := hN.2.2.1
  have hnb := gm_val_nb n L ct ac lo hi 0 (12 * (h + 1)) _ (hT.2.2.2 0 (12 * (h + 1)) (by omega))
  have hpos : ∀ e, e < n → gm_pos ct T (12 * (h + 1)) e = T e := by
    intro e he
    have tt := hT.2.1 e he
    have s1 := gm_stp_u ct e (T e) (by omega) tt.1
    unfold gm_pos
    rw [if_pos (by omega)]
  by_cases hq : T v - T u ≤ L u v
  · exact hq
  · have tu := hT.2.1 u hu
    have tv := hT.2.1 v hv
    refine absurd ⟨u, v, hu, hv, huv, ?_, ?_, ?_⟩ hnb
    · rw [hpos u hu]; omega
    · rw [hpos v hv]; omega
    · rw [hpos u hu, hpos v hv]; omega

/-- what is loaded -/
theorem gv_init (hN : gm_net n h L ct ac lo hi) (hL : ∀ u v, u < n → v < n → -7 ≤ L u v) (b w : Nat → Int32)
    (hb : ∀ u v, u < n → v < n → gd_t b u v ≤ (if u = v then 0 else L u v) ∧
      (gd_t b u v = (if u = v then 0 else L u v) ∨ (ct v = true ∧ u = ac v ∧ gd_t b u v = hi v)))
    (hbc : ∀ c, c < n → ct c = true → gd_t b (ac c) c ≤ hi c)
    (hw : ∀ c u, c < n → ct c = true → u < n → (u ≠ c ∧ gd_t w c u = -(h : Int)) ∨ (u = c ∧ gd_t w c u = hi c)) :
    gd_good n h L ct ac lo hi 7 b w := by
  have h7 : h ≤ 7 := hN.2.2.1
  have hLu := hN.2.2.2.2.2.1
  have hcc0 := hN.2.2.2.2.2.2
  refine ⟨fun u v hu hv => ?_, fun u hu => ?_, fun c u hc hcc hu => ?_, fun u v hu hv huv => ?_, fun c hc hcc => ?_, fun T hT => ?_⟩
  · have z := hb u v hu hv
    have l1 := hL u v hu hv
    have l2 := hLu u v hu hv
    by_cases e : u = v
    · rw [if_pos e] at z
      refine ⟨?_, by omega⟩
      rcases z.2 with q | ⟨q1, q2, q3⟩
      · omega
      · have := hcc0 v hv q1; omega
    · rw [if_neg e] at z
      refine ⟨?_, by omega⟩
      rcases z.2 with q | ⟨q1, q2, q3⟩
      · omega
      · have := hcc0 v hv q1; omega
  · have z := hb u u hu hu
    rw [if_pos rfl] at z
    rcases z.2 with q | ⟨q1, q2, q3⟩
    · exact q
    · exact absurd q2.symm (hcc0 u hu q1).2.1
  · have y := hcc0 c hc hcc
    rcases hw c u hc hcc hu with ⟨_, e⟩ | ⟨_, e⟩
    · exact ⟨by omega, by omega⟩
    · exact ⟨by omega, by omega⟩
  · have z := (hb u v hu hv).1
    rw [if_neg huv] at z
    exact z
  · refine ⟨hbc c hc hcc, ?_⟩
    rcases hw c c hc hcc hc with ⟨e, _⟩ | ⟨_, e⟩
    · exact absurd rfl e
    · omega
  · refine ⟨fun u v hu hv => ?_, fun c hc hcc hTc u hu => ?_⟩
    · rcases (hb u v hu hv).2 with q | ⟨q1, q2, q3⟩
      · by_cases e : u = v
        · rw [if_pos e] at q
          rw [q, e]; omega
        · rw [if_neg e] at q
          rw [q]; exact gv_lim n h L ct ac lo hi hN T hT u v hu hv e
      · rw [q3, q2]
        have := hT.2.2.1 v hv q1
        omega
    · have ta := hT.2.1 _ (hcc0 c hc hcc).1
      have tu := hT.2.1 u hu
      rcases hw c u hc hcc hu with ⟨_, e⟩ | ⟨e1, e⟩
      · omega
      · rw [e, e1]; omega

/-- what a verdict leaves behind -/
def gv_jud (acc : Int32) (b w : Nat → Int32) : Prop :=
  (acc = 1 ∧ gc_fix n L ct ac lo hi (gd_t b) (gd_t w) ∧ gs_snd n h L ct ac lo hi (gd_t b) (gd_t w)) ∨
  (acc = 0 ∧ ∀ T, ¬ gm_sp n h L ct ac lo hi T)
end gv
end
section
-- a walk along activations: six steps tell as much as n
section gw
variable (n : Nat) (ct : Nat → Bool) (ac : Nat → Nat)

def gw_next (x : Nat) : Nat := if ct x = true then ac x else x

def gw_at (a : Nat) : Nat → Nat
  | 0 => a
  | k + 1 => gw_next ct ac (gw_at a k)

theorem gw_pig : ∀ (k : Nat) (f : Nat → Nat), (∀ i, i < k + 1 → f i < k) → ∃ i j, i < j ∧ j < k + 1 ∧ f i = f j := by
  intro k
  induction k with
  | zero =>
    intro f hf
    have := hf 0 (by omega)
    omega
  | succ k ih =>
    intro f hf
    by_cases hx : ∃ i, i < k + 1 ∧ f i = f (k + 1)
    · obtain ⟨i, hi, e⟩ := hx
      exact ⟨i, k + 1, by omega, by omega, e⟩
    · have hno : ∀ i, i < k + 1 → f i ≠ f (k + 1) := fun i hi e => hx ⟨i, hi, e⟩
      obtain ⟨i, j, hij, hj, e⟩ := ih (fun i => if f i = k then f (k + 1) else f i) (fun i hi => by
        have h1 := hf i (by omega)
        have h2 := hf (k + 1) (by omega)
        have h3 := hno i hi
        show (if f i = k then f (k + 1) else f i) < k
        by_cases hq : f i = k
        · rw [if_pos hq]; omega
        · rw [if_neg hq]; omega)
      have e' : (if f i = k then f (k + 1) else f i) = (if f j = k then f (k + 1) else f j) := e
      have h3 := hno i (by omega)
      have h4 := hno j (by omega)
      refine ⟨i, j, hij, by omega, ?_⟩
      by_cases q1 : f i = k
      · by_cases q2 : f j = k
        · omega
        · rw [if_pos q1, if_neg q2] at e'; exact absurd e'.symm h4
      · by_cases q2 : f j = k
        · rw [if_neg q1, if_pos q2] at e'; exact absurd e' h3
        · rw [if_neg q1, if_neg q2] at e'; exact e'

theorem gw_add (a : Nat) (k : Nat) : ∀ m, gw_at ct ac a (k + m) = gw_at ct ac (gw_at ct ac a k) m := by
  intro m
  induction m with
  | zero => rfl
  | succ m ih =>
    show gw_next ct ac (gw_at ct ac a (k + m)) = gw_next ct ac (gw_at ct ac (gw_at ct ac a k) m)
    rw [ih]

theorem gw_lt (hac : ∀ c, c < n → ct c = true → ac c < n) (a : Nat) (ha : a < n) : ∀ k, gw_at ct ac a k < n := by
  intro k
  induction k with
  | zero => exact ha
  | succ k ih =>
    show gw_next ct ac (gw_at ct ac a k) < n
    unfold gw_next
    by_cases hq : ct (gw_at ct ac a k) = true
    · rw [if_pos hq]; exact hac _ ih hq
    · rw [if_neg hq]; exact ih

theorem gw_root (a k : Nat) (hr : ct (gw_at ct ac a k) = false) : ∀ m, gw_at ct ac a (k + m) = gw_at ct ac a k := by
  intro m
  induction m with
  | zero => rfl
  | succ m ih =>
    show gw_next ct ac (gw_at ct ac a (k + m)) = gw_at ct ac a k
    rw [ih]
    unfold gw_next
    rw [if_neg (by rw [hr]; simp)]

/-- n contingent events in a row: the walk goes round -/
theorem gw_round (hac : ∀ c, c < n → ct c = true → ac c < n) (hn : 0 < n) (h0 : ct 0 = false) (a : Nat) (ha : a < n)
    (hall : ∀ k, k < n → ct (gw_at ct ac a k) = true) : ∀ m, ∃ k, k < n ∧ gw_at ct ac a m = gw_at ct ac a k := by
  have hpos : ∀ k, k < n → gw_at ct ac a k ≠ 0 := by
    intro k hk z
    have y := hall k hk
    rw [z, h0] at y
    simp at y
  obtain ⟨i, j, hij, hj, e⟩ := gw_pig (n - 1) (fun k => gw_at ct ac a k - 1) (fun i hi => by
    have y1 := gw_lt n ct ac hac a ha i
    have y2 := hpos i (by omega)
    show gw_at ct ac a i - 1 < n - 1
    omega)
  have e' : gw_at ct ac a i = gw_at ct ac a j := by
    have e1 : gw_at ct ac a i - 1 = gw_at ct ac a j - 1 := e
    have y1 := hpos i (by omega)
    have y2 := hpos j (by omega)
    omega
  intro m
  induction m using Nat.strongRecOn with
  | ind m ih =>
    by_cases hm : m < n
    · exact ⟨m, hm, rfl⟩
    · obtain ⟨t, ht⟩ : ∃ t, m = j + t := ⟨m - j, by omega⟩
      obtain ⟨k, hk, ek⟩ := ih (i + t) (by omega)
      refine ⟨k, hk, ?_⟩
      rw [ht, gw_add, ← e', ← gw_add]
      exact ek
end gw
end
section
-- the relation of the two states
section gq
theorem gq_inj {a b : Int32} (h : a.toInt = b.toInt) : a = b := Int32.toInt_inj.1 h
theorem gq_m1 : (-1 : Int32).toInt = -1 := by decide
theorem gq_100 : (100 : Int32).toInt = 100 := by decide
theorem gq_nI (a : Nat) (h : a < 1000000) : (nI a).toInt = (a : Int) := nI_toInt (by omega)
theorem gq_nIm (a : Nat) (h : a < 1000000) : nI a ≠ -1 := by
  intro e
  have x := gq_nI a h
  rw [e, gq_m1] at x
  omega
theorem gq_nI100 (a : Nat) (h : a < 100) : nI a ≠ 100 := by
  intro e
  have x := gq_nI a (by omega)
  rw [e, gq_100] at x
  omega

def gq_ct (act : Nat → Int32) (c : Nat) : Bool := decide (act c ≠ -1)
def gq_ac (act : Nat → Int32) (c : Nat) : Nat := (act c).toNatClampNeg
def gq_i (f : Nat → Int32) (c : Nat) : Int := (f c).toInt
def gq_p (tim : Nat → Int32) (e : Nat) : Int := if tim e = -1 then 100 else (tim e).toInt

theorem gq_ct_t (act : Nat → Int32) (c : Nat) (h : gq_ct act c = true) : act c ≠ -1 := by
  unfold gq_ct at h
  exact of_decide_eq_true h
theorem gq_ct_f (act : Nat → Int32) (c : Nat) (h : gq_ct act c = false) : act c = -1 := by
  unfold gq_ct at h
  have y := of_decide_eq_false h
  exact Classical.byContradiction (fun z => y z)
theorem gq_ct_i (act : Nat → Int32) (c : Nat) (h : act c ≠ -1) : gq_ct act c = true := by
  unfold gq_ct
  exact decide_eq_true h
theorem gq_ct_n (act : Nat → Int32) (c : Nat) (h : act c = -1) : gq_ct act c = false := by
  unfold gq_ct
  exact decide_eq_false (fun z => z h)

theorem gq_p_n (tim : Nat → Int32) (e : Nat) (h : tim e = -1) : gq_p tim e = 100 := by
  unfold gq_p
  rw [if_pos h]
theorem gq_p_t (tim : Nat → Int32) (e t : Nat) (ht : t < 1000000) (h : tim e = nI t) : gq_p tim e = (t : Int) := by
  unfold gq_p
  rw [h, if_neg (gq_nIm t ht), gq_nI t ht]

/-- the two states hold the same network, policies and times -/
def gq_sh (n h : Nat) (lim act sh lg pol tim lim' fr lo' hi' pol' time : Nat → Int32) : Prop :=
  3 ≤ n ∧ n ≤ 6 ∧ 3 ≤ h ∧ h ≤ 7 ∧
  (∀ u v, u < n → v < n → lim' (u * 6 + v) = lim (u * 6 + v)) ∧
  (∀ u v, u < n → v < n → -(h : Int) ≤ gd_t lim u v ∧ gd_t lim u v ≤ (h : Int)) ∧
  (∀ u, u < n → u ≠ 0 → gd_t lim u 0 ≤ 0) ∧
  act 0 = -1 ∧
  (∀ c, c < n → fr c = act c ∧ lo' c = sh c ∧ hi' c = lg c ∧ pol' c = pol c) ∧
  (∀ c, c < n → act c = -1 ∨ ∃ a, a < n ∧ a ≠ c ∧ act c = nI a ∧ 1 ≤ (sh c).toInt ∧ (sh c).toInt ≤ (lg c).toInt ∧ (lg c).toInt ≤ (h : Int)) ∧
  (∀ e, e < n → (tim e = -1 ∧ time e = 100) ∨ ∃ t, t ≤ h ∧ tim e = nI t ∧ time e = nI t)

/-- what the states mean for the game -/
def gq_md (n h t : Nat) (ij wa ph : Int32) (lim act sh lg tim b w : Nat → Int32) : Prop :=
  (wa = 0 ∨ wa = 1) ∧ t ≤ h ∧
  ((ph = 0 ∧ t = 0 ∧ (∀ e, e < n → tim e = -1) ∧
      (ij = 0 ∨ (ij = 1 ∧ gv_jud n h (gd_t lim) (gq_ct act) (gq_ac act) (gq_i sh) (gq_i lg) wa b w))) ∨
   (ph = 1 ∧ ij = 1 ∧ wa = 1 ∧ gv_jud n h (gd_t lim) (gq_ct act) (gq_ac act) (gq_i sh) (gq_i lg) wa b w ∧
      ∃ T, gr_at n h (gd_t lim) (gq_ct act) (gq_ac act) (gq_i sh) (gq_i lg) t T (gq_p tim)) ∨
   (ph = 2 ∧ ij = 1 ∧ gv_jud n h (gd_t lim) (gq_ct act) (gq_ac act) (gq_i sh) (gq_i lg) wa b w))

theorem gq_net (n h : Nat) (lim act sh lg pol tim lim' fr lo' hi' pol' time : Nat → Int32)
    (hS : gq_sh n h lim act sh lg pol tim lim' fr lo' hi' pol' time) :
    gm_net n h (gd_t lim) (gq_ct act) (gq_ac act) (gq_i sh) (gq_i lg) := by
  obtain ⟨a1, a2, a3, a4, a5, a6, a7, a8, a9, a10, a11⟩ := hS
  refine ⟨by omega, a2, a4, gq_ct_n act 0 a8, a7, fun u v hu hv => (a6 u v hu hv).2, fun c hc hcc => ?_⟩
  rcases a10 c hc with q | ⟨a, q1, q2, q3, q4, q5, q6⟩
  · exact absurd q (gq_ct_t act c hcc)
  · have e : gq_ac act c = a := by
      unfold gq_ac
      rw [q3]
      exact nI_clamp (by omega)
    rw [e]
    exact ⟨q1, q2, q4, q5, q6⟩

/-- a contingent event's link -/
theorem gq_link (n h : Nat) (act sh lg : Nat → Int32) (hn : n ≤ 6)
    (a10 : ∀ c, c < n → act c = -1 ∨ ∃ a, a < n ∧ a ≠ c ∧ act c = nI a ∧ 1 ≤ (sh c).toInt ∧ (sh c).toInt ≤ (lg c).toInt ∧ (lg c).toInt ≤ (h : Int))
    (c : Nat) (hc : c < n) (hcc : gq_ct act c = true) : act c = nI (gq_ac act c) ∧ gq_ac act c < n := by
  rcases a10 c hc with q | ⟨a, q1, q2, q3, _⟩
  · exact absurd q (gq_ct_t act c hcc)
  · have e : gq_ac act c = a := by
      unfold gq_ac
      rw [q3]
      exact nI_clamp (by omega)
    rw [e]
    exact ⟨q3, q1⟩

/-- the index of a table's cell -/
theorem gq_ix (u v : Nat) : nI u * 6 + nI v = nI (u * 6 + v) := by
  have e : (6 : Int32) = nI 6 := by decide
  rw [e, pk_mul, nI_add]
end gq
end
section
-- one look of the deduction at a time
section gz
variable (n h : Nat) (L : Nat → Nat → Int) (ct : Nat → Bool) (ac : Nat → Nat) (lo hi : Nat → Int)

/-- loading: bounds -/
def gz_ld (c : Nat) (b : Nat → Int32) : Prop :=
  (∀ u v, u < n → v < n → gd_t b u v ≤ (if u = v then 0 else L u v) ∧
    (gd_t b u v = (if u = v then 0 else L u v) ∨ (ct v = true ∧ u = ac v ∧ gd_t b u v = hi v))) ∧
  (∀ x, x < c → x < n → ct x = true → gd_t b (ac x) x ≤ hi x)

theorem gz_ld_0 (b : Nat → Int32) (h0 : ct 0 = false) (hb : ∀ u v, u < n → v < n → gd_t b u v = (if u = v then 0 else L u v)) :
    gz_ld n L ct ac hi 1 b := by
  refine ⟨fun u v hu hv => ?_, fun x hx _ hxc => ?_⟩
  · have y := hb u v hu hv
    exact ⟨by rw [y]; exact Int.le_refl _, Or.inl y⟩
  · have e : x = 0 := by omega
    rw [e, h0] at hxc
    simp at hxc

theorem gz_ld_s (c : Nat) (b : Nat → Int32) (hcc : ct c = false) (hI : gz_ld n L ct ac hi c b) : gz_ld n L ct ac hi (c + 1) b := by
  refine ⟨hI.1, fun x hx hxn hxc => ?_⟩
  by_cases e : x = c
  · rw [e, hcc] at hxc
    simp at hxc
  · exact hI.2 x (by omega) hxn hxc

theorem gz_ld_k (c : Nat) (b : Nat → Int32) (hle : gd_t b (ac c) c ≤ hi c) (hI : gz_ld n L ct ac hi c b) : gz_ld n L ct ac hi (c + 1) b := by
  refine ⟨hI.1, fun x hx hxn hxc => ?_⟩
  by_cases e : x = c
  · rw [e]; exact hle
  · exact hI.2 x (by omega) hxn hxc

theorem gz_ld_t (hN : gm_net n h L ct ac lo hi) (c : Nat) (hc : c < n) (hcc : ct c = true) (b : Nat → Int32) (x : Int32) (hx : x.toInt = hi c)
    (hlt : x.toInt < gd_t b (ac c) c) (hI : gz_ld n L ct ac hi c b) : gz_ld n L ct ac hi (c + 1) (upd b (ac c * 6 + c) x) := by
  have hn : n ≤ 6 := hN.2.1
  refine ⟨fun u v hu hv => ?_, fun y hy hyn hyc => ?_⟩
  · have z := hI.1 u v hu hv
    rcases gd_cell b (ac c) c u v x (by omega) (by omega) with ⟨e1, e2, e3⟩ | ⟨_, e3⟩
    · rw [e3]
      rw [← e1, ← e2] at hlt
      refine ⟨by omega, Or.inr ⟨by rw [e2]; exact hcc, by rw [e1, e2], by rw [e2]; exact hx⟩⟩
    · rw [e3]; exact z
  · rcases gd_cell b (ac c) c (ac y) y x (by omega) (by omega) with ⟨e1, e2, e3⟩ | ⟨e0, e3⟩
    · rw [e3, e2]; omega
    · rw [e3]
      by_cases e : y = c
      · exfalso
        rw [e] at e0
        rcases e0 with q | q
        · exact q rfl
        · exact q rfl
      · exact hI.2 y (by omega) hyn hyc

/-- loading: waits -/
def gz_lw (c : Nat) (w : Nat → Int32) : Prop :=
  ∀ x u, x < c → x < n → ct x = true → u < n → (u ≠ x ∧ gd_t w x u = -(h : Int)) ∨ (u = x ∧ gd_t w x u = hi x)

theorem gz_lw_s (c : Nat) (w w' : Nat → Int32) (hsame : ∀ x u, x < c → u < n → gd_t w' x u = gd_t w x u)
    (hrow : ct c = true → ∀ u, u < n → (u ≠ c ∧ gd_t w' c u = -(h : Int)) ∨ (u = c ∧ gd_t w' c u = hi c))
    (hI : gz_lw n h ct hi c w) : gz_lw n h ct hi (c + 1) w' := by
  intro x u hx hxn hxc hu
  by_cases e : x = c
  · subst e; exact hrow hxc u hu
  · rw [hsame x u (by omega) hu]
    exact hI x u (by omega) hxn hxc hu

theorem gz_01 {f : Int32} {b0 w0 b w : Nat → Int32} (hC : gd_chg n ct b0 w0 f b w) (hf : f = 0) : b = b0 ∧ w = w0 := by
  rcases hC with ⟨_, e1, e2⟩ | ⟨e, _⟩
  · exact ⟨e1, e2⟩
  · rw [hf] at e
    exact absurd e (by decide)

theorem gz_ndb {b : Nat → Int32} (hB : gd_bad n h L ct ac lo hi b) (hd : ∀ x, x < n → gd_t b x x = 0) : False := by
  obtain ⟨⟨x, hx, hx0⟩, _⟩ := hB
  have := hd x hx
  omega

/-- going by j, at (u, v) -/
def gz_cb (K : Int) (b0 w0 : Nat → Int32) (Q : Prop) (j : Nat) (bJ : Nat → Int32) (u v : Nat) (f : Int32) (b w : Nat → Int32) : Prop :=
  gd_chg n ct b0 w0 f b w ∧
  (gd_bad n h L ct ac lo hi b ∨ (gd_good n h L ct ac lo hi K bJ w ∧ gv_via n j bJ b ∧
    (∀ x, x < n → (x < u ∨ (x = u ∧ x < v)) → gd_t b x x ≤ gd_t bJ x j + gd_t bJ j x))) ∧
  (f = 0 → (∀ x, x < n → gd_t b0 x x = 0) → Q ∧
    ∀ x y, x < n → y < n → (x < u ∨ (x = u ∧ y < v)) → gd_t b0 x y ≤ gd_t b0 x j + gd_t b0 j y)

theorem gz_cb_s (hN : gm_net n h L ct ac lo hi) (K : Int) (b0 w0 : Nat → Int32) (Q : Prop) (j : Nat) (bJ : Nat → Int32) (u v : Nat)
    (f : Int32) (b w : Nat → Int32) (hj : j < n) (hu : u < n) (hv : v < n) (hI : gz_cb n h L ct ac lo hi K b0 w0 Q j bJ u v f b w) :
    (b (u * 6 + v) ≤ b (u * 6 + j) + b (j * 6 + v) → gz_cb n h L ct ac lo hi K b0 w0 Q j bJ u (v + 1) f b w) ∧
    (¬ b (u * 6 + v) ≤ b (u * 6 + j) + b (j * 6 + v) →
      gz_cb n h L ct ac lo hi K b0 w0 Q j bJ u (v + 1) 1 (upd b (u * 6 + v) (b (u * 6 + j) + b (j * 6 + v))) w) := by
  have hn : n ≤ 6 := hN.2.1
  obtain ⟨i1, i2, i3⟩ := hI
  generalize hm : b (u * 6 + j) + b (j * 6 + v) = most
  have hsum : gd_good n h L ct ac lo hi K bJ w → gv_via n j bJ b → most.toInt = gd_t bJ u j + gd_t bJ j v := by
    intro g1 g2
    have r1 := g1.1 u j hu hj
    have r2 := g1.1 j v hj hv
    have s1 := (g2.2.1 u hu).1
    have s2 := (g2.2.1 v hv).2
    rw [← hm, ← s1, ← s2]
    rw [← s1] at r1
    rw [← s2] at r2
    unfold gd_t at r1 r2 ⊢
    exact gn_add _ _ ⟨by omega, by omega⟩ ⟨by omega, by omega⟩
  constructor
  · intro hle
    have hle' : gd_t b u v ≤ most.toInt := (gn_le _ _).1 hle
    refine ⟨i1, ?_, fun hf hd => ?_⟩
    · rcases i2 with g | ⟨g1, g2, g3⟩
      · exact Or.inl g
      · refine Or.inr ⟨g1, g2, fun x hx hxx => ?_⟩
        have hs := hsum g1 g2
        by_cases e : x = u ∧ x = v
        · obtain ⟨e1, e2⟩ := e
          rw [← e1, ← e2] at hle' hs
          omega
        · exact g3 x hx (by omega)
    · obtain ⟨e1, e2⟩ := gz_01 n ct i1 hf
      obtain ⟨q1, q2⟩ := i3 hf hd
      refine ⟨q1, fun x y hx hy hxy => ?_⟩
      by_cases e : x = u ∧ y = v
      · obtain ⟨ex, ey⟩ := e
        rcases i2 with g | ⟨g1, g2, g3⟩
        · rw [e1] at g
          exact (gz_ndb n h L ct ac lo hi g hd).elim
        · have hs := hsum g1 g2
          have s1 := (g2.2.1 u hu).1
          have s2 := (g2.2.1 v hv).2
          rw [ex, ey, ← e1]
          omega
      · exact q2 x y hx hy (by omega)
  · intro hnle
    have hlt : most.toInt < gd_t b u v := (gn_lt _ _).1 (Int32.not_le.1 hnle)
    refine ⟨gd_chg_t n ct hn b0 w0 f b w u v most hu hv i1 hlt, ?_, fun hf => absurd hf (by decide)⟩
    rcases i2 with g | ⟨g1, g2, g3⟩
    · exact Or.inl (gd_bad_t n h L ct ac lo hi hn b u v most hv g hlt)
    · have hs := hsum g1 g2
      refine Or.inr ⟨g1, gv_via_t n hn j bJ b u v most hj hu hv (g1.2.1 j hj) g2 hs hlt, fun x hx hxx => ?_⟩
      rcases gd_cell b u v x x most (by omega) (by omega) with ⟨e1, e2, e3⟩ | ⟨e0, e3⟩
      · rw [e3, hs, ← e1, ← e2]; exact Int.le_refl _
      · rw [e3]; exact g3 x hx (by omega)

/-- waits along bounds, for c, at (u, v) -/
def gz_cw (K : Int) (b0 w0 : Nat → Int32) (Q : Prop) (c u v : Nat) (f : Int32) (b w : Nat → Int32) : Prop :=
  gd_chg n ct b0 w0 f b w ∧
  (gd_bad n h L ct ac lo hi b ∨ (gd_good n h L ct ac lo hi (K + 14 * (u : Int) + 14) b w ∧
    (∀ x, x < n → x ≠ u → gd_t w c x ≤ K + 14 * (u : Int)))) ∧
  (f = 0 → (∀ x, x < n → gd_t b0 x x = 0) → Q ∧
    ∀ x y, x < n → y < n → (x < u ∨ (x = u ∧ y < v)) → gd_t w0 c y - gd_t b0 x y ≤ gd_t w0 c x)

theorem gz_cw_s (hN : gm_net n h L ct ac lo hi) (K : Int) (hK0 : 0 ≤ K) (hK : K ≤ 10000000) (b0 w0 : Nat → Int32) (Q : Prop) (c u v : Nat)
    (f : Int32) (b w : Nat → Int32) (hc : c < n) (hcc : ct c = true) (hu : u < n) (hv : v < n)
    (hI : gz_cw n h L ct ac lo hi K b0 w0 Q c u v f b w) :
    (w (c * 6 + v) - b (u * 6 + v) ≤ w (c * 6 + u) → gz_cw n h L ct ac lo hi K b0 w0 Q c u (v + 1) f b w) ∧
    (¬ w (c * 6 + v) - b (u * 6 + v) ≤ w (c * 6 + u) →
      gz_cw n h L ct ac lo hi K b0 w0 Q c u (v + 1) 1 b (upd w (c * 6 + u) (w (c * 6 + v) - b (u * 6 + v)))) := by
  have hn : n ≤ 6 := hN.2.1
  obtain ⟨i1, i2, i3⟩ := hI
  generalize hm : w (c * 6 + v) - b (u * 6 + v) = least
  have hsum : gd_good n h L ct ac lo hi (K + 14 * (u : Int) + 14) b w → least.toInt = gd_t w c v - gd_t b u v := by
    intro g1
    have r1 := g1.1 u v hu hv
    have r2 := g1.2.2.1 c v hc hcc hv
    rw [← hm]
    unfold gd_t at r1 r2 ⊢
    exact gn_sub _ _ ⟨by omega, by omega⟩ ⟨by omega, by omega⟩
  constructor
  · intro hle
    have hle' : least.toInt ≤ gd_t w c u := (gn_le _ _).1 hle
    refine ⟨i1, i2, fun hf hd => ?_⟩
    obtain ⟨e1, e2⟩ := gz_01 n ct i1 hf
    obtain ⟨q1, q2⟩ := i3 hf hd
    refine ⟨q1, fun x y hx hy hxy => ?_⟩
    by_cases e : x = u ∧ y = v
    · obtain ⟨ex, ey⟩ := e
      rcases i2 with g | ⟨g1, g2⟩
      · rw [e1] at g
        exact (gz_ndb n h L ct ac lo hi g hd).elim
      · have hs := hsum g1
        rw [ex, ey, ← e1, ← e2]
        omega
    · exact q2 x y hx hy (by omega)
  · intro hnle
    have hlt : gd_t w c u < least.toInt := (gn_lt _ _).1 (Int32.not_le.1 hnle)
    refine ⟨gd_chg_l n ct hn b0 w0 f b w c u least hc hu hcc i1 hlt, ?_, fun hf => absurd hf (by decide)⟩
    rcases i2 with g | ⟨g1, g2⟩
    · exact Or.inl g
    · have hs := hsum g1
      have hvu : v ≠ u := by
        intro e
        rw [e] at hs
        have := g1.2.1 u hu
        omega
      have r1 := g1.1 u v hu hv
      have r2 := g2 v hv hvu
      refine Or.inr ⟨gd_long n h L ct ac lo hi hN _ _ b w c u least hc hu g1 hlt (Int.le_refl _) (by omega) hcc (fun T hT hTc => ?_), fun x hx hxu => ?_⟩
      · have y1 := (g1.2.2.2.2.2 T hT).1 u v hu hv
        have y2 := (g1.2.2.2.2.2 T hT).2 c hc hcc hTc v hv
        omega
      · rw [gd_t_n w c u c x least (by omega) (by omega) (Or.inr hxu)]
        exact g2 x hx hxu

/-- waits of contingent events, for c, at k -/
def gz_wa (K : Int) (b0 w0 : Nat → Int32) (Q : Prop) (c k : Nat) (f : Int32) (b w : Nat → Int32) : Prop :=
  gd_chg n ct b0 w0 f b w ∧ gd_inv n h L ct ac lo hi K b w ∧
  (f = 0 → (∀ x, x < n → gd_t b0 x x = 0) → Q ∧
    ∀ x, x < n → x < k → ct x = true → x ≠ c → 0 < gd_t w0 c x → gd_t w0 c x - lo x ≤ gd_t w0 c (ac x))

theorem gz_wa_n (K : Int) (b0 w0 : Nat → Int32) (Q : Prop) (c k : Nat) (f : Int32) (b w : Nat → Int32)
    (hno : k = c ∨ ct k = false ∨ gd_t w c k ≤ 0) (hI : gz_wa n h L ct ac lo hi K b0 w0 Q c k f b w) :
    gz_wa n h L ct ac lo hi K b0 w0 Q c (k + 1) f b w := by
  obtain ⟨i1, i2, i3⟩ := hI
  refine ⟨i1, i2, fun hf hd => ?_⟩
  obtain ⟨e1, e2⟩ := gz_01 n ct i1 hf
  obtain ⟨q1, q2⟩ := i3 hf hd
  refine ⟨q1, fun x hx hxk hxc hne hpos => ?_⟩
  by_cases e : x = k
  · subst e
    rcases hno with q | q | q
    · exact absurd q hne
    · rw [q] at hxc; simp at hxc
    · rw [e2] at q; omega
  · exact q2 x hx (by omega) hxc hne hpos

theorem gz_wa_s (hN : gm_net n h L ct ac lo hi) (K : Int) (hK : K ≤ 10000000) (b0 w0 : Nat → Int32) (Q : Prop) (c k : Nat)
    (f : Int32) (b w : Nat → Int32) (hc : c < n) (hcc : ct c = true) (hk : k < n) (hkc : ct k = true) (hne : k ≠ c) (sk : Int32) (hsk : sk.toInt = lo k)
    (hpos : 0 < gd_t w c k) (hI : gz_wa n h L ct ac lo hi K b0 w0 Q c k f b w) :
    (w (c * 6 + k) - sk ≤ w (c * 6 + ac k) → gz_wa n h L ct ac lo hi K b0 w0 Q c (k + 1) f b w) ∧
    (¬ w (c * 6 + k) - sk ≤ w (c * 6 + ac k) →
      gz_wa n h L ct ac lo hi K b0 w0 Q c (k + 1) 1 b (upd w (c * 6 + ac k) (w (c * 6 + k) - sk))) := by
  have hn : n ≤ 6 := hN.2.1
  have h7 : h ≤ 7 := hN.2.2.1
  obtain ⟨b1, b2, b3, b4, b5⟩ := hN.2.2.2.2.2.2 k hk hkc
  obtain ⟨i1, i2, i3⟩ := hI
  generalize hm : w (c * 6 + k) - sk = least
  have hsum : gd_good n h L ct ac lo hi K b w → least.toInt = gd_t w c k - lo k := by
    intro g1
    have r2 := g1.2.2.1 c k hc hcc hk
    rw [← hm, ← hsk]
    unfold gd_t at r2 ⊢
    exact gn_sub _ _ ⟨by omega, by omega⟩ ⟨by omega, by omega⟩
  constructor
  · intro hle
    have hle' : least.toInt ≤ gd_t w c (ac k) := (gn_le _ _).1 hle
    refine ⟨i1, i2, fun hf hd => ?_⟩
    obtain ⟨e1, e2⟩ := gz_01 n ct i1 hf
    obtain ⟨q1, q2⟩ := i3 hf hd
    refine ⟨q1, fun x hx hxk hxc hxne hxpos => ?_⟩
    by_cases e : x = k
    · rcases i2 with g | g1
      · rw [e1] at g
        exact (gz_ndb n h L ct ac lo hi g hd).elim
      · have hs := hsum g1
        rw [e, ← e2]
        omega
    · exact q2 x hx (by omega) hxc hxne hxpos
  · intro hnle
    have hlt : gd_t w c (ac k) < least.toInt := (gn_lt _ _).1 (Int32.not_le.1 hnle)
    refine ⟨gd_chg_l n ct hn b0 w0 f b w c (ac k) least hc b1 hcc i1 hlt, ?_, fun hf => absurd hf (by decide)⟩
    rcases i2 with g | g1
    · exact Or.inl g
    · have hs := hsum g1
      have r2 := g1.2.2.1 c k hc hcc hk
      refine Or.inr (gd_long n h L ct ac lo hi hN _ _ b w c (ac k) least hc b1 g1 hlt (Int.le_refl _) (by omega) hcc (fun T hT hTc => ?_))
      have y := gs_r3 n h L ct ac lo hi hN c k hc hcc hk hkc (fun z => hne z.symm) (gd_t w c k) hpos
        (fun T' hT' hTc' => (g1.2.2.2.2.2 T' hT').2 c hc hcc hTc' k hk) T hT hTc
      omega

/-- waits become bounds, for c, at u -/
def gz_bw (K : Int) (b0 w0 : Nat → Int32) (Q : Prop) (c u : Nat) (f : Int32) (b w : Nat → Int32) : Prop :=
  gd_chg n ct b0 w0 f b w ∧ gd_inv n h L ct ac lo hi K b w ∧
  (f = 0 → (∀ x, x < n → gd_t b0 x x = 0) → Q ∧
    ∀ x, x < n → x < u → gd_t b0 x (ac c) ≤ - gd_t w0 c x ∨ gd_t b0 x (ac c) ≤ - lo c)

theorem gz_bw_s (hN : gm_net n h L ct ac lo hi) (K : Int) (hK : K ≤ 10000000) (b0 w0 : Nat → Int32) (Q : Prop) (c u : Nat)
    (f : Int32) (b w : Nat → Int32) (hc : c < n) (hcc : ct c = true) (hu : u < n) (sure : Int32)
    (hsu : (sure.toInt = gd_t w c u ∧ gd_t w c u ≤ lo c) ∨ (sure.toInt = lo c ∧ lo c ≤ gd_t w c u))
    (hI : gz_bw n h L ct ac lo hi K b0 w0 Q c u f b w) :
    (b (u * 6 + ac c) ≤ -sure → gz_bw n h L ct ac lo hi K b0 w0 Q c (u + 1) f b w) ∧
    (¬ b (u * 6 + ac c) ≤ -sure → gz_bw n h L ct ac lo hi K b0 w0 Q c (u + 1) 1 (upd b (u * 6 + ac c) (-sure)) w) := by
  have hn : n ≤ 6 := hN.2.1
  have h7 : h ≤ 7 := hN.2.2.1
  obtain ⟨b1, b2, b3, b4, b5⟩ := hN.2.2.2.2.2.2 c hc hcc
  obtain ⟨i1, i2, i3⟩ := hI
  generalize hm : -sure = most
  have hsum : gd_good n h L ct ac lo hi K b w → most.toInt = - sure.toInt ∧ -7 ≤ sure.toInt ∧ sure.toInt ≤ 7 := by
    intro g1
    have r2 := g1.2.2.1 c u hc hcc hu
    have r3 : -7 ≤ sure.toInt ∧ sure.toInt ≤ 7 := by
      rcases hsu with q | q
      · exact ⟨by omega, by omega⟩
      · exact ⟨by omega, by omega⟩
    rw [← hm]
    exact ⟨gn_neg _ ⟨by omega, by omega⟩, r3⟩
  constructor
  · intro hle
    have hle' : gd_t b u (ac c) ≤ most.toInt := (gn_le _ _).1 hle
    refine ⟨i1, i2, fun hf hd => ?_⟩
    obtain ⟨e1, e2⟩ := gz_01 n ct i1 hf
    obtain ⟨q1, q2⟩ := i3 hf hd
    refine ⟨q1, fun x hx hxu => ?_⟩
    by_cases e : x = u
    · rcases i2 with g | g1
      · rw [e1] at g
        exact (gz_ndb n h L ct ac lo hi g hd).elim
      · have hs := hsum g1
        rw [e, ← e1, ← e2]
        rcases hsu with q | q
        · exact Or.inl (by omega)
        · exact Or.inr (by omega)
    · exact q2 x hx (by omega)
  · intro hnle
    have hlt : most.toInt < gd_t b u (ac c) := (gn_lt _ _).1 (Int32.not_le.1 hnle)
    refine ⟨gd_chg_t n ct hn b0 w0 f b w u (ac c) most hu b1 i1 hlt, ?_, fun hf => absurd hf (by decide)⟩
    rcases i2 with g | g1
    · exact Or.inl (gd_bad_t n h L ct ac lo hi hn b u (ac c) most b1 g hlt)
    · have hs := hsum g1
      refine gd_tight n h L ct ac lo hi hN K b w u (ac c) most hu b1 g1 hlt (by omega) (fun T hT => ?_)
      have y := gs_r4 n h L ct ac lo hi hN c u hc hcc hu (gd_t w c u)
        (fun T' hT' hTc' => (g1.2.2.2.2.2 T' hT').2 c hc hcc hTc' u hu) T hT
      rcases y with y | y <;> rcases hsu with q | q <;> omega

/-- bounds by the shortest duration, for c, at v -/
def gz_bs (K : Int) (b0 w0 : Nat → Int32) (Q : Prop) (c v : Nat) (f : Int32) (b w : Nat → Int32) : Prop :=
  gd_chg n ct b0 w0 f b w ∧ gd_inv n h L ct ac lo hi K b w ∧
  (f = 0 → (∀ x, x < n → gd_t b0 x x = 0) → Q ∧
    ∀ x, x < n → x < v → gd_t b0 c x < 0 → gd_t b0 (ac c) x ≤ lo c + gd_t b0 c x)

theorem gz_bs_n (K : Int) (b0 w0 : Nat → Int32) (Q : Prop) (c v : Nat) (f : Int32) (b w : Nat → Int32)
    (hno : ¬ gd_t b c v < 0) (hI : gz_bs n h L ct ac lo hi K b0 w0 Q c v f b w) :
    gz_bs n h L ct ac lo hi K b0 w0 Q c (v + 1) f b w := by
  obtain ⟨i1, i2, i3⟩ := hI
  refine ⟨i1, i2, fun hf hd => ?_⟩
  obtain ⟨e1, e2⟩ := gz_01 n ct i1 hf
  obtain ⟨q1, q2⟩ := i3 hf hd
  refine ⟨q1, fun x hx hxv hneg => ?_⟩
  by_cases e : x = v
  · rw [e, ← e1] at hneg
    exact absurd hneg hno
  · exact q2 x hx (by omega) hneg

theorem gz_bs_s (hN : gm_net n h L ct ac lo hi) (K : Int) (b0 w0 : Nat → Int32) (Q : Prop) (c v : Nat)
    (f : Int32) (b w : Nat → Int32) (hc : c < n) (hcc : ct c = true) (hv : v < n) (sc : Int32) (hsc : sc.toInt = lo c)
    (hneg : gd_t b c v < 0) (hI : gz_bs n h L ct ac lo hi K b0 w0 Q c v f b w) :
    (b (ac c * 6 + v) ≤ sc + b (c * 6 + v) → gz_bs n h L ct ac lo hi K b0 w0 Q c (v + 1) f b w) ∧
    (¬ b (ac c * 6 + v) ≤ sc + b (c * 6 + v) →
      gz_bs n h L ct ac lo hi K b0 w0 Q c (v + 1) 1 (upd b (ac c * 6 + v) (sc + b (c * 6 + v))) w) := by
  have hn : n ≤ 6 := hN.2.1
  have h7 : h ≤ 7 := hN.2.2.1
  obtain ⟨b1, b2, b3, b4, b5⟩ := hN.2.2.2.2.2.2 c hc hcc
  obtain ⟨i1, i2, i3⟩ := hI
  generalize hm : sc + b (c * 6 + v) = most
  have hsum : gd_good n h L ct ac lo hi K b w → most.toInt = lo c + gd_t b c v := by
    intro g1
    have r1 := g1.1 c v hc hv
    rw [← hm, ← hsc]
    unfold gd_t at r1 ⊢
    exact gn_add _ _ ⟨by omega, by omega⟩ ⟨by omega, by omega⟩
  constructor
  · intro hle
    have hle' : gd_t b (ac c) v ≤ most.toInt := (gn_le _ _).1 hle
    refine ⟨i1, i2, fun hf hd => ?_⟩
    obtain ⟨e1, e2⟩ := gz_01 n ct i1 hf
    obtain ⟨q1, q2⟩ := i3 hf hd
    refine ⟨q1, fun x hx hxv hxneg => ?_⟩
    by_cases e : x = v
    · rcases i2 with g | g1
      · rw [e1] at g
        exact (gz_ndb n h L ct ac lo hi g hd).elim
      · have hs := hsum g1
        rw [e, ← e1]
        omega
    · exact q2 x hx (by omega) hxneg
  · intro hnle
    have hlt : most.toInt < gd_t b (ac c) v := (gn_lt _ _).1 (Int32.not_le.1 hnle)
    refine ⟨gd_chg_t n ct hn b0 w0 f b w (ac c) v most b1 hv i1 hlt, ?_, fun hf => absurd hf (by decide)⟩
    rcases i2 with g | g1
    · exact Or.inl (gd_bad_t n h L ct ac lo hi hn b (ac c) v most hv g hlt)
    · have hs := hsum g1
      have r1 := g1.1 c v hc hv
      refine gd_tight n h L ct ac lo hi hN K b w (ac c) v most b1 hv g1 hlt (by omega) (fun T hT => ?_)
      have y := gs_r5 n h L ct ac lo hi hN c v hc hcc hv (gd_t b c v) hneg
        (fun T' hT' => (g1.2.2.2.2.2 T' hT').1 c v hc hv) T hT
      omega
end gz
end
section
-- from loop to loop of a pass
section gy
variable (n h : Nat) (L : Nat → Nat → Int) (ct : Nat → Bool) (ac : Nat → Nat) (lo hi : Nat → Int)

/-- a pass: what holds between its loops -/
def gy_in (K : Int) (b0 w0 : Nat → Int32) (Q : Prop) (f : Int32) (b w : Nat → Int32) : Prop :=
  gd_chg n ct b0 w0 f b w ∧ gd_inv n h L ct ac lo hi K b w ∧ (f = 0 → (∀ x, x < n → gd_t b0 x x = 0) → Q)

theorem gy_begin (K : Int) (b0 w0 : Nat → Int32) (hG : gd_good n h L ct ac lo hi K b0 w0) : gy_in n h L ct ac lo hi K b0 w0 True 0 b0 w0 :=
  ⟨Or.inl ⟨rfl, rfl, rfl⟩, Or.inr hG, fun _ _ => trivial⟩

theorem gy_up (K K' : Int) (hK : K ≤ K') (b0 w0 : Nat → Int32) (Q Q' : Prop) (hQ : Q → Q') (f : Int32) (b w : Nat → Int32)
    (hI : gy_in n h L ct ac lo hi K b0 w0 Q f b w) : gy_in n h L ct ac lo hi K' b0 w0 Q' f b w :=
  ⟨hI.1, gd_inv_up n h L ct ac lo hi K K' b w hK hI.2.1, fun x y => hQ (hI.2.2 x y)⟩

-- chainBounds
def gy_d1 (b0 : Nat → Int32) (j : Nat) : Prop := ∀ x, x < n → ∀ y, y < n → gd_t b0 x y ≤ gd_t b0 x j + gd_t b0 j y

theorem gy_cb0 (K : Int) (b0 w0 : Nat → Int32) (Q : Prop) (j : Nat) (f : Int32) (b w : Nat → Int32)
    (hI : gy_in n h L ct ac lo hi K b0 w0 Q f b w) : gz_cb n h L ct ac lo hi K b0 w0 Q j b 0 0 f b w := by
  refine ⟨hI.1, ?_, fun x y => ⟨hI.2.2 x y, fun a _ _ _ z => by omega⟩⟩
  rcases hI.2.1 with q | q
  · exact Or.inl q
  · exact Or.inr ⟨q, gv_via_0 n j b, fun x _ z => by omega⟩

theorem gy_cbr (K : Int) (b0 w0 : Nat → Int32) (Q : Prop) (j : Nat) (bJ : Nat → Int32) (u : Nat) (f : Int32) (b w : Nat → Int32)
    (hI : gz_cb n h L ct ac lo hi K b0 w0 Q j bJ u n f b w) : gz_cb n h L ct ac lo hi K b0 w0 Q j bJ (u + 1) 0 f b w := by
  refine ⟨hI.1, ?_, fun x y => ⟨(hI.2.2 x y).1, fun a c ha hc z => (hI.2.2 x y).2 a c ha hc (by omega)⟩⟩
  rcases hI.2.1 with q | ⟨q1, q2, q3⟩
  · exact Or.inl q
  · exact Or.inr ⟨q1, q2, fun x hx z => q3 x hx (by omega)⟩

theorem gy_cbe (hN : gm_net n h L ct ac lo hi) (K : Int) (b0 w0 : Nat → Int32) (Q : Prop) (j : Nat) (hj : j < n) (bJ : Nat → Int32) (f : Int32)
    (b w : Nat → Int32) (hI : gz_cb n h L ct ac lo hi K b0 w0 Q j bJ n 0 f b w) :
    gy_in n h L ct ac lo hi K b0 w0 (Q ∧ gy_d1 n b0 j) f b w := by
  refine ⟨hI.1, ?_, fun x y => ⟨(hI.2.2 x y).1, fun a ha c hc => (hI.2.2 x y).2 a c ha hc (Or.inl ha)⟩⟩
  rcases hI.2.1 with q | ⟨q1, q2, q3⟩
  · exact Or.inl q
  · exact gv_via_end n h L ct ac lo hi hN K j bJ b w hj q1 q2 (fun x hx => q3 x hx (Or.inl hx))

-- chainWaits
def gy_d2 (b0 w0 : Nat → Int32) (c u : Nat) : Prop := ∀ x, x < u → x < n → ∀ y, y < n → gd_t w0 c y - gd_t b0 x y ≤ gd_t w0 c x

theorem gy_cw0 (K : Int) (b0 w0 : Nat → Int32) (Q : Prop) (c u : Nat) (hc : c < n) (hcc : ct c = true) (f : Int32) (b w : Nat → Int32)
    (hI : gy_in n h L ct ac lo hi (K + 14 * (u : Int)) b0 w0 (Q ∧ gy_d2 n b0 w0 c u) f b w) :
    gz_cw n h L ct ac lo hi K b0 w0 Q c u 0 f b w := by
  refine ⟨hI.1, ?_, fun x y => ⟨(hI.2.2 x y).1, fun a d ha hd z => (hI.2.2 x y).2 a (by omega) ha d hd⟩⟩
  rcases hI.2.1 with q | q
  · exact Or.inl q
  · exact Or.inr ⟨gd_good_up n h L ct ac lo hi _ _ b w (by omega) q, fun x hx _ => (q.2.2.1 c x hc hcc hx).2⟩

theorem gy_cwr (K : Int) (b0 w0 : Nat → Int32) (Q : Prop) (c u : Nat) (f : Int32) (b w : Nat → Int32)
    (hI : gz_cw n h L ct ac lo hi K b0 w0 Q c u n f b w) :
    gy_in n h L ct ac lo hi (K + 14 * ((u + 1 : Nat) : Int)) b0 w0 (Q ∧ gy_d2 n b0 w0 c (u + 1)) f b w := by
  refine ⟨hI.1, ?_, fun x y => ⟨(hI.2.2 x y).1, fun a ha han d hd => (hI.2.2 x y).2 a d han hd (by omega)⟩⟩
  rcases hI.2.1 with q | ⟨q1, q2⟩
  · exact Or.inl q
  · exact Or.inr (gd_good_up n h L ct ac lo hi _ _ b w (by omega) q1)

-- the four looks of one contingent event
def gy_ok (b w : Nat → Int32) (c : Nat) : Prop :=
  (∀ u, u < n → ∀ v, v < n → gd_t w c v - gd_t b u v ≤ gd_t w c u) ∧
  (∀ k, k < n → ct k = true → k ≠ c → 0 < gd_t w c k → gd_t w c k - lo k ≤ gd_t w c (ac k)) ∧
  (∀ u, u < n → gd_t b u (ac c) ≤ - gd_t w c u ∨ gd_t b u (ac c) ≤ - lo c) ∧
  (∀ v, v < n → gd_t b c v < 0 → gd_t b (ac c) v ≤ lo c + gd_t b c v)

theorem gy_wa0 (K : Int) (b0 w0 : Nat → Int32) (Q : Prop) (c : Nat) (h0 : ct 0 = false) (f : Int32) (b w : Nat → Int32)
    (hI : gy_in n h L ct ac lo hi K b0 w0 Q f b w) : gz_wa n h L ct ac lo hi K b0 w0 Q c 1 f b w := by
  refine ⟨hI.1, hI.2.1, fun x y => ⟨hI.2.2 x y, fun a _ ha hac => ?_⟩⟩
  have e : a = 0 := by omega
  rw [e, h0] at hac
  simp at hac

theorem gy_wae (K : Int) (b0 w0 : Nat → Int32) (Q : Prop) (c : Nat) (f : Int32) (b w : Nat → Int32)
    (hI : gz_wa n h L ct ac lo hi K b0 w0 Q c n f b w) :
    gz_bw n h L ct ac lo hi K b0 w0 (Q ∧ ∀ k, k < n → ct k = true → k ≠ c → 0 < gd_t w0 c k → gd_t w0 c k - lo k ≤ gd_t w0 c (ac k)) c 0 f b w :=
  ⟨hI.1, hI.2.1, fun x y => ⟨⟨(hI.2.2 x y).1, fun k hk => (hI.2.2 x y).2 k hk hk⟩, fun a _ z => absurd z (by omega)⟩⟩

theorem gy_bwe (K : Int) (b0 w0 : Nat → Int32) (Q : Prop) (c : Nat) (f : Int32) (b w : Nat → Int32)
    (hI : gz_bw n h L ct ac lo hi K b0 w0 Q c n f b w) :
    gz_bs n h L ct ac lo hi K b0 w0 (Q ∧ ∀ u, u < n → gd_t b0 u (ac c) ≤ - gd_t w0 c u ∨ gd_t b0 u (ac c) ≤ - lo c) c 0 f b w :=
  ⟨hI.1, hI.2.1, fun x y => ⟨⟨(hI.2.2 x y).1, fun k hk => (hI.2.2 x y).2 k hk hk⟩, fun a _ z => absurd z (by omega)⟩⟩

theorem gy_bse (K : Int) (b0 w0 : Nat → Int32) (Q : Prop) (c : Nat) (f : Int32) (b w : Nat → Int32)
    (hI : gz_bs n h L ct ac lo hi K b0 w0 Q c n f b w) :
    gy_in n h L ct ac lo hi K b0 w0 (Q ∧ ∀ v, v < n → gd_t b0 c v < 0 → gd_t b0 (ac c) v ≤ lo c + gd_t b0 c v) f b w :=
  ⟨hI.1, hI.2.1, fun x y => ⟨(hI.2.2 x y).1, fun k hk => (hI.2.2 x y).2 k hk hk⟩⟩

/-- deduce, before event c -/
def gy_dd (K : Int) (b0 w0 : Nat → Int32) (c : Nat) (f : Int32) (b w : Nat → Int32) : Prop :=
  gy_in n h L ct ac lo hi (K + 84 * (c : Int)) b0 w0
    ((∀ j, j < n → gy_d1 n b0 j) ∧ ∀ x, x < n → x < c → ct x = true → gy_ok n ct ac lo b0 w0 x) f b w

theorem gy_dd_n (K : Int) (b0 w0 : Nat → Int32) (c : Nat) (hcc : ct c = false) (f : Int32) (b w : Nat → Int32)
    (hI : gy_dd n h L ct ac lo hi K b0 w0 c f b w) : gy_dd n h L ct ac lo hi K b0 w0 (c + 1) f b w := by
  refine gy_up n h L ct ac lo hi _ _ (by omega) b0 w0 _ _ (fun z => ⟨z.1, fun x hx hxc hxt => ?_⟩) f b w hI
  by_cases e : x = c
  · rw [e, hcc] at hxt; simp at hxt
  · exact z.2 x hx (by omega) hxt

/-- deduce: the four looks at c, put together -/
theorem gy_dd_s (hn : n ≤ 6) (K : Int) (b0 w0 : Nat → Int32) (c : Nat) (f : Int32) (b w : Nat → Int32)
    (hI : gy_in n h L ct ac lo hi (K + 84 * (c : Int) + 14 * (n : Int)) b0 w0
      ((((((∀ j, j < n → gy_d1 n b0 j) ∧ ∀ x, x < n → x < c → ct x = true → gy_ok n ct ac lo b0 w0 x) ∧ gy_d2 n b0 w0 c n) ∧
        ∀ k, k < n → ct k = true → k ≠ c → 0 < gd_t w0 c k → gd_t w0 c k - lo k ≤ gd_t w0 c (ac k)) ∧
        ∀ u, u < n → gd_t b0 u (ac c) ≤ - gd_t w0 c u ∨ gd_t b0 u (ac c) ≤ - lo c) ∧
        ∀ v, v < n → gd_t b0 c v < 0 → gd_t b0 (ac c) v ≤ lo c + gd_t b0 c v) f b w) :
    gy_dd n h L ct ac lo hi K b0 w0 (c + 1) f b w := by
  refine gy_up n h L ct ac lo hi _ _ (by omega) b0 w0 _ _ (fun z => ?_) f b w hI
  obtain ⟨⟨⟨⟨⟨z1, z2⟩, z3⟩, z4⟩, z5⟩, z6⟩ := z
  refine ⟨z1, fun x hx hxc hxt => ?_⟩
  by_cases e : x = c
  · subst e
    exact ⟨fun u hu v hv => z3 u hu hu v hv, z4, z5, z6⟩
  · exact z2 x hx (by omega) hxt

/-- a pass is over -/
theorem gy_end (hN : gm_net n h L ct ac lo hi) (K : Int) (b0 w0 : Nat → Int32) (hG0 : gd_good n h L ct ac lo hi K b0 w0) (f : Int32) (b w : Nat → Int32)
    (hI : gy_dd n h L ct ac lo hi K b0 w0 n f b w) :
    (gd_bad n h L ct ac lo hi b) ∨
    (gd_good n h L ct ac lo hi (K + 504) b w ∧
      ((f = 0 ∧ b = b0 ∧ w = w0 ∧ gc_fix n L ct ac lo hi (gd_t b0) (gd_t w0)) ∨ (f = 1 ∧ gd_phi n ct b w < gd_phi n ct b0 w0))) := by
  have hn : n ≤ 6 := hN.2.1
  obtain ⟨i1, i2, i3⟩ := hI
  rcases i2 with g | g
  · exact Or.inl g
  · refine Or.inr ⟨gd_good_up n h L ct ac lo hi _ _ b w (by omega) g, ?_⟩
    rcases i1 with ⟨e1, e2, e3⟩ | e
    · obtain ⟨d1, dc⟩ := i3 e1 hG0.2.1
      exact Or.inl ⟨e1, e2, e3, gv_fix n h L ct ac lo hi K b0 w0 hG0 (fun j hj u hu v hv => d1 j hj u hu v hv)
        (fun c hc hcc => dc c hc hc hcc)⟩
    · exact Or.inr e
end gy
end
section
-- the deduction: its walks
section xd
variable (n h : Nat) (ij wa ph rd : Int32) (lim act sh lg pol tim : Nat → Int32)

theorem xd_in (u v : Nat) (hu : u < 6) (hv : v < 6) : vp_in (nI u * 6 + nI v) 36 := by
  rw [gq_ix]; exact vp_in_nI (by omega) (by omega)
theorem xd_cl (u v : Nat) (hu : u < 6) (hv : v < 6) : (nI u * 6 + nI v).toNatClampNeg = u * 6 + v := by
  rw [gq_ix]; exact nI_clamp (by omega)
theorem xd_c1 (u : Nat) (hu : u < 6) : (nI u).toNatClampNeg = u := nI_clamp (by omega)
theorem xd_i1 (u : Nat) (hu : u < 6) : vp_in (nI u) 6 := vp_in_nI hu (by omega)

theorem xd_tb (post : St2 → Prop) (f : Int32) (b w : Nat → Int32) (u v : Nat) (most : Int32) (hu : u < 6) (hv : v < 6)
    (h1 : b (u * 6 + v) ≤ most → post (nI n, nI h, ij, wa, f, ph, rd, lim, act, sh, lg, pol, tim, b, w))
    (h2 : ¬ b (u * 6 + v) ≤ most → post (nI n, nI h, ij, wa, 1, ph, rd, lim, act, sh, lg, pol, tim, upd b (u * 6 + v) most, w)) :
    wpX_tightenBound post (nI n, nI h, ij, wa, f, ph, rd, lim, act, sh, lg, pol, tim, b, w) (nI u) (nI v) most := by
  have hi := xd_in u v hu hv
  have hc := xd_cl u v hu hv
  unfold wpX_tightenBound
  dsimp only
  rw [hc]
  exact ⟨hi, h1, fun hn => ⟨hi, fun a ea => by rw [ea]; exact h2 hn⟩⟩

theorem xd_lw (post : St2 → Prop) (f : Int32) (b w : Nat → Int32) (c u : Nat) (least : Int32) (hc6 : c < 6) (hu : u < 6)
    (h1 : least ≤ w (c * 6 + u) → post (nI n, nI h, ij, wa, f, ph, rd, lim, act, sh, lg, pol, tim, b, w))
    (h2 : ¬ least ≤ w (c * 6 + u) → post (nI n, nI h, ij, wa, 1, ph, rd, lim, act, sh, lg, pol, tim, b, upd w (c * 6 + u) least)) :
    wpX_lengthenWait post (nI n, nI h, ij, wa, f, ph, rd, lim, act, sh, lg, pol, tim, b, w) (nI c) (nI u) least := by
  have hi := xd_in c u hc6 hu
  have hc := xd_cl c u hc6 hu
  unfold wpX_lengthenWait
  dsimp only
  rw [hc]
  exact ⟨hi, h1, fun hn => ⟨hi, fun a ea => by rw [ea]; exact h2 hn⟩⟩

theorem xd_ct (post : Int32 → Prop) (f : Int32) (b w : Nat → Int32) (e : Nat) (he : e < 6)
    (h0 : gq_ct act e = false → post 0) (h1 : gq_ct act e = true → post 1) :
    wpX_isContingent post (nI n, nI h, ij, wa, f, ph, rd, lim, act, sh, lg, pol, tim, b, w) (nI e) := by
  have hi := xd_i1 e he
  have hc := xd_c1 e he
  unfold wpX_isContingent
  dsimp only
  rw [hc]
  exact ⟨hi, fun z => h0 (gq_ct_n act e z), fun z => h1 (gq_ct_i act e z)⟩

theorem xd_cb22 (hn : n ≤ 6) (hN : gm_net n h (gd_t lim) (gq_ct act) (gq_ac act) (gq_i sh) (gq_i lg)) (post : St2 → Prop) (J2 J12 : Int32 → Int32 → Int32 → Int32 → Int32 → Int32 → Int32 → Int32 → (Nat → Int32) → (Nat → Int32) → (Nat → Int32) → (Nat → Int32) → (Nat → Int32) → (Nat → Int32) → (Nat → Int32) → (Nat → Int32) → Prop)
    (K : Int) (b0 w0 : Nat → Int32) (Q : Prop) (j : Nat) (bJ w : Nat → Int32) (u : Nat) (hj : j < n) (hu : u < n)
    (hx : ∀ f b, gz_cb n h (gd_t lim) (gq_ct act) (gq_ac act) (gq_i sh) (gq_i lg) K b0 w0 Q j bJ u n f b w → J12 (nI (u + 1)) (nI n) (nI h) ij wa f ph rd lim act sh lg pol tim b w)
    (f : Int32) (b : Nat → Int32) (hI : gz_cb n h (gd_t lim) (gq_ct act) (gq_ac act) (gq_i sh) (gq_i lg) K b0 w0 Q j bJ u 0 f b w) :
    ∃ m, wX_chainBounds_22 post J2 J12 (nI j) (nI u) m 0 (nI n) (nI h) ij wa f ph rd lim act sh lg pol tim b w := by
  refine loop_0 (fun m i (s : Int32 × (Nat → Int32)) => wX_chainBounds_22 post J2 J12 (nI j) (nI u) m (nI i) (nI n) (nI h) ij wa s.1 ph rd lim act sh lg pol tim s.2 w)
    (fun i s => gz_cb n h (gd_t lim) (gq_ct act) (gq_ac act) (gq_i sh) (gq_i lg) K b0 w0 Q j bJ u i s.1 s.2 w) n (f, b) hI ?_ ?_
  · intro m s hs
    exact br_t (Int32.le_refl _) (nm_r (nI_1 u) (hx _ _ hs))
  · intro m i s hi hs ih
    obtain ⟨f, b⟩ := s
    refine br_f (nI_ge hi (by omega)) ⟨xd_in u j (by omega) (by omega), xd_in j i (by omega) (by omega), ?_⟩
    rw [xd_cl u j (by omega) (by omega), xd_cl j i (by omega) (by omega)]
    have st := gz_cb_s n h (gd_t lim) (gq_ct act) (gq_ac act) (gq_i sh) (gq_i lg) hN K b0 w0 Q j bJ u i f b w hj hu hi hs
    exact xd_tb n h ij wa ph rd lim act sh lg pol tim _ f b w u i _ (by omega) (by omega)
      (fun hle => nm_r (nI_1 i) (ih (f, b) (st.1 hle))) (fun hle => nm_r (nI_1 i) (ih (1, _) (st.2 hle)))

theorem xd_cb12 (hn : n ≤ 6) (hN : gm_net n h (gd_t lim) (gq_ct act) (gq_ac act) (gq_i sh) (gq_i lg)) (post : St2 → Prop) (J2 : Int32 → Int32 → Int32 → Int32 → Int32 → Int32 → Int32 → Int32 → (Nat → Int32) → (Nat → Int32) → (Nat → Int32) → (Nat → Int32) → (Nat → Int32) → (Nat → Int32) → (Nat → Int32) → (Nat → Int32) → Prop)
    (K : Int) (b0 w0 : Nat → Int32) (Q : Prop) (j : Nat) (bJ w : Nat → Int32) (hj : j < n)
    (hx : ∀ f b, gz_cb n h (gd_t lim) (gq_ct act) (gq_ac act) (gq_i sh) (gq_i lg) K b0 w0 Q j bJ n 0 f b w → J2 (nI (j + 1)) (nI n) (nI h) ij wa f ph rd lim act sh lg pol tim b w)
    (f : Int32) (b : Nat → Int32) (hI : gz_cb n h (gd_t lim) (gq_ct act) (gq_ac act) (gq_i sh) (gq_i lg) K b0 w0 Q j bJ 0 0 f b w) :
    ∃ m, wX_chainBounds_12 post J2 (nI j) m 0 (nI n) (nI h) ij wa f ph rd lim act sh lg pol tim b w := by
  refine loop_0 (fun m i (s : Int32 × (Nat → Int32)) => wX_chainBounds_12 post J2 (nI j) m (nI i) (nI n) (nI h) ij wa s.1 ph rd lim act sh lg pol tim s.2 w)
    (fun i s => gz_cb n h (gd_t lim) (gq_ct act) (gq_ac act) (gq_i sh) (gq_i lg) K b0 w0 Q j bJ i 0 s.1 s.2 w) n (f, b) hI ?_ ?_
  · intro m s hs
    exact br_t (Int32.le_refl _) (nm_r (nI_1 j) (hx _ _ hs))
  · intro m i s hi hs ih
    obtain ⟨f, b⟩ := s
    exact br_f (nI_ge hi (by omega)) (xd_cb22 n h ij wa ph rd lim act sh lg pol tim hn hN post J2 _ K b0 w0 Q j bJ w i hj hi
      (fun f' b' z => ih (f', b') (gy_cbr n h (gd_t lim) (gq_ct act) (gq_ac act) (gq_i sh) (gq_i lg) K b0 w0 Q j bJ i f' b' w z)) f b hs)

theorem xd_cb (hn : n ≤ 6) (hN : gm_net n h (gd_t lim) (gq_ct act) (gq_ac act) (gq_i sh) (gq_i lg)) (post : St2 → Prop) (K : Int) (b0 w0 w : Nat → Int32)
    (hx : ∀ f b, gy_in n h (gd_t lim) (gq_ct act) (gq_ac act) (gq_i sh) (gq_i lg) K b0 w0 (∀ j, j < n → gy_d1 n b0 j) f b w → post (nI n, nI h, ij, wa, f, ph, rd, lim, act, sh, lg, pol, tim, b, w))
    (f : Int32) (b : Nat → Int32) (hI : gy_in n h (gd_t lim) (gq_ct act) (gq_ac act) (gq_i sh) (gq_i lg) K b0 w0 True f b w) :
    wpX_chainBounds post (nI n, nI h, ij, wa, f, ph, rd, lim, act, sh, lg, pol, tim, b, w) := by
  refine loop_0 (fun m i (s : Int32 × (Nat → Int32)) => wX_chainBounds_2 post m (nI i) (nI n) (nI h) ij wa s.1 ph rd lim act sh lg pol tim s.2 w)
    (fun i s => gy_in n h (gd_t lim) (gq_ct act) (gq_ac act) (gq_i sh) (gq_i lg) K b0 w0 (∀ j, j < i → gy_d1 n b0 j) s.1 s.2 w) n (f, b) ?_ ?_ ?_
  · exact gy_up n h (gd_t lim) (gq_ct act) (gq_ac act) (gq_i sh) (gq_i lg) K K (Int.le_refl _) b0 w0 _ _ (fun _ j hj => absurd hj (by omega)) f b w hI
  · intro m s hs
    exact br_t (Int32.le_refl _) (hx _ _ hs)
  · intro m i s hi hs ih
    obtain ⟨f, b⟩ := s
    refine br_f (nI_ge hi (by omega)) (xd_cb12 n h ij wa ph rd lim act sh lg pol tim hn hN post _ K b0 w0 _ i b w hi
      (fun f' b' z => ih (f', b') ?_) f b (gy_cb0 n h (gd_t lim) (gq_ct act) (gq_ac act) (gq_i sh) (gq_i lg) K b0 w0 _ i f b w hs))
    refine gy_up n h (gd_t lim) (gq_ct act) (gq_ac act) (gq_i sh) (gq_i lg) K K (Int.le_refl _) b0 w0 _ _ (fun q j hj => ?_) f' b' w (gy_cbe n h (gd_t lim) (gq_ct act) (gq_ac act) (gq_i sh) (gq_i lg) hN K b0 w0 _ i hi b f' b' w z)
    by_cases e : j = i
    · rw [e]; exact q.2
    · exact q.1 j (by omega)

theorem xd_cw12 (hn : n ≤ 6) (hN : gm_net n h (gd_t lim) (gq_ct act) (gq_ac act) (gq_i sh) (gq_i lg)) (post : St2 → Prop) (J2 : Int32 → Int32 → Int32 → Int32 → Int32 → Int32 → Int32 → Int32 → (Nat → Int32) → (Nat → Int32) → (Nat → Int32) → (Nat → Int32) → (Nat → Int32) → (Nat → Int32) → (Nat → Int32) → (Nat → Int32) → Prop)
    (K : Int) (hK0 : 0 ≤ K) (hK : K ≤ 10000000) (b0 w0 : Nat → Int32) (Q : Prop) (c : Nat) (b : Nat → Int32) (u : Nat) (hc : c < n) (hcc : gq_ct act c = true) (hu : u < n)
    (hx : ∀ f w, gz_cw n h (gd_t lim) (gq_ct act) (gq_ac act) (gq_i sh) (gq_i lg) K b0 w0 Q c u n f b w → J2 (nI (u + 1)) (nI n) (nI h) ij wa f ph rd lim act sh lg pol tim b w)
    (f : Int32) (w : Nat → Int32) (hI : gz_cw n h (gd_t lim) (gq_ct act) (gq_ac act) (gq_i sh) (gq_i lg) K b0 w0 Q c u 0 f b w) :
    ∃ m, wX_chainWaits_12 post J2 (nI c) (nI u) m 0 (nI n) (nI h) ij wa f ph rd lim act sh lg pol tim b w := by
  refine loop_0 (fun m i (s : Int32 × (Nat → Int32)) => wX_chainWaits_12 post J2 (nI c) (nI u) m (nI i) (nI n) (nI h) ij wa s.1 ph rd lim act sh lg pol tim b s.2)
    (fun i s => gz_cw n h (gd_t lim) (gq_ct act) (gq_ac act) (gq_i sh) (gq_i lg) K b0 w0 Q c u i s.1 b s.2) n (f, w) hI ?_ ?_
  · intro m s hs
    exact br_t (Int32.le_refl _) (nm_r (nI_1 u) (hx _ _ hs))
  · intro m i s hi hs ih
    obtain ⟨f, w⟩ := s
    refine br_f (nI_ge hi (by omega)) ⟨xd_in c i (by omega) (by omega), xd_in u i (by omega) (by omega), ?_⟩
    rw [xd_cl c i (by omega) (by omega), xd_cl u i (by omega) (by omega)]
    have st := gz_cw_s n h (gd_t lim) (gq_ct act) (gq_ac act) (gq_i sh) (gq_i lg) hN K hK0 hK b0 w0 Q c u i f b w hc hcc hu hi hs
    exact xd_lw n h ij wa ph rd lim act sh lg pol tim _ f b w c u _ (by omega) (by omega)
      (fun hle => nm_r (nI_1 i) (ih (f, w) (st.1 hle))) (fun hle => nm_r (nI_1 i) (ih (1, _) (st.2 hle)))

theorem xd_cw (hn : n ≤ 6) (hN : gm_net n h (gd_t lim) (gq_ct act) (gq_ac act) (gq_i sh) (gq_i lg)) (post : St2 → Prop)
    (K : Int) (hK0 : 0 ≤ K) (hK : K ≤ 10000000) (b0 w0 : Nat → Int32) (Q : Prop) (c : Nat) (b : Nat → Int32) (hc : c < n) (hcc : gq_ct act c = true)
    (hx : ∀ f w, gy_in n h (gd_t lim) (gq_ct act) (gq_ac act) (gq_i sh) (gq_i lg) (K + 14 * (n : Int)) b0 w0 (Q ∧ gy_d2 n b0 w0 c n) f b w → post (nI n, nI h, ij, wa, f, ph, rd, lim, act, sh, lg, pol, tim, b, w))
    (f : Int32) (w : Nat → Int32) (hI : gy_in n h (gd_t lim) (gq_ct act) (gq_ac act) (gq_i sh) (gq_i lg) K b0 w0 Q f b w) :
    wpX_chainWaits post (nI n, nI h, ij, wa, f, ph, rd, lim, act, sh, lg, pol, tim, b, w) (nI c) := by
  refine loop_0 (fun m i (s : Int32 × (Nat → Int32)) => wX_chainWaits_2 post (nI c) m (nI i) (nI n) (nI h) ij wa s.1 ph rd lim act sh lg pol tim b s.2)
    (fun i s => gy_in n h (gd_t lim) (gq_ct act) (gq_ac act) (gq_i sh) (gq_i lg) (K + 14 * (i : Int)) b0 w0 (Q ∧ gy_d2 n b0 w0 c i) s.1 b s.2) n (f, w) ?_ ?_ ?_
  · exact gy_up n h (gd_t lim) (gq_ct act) (gq_ac act) (gq_i sh) (gq_i lg) K _ (by omega) b0 w0 _ _ (fun q => ⟨q, fun x hx => absurd hx (by omega)⟩) f b w hI
  · intro m s hs
    exact br_t (Int32.le_refl _) (hx _ _ hs)
  · intro m i s hi hs ih
    obtain ⟨f, w⟩ := s
    exact br_f (nI_ge hi (by omega)) (xd_cw12 n h ij wa ph rd lim act sh lg pol tim hn hN post _ K hK0 hK b0 w0 Q c b i hc hcc hi
      (fun f' w' z => ih (f', w') (gy_cwr n h (gd_t lim) (gq_ct act) (gq_ac act) (gq_i sh) (gq_i lg) K b0 w0 Q c i f' b w' z)) f w (gy_cw0 n h (gd_t lim) (gq_ct act) (gq_ac act) (gq_i sh) (gq_i lg) K b0 w0 Q c i hc hcc f b w hs))

theorem xd_wa (hn : n ≤ 6) (hN : gm_net n h (gd_t lim) (gq_ct act) (gq_ac act) (gq_i sh) (gq_i lg)) (post : St2 → Prop)
    (hA : ∀ k, k < n → gq_ct act k = true → act k = nI (gq_ac act k) ∧ gq_ac act k < n)
    (K : Int) (hK : K ≤ 10000000) (b0 w0 : Nat → Int32) (Q : Prop) (c : Nat) (b : Nat → Int32) (hc : c < n) (hcc : gq_ct act c = true) (hn1 : 1 ≤ n)
    (hx : ∀ f w, gz_wa n h (gd_t lim) (gq_ct act) (gq_ac act) (gq_i sh) (gq_i lg) K b0 w0 Q c n f b w → post (nI n, nI h, ij, wa, f, ph, rd, lim, act, sh, lg, pol, tim, b, w))
    (f : Int32) (w : Nat → Int32) (hI : gz_wa n h (gd_t lim) (gq_ct act) (gq_ac act) (gq_i sh) (gq_i lg) K b0 w0 Q c 1 f b w) :
    wpX_waitBeforeActivations post (nI n, nI h, ij, wa, f, ph, rd, lim, act, sh, lg, pol, tim, b, w) (nI c) := by
  refine pk_loop (fun m i (s : Int32 × (Nat → Int32)) => wX_waitBeforeActivations_2 post (nI c) m (nI i) (nI n) (nI h) ij wa s.1 ph rd lim act sh lg pol tim b s.2)
    (fun i s => gz_wa n h (gd_t lim) (gq_ct act) (gq_ac act) (gq_i sh) (gq_i lg) K b0 w0 Q c i s.1 b s.2) n 1 (f, w) hn1 hI ?_ ?_
  · intro m s hs
    exact br_t (Int32.le_refl _) (hx _ _ hs)
  · intro m i s hi hs ih
    obtain ⟨f, w⟩ := s
    have hi6 : i < 6 := by omega
    refine br_f (nI_ge hi (by omega)) (br_c (fun e => ?_) (fun e => ?_))
    · have e' : i = c := (nI_eq (by omega) (by omega)).1 e
      exact nm_r (nI_1 i) (ih (f, w) (gz_wa_n n h (gd_t lim) (gq_ct act) (gq_ac act) (gq_i sh) (gq_i lg) K b0 w0 Q c i f b w (Or.inl e') hs))
    · have e' : i ≠ c := fun z => e (by rw [z])
      refine xd_ct n h ij wa ph rd lim act sh lg pol tim _ f b w i hi6 (fun z => ?_) (fun z => ?_)
      · exact br_t rfl (nm_r (nI_1 i) (ih (f, w) (gz_wa_n n h (gd_t lim) (gq_ct act) (gq_ac act) (gq_i sh) (gq_i lg) K b0 w0 Q c i f b w (Or.inr (Or.inl z)) hs)))
      · refine br_f (by decide) ⟨xd_in c i (by omega) hi6, ?_⟩
        rw [xd_cl c i (by omega) hi6, xd_c1 i hi6]
        refine br_c (fun q => ?_) (fun q => ?_)
        · have q' : gd_t w c i ≤ 0 := (gn_le _ _).1 q
          exact nm_r (nI_1 i) (ih (f, w) (gz_wa_n n h (gd_t lim) (gq_ct act) (gq_ac act) (gq_i sh) (gq_i lg) K b0 w0 Q c i f b w (Or.inr (Or.inr q')) hs))
        · have q' : 0 < gd_t w c i := (gn_lt _ _).1 (Int32.not_le.1 q)
          refine ⟨xd_i1 i hi6, xd_in c i (by omega) hi6, xd_i1 i hi6, ?_⟩
          obtain ⟨a1, a2⟩ := hA i hi z
          rw [a1]
          have st := gz_wa_s n h (gd_t lim) (gq_ct act) (gq_ac act) (gq_i sh) (gq_i lg) hN K hK b0 w0 Q c i f b w hc hcc hi z e' (sh i) rfl q' hs
          exact xd_lw n h ij wa ph rd lim act sh lg pol tim _ f b w c (gq_ac act i) _ (by omega) (by omega)
            (fun hle => nm_r (nI_1 i) (ih (f, w) (st.1 hle))) (fun hle => nm_r (nI_1 i) (ih (1, _) (st.2 hle)))

theorem xd_bw (hn : n ≤ 6) (hN : gm_net n h (gd_t lim) (gq_ct act) (gq_ac act) (gq_i sh) (gq_i lg)) (post : St2 → Prop)
    (hA : ∀ k, k < n → gq_ct act k = true → act k = nI (gq_ac act k) ∧ gq_ac act k < n)
    (K : Int) (hK : K ≤ 10000000) (b0 w0 : Nat → Int32) (Q : Prop) (c : Nat) (w : Nat → Int32) (hc : c < n) (hcc : gq_ct act c = true)
    (hx : ∀ f b, gz_bw n h (gd_t lim) (gq_ct act) (gq_ac act) (gq_i sh) (gq_i lg) K b0 w0 Q c n f b w → post (nI n, nI h, ij, wa, f, ph, rd, lim, act, sh, lg, pol, tim, b, w))
    (f : Int32) (b : Nat → Int32) (hI : gz_bw n h (gd_t lim) (gq_ct act) (gq_ac act) (gq_i sh) (gq_i lg) K b0 w0 Q c 0 f b w) :
    wpX_boundByWaits post (nI n, nI h, ij, wa, f, ph, rd, lim, act, sh, lg, pol, tim, b, w) (nI c) := by
  have hc6 : c < 6 := by omega
  refine loop_0 (fun m i (s : Int32 × (Nat → Int32)) => wX_boundByWaits_2 post (nI c) m (nI i) (nI n) (nI h) ij wa s.1 ph rd lim act sh lg pol tim s.2 w)
    (fun i s => gz_bw n h (gd_t lim) (gq_ct act) (gq_ac act) (gq_i sh) (gq_i lg) K b0 w0 Q c i s.1 s.2 w) n (f, b) hI ?_ ?_
  · intro m s hs
    exact br_t (Int32.le_refl _) (hx _ _ hs)
  · intro m i s hi hs ih
    obtain ⟨f, b⟩ := s
    have hi6 : i < 6 := by omega
    obtain ⟨a1, a2⟩ := hA c hc hcc
    have fin : ∀ z0 : Int32, ((z0.toInt = gd_t w c i ∧ gd_t w c i ≤ gq_i sh c) ∨ (z0.toInt = gq_i sh c ∧ gq_i sh c ≤ gd_t w c i)) →
        wX_boundByWaits_42 post (wX_boundByWaits_2 post (nI c) m) (nI c) (nI i) z0 (nI n) (nI h) ij wa f ph rd lim act sh lg pol tim b w := by
      intro z0 hz
      have st := gz_bw_s n h (gd_t lim) (gq_ct act) (gq_ac act) (gq_i sh) (gq_i lg) hN K hK b0 w0 Q c i f b w hc hcc hi z0 hz hs
      refine ⟨xd_i1 c hc6, ?_⟩
      rw [xd_c1 c hc6, a1]
      exact xd_tb n h ij wa ph rd lim act sh lg pol tim _ f b w i (gq_ac act c) _ hi6 (by omega)
        (fun hle => nm_r (nI_1 i) (ih (f, b) (st.1 hle))) (fun hle => nm_r (nI_1 i) (ih (1, _) (st.2 hle)))
    refine br_f (nI_ge hi (by omega)) ⟨xd_in c i hc6 hi6, ?_⟩
    rw [xd_cl c i hc6 hi6, xd_c1 c hc6]
    refine nm_e ⟨xd_i1 c hc6, br_c (fun q => ⟨xd_i1 c hc6, fin _ ?_⟩) (fun q => fin _ ?_)⟩
    · exact Or.inr ⟨rfl, (gn_le _ _).1 q⟩
    · have q' : (w (c * 6 + i)).toInt < (sh c).toInt := (gn_lt _ _).1 (Int32.not_le.1 q)
      exact Or.inl ⟨rfl, Int.le_of_lt q'⟩

theorem xd_bs (hn : n ≤ 6) (hN : gm_net n h (gd_t lim) (gq_ct act) (gq_ac act) (gq_i sh) (gq_i lg)) (post : St2 → Prop)
    (hA : ∀ k, k < n → gq_ct act k = true → act k = nI (gq_ac act k) ∧ gq_ac act k < n)
    (K : Int) (b0 w0 : Nat → Int32) (Q : Prop) (c : Nat) (w : Nat → Int32) (hc : c < n) (hcc : gq_ct act c = true)
    (hx : ∀ f b, gz_bs n h (gd_t lim) (gq_ct act) (gq_ac act) (gq_i sh) (gq_i lg) K b0 w0 Q c n f b w → post (nI n, nI h, ij, wa, f, ph, rd, lim, act, sh, lg, pol, tim, b, w))
    (f : Int32) (b : Nat → Int32) (hI : gz_bs n h (gd_t lim) (gq_ct act) (gq_ac act) (gq_i sh) (gq_i lg) K b0 w0 Q c 0 f b w) :
    wpX_boundByShortest post (nI n, nI h, ij, wa, f, ph, rd, lim, act, sh, lg, pol, tim, b, w) (nI c) := by
  have hc6 : c < 6 := by omega
  refine loop_0 (fun m i (s : Int32 × (Nat → Int32)) => wX_boundByShortest_2 post (nI c) m (nI i) (nI n) (nI h) ij wa s.1 ph rd lim act sh lg pol tim s.2 w)
    (fun i s => gz_bs n h (gd_t lim) (gq_ct act) (gq_ac act) (gq_i sh) (gq_i lg) K b0 w0 Q c i s.1 s.2 w) n (f, b) hI ?_ ?_
  · intro m s hs
    exact br_t (Int32.le_refl _) (hx _ _ hs)
  · intro m i s hi hs ih
    obtain ⟨f, b⟩ := s
    have hi6 : i < 6 := by omega
    obtain ⟨a1, a2⟩ := hA c hc hcc
    refine br_f (nI_ge hi (by omega)) ⟨xd_in c i hc6 hi6, ?_⟩
    rw [xd_cl c i hc6 hi6, xd_c1 c hc6]
    refine br_c (fun q => ?_) (fun q => ?_)
    · have q' : 0 ≤ gd_t b c i := (gn_le _ _).1 q
      exact nm_r (nI_1 i) (ih (f, b) (gz_bs_n n h (gd_t lim) (gq_ct act) (gq_ac act) (gq_i sh) (gq_i lg) K b0 w0 Q c i f b w (by omega) hs))
    · have q' : gd_t b c i < 0 := (gn_lt _ _).1 (Int32.not_le.1 q)
      refine ⟨xd_i1 c hc6, xd_i1 c hc6, xd_in c i hc6 hi6, ?_⟩
      rw [a1]
      have st := gz_bs_s n h (gd_t lim) (gq_ct act) (gq_ac act) (gq_i sh) (gq_i lg) hN K b0 w0 Q c i f b w hc hcc hi (sh c) rfl q' hs
      exact xd_tb n h ij wa ph rd lim act sh lg pol tim _ f b w (gq_ac act c) i _ (by omega) hi6
        (fun hle => nm_r (nI_1 i) (ih (f, b) (st.1 hle))) (fun hle => nm_r (nI_1 i) (ih (1, _) (st.2 hle)))
end xd
end
section
-- loading, a pass, the settling: their walks
section xe
variable (n h : Nat) (ij wa ph rd : Int32) (lim act sh lg pol tim : Nat → Int32)

def xe_lb (u v : Nat) (b : Nat → Int32) : Prop :=
  ∀ x y, x < n → y < n → (x < u ∨ (x = u ∧ y < v)) → gd_t b x y = (if x = y then 0 else gd_t lim x y)

theorem xe_lb_s (hn : n ≤ 6) (u v : Nat) (b : Nat → Int32) (z : Int32) (hv : v < n) (hz : z.toInt = (if u = v then 0 else gd_t lim u v))
    (hI : xe_lb n lim u v b) : xe_lb n lim u (v + 1) (upd b (u * 6 + v) z) := by
  intro x y hx hy hxy
  rcases gd_cell b u v x y z (by omega) (by omega) with ⟨e1, e2, e3⟩ | ⟨e0, e3⟩
  · rw [e3, e1, e2]; exact hz
  · rw [e3]; exact hI x y hx hy (by omega)

theorem xe_lb12 (hn : n ≤ 6) (post : St2 → Prop) (J2 : Int32 → (Nat → Int32) → (Nat → Int32) → (Nat → Int32) → (Nat → Int32) → (Nat → Int32) → (Nat → Int32) → (Nat → Int32) → (Nat → Int32) → Prop) (f : Int32) (w : Nat → Int32) (u : Nat) (hu : u < n)
    (hx : ∀ b, xe_lb n lim u n b → J2 (nI (u + 1)) lim act sh lg pol tim b w) (b : Nat → Int32) (hI : xe_lb n lim u 0 b) :
    ∃ m, wX_loadBounds_12 post J2 (nI u) (nI n) (nI h) ij wa f ph rd m 0 lim act sh lg pol tim b w := by
  refine loop_0 (fun m i (b : Nat → Int32) => wX_loadBounds_12 post J2 (nI u) (nI n) (nI h) ij wa f ph rd m (nI i) lim act sh lg pol tim b w)
    (fun i b => xe_lb n lim u i b) n b hI ?_ ?_
  · intro m b hs
    exact br_t (Int32.le_refl _) (nm_r (nI_1 u) (hx _ hs))
  · intro m i b hi hs ih
    refine br_f (nI_ge hi (by omega)) ?_
    rw [xd_cl u i (by omega) (by omega)]
    refine br_c (fun e => ⟨xd_in u i (by omega) (by omega), nm_e (nm_r (nI_1 i) (ih _ ?_))⟩)
      (fun e => ⟨xd_in u i (by omega) (by omega), xd_in u i (by omega) (by omega), nm_e (nm_r (nI_1 i) (ih _ ?_))⟩)
    · have e' : u = i := (nI_eq (by omega) (by omega)).1 e
      exact xe_lb_s n lim hn u i b 0 hi (by rw [if_pos e']; rfl) hs
    · have e' : ¬ u = i := fun z => e (by rw [z])
      exact xe_lb_s n lim hn u i b _ hi (by rw [if_neg e']; rfl) hs

theorem xe_ldb (hn : n ≤ 6) (post : St2 → Prop) (f : Int32) (w : Nat → Int32)
    (hx : ∀ b, (∀ u v, u < n → v < n → gd_t b u v = (if u = v then 0 else gd_t lim u v)) → post (nI n, nI h, ij, wa, f, ph, rd, lim, act, sh, lg, pol, tim, b, w)) (b : Nat → Int32) :
    wpX_loadBounds post (nI n, nI h, ij, wa, f, ph, rd, lim, act, sh, lg, pol, tim, b, w) := by
  refine loop_0 (fun m i (b : Nat → Int32) => wX_loadBounds_2 post (nI n) (nI h) ij wa f ph rd m (nI i) lim act sh lg pol tim b w)
    (fun i b => xe_lb n lim i 0 b) n b (fun x y _ _ z => by omega) ?_ ?_
  · intro m b hs
    exact br_t (Int32.le_refl _) (hx _ (fun u v hu hv => hs u v hu hv (Or.inl hu)))
  · intro m i b hi hs ih
    exact br_f (nI_ge hi (by omega)) (xe_lb12 n h ij wa ph rd lim act sh lg pol tim hn post _ f w i hi
      (fun b' z => ih b' (fun x y hx hy hxy => z x y hx hy (by omega))) b hs)

theorem xe_lw12 (hn : n ≤ 6) (hN : gm_net n h (gd_t lim) (gq_ct act) (gq_ac act) (gq_i sh) (gq_i lg)) (post : St2 → Prop) (J2 : Int32 → Int32 → Int32 → Int32 → Int32 → Int32 → Int32 → Int32 → (Nat → Int32) → (Nat → Int32) → (Nat → Int32) → (Nat → Int32) → (Nat → Int32) → (Nat → Int32) → (Nat → Int32) → (Nat → Int32) → Prop)
    (hA : ∀ k, k < n → gq_ct act k = true → act k = nI (gq_ac act k) ∧ gq_ac act k < n)
    (f : Int32) (b w0 : Nat → Int32) (c : Nat) (hc : c < n)
    (hB : gz_ld n (gd_t lim) (gq_ct act) (gq_ac act) (gq_i lg) c b) (hW : gz_lw n h (gq_ct act) (gq_i lg) c w0)
    (hx : ∀ f b w, gz_ld n (gd_t lim) (gq_ct act) (gq_ac act) (gq_i lg) (c + 1) b → gz_lw n h (gq_ct act) (gq_i lg) (c + 1) w → J2 (nI (c + 1)) (nI n) (nI h) ij wa f ph rd lim act sh lg pol tim b w) :
    ∃ m, wX_loadWaits_12 post J2 (nI c) (nI n) (nI h) ij wa f ph rd m 0 lim act sh lg pol tim b w0 := by
  have hc6 : c < 6 := by omega
  have h7 : h ≤ 7 := hN.2.2.1
  refine loop_0 (fun m i (w : Nat → Int32) => wX_loadWaits_12 post J2 (nI c) (nI n) (nI h) ij wa f ph rd m (nI i) lim act sh lg pol tim b w)
    (fun i w => (∀ x y, x < c → y < n → gd_t w x y = gd_t w0 x y) ∧ ∀ y, y < i → y < n → gd_t w c y = -(h : Int)) n w0
    ⟨fun _ _ _ _ => rfl, fun y hy => absurd hy (by omega)⟩ ?_ ?_
  · intro m w hs
    refine br_t (Int32.le_refl _) (xd_ct n h ij wa ph rd lim act sh lg pol tim _ f b w c hc6 (fun z => ?_) (fun z => ?_))
    · exact br_t rfl (nm_r (nI_1 c) (hx f b w (gz_ld_s n (gd_t lim) (gq_ct act) (gq_ac act) (gq_i lg) c b z hB)
        (gz_lw_s n h (gq_ct act) (gq_i lg) c w0 w hs.1 (fun q => absurd q (by rw [z]; simp)) hW)))
    · have hw' : gz_lw n h (gq_ct act) (gq_i lg) (c + 1) (upd w (c * 6 + c) (lg c)) := by
        refine gz_lw_s n h (gq_ct act) (gq_i lg) c w0 _ (fun x y hx hy => ?_) (fun _ y hy => ?_) hW
        · rw [gd_t_n w c c x y _ hc6 (by omega) (by omega)]; exact hs.1 x y hx hy
        · rcases gd_cell w c c c y (lg c) hc6 (by omega) with ⟨_, e2, e3⟩ | ⟨e0, e3⟩
          · exact Or.inr ⟨e2, e3⟩
          · exact Or.inl ⟨by omega, by rw [e3]; exact hs.2 y hy hy⟩
      obtain ⟨a1, a2⟩ := hA c hc z
      refine br_f (by decide) ⟨xd_i1 c hc6, xd_in c c hc6 hc6, ?_⟩
      rw [xd_cl c c hc6 hc6, xd_c1 c hc6, a1]
      refine nm_e ⟨xd_i1 c hc6, xd_i1 c hc6, ?_⟩
      refine xd_tb n h ij wa ph rd lim act sh lg pol tim _ f b _ (gq_ac act c) c _ (by omega) hc6 (fun q => ?_) (fun q => ?_)
      · exact nm_r (nI_1 c) (hx f b _ (gz_ld_k n (gd_t lim) (gq_ct act) (gq_ac act) (gq_i lg) c b ((gn_le _ _).1 q) hB) hw')
      · exact nm_r (nI_1 c) (hx 1 _ _ (gz_ld_t n h (gd_t lim) (gq_ct act) (gq_ac act) (gq_i sh) (gq_i lg) hN c hc z b (lg c) rfl ((gn_lt _ _).1 (Int32.not_le.1 q)) hB) hw')
  · intro m i w hi hs ih
    refine br_f (nI_ge hi (by omega)) ⟨xd_in c i hc6 (by omega), ?_⟩
    rw [xd_cl c i hc6 (by omega)]
    refine nm_e (nm_r (nI_1 i) (ih _ ⟨fun x y hx hy => ?_, fun y hy hyn => ?_⟩))
    · rw [gd_t_n w c i x y _ (by omega) (by omega) (by omega)]; exact hs.1 x y hx hy
    · have hneg : (-nI h).toInt = -(h : Int) := by
        have e := gq_nI h (by omega)
        rw [gn_neg _ ⟨by omega, by omega⟩, e]
      rcases gd_cell w c i c y (-nI h) (by omega) (by omega) with ⟨_, e2, e3⟩ | ⟨e0, e3⟩
      · rw [e3]; exact hneg
      · rw [e3]; exact hs.2 y (by omega) hyn

theorem xe_ldw (hn : n ≤ 6) (hn1 : 1 ≤ n) (hN : gm_net n h (gd_t lim) (gq_ct act) (gq_ac act) (gq_i sh) (gq_i lg)) (hL : ∀ u v, u < n → v < n → -7 ≤ gd_t lim u v) (post : St2 → Prop)
    (hA : ∀ k, k < n → gq_ct act k = true → act k = nI (gq_ac act k) ∧ gq_ac act k < n)
    (hx : ∀ f b w, gd_good n h (gd_t lim) (gq_ct act) (gq_ac act) (gq_i sh) (gq_i lg) 7 b w → post (nI n, nI h, ij, wa, f, ph, rd, lim, act, sh, lg, pol, tim, b, w))
    (f : Int32) (b w : Nat → Int32) (hb : ∀ u v, u < n → v < n → gd_t b u v = (if u = v then 0 else gd_t lim u v)) :
    wpX_loadWaits post (nI n, nI h, ij, wa, f, ph, rd, lim, act, sh, lg, pol, tim, b, w) := by
  have h0 := hN.2.2.2.1
  refine pk_loop (fun m i (s : Int32 × (Nat → Int32) × (Nat → Int32)) => wX_loadWaits_2 post m (nI i) (nI n) (nI h) ij wa s.1 ph rd lim act sh lg pol tim s.2.1 s.2.2)
    (fun i s => gz_ld n (gd_t lim) (gq_ct act) (gq_ac act) (gq_i lg) i s.2.1 ∧ gz_lw n h (gq_ct act) (gq_i lg) i s.2.2) n 1 (f, b, w) hn1
    ⟨gz_ld_0 n (gd_t lim) (gq_ct act) (gq_ac act) (gq_i lg) b h0 hb, fun x u hx _ hxc _ => ?_⟩ ?_ ?_
  · have e : x = 0 := by omega
    rw [e, h0] at hxc
    simp at hxc
  · intro m s hs
    obtain ⟨f, b, w⟩ := s
    refine br_t (Int32.le_refl _) (hx _ _ _ (gv_init n h (gd_t lim) (gq_ct act) (gq_ac act) (gq_i sh) (gq_i lg) hN hL b w hs.1.1 (fun c hc hcc => hs.1.2 c hc hc hcc) (fun c u hc hcc hu => hs.2 c u hc hc hcc hu)))
  · intro m i s hi hs ih
    obtain ⟨f, b, w⟩ := s
    exact br_f (nI_ge hi (by omega)) (xe_lw12 n h ij wa ph rd lim act sh lg pol tim hn hN post _ hA f b w i hi hs.1 hs.2 (fun f' b' w' z1 z2 => ih (f', b', w') ⟨z1, z2⟩))

theorem xe_ded (hn : n ≤ 6) (hn1 : 1 ≤ n) (hN : gm_net n h (gd_t lim) (gq_ct act) (gq_ac act) (gq_i sh) (gq_i lg)) (post : St2 → Prop)
    (hA : ∀ k, k < n → gq_ct act k = true → act k = nI (gq_ac act k) ∧ gq_ac act k < n)
    (K : Int) (hK0 : 0 ≤ K) (hK : K ≤ 5000000) (b0 w0 : Nat → Int32) (hG0 : gd_good n h (gd_t lim) (gq_ct act) (gq_ac act) (gq_i sh) (gq_i lg) K b0 w0)
    (hx : ∀ f b w, gy_dd n h (gd_t lim) (gq_ct act) (gq_ac act) (gq_i sh) (gq_i lg) K b0 w0 n f b w → post (nI n, nI h, ij, wa, f, ph, rd, lim, act, sh, lg, pol, tim, b, w)) :
    wpX_deduce post (nI n, nI h, ij, wa, 0, ph, rd, lim, act, sh, lg, pol, tim, b0, w0) := by
  have h0 := hN.2.2.2.1
  refine xd_cb n h ij wa ph rd lim act sh lg pol tim hn hN _ K b0 w0 w0 (fun f b hI => ?_) 0 b0 (gy_begin n h (gd_t lim) (gq_ct act) (gq_ac act) (gq_i sh) (gq_i lg) K b0 w0 hG0)
  refine pk_loop (fun m i (s : Int32 × (Nat → Int32) × (Nat → Int32)) => wX_deduce_6 post m (nI i) (nI n) (nI h) ij wa s.1 ph rd lim act sh lg pol tim s.2.1 s.2.2)
    (fun i s => gy_dd n h (gd_t lim) (gq_ct act) (gq_ac act) (gq_i sh) (gq_i lg) K b0 w0 i s.1 s.2.1 s.2.2) n 1 (f, b, w0) hn1 ?_ ?_ ?_
  · refine gy_up n h (gd_t lim) (gq_ct act) (gq_ac act) (gq_i sh) (gq_i lg) K _ (by omega) b0 w0 _ _ (fun q => ⟨q, fun x _ hx1 hxc => ?_⟩) f b w0 hI
    have e : x = 0 := by omega
    rw [e, h0] at hxc
    simp at hxc
  · intro m s hs
    exact br_t (Int32.le_refl _) (hx _ _ _ hs)
  · intro m i s hi hs ih
    obtain ⟨f, b, w⟩ := s
    have hi6 : i < 6 := by omega
    refine br_f (nI_ge hi (by omega)) (xd_ct n h ij wa ph rd lim act sh lg pol tim _ f b w i hi6 (fun z => ?_) (fun z => ?_))
    · exact br_t rfl (nm_r (nI_1 i) (ih (f, b, w) (gy_dd_n n h (gd_t lim) (gq_ct act) (gq_ac act) (gq_i sh) (gq_i lg) K b0 w0 i z f b w hs)))
    · refine br_f (by decide) ?_
      refine xd_cw n h ij wa ph rd lim act sh lg pol tim hn hN _ (K + 84 * (i : Int)) (by omega) (by omega) b0 w0 _ i b hi z (fun f1 w1 h1 => ?_) f w hs
      refine xd_wa n h ij wa ph rd lim act sh lg pol tim hn hN _ hA (K + 84 * (i : Int) + 14 * (n : Int)) (by omega) b0 w0 _ i b hi z hn1 (fun f2 w2 h2 => ?_) f1 w1
        (gy_wa0 n h (gd_t lim) (gq_ct act) (gq_ac act) (gq_i sh) (gq_i lg) _ b0 w0 _ i h0 f1 b w1 h1)
      refine xd_bw n h ij wa ph rd lim act sh lg pol tim hn hN _ hA (K + 84 * (i : Int) + 14 * (n : Int)) (by omega) b0 w0 _ i w2 hi z (fun f3 b3 h3 => ?_) f2 b
        (gy_wae n h (gd_t lim) (gq_ct act) (gq_ac act) (gq_i sh) (gq_i lg) _ b0 w0 _ i f2 b w2 h2)
      refine xd_bs n h ij wa ph rd lim act sh lg pol tim hn hN _ hA (K + 84 * (i : Int) + 14 * (n : Int)) b0 w0 _ i w2 hi z (fun f4 b4 h4 => ?_) f3 b3
        (gy_bwe n h (gd_t lim) (gq_ct act) (gq_ac act) (gq_i sh) (gq_i lg) _ b0 w0 _ i f3 b3 w2 h3)
      exact nm_r (nI_1 i) (ih (f4, b4, w2) (gy_dd_s n h (gd_t lim) (gq_ct act) (gq_ac act) (gq_i sh) (gq_i lg) hn K b0 w0 i f4 b4 w2 (gy_bse n h (gd_t lim) (gq_ct act) (gq_ac act) (gq_i sh) (gq_i lg) _ b0 w0 _ i f4 b4 w2 h4)))

theorem xe_con (hn : n ≤ 6) (post : Int32 → Prop) (f : Int32) (b w : Nat → Int32)
    (h1 : (∃ u, u < n ∧ gd_t b u u < 0) → post 1) (h0 : (∀ u, u < n → 0 ≤ gd_t b u u) → post 0) :
    wpX_isContradiction post (nI n, nI h, ij, wa, f, ph, rd, lim, act, sh, lg, pol, tim, b, w) := by
  refine loop_0 (fun m i (_ : Unit) => wX_isContradiction_2 post (nI n) (nI h) ij wa f ph rd lim act sh lg pol tim b w m (nI i))
    (fun i _ => ∀ u, u < i → 0 ≤ gd_t b u u) n () (fun u hu => absurd hu (by omega)) ?_ ?_
  · intro m _ hs
    exact br_t (Int32.le_refl _) (h0 hs)
  · intro m i _ hi hs ih
    refine br_f (nI_ge hi (by omega)) ⟨xd_in i i (by omega) (by omega), ?_⟩
    rw [xd_cl i i (by omega) (by omega)]
    refine br_c (fun q => nm_r (nI_1 i) (ih () (fun u hu => ?_))) (fun q => h1 ⟨i, hi, (gn_lt _ _).1 (Int32.not_le.1 q)⟩)
    by_cases e : u = i
    · rw [e]; exact (gn_le _ _).1 q
    · exact hs u (by omega)

theorem xe_set (hn : n ≤ 6) (hn1 : 1 ≤ n) (hN : gm_net n h (gd_t lim) (gq_ct act) (gq_ac act) (gq_i sh) (gq_i lg)) (post : Int32 → St2 → Prop)
    (hA : ∀ k, k < n → gq_ct act k = true → act k = nI (gq_ac act k) ∧ gq_ac act k < n)
    (hx : ∀ r f b w, (r = 0 ∨ r = 1) → gv_jud n h (gd_t lim) (gq_ct act) (gq_ac act) (gq_i sh) (gq_i lg) r b w → post r (nI n, nI h, ij, wa, f, ph, rd, lim, act, sh, lg, pol, tim, b, w))
    (f : Int32) (b w : Nat → Int32) (hG : gd_good n h (gd_t lim) (gq_ct act) (gq_ac act) (gq_i sh) (gq_i lg) 7 b w) :
    wpX_settle post (nI n, nI h, ij, wa, f, ph, rd, lim, act, sh, lg, pol, tim, b, w) := by
  refine loop_0 (fun m i (s : Int32 × (Nat → Int32) × (Nat → Int32)) => wX_settle_2 post m (nI i) (nI n) (nI h) ij wa s.1 ph rd lim act sh lg pol tim s.2.1 s.2.2)
    (fun i s => i ≤ 2000 ∧ gd_good n h (gd_t lim) (gq_ct act) (gq_ac act) (gq_i sh) (gq_i lg) (7 + 504 * (i : Int)) s.2.1 s.2.2 ∧ gd_phi n (gq_ct act) s.2.1 s.2.2 + (i : Int) ≤ 504) 2000 (f, b, w) ?_ ?_ ?_
  · have y := gd_phi_ub n h (gd_t lim) (gq_ct act) (gq_ac act) (gq_i sh) (gq_i lg) b w 7 hG
    exact ⟨by omega, gd_good_up n h (gd_t lim) (gq_ct act) (gq_ac act) (gq_i sh) (gq_i lg) 7 _ b w (by omega) hG, by show gd_phi n (gq_ct act) b w + ((0 : Nat) : Int) ≤ 504; omega⟩
  · intro m s hs
    obtain ⟨f, b, w⟩ := s
    refine br_t (Int32.le_refl _) (hx 0 f b w (Or.inl rfl) (Or.inr ⟨rfl, fun T hT => ?_⟩))
    have y := gd_phi_lb n h (gd_t lim) (gq_ct act) (gq_ac act) (gq_i sh) (gq_i lg) hN b w _ hs.2.1 T hT
    have z := hs.2.2
    dsimp only at z
    omega
  · intro m i s hi hs ih
    obtain ⟨f, b, w⟩ := s
    obtain ⟨_, g1, g2⟩ := hs
    dsimp only at g1 g2
    have hlt : ¬ (2000 : Int32) ≤ nI i := nI_ge (b := 2000) hi (by decide)
    refine br_f hlt (xe_ded n h ij wa ph rd lim act sh lg pol tim hn hn1 hN _ hA (7 + 504 * (i : Int)) (by omega) (by omega) b w g1 (fun f' b' w' hI => ?_))
    have e := gy_end n h (gd_t lim) (gq_ct act) (gq_ac act) (gq_i sh) (gq_i lg) hN _ b w g1 f' b' w' hI
    refine xe_con n h ij wa ph rd lim act sh lg pol tim hn _ f' b' w' (fun hneg => ?_) (fun hpos => ?_)
    · refine br_f (by decide) (hx 0 f' b' w' (Or.inl rfl) (Or.inr ⟨rfl, ?_⟩))
      rcases e with e | ⟨e, _⟩
      · exact e.2
      · obtain ⟨u, hu, hu0⟩ := hneg
        have := e.2.1 u hu
        omega
    · refine br_t rfl ?_
      rcases e with e | ⟨e1, e2⟩
      · obtain ⟨⟨u, hu, hu0⟩, _⟩ := e
        have := hpos u hu
        omega
      · rcases e2 with ⟨q1, q2, q3, q4⟩ | ⟨q1, q2⟩
        · refine br_t q1 (hx 1 f' b' w' (Or.inr rfl) (Or.inl ⟨rfl, ?_, e1.2.2.2.2.2⟩))
          rw [q2, q3]; exact q4
        · refine br_f (by rw [q1]; decide) (nm_r (nI_1 i) (ih (f', b', w') ⟨by omega, gd_good_up n h (gd_t lim) (gq_ct act) (gq_ac act) (gq_i sh) (gq_i lg) _ _ b' w' (by omega) e1, ?_⟩))
          show gd_phi n (gq_ct act) b' w' + ((i + 1 : Nat) : Int) ≤ 504
          omega

theorem xe_nar (r : Int32) (hr : r = 0 ∨ r = 1) : narrow .boolean (.int r) = .int r ∧ fits .boolean (.int r) = true := by
  rcases hr with e | e
  · rw [e]; exact ⟨rfl, rfl⟩
  · rw [e]; exact ⟨rfl, rfl⟩

theorem xe_acc (hn : n ≤ 6) (hn1 : 1 ≤ n) (hN : gm_net n h (gd_t lim) (gq_ct act) (gq_ac act) (gq_i sh) (gq_i lg)) (hL : ∀ u v, u < n → v < n → -7 ≤ gd_t lim u v) (post : Int32 → St2 → Prop)
    (hA : ∀ k, k < n → gq_ct act k = true → act k = nI (gq_ac act k) ∧ gq_ac act k < n)
    (f : Int32) (b w : Nat → Int32) (hw : wa = 0 ∨ wa = 1) (hJ : ij = 0 ∨ (ij = 1 ∧ gv_jud n h (gd_t lim) (gq_ct act) (gq_ac act) (gq_i sh) (gq_i lg) wa b w))
    (hx : ∀ r f b w, (r = 0 ∨ r = 1) → gv_jud n h (gd_t lim) (gq_ct act) (gq_ac act) (gq_i sh) (gq_i lg) r b w → post r (nI n, nI h, 1, r, f, ph, rd, lim, act, sh, lg, pol, tim, b, w)) :
    wpX_isAccepted post (nI n, nI h, ij, wa, f, ph, rd, lim, act, sh, lg, pol, tim, b, w) := by
  rcases hJ with e | ⟨e, hj⟩
  · refine br_t e (xe_ldb n h ij wa ph rd lim act sh lg pol tim hn _ f w (fun b hb => xe_ldw n h ij wa ph rd lim act sh lg pol tim hn hn1 hN hL _ hA (fun f b w hg => xe_set n h ij wa ph rd lim act sh lg pol tim hn hn1 hN _ hA (fun r f b w hr hj => ?_) f b w hg) f b w hb) b)
    have q := xe_nar r hr
    exact ⟨q.1, q.2, q.1, hx r f b w hr hj⟩
  · subst e
    exact br_f (by decide) ⟨(xe_nar wa hw).1, hx wa f b w hw hj⟩
end xe
end
section
-- the looks of a round on the program's side: their walks
section xr
variable (n h : Nat) (ij wa f ph rd : Int32) (lim act sh lg pol tim b w : Nat → Int32)

theorem xr_ev1 (post : Int32 → Prop) (i : Nat) (hn : n ≤ 6) (hi : i < n) (g : post 1) : wpX_isEvent post (nI n, nI h, ij, wa, f, ph, rd, lim, act, sh, lg, pol, tim, b, w) (nI i) :=
  br_f (nI_pos (by omega)) (br_f (nI_ge hi (by omega)) g)
theorem xr_ev0 (post : Int32 → Prop) (a : Int32) (hn : n ≤ 6) (ha : ¬ ∃ i, i < n ∧ a = nI i) (g : post 0) : wpX_isEvent post (nI n, nI h, ij, wa, f, ph, rd, lim, act, sh, lg, pol, tim, b, w) a := by
  refine br_c (fun _ => g) (fun q => br_c (fun _ => g) (fun q2 => ?_))
  obtain ⟨j, hj, e⟩ := nI_of q
  refine absurd ⟨j, ?_, e⟩ ha
  by_cases z : j < n
  · exact z
  · exact absurd (by rw [e]; exact nI_le (by omega) hj) q2
theorem xr_lt1 (post : Int32 → Prop) (i : Nat) (hn : n ≤ 6) (h1 : 1 ≤ i) (hi : i < n) (g : post 1) : wpX_isLaterEvent post (nI n, nI h, ij, wa, f, ph, rd, lim, act, sh, lg, pol, tim, b, w) (nI i) :=
  br_f (fun z => absurd ((nI_ltI (b := 1) (by omega) (by omega)).1 z) (by omega)) (br_f (nI_ge hi (by omega)) g)
theorem xr_lt0 (post : Int32 → Prop) (a : Int32) (hn : n ≤ 6) (ha : ¬ ∃ i, 1 ≤ i ∧ i < n ∧ a = nI i) (g : post 0) : wpX_isLaterEvent post (nI n, nI h, ij, wa, f, ph, rd, lim, act, sh, lg, pol, tim, b, w) a := by
  refine br_c (fun _ => g) (fun q => br_c (fun _ => g) (fun q2 => ?_))
  have q0 : ¬ a < 0 := by
    intro z
    have y1 := (gn_lt _ _).1 z
    have y2 := fun z => q ((gn_lt _ _).2 z)
    have e1 : (1 : Int32).toInt = 1 := by decide
    have e0 : (0 : Int32).toInt = 0 := by decide
    rw [e0] at y1
    exact y2 (by rw [e1]; omega)
  obtain ⟨j, hj, e⟩ := nI_of q0
  refine absurd ⟨j, ?_, ?_, e⟩ ha
  · by_cases z : 1 ≤ j
    · exact z
    · exact absurd (by rw [e, show j = 0 by omega]; decide) q
  · by_cases z : j < n
    · exact z
    · exact absurd (by rw [e]; exact nI_le (by omega) hj) q2
theorem xr_pr1 (post : Int32 → Prop) (i j : Nat) (hn : n ≤ 6) (hi : i < n) (hj : j < n) (hij : i ≠ j) (g : post 1) :
    wpX_isPair post (nI n, nI h, ij, wa, f, ph, rd, lim, act, sh, lg, pol, tim, b, w) (nI i) (nI j) := by
  unfold wpX_isPair
  dsimp only
  exact xr_ev1 n h ij wa f ph rd lim act sh lg pol tim b w _ i hn hi (br_f (by decide)
    (xr_ev1 n h ij wa f ph rd lim act sh lg pol tim b w _ j hn hj (br_f (by decide) (br_f (fun z => hij ((nI_eq (by omega) (by omega)).1 z)) g))))
theorem xr_pr0 (post : Int32 → Prop) (a c : Int32) (hn : n ≤ 6) (ha : ¬ ∃ i j, i < n ∧ j < n ∧ i ≠ j ∧ a = nI i ∧ c = nI j) (g : post 0) :
    wpX_isPair post (nI n, nI h, ij, wa, f, ph, rd, lim, act, sh, lg, pol, tim, b, w) a c := by
  unfold wpX_isPair
  dsimp only
  by_cases q : ∃ i, i < n ∧ a = nI i
  · obtain ⟨i, hi, e⟩ := q
    subst e
    refine xr_ev1 n h ij wa f ph rd lim act sh lg pol tim b w _ i hn hi (br_f (by decide) ?_)
    by_cases q2 : ∃ j, j < n ∧ c = nI j
    · obtain ⟨j, hj, e⟩ := q2
      subst e
      refine xr_ev1 n h ij wa f ph rd lim act sh lg pol tim b w _ j hn hj (br_f (by decide) (br_c (fun _ => g) (fun z => ?_)))
      exact absurd ⟨i, j, hi, hj, fun y => z (by rw [y]), rfl, rfl⟩ ha
    · exact xr_ev0 n h ij wa f ph rd lim act sh lg pol tim b w _ c hn q2 (br_t rfl g)
  · exact xr_ev0 n h ij wa f ph rd lim act sh lg pol tim b w _ a hn q (br_t rfl g)

theorem xr_ct (post : Int32 → Prop) (e : Nat) (he : e < 6)
    (h0 : gq_ct act e = false → post 0) (h1 : gq_ct act e = true → post 1) :
    wpX_isContingent post (nI n, nI h, ij, wa, f, ph, rd, lim, act, sh, lg, pol, tim, b, w) (nI e) := xd_ct n h ij wa ph rd lim act sh lg pol tim post f b w e he h0 h1

theorem xr_run (post : Int32 → Prop) (c : Nat) (hc : c < 6) (ha : act c = nI (gq_ac act c)) (ha6 : gq_ac act c < 6)
    (h1 : tim c = -1 → ¬ tim (gq_ac act c) = -1 → post 1) (h0 : (¬ tim c = -1 ∨ tim (gq_ac act c) = -1) → post 0) :
    wpX_isRunning post (nI n, nI h, ij, wa, f, ph, rd, lim, act, sh, lg, pol, tim, b, w) (nI c) := by
  refine ⟨xd_i1 c hc, ?_⟩
  rw [xd_c1 c hc, ha, xd_c1 _ ha6]
  exact br_c (fun q => ⟨xd_i1 c hc, xd_i1 _ ha6, br_c (fun q2 => h0 (Or.inr q2)) (fun q2 => h1 q q2)⟩) (fun q => h0 (Or.inl q))

theorem xr_ela (post : Int32 → Prop) (c : Nat) (hc : c < 6) (ha : act c = nI (gq_ac act c)) (ha6 : gq_ac act c < 6)
    (g : post (rd - tim (gq_ac act c))) : wpX_elapsed post (nI n, nI h, ij, wa, f, ph, rd, lim, act, sh, lg, pol, tim, b, w) (nI c) := by
  refine ⟨xd_i1 c hc, ?_⟩
  rw [xd_c1 c hc, ha, xd_c1 _ ha6]
  exact ⟨xd_i1 _ ha6, g⟩

theorem xr_all (hn : n ≤ 6) (post : Int32 → Prop) (hT : ∀ e, e < n → tim e = -1 ∨ ∃ t, t ≤ 7 ∧ tim e = nI t)
    (h1 : gm_full n (gq_p tim) → post 1) (h0 : ¬ gm_full n (gq_p tim) → post 0) : wpX_allHaveTimes post (nI n, nI h, ij, wa, f, ph, rd, lim, act, sh, lg, pol, tim, b, w) := by
  refine loop_0 (fun m i (_ : Unit) => wX_allHaveTimes_2 post (nI n) (nI h) ij wa f ph rd lim act sh lg pol tim b w m (nI i))
    (fun i _ => ∀ e, e < i → gq_p tim e ≠ 100) n () (fun u hu => absurd hu (by omega)) ?_ ?_
  · intro m _ hs
    exact br_t (Int32.le_refl _) (h1 hs)
  · intro m i _ hi hs ih
    have hi6 : i < 6 := by omega
    refine br_f (nI_ge hi (by omega)) ⟨xd_i1 i hi6, ?_⟩
    rw [xd_c1 i hi6]
    refine br_c (fun q => h0 (fun z => z i hi (gq_p_n tim i q))) (fun q => nm_r (nI_1 i) (ih () (fun e he => ?_)))
    by_cases x : e = i
    · rw [x]
      rcases hT i hi with z | ⟨t, ht, z⟩
      · exact absurd z q
      · rw [gq_p_t tim i t (by omega) z]; omega
    · exact hs e (by omega)

theorem xr_soon (hn : n ≤ 6) (t : Nat) (ht : t ≤ 7) (hrd : rd = nI t) (post : Int32 → Prop)
    (hT : ∀ e, e < n → tim e = -1 ∨ ∃ t, t ≤ 7 ∧ tim e = nI t) (v e : Nat) (hv : v < n) (he : e < n)
    (g : ∀ r : Int32, r.toInt = gh_soon (gq_ct act) (gq_p tim) (t : Int) e v → post r) : wpX_soonest post (nI n, nI h, ij, wa, f, ph, rd, lim, act, sh, lg, pol, tim, b, w) (nI v) (nI e) := by
  have hv6 : v < 6 := by omega
  have t0 : rd.toInt = (t : Int) := by rw [hrd]; exact gq_nI t (by omega)
  have t1 : (rd + 1).toInt = (t : Int) + 1 := by
    have e1 : (1 : Int32).toInt = 1 := by decide
    rw [gn_add _ _ ⟨by omega, by omega⟩ ⟨by omega, by omega⟩, t0, e1]
  refine ⟨xd_i1 v hv6, ?_⟩
  rw [xd_c1 v hv6]
  refine br_c (fun q => ?_) (fun q => ⟨xd_i1 v hv6, g _ ?_⟩)
  · have p0 := gq_p_n tim v q
    refine br_c (fun q2 => g _ ?_) (fun q2 => ?_)
    · have x := (nI_leI (by omega) (by omega)).1 q2
      unfold gh_soon
      rw [if_neg (fun z => z p0), if_neg (by omega)]
      exact t1
    · have x : e < v := by
        by_cases z : e < v
        · exact z
        · exact absurd (nI_le (by omega) (by omega)) q2
      refine xr_ct n h ij wa f ph rd lim act sh lg pol tim b w _ v hv6 (fun z => br_t rfl (g _ ?_)) (fun z => br_f (by decide) (g _ ?_))
      · unfold gh_soon
        rw [if_neg (fun z => z p0), if_pos ⟨x, z⟩]
        exact t0
      · unfold gh_soon
        rw [if_neg (fun z => z p0), if_neg (fun y => by rw [z] at y; simp at y)]
        exact t1
  · rcases hT v hv with z | ⟨τ, hτ, z⟩
    · exact absurd z q
    · have p1 := gq_p_t tim v τ (by omega) z
      unfold gh_soon
      rw [if_pos (by rw [p1]; omega), p1, z]
      exact gq_nI τ (by omega)

theorem xr_can (hn : n ≤ 6) (hn1 : 1 ≤ n) (h0ct : gq_ct act 0 = false) (t : Nat) (ht : t ≤ 7) (hrd : rd = nI t) (post : Int32 → Prop)
    (hT : ∀ e, e < n → tim e = -1 ∨ ∃ t, t ≤ 7 ∧ tim e = nI t)
    (hA : ∀ k, k < n → gq_ct act k = true → act k = nI (gq_ac act k) ∧ gq_ac act k < n)
    (hB : ∀ u v, u < n → v < n → -7 ≤ gd_t b u v ∧ gd_t b u v ≤ 7) (e : Nat) (he : e < n)
    (h1 : gh_can n (gq_ct act) (gq_ac act) (gd_t b) (gd_t w) (gq_p tim) (t : Int) e → post 1)
    (h0 : ¬ gh_can n (gq_ct act) (gq_ac act) (gd_t b) (gd_t w) (gq_p tim) (t : Int) e → post 0) :
    wpX_canExecute post (nI n, nI h, ij, wa, f, ph, rd, lim, act, sh, lg, pol, tim, b, w) (nI e) := by
  have he6 : e < 6 := by omega
  have t0 : rd.toInt = (t : Int) := by rw [hrd]; exact gq_nI t (by omega)
  refine loop_0 (fun m i (_ : Unit) => wX_canExecute_2 post (nI e) (nI n) (nI h) ij wa f ph rd lim act sh lg pol tim b w m (nI i))
    (fun i _ => ∀ v, v < i → v ≠ e → gh_soon (gq_ct act) (gq_p tim) (t : Int) e v ≤ (t : Int) + gd_t b e v) n () (fun u hu => absurd hu (by omega)) ?_ ?_
  · intro m _ hs
    refine br_t (Int32.le_refl _) ?_
    refine pk_loop (fun m i (_ : Unit) => wX_canExecute_50 post (nI e) (nI n) (nI h) ij wa f ph rd lim act sh lg pol tim b w m (nI i))
      (fun i _ => ∀ c, c < i → gq_ct act c = true → gq_p tim c = 100 → gq_p tim (gq_ac act c) ≠ 100 → gd_t w c e ≤ (t : Int) - gq_p tim (gq_ac act c)) n 1 () hn1 ?_ ?_ ?_
    · intro c hc hcc
      have z : c = 0 := by omega
      rw [z, h0ct] at hcc
      simp at hcc
    · intro m _ hs2
      exact br_t (Int32.le_refl _) (h1 ⟨fun v hv hve => hs v hv hve, fun c hc => hs2 c hc⟩)
    · intro m c _ hc hs2 ih
      have hc6 : c < 6 := by omega
      have nx : (gq_ct act c = true → gq_p tim c = 100 → gq_p tim (gq_ac act c) ≠ 100 → gd_t w c e ≤ (t : Int) - gq_p tim (gq_ac act c)) →
          wX_canExecute_50 post (nI e) (nI n) (nI h) ij wa f ph rd lim act sh lg pol tim b w m (nI (c + 1)) := by
        intro z
        refine ih () (fun c' hc' => ?_)
        by_cases x : c' = c
        · rw [x]; exact z
        · exact hs2 c' (by omega)
      refine br_f (nI_ge hc (by omega)) (xr_ct n h ij wa f ph rd lim act sh lg pol tim b w _ c hc6 (fun z => ?_) (fun z => ?_))
      · exact br_t rfl (nm_r (nI_1 c) (nx (fun y => by rw [z] at y; simp at y)))
      · obtain ⟨a1, a2⟩ := hA c hc z
        have a6 : gq_ac act c < 6 := by omega
        refine br_f (by decide) (xr_run n h ij wa f ph rd lim act sh lg pol tim b w _ c hc6 a1 a6 (fun q1 q2 => ?_) (fun q => ?_))
        · refine br_f (by decide) (xr_ela n h ij wa f ph rd lim act sh lg pol tim b w _ c hc6 a1 a6 ⟨xd_in c e hc6 he6, ?_⟩)
          rw [xd_cl c e hc6 he6]
          rcases hT _ a2 with y | ⟨τ, hτ, y⟩
          · exact absurd y q2
          · have p1 := gq_p_t tim _ τ (by omega) y
            have er : (rd - tim (gq_ac act c)).toInt = (t : Int) - gq_p tim (gq_ac act c) := by
              have e2 := gq_nI τ (by omega)
              rw [y, gn_sub _ _ ⟨by omega, by omega⟩ ⟨by omega, by omega⟩, t0, p1, e2]
            refine br_c (fun q3 => nm_r (nI_1 c) (nx (fun _ _ _ => ?_))) (fun q3 => h0 (fun y2 => ?_))
            · have x := (gn_le _ _).1 q3
              rw [er] at x
              exact x
            · have x := (gn_lt _ _).1 (Int32.not_le.1 q3)
              rw [er] at x
              have x2 := y2.2 c hc z (gq_p_n tim c q1) (by rw [p1]; omega)
              unfold gd_t at x2
              omega
        · refine br_t rfl (nm_r (nI_1 c) (nx (fun _ y1 y2 => ?_)))
          rcases q with q | q
          · rcases hT c hc with y | ⟨τ, hτ, y⟩
            · exact absurd y q
            · rw [gq_p_t tim c τ (by omega) y] at y1; omega
          · exact absurd (gq_p_n tim _ q) y2
  · intro m v _ hv hs ih
    have hv6 : v < 6 := by omega
    have nx : (v ≠ e → gh_soon (gq_ct act) (gq_p tim) (t : Int) e v ≤ (t : Int) + gd_t b e v) → wX_canExecute_2 post (nI e) (nI n) (nI h) ij wa f ph rd lim act sh lg pol tim b w m (nI (v + 1)) := by
      intro z
      refine ih () (fun v' hv' => ?_)
      by_cases x : v' = v
      · rw [x]; exact z
      · exact hs v' (by omega)
    refine br_f (nI_ge hv (by omega)) (br_c (fun q => ?_) (fun q => ?_))
    · exact nm_r (nI_1 v) (nx (fun z => absurd ((nI_eq (by omega) (by omega)).1 q) z))
    · refine xr_soon n h ij wa f ph rd lim act sh lg pol tim b w hn t ht hrd _ hT v e hv he (fun r hr => ⟨xd_in e v he6 hv6, ?_⟩)
      rw [xd_cl e v he6 hv6]
      have r1 := hB e v he hv
      have er : (rd + b (e * 6 + v)).toInt = (t : Int) + gd_t b e v := by
        unfold gd_t at r1 ⊢
        rw [gn_add _ _ ⟨by omega, by omega⟩ ⟨by omega, by omega⟩, t0]
      refine br_c (fun q3 => nm_r (nI_1 v) (nx (fun _ => ?_))) (fun q3 => h0 (fun y => ?_))
      · have x := (gn_le _ _).1 q3
        rw [er, hr] at x
        exact x
      · have x := (gn_lt _ _).1 (Int32.not_le.1 q3)
        rw [er, hr] at x
        have x2 := y.1 v hv (fun z => q (by rw [z]))
        omega

theorem xr_dec (hn : n ≤ 6) (t : Nat) (ht : t ≤ 7) (hrd : rd = nI t) (post : Int32 → Prop)
    (hT : ∀ e, e < n → tim e = -1 ∨ ∃ t, t ≤ 7 ∧ tim e = nI t)
    (hB : ∀ u v, u < n → v < n → -7 ≤ gd_t b u v ∧ gd_t b u v ≤ 7) (e : Nat) (he : e < n)
    (h1 : gh_skip n (gd_t b) (gq_p tim) (t : Int) e → post 1) (h0 : ¬ gh_skip n (gd_t b) (gq_p tim) (t : Int) e → post 0) :
    wpX_canDecline post (nI n, nI h, ij, wa, f, ph, rd, lim, act, sh, lg, pol, tim, b, w) (nI e) := by
  have he6 : e < 6 := by omega
  have t0 : rd.toInt = (t : Int) := by rw [hrd]; exact gq_nI t (by omega)
  refine loop_0 (fun m i (_ : Unit) => wX_canDecline_2 post (nI e) (nI n) (nI h) ij wa f ph rd lim act sh lg pol tim b w m (nI i))
    (fun i _ => ∀ u, u < i → gq_p tim u ≠ 100 → (t : Int) < gq_p tim u + gd_t b u e) n () (fun u hu => absurd hu (by omega)) ?_ ?_
  · intro m _ hs
    exact br_t (Int32.le_refl _) (h1 hs)
  · intro m u _ hu hs ih
    have hu6 : u < 6 := by omega
    have nx : (gq_p tim u ≠ 100 → (t : Int) < gq_p tim u + gd_t b u e) → wX_canDecline_2 post (nI e) (nI n) (nI h) ij wa f ph rd lim act sh lg pol tim b w m (nI (u + 1)) := by
      intro z
      refine ih () (fun u' hu' => ?_)
      by_cases x : u' = u
      · rw [x]; exact z
      · exact hs u' (by omega)
    refine br_f (nI_ge hu (by omega)) ⟨xd_i1 u hu6, ?_⟩
    rw [xd_c1 u hu6, xd_cl u e hu6 he6]
    refine br_c (fun q => nm_r (nI_1 u) (nx (fun z => absurd (gq_p_n tim u q) z))) (fun q => ⟨xd_i1 u hu6, xd_in u e hu6 he6, ?_⟩)
    rcases hT u hu with y | ⟨τ, hτ, y⟩
    · exact absurd y q
    · have p1 := gq_p_t tim u τ (by omega) y
      have r1 := hB u e hu he
      have er : (tim u + b (u * 6 + e)).toInt = gq_p tim u + gd_t b u e := by
        have e2 := gq_nI τ (by omega)
        unfold gd_t at r1 ⊢
        rw [y, gn_add _ _ ⟨by omega, by omega⟩ ⟨by omega, by omega⟩, p1, e2]
      refine br_c (fun q3 => nm_r (nI_1 u) (nx (fun _ => ?_))) (fun q3 => h0 (fun z => ?_))
      · have x := (gn_lt _ _).1 q3
        rw [er, t0] at x
        exact x
      · have x2 := z u hu (by rw [p1]; omega)
        exact q3 ((gn_lt _ _).2 (by rw [er, t0]; exact x2))

theorem xr_now (hn : n ≤ 6) (hn1 : 1 ≤ n) (h0ct : gq_ct act 0 = false) (t : Nat) (ht : t ≤ 7) (hrd : rd = nI t) (post : Int32 → Prop)
    (hT : ∀ e, e < n → tim e = -1 ∨ ∃ t, t ≤ 7 ∧ tim e = nI t)
    (hA : ∀ k, k < n → gq_ct act k = true → act k = nI (gq_ac act k) ∧ gq_ac act k < n)
    (hB : ∀ u v, u < n → v < n → -7 ≤ gd_t b u v ∧ gd_t b u v ≤ 7) (e : Nat) (he : e < n)
    (e1 : pol e = 0 → gh_can n (gq_ct act) (gq_ac act) (gd_t b) (gd_t w) (gq_p tim) (t : Int) e → post 1)
    (e0 : pol e = 0 → ¬ gh_can n (gq_ct act) (gq_ac act) (gd_t b) (gd_t w) (gq_p tim) (t : Int) e → post 0)
    (z1 : ¬ pol e = 0 → gh_skip n (gd_t b) (gq_p tim) (t : Int) e → post 0)
    (z0 : ¬ pol e = 0 → ¬ gh_skip n (gd_t b) (gq_p tim) (t : Int) e → post 1) :
    wpX_isExecutedNow post (nI n, nI h, ij, wa, f, ph, rd, lim, act, sh, lg, pol, tim, b, w) (nI e) := by
  have he6 : e < 6 := by omega
  refine ⟨xd_i1 e he6, ?_⟩
  rw [xd_c1 e he6]
  refine br_c (fun q => ?_) (fun q => ?_)
  · exact xr_can n h ij wa f ph rd lim act sh lg pol tim b w hn hn1 h0ct t ht hrd _ hT hA hB e he
      (fun z => ⟨rfl, e1 q z⟩) (fun z => ⟨rfl, e0 q z⟩)
  · exact xr_dec n h ij wa f ph rd lim act sh lg pol tim b w hn t ht hrd _ hT hB e he
      (fun z => br_f (by decide) (z1 q z)) (fun z => br_t rfl (z0 q z))
end xr
end
section
-- a step of the program
section ox
variable (n h t : Nat) (ij wa f ph : Int32) (lim act sh lg pol b w : Nat → Int32)

def ox_tr (tim : Nat → Int32) : Prop := ∀ e, e < n → tim e = -1 ∨ ∃ τ, τ ≤ h ∧ tim e = nI τ

theorem ox_tr_u (tim : Nat → Int32) (hI : ox_tr n h tim) (c τ : Nat) (hτ : τ ≤ h) : ox_tr n h (upd tim c (nI τ)) := by
  intro e he
  by_cases q : e = c
  · rw [q, pk_us]; exact Or.inr ⟨τ, hτ, rfl⟩
  · rw [pk_un q]; exact hI e he

theorem ox_tr_T (h7 : h ≤ 7) (tim : Nat → Int32) (hI : ox_tr n h tim) : ∀ e, e < n → tim e = -1 ∨ ∃ t, t ≤ 7 ∧ tim e = nI t := by
  intro e he
  rcases hI e he with q | ⟨τ, a, q⟩
  · exact Or.inl q
  · exact Or.inr ⟨τ, by omega, q⟩

theorem ox_p_u (tim : Nat → Int32) (c τ : Nat) (hτ : τ < 1000000) : gq_p (upd tim c (nI τ)) = gm_set (gq_p tim) c (τ : Int) := by
  funext e
  by_cases q : e = c
  · rw [q, gm_set_s]; exact gq_p_t _ c τ hτ pk_us
  · rw [gm_set_n _ _ _ _ q]
    unfold gq_p
    rw [pk_un q]

theorem ox_out (hn : n ≤ 6) (h7 : h ≤ 7) (ht : t ≤ h) (hN : gm_net n h (gd_t lim) (gq_ct act) (gq_ac act) (gq_i sh) (gq_i lg))
    (hA : ∀ k, k < n → gq_ct act k = true → act k = nI (gq_ac act k) ∧ gq_ac act k < n) (T : Nat → Int) :
    ∀ d c, c + d = n → 1 ≤ c → ∀ (sum : Int32) (tim : Nat → Int32), ox_tr n h tim → gr_at n h (gd_t lim) (gq_ct act) (gq_ac act) (gq_i sh) (gq_i lg) t T (gq_p tim) →
      (∀ x, x < n → x < c → gq_ct act x = true → gq_p tim x = 100 → gq_p tim (gq_ac act x) ≠ 100 → (t : Int) ≠ gq_p tim (gq_ac act x) + gq_i lg x) →
      ∃ (sum' : Int32) (tim' : Nat → Int32), ox_tr n h tim' ∧ gr_at n h (gd_t lim) (gq_ct act) (gq_ac act) (gq_i sh) (gq_i lg) t T (gq_p tim') ∧
        (∀ x, x < n → gq_ct act x = true → gq_p tim' x = 100 → gq_p tim' (gq_ac act x) ≠ 100 → (t : Int) ≠ gq_p tim' (gq_ac act x) + gq_i lg x) ∧
        (∀ post : Int32 → St2 → Prop, post sum' (nI n, nI h, ij, wa, f, ph, nI t, lim, act, sh, lg, pol, tim', b, w) → wX_endOutcomes_4 post (nI n) (nI h) ij wa f ph (nI t) (d + 1) sum (nI c) lim act sh lg pol tim b w) := by
  intro d
  induction d with
  | zero =>
    intro c hc h1 sum tim htr hg hd
    have e : c = n := by omega
    subst e
    exact ⟨sum, tim, htr, hg, fun x hx => hd x hx hx, fun post g => br_t (Int32.le_refl _) g⟩
  | succ d ih =>
    intro c hc h1 sum tim htr hg hd
    have hcn : c < n := by omega
    have hc6 : c < 6 := by omega
    have hx : ¬ nI n ≤ nI c := nI_ge hcn (by omega)
    have keep := fun (z : gq_ct act c = true → gq_p tim c = 100 → gq_p tim (gq_ac act c) ≠ 100 → (t : Int) ≠ gq_p tim (gq_ac act c) + gq_i lg c) =>
      ih (c + 1) (by omega) (by omega) sum tim htr hg (fun x hxn hxc => by
        by_cases q : x = c
        · rw [q]; exact z
        · exact hd x hxn (by omega))
    cases hcc : gq_ct act c with
    | false =>
      obtain ⟨s', tim', r1, r2, r3, rX⟩ := keep (fun y => by rw [hcc] at y; simp at y)
      exact ⟨s', tim', r1, r2, r3, fun post g => br_f hx (xr_ct n h ij wa f ph (nI t) lim act sh lg pol tim b w _ c hc6
        (fun _ => br_t rfl (nm_r (nI_1 c) (rX post g))) (fun y => by rw [hcc] at y; simp at y))⟩
    | true =>
      obtain ⟨a1, a2⟩ := hA c hcn hcc
      have a6 : gq_ac act c < 6 := by omega
      have hno : ∀ y : Prop, gq_ct act c = false → y := fun y z => by rw [hcc] at z; simp at z
      have xgo : ∀ (post : Int32 → St2 → Prop), wpX_isRunning (fun r_20 => (r_20 = 0 → ∀ x2_37 : Int32, x2_37 = nI c + 1 → wX_endOutcomes_4 post (nI n) (nI h) ij wa f ph (nI t) (d + 1) sum x2_37 lim act sh lg pol tim b w) ∧ (¬ r_20 = 0 → wpX_elapsed (fun r_38 => vp_in (nI c) 6 ∧ (r_38 = lg (nI c).toNatClampNeg → vp_in (nI c) 6 ∧ ∀ a_times_58 : Nat → Int32, a_times_58 = upd tim (nI c).toNatClampNeg (nI t) → ∀ x1_59 : Int32, x1_59 = sum + ((1 : Int32) <<< (nI c &&& 31)) → ∀ x2_60 : Int32, x2_60 = nI c + 1 → wX_endOutcomes_4 post (nI n) (nI h) ij wa f ph (nI t) (d + 1) x1_59 x2_60 lim act sh lg pol a_times_58 b w) ∧ (¬ r_38 = lg (nI c).toNatClampNeg → ∀ x2_56 : Int32, x2_56 = nI c + 1 → wX_endOutcomes_4 post (nI n) (nI h) ij wa f ph (nI t) (d + 1) sum x2_56 lim act sh lg pol tim b w)) (nI n, nI h, ij, wa, f, ph, nI t, lim, act, sh, lg, pol, tim, b, w) (nI c))) (nI n, nI h, ij, wa, f, ph, nI t, lim, act, sh, lg, pol, tim, b, w) (nI c) →
          wX_endOutcomes_4 post (nI n) (nI h) ij wa f ph (nI t) (d + 1 + 1) sum (nI c) lim act sh lg pol tim b w := fun post g =>
        br_f hx (xr_ct n h ij wa f ph (nI t) lim act sh lg pol tim b w _ c hc6 (fun z => hno _ z) (fun _ => br_f (by decide) g))
      rcases htr c hcn with q | ⟨τ, hτ, q⟩
      · have pc := gq_p_n tim c q
        rcases htr _ a2 with qa | ⟨σ, hσ, qa⟩
        · have pa := gq_p_n tim _ qa
          obtain ⟨s', tim', r1, r2, r3, rX⟩ := keep (fun _ _ y => absurd pa y)
          exact ⟨s', tim', r1, r2, r3, fun post g => xgo post (xr_run n h ij wa f ph (nI t) lim act sh lg pol tim b w _ c hc6 a1 a6
            (fun _ y => absurd qa y) (fun _ => br_t rfl (nm_r (nI_1 c) (rX post g))))⟩
        · have pa := gq_p_t tim _ σ (by omega) qa
          have qa' : ¬ tim (gq_ac act c) = -1 := by rw [qa]; exact gq_nIm σ (by omega)
          have es : (nI t - nI σ).toInt = (t : Int) - (σ : Int) := pk_sub_toInt (by omega) (by omega)
          by_cases hdue : nI t - nI σ = lg c
          · have hdi : (t : Int) - (σ : Int) = gq_i lg c := by rw [← es, hdue]; rfl
            have bnd := hN.2.2.2.2.2.2 c hcn hcc
            have hg' : gr_at n h (gd_t lim) (gq_ct act) (gq_ac act) (gq_i sh) (gq_i lg) t T (gq_p (upd tim c (nI t))) := by
              rw [ox_p_u tim c t (by omega)]
              exact gr_rev n h (gd_t lim) (gq_ct act) (gq_ac act) (gq_i sh) (gq_i lg) hN t T (gq_p tim) hg c hcn hcc pc (by rw [pa]; omega) (by rw [pa]; omega)
            obtain ⟨s', tim', r1, r2, r3, rX⟩ := ih (c + 1) (by omega) (by omega) (sum + ((1 : Int32) <<< (nI c &&& 31))) (upd tim c (nI t))
              (ox_tr_u n h tim htr c t ht) hg' (fun x hxn hxc hxt hp1 hp2 => by
                rw [ox_p_u tim c t (by omega)] at hp1 hp2 ⊢
                by_cases qx : x = c
                · rw [qx, gm_set_s] at hp1; omega
                · rw [gm_set_n _ _ _ _ qx] at hp1
                  have bx := hN.2.2.2.2.2.2 x hxn hxt
                  by_cases qa : gq_ac act x = c
                  · rw [qa, gm_set_s]; omega
                  · rw [gm_set_n _ _ _ _ qa] at hp2 ⊢
                    exact hd x hxn (by omega) hxt hp1 hp2)
            refine ⟨s', tim', r1, r2, r3, fun post g => xgo post (xr_run n h ij wa f ph (nI t) lim act sh lg pol tim b w _ c hc6 a1 a6
              (fun _ _ => br_f (by decide) (xr_ela n h ij wa f ph (nI t) lim act sh lg pol tim b w _ c hc6 a1 a6 ⟨xd_i1 c hc6, ?_⟩))
              (fun y => by
                rcases y with y | y
                · exact absurd q y
                · exact absurd y qa'))⟩
            rw [xd_c1 c hc6, qa]
            exact br_t hdue ⟨xd_i1 c hc6, nm_e (nm_e (nm_r (nI_1 c) (rX post g)))⟩
          · obtain ⟨s', tim', r1, r2, r3, rX⟩ := keep (fun _ _ _ y => hdue (gq_inj (by
              rw [es]
              rw [pa] at y
              show (t : Int) - (σ : Int) = gq_i lg c
              omega)))
            refine ⟨s', tim', r1, r2, r3, fun post g => xgo post (xr_run n h ij wa f ph (nI t) lim act sh lg pol tim b w _ c hc6 a1 a6
              (fun _ _ => br_f (by decide) (xr_ela n h ij wa f ph (nI t) lim act sh lg pol tim b w _ c hc6 a1 a6 ⟨xd_i1 c hc6, ?_⟩))
              (fun y => by
                rcases y with y | y
                · exact absurd q y
                · exact absurd y qa'))⟩
            rw [xd_c1 c hc6, qa]
            exact br_f hdue (nm_r (nI_1 c) (rX post g))
      · have pc := gq_p_t tim c τ (by omega) q
        obtain ⟨s', tim', r1, r2, r3, rX⟩ := keep (fun _ y => by rw [pc] at y; omega)
        exact ⟨s', tim', r1, r2, r3, fun post g => xgo post (xr_run n h ij wa f ph (nI t) lim act sh lg pol tim b w _ c hc6 a1 a6
          (fun y => by rw [q] at y; exact absurd y (gq_nIm τ (by omega))) (fun _ => br_t rfl (nm_r (nI_1 c) (rX post g))))⟩

theorem ox_cho (hn : n ≤ 6) (hn1 : 1 ≤ n) (h7 : h ≤ 7) (ht : t ≤ h) (hN : gm_net n h (gd_t lim) (gq_ct act) (gq_ac act) (gq_i sh) (gq_i lg))
    (hA : ∀ k, k < n → gq_ct act k = true → act k = nI (gq_ac act k) ∧ gq_ac act k < n)
    (hX : gc_fix n (gd_t lim) (gq_ct act) (gq_ac act) (gq_i sh) (gq_i lg) (gd_t b) (gd_t w)) (hS : gs_snd n h (gd_t lim) (gq_ct act) (gq_ac act) (gq_i sh) (gq_i lg) (gd_t b) (gd_t w))
    (hB : ∀ u v, u < n → v < n → -7 ≤ gd_t b u v ∧ gd_t b u v ≤ 7) :
    ∀ d e, e + d = n → 1 ≤ e → ∀ (sx : Int32) (tim : Nat → Int32), ox_tr n h tim →
      (∃ T, gm_sp n h (gd_t lim) (gq_ct act) (gq_ac act) (gq_i sh) (gq_i lg) T ∧ ∀ x, x < n → gm_pos (gq_ct act) T (12 * t + 6 + e) x = gq_p tim x) →
      ∃ (sx' : Int32) (tim' : Nat → Int32), ox_tr n h tim' ∧
        (∃ T, gm_sp n h (gd_t lim) (gq_ct act) (gq_ac act) (gq_i sh) (gq_i lg) T ∧ ∀ x, x < n → gm_pos (gq_ct act) T (12 * t + 6 + n) x = gq_p tim' x) ∧
        (∀ post : Int32 → St2 → Prop, post sx' (nI n, nI h, ij, wa, f, ph, nI t, lim, act, sh, lg, pol, tim', b, w) → wX_makeChoices_4 post (nI n) (nI h) ij wa f ph (nI t) (d + 1) sx (nI e) lim act sh lg pol tim b w) := by
  intro d
  induction d with
  | zero =>
    intro e he h1 sx tim htr hg
    have q : e = n := by omega
    subst q
    exact ⟨sx, tim, htr, hg, fun post g => br_t (Int32.le_refl _) g⟩
  | succ d ih =>
    intro e he h1 sx tim htr hg
    have hen : e < n := by omega
    have he6 : e < 6 := by omega
    have hx : ¬ nI n ≤ nI e := nI_ge hen (by omega)
    have h0ct := hN.2.2.2.1
    obtain ⟨T0, hT0, hpos⟩ := hg
    have s6 : (12 * t + 6 + e) % 6 = e := by omega
    have s12 : 6 ≤ (12 * t + 6 + e) % 12 := by omega
    have sd : (12 * t + 6 + e) / 12 = t := by omega
    cases hcc : gq_ct act e with
    | true =>
      obtain ⟨sx', tim', r1, r2, rX⟩ := ih (e + 1) (by omega) (by omega) sx tim htr
        ⟨T0, hT0, gr_skip n h (gd_t lim) (gq_ct act) (gq_ac act) (gq_i sh) (gq_i lg) hN (12 * t + 6 + e) s12 T0 (gq_p tim) hT0 hpos (Or.inr (Or.inr (Or.inl (by rw [s6]; exact hcc))))⟩
      exact ⟨sx', tim', r1, r2, fun post g => br_f hx (xr_ct n h ij wa f ph (nI t) lim act sh lg pol tim b w _ e he6
        (fun y => by rw [hcc] at y; simp at y) (fun _ => br_f (by decide) (nm_r (nI_1 e) (rX post g))))⟩
    | false =>
      rcases htr e hen with q | ⟨τ, hτ, q⟩
      · have pe := gq_p_n tim e q
        have ms : 12 * t + 6 + e + (12 * (h + 1) - (12 * t + 6 + e) - 1 + 1) = 12 * (h + 1) := by omega
        generalize 12 * (h + 1) - (12 * t + 6 + e) - 1 = m at ms
        have ci := gh_can_iff n h (gd_t lim) (gq_ct act) (gq_ac act) (gq_i sh) (gq_i lg) (gd_t b) (gd_t w) hN hX hS m (12 * t + 6 + e) ms T0 hT0 e s6.symm (by omega) hen hcc s12 (t : Int) (by rw [sd]) (gq_p tim) hpos pe
        have si := gh_skip_iff n h (gd_t lim) (gq_ct act) (gq_ac act) (gq_i sh) (gq_i lg) (gd_t b) (gd_t w) hN hX hS m (12 * t + 6 + e) ms T0 hT0 e s6.symm (by omega) hen hcc s12 (t : Int) (by rw [sd]) (gq_p tim) hpos pe
        have one := gh_one n h (gd_t lim) (gq_ct act) (gq_ac act) (gq_i sh) (gq_i lg) hN m (12 * t + 6 + e) ms T0 hT0 (by rw [s6]; omega) (by rw [s6]; exact hen) (by rw [s6]; exact hcc) s12 (gq_p tim) hpos (by rw [s6]; exact pe)
        rw [s6, sd] at one
        have nxt := fun q hq hv => gs_next n h (gd_t lim) (gq_ct act) (gq_ac act) (gq_i sh) (gq_i lg) hN m (12 * t + 6 + e) ms T0 hT0 (by rw [s6]; omega) (by rw [s6]; exact hen) (by rw [s6]; exact hcc) s12 (gq_p tim) hpos (by rw [s6]; exact pe) q hq hv
        rw [s6, sd] at nxt
        have hT := ox_tr_T n h h7 tim htr
        have yes := fun hv : gm_val n (gd_t lim) (gq_ct act) (gq_ac act) (gq_i sh) (gq_i lg) m (12 * t + 6 + e + 1) (gm_set (gq_p tim) e (t : Int)) =>
          ih (e + 1) (by omega) (by omega) (sx + ((1 : Int32) <<< (nI e &&& 31))) (upd tim e (nI t))
            (ox_tr_u n h tim htr e t ht) (by
              obtain ⟨T, t1, t2, _⟩ := nxt _ (Or.inr rfl) hv
              exact ⟨T, t1, fun x hx => by rw [ox_p_u tim e t (by omega)]; exact t2 x hx⟩)
        have no := fun hv : gm_val n (gd_t lim) (gq_ct act) (gq_ac act) (gq_i sh) (gq_i lg) m (12 * t + 6 + e + 1) (gq_p tim) =>
          ih (e + 1) (by omega) (by omega) sx tim htr (by
              obtain ⟨T, t1, t2, _⟩ := nxt _ (Or.inl rfl) hv
              exact ⟨T, t1, t2⟩)
        have go : ∀ post : Int32 → St2 → Prop, wpX_isExecutedNow (fun r_23 => (r_23 = 0 → ∀ x2_40 : Int32, x2_40 = nI e + 1 → wX_makeChoices_4 post (nI n) (nI h) ij wa f ph (nI t) (d + 1) sx x2_40 lim act sh lg pol tim b w) ∧ (¬ r_23 = 0 → vp_in (nI e) 6 ∧ ∀ a : Nat → Int32, a = upd tim e (nI t) → ∀ x1 : Int32, x1 = sx + ((1 : Int32) <<< (nI e &&& 31)) → ∀ x2 : Int32, x2 = nI e + 1 → wX_makeChoices_4 post (nI n) (nI h) ij wa f ph (nI t) (d + 1) x1 x2 lim act sh lg pol a b w)) (nI n, nI h, ij, wa, f, ph, nI t, lim, act, sh, lg, pol, tim, b, w) (nI e) →
            wX_makeChoices_4 post (nI n) (nI h) ij wa f ph (nI t) (d + 1 + 1) sx (nI e) lim act sh lg pol tim b w := by
          intro post g
          refine br_f hx (xr_ct n h ij wa f ph (nI t) lim act sh lg pol tim b w _ e he6 (fun _ => br_t rfl ⟨xd_i1 e he6, ?_⟩) (fun y => by rw [hcc] at y; simp at y))
          rw [xd_c1 e he6]
          exact br_t q g
        by_cases hp : pol e = 0
        · by_cases hc : gh_can n (gq_ct act) (gq_ac act) (gd_t b) (gd_t w) (gq_p tim) (t : Int) e
          · obtain ⟨sx', tim', r1, r2, rX⟩ := yes (ci.2 hc)
            exact ⟨sx', tim', r1, r2, fun post g => go post (xr_now n h ij wa f ph (nI t) lim act sh lg pol tim b w hn hn1 h0ct t (by omega) rfl _ hT hA hB e hen
              (fun _ _ => br_f (by decide) ⟨xd_i1 e he6, nm_e (nm_e (nm_r (nI_1 e) (rX post g)))⟩)
              (fun _ z => absurd hc z) (fun z => absurd hp z) (fun z => absurd hp z))⟩
          · obtain ⟨sx', tim', r1, r2, rX⟩ := no (one.resolve_left (fun z => hc (ci.1 z)))
            exact ⟨sx', tim', r1, r2, fun post g => go post (xr_now n h ij wa f ph (nI t) lim act sh lg pol tim b w hn hn1 h0ct t (by omega) rfl _ hT hA hB e hen
              (fun _ z => absurd z hc) (fun _ _ => br_t rfl (nm_r (nI_1 e) (rX post g))) (fun z => absurd hp z) (fun z => absurd hp z))⟩
        · by_cases hc : gh_skip n (gd_t b) (gq_p tim) (t : Int) e
          · obtain ⟨sx', tim', r1, r2, rX⟩ := no (si.2 hc)
            exact ⟨sx', tim', r1, r2, fun post g => go post (xr_now n h ij wa f ph (nI t) lim act sh lg pol tim b w hn hn1 h0ct t (by omega) rfl _ hT hA hB e hen
              (fun z => absurd z hp) (fun z => absurd z hp) (fun _ _ => br_t rfl (nm_r (nI_1 e) (rX post g))) (fun _ z => absurd hc z))⟩
          · obtain ⟨sx', tim', r1, r2, rX⟩ := yes (one.resolve_right (fun z => hc (si.1 z)))
            exact ⟨sx', tim', r1, r2, fun post g => go post (xr_now n h ij wa f ph (nI t) lim act sh lg pol tim b w hn hn1 h0ct t (by omega) rfl _ hT hA hB e hen
              (fun z => absurd z hp) (fun z => absurd z hp) (fun _ z => absurd z hc)
              (fun _ _ => br_f (by decide) ⟨xd_i1 e he6, nm_e (nm_e (nm_r (nI_1 e) (rX post g)))⟩))⟩
      · have pe := gq_p_t tim e τ (by omega) q
        obtain ⟨sx', tim', r1, r2, rX⟩ := ih (e + 1) (by omega) (by omega) sx tim htr
          ⟨T0, hT0, gr_skip n h (gd_t lim) (gq_ct act) (gq_ac act) (gq_i sh) (gq_i lg) hN (12 * t + 6 + e) s12 T0 (gq_p tim) hT0 hpos (Or.inr (Or.inr (Or.inr (by rw [s6, pe]; omega))))⟩
        refine ⟨sx', tim', r1, r2, fun post g => br_f hx (xr_ct n h ij wa f ph (nI t) lim act sh lg pol tim b w _ e he6
          (fun _ => br_t rfl ⟨xd_i1 e he6, ?_⟩) (fun y => by rw [hcc] at y; simp at y))⟩
        rw [xd_c1 e he6]
        exact br_f (by rw [q]; exact gq_nIm τ (by omega)) (nm_r (nI_1 e) (rX post g))

/-- a step, from outcomes revealed to the next round or the end -/
theorem ox_step (hn : n ≤ 6) (hn1 : 1 ≤ n) (h7 : h ≤ 7) (ht : t ≤ h) (hN : gm_net n h (gd_t lim) (gq_ct act) (gq_ac act) (gq_i sh) (gq_i lg))
    (hA : ∀ k, k < n → gq_ct act k = true → act k = nI (gq_ac act k) ∧ gq_ac act k < n)
    (hX : gc_fix n (gd_t lim) (gq_ct act) (gq_ac act) (gq_i sh) (gq_i lg) (gd_t b) (gd_t w)) (hS : gs_snd n h (gd_t lim) (gq_ct act) (gq_ac act) (gq_i sh) (gq_i lg) (gd_t b) (gd_t w))
    (hB : ∀ u v, u < n → v < n → -7 ≤ gd_t b u v ∧ gd_t b u v ≤ 7) (tim : Nat → Int32) (htr : ox_tr n h tim) (T : Nat → Int) (hg : gr_at n h (gd_t lim) (gq_ct act) (gq_ac act) (gq_i sh) (gq_i lg) t T (gq_p tim))
    (post : Int32 → St2 → Prop)
    (hd : ∀ r tim', ox_tr n h tim' → (∃ T, gm_sp n h (gd_t lim) (gq_ct act) (gq_ac act) (gq_i sh) (gq_i lg) T ∧ ∀ e, e < n → gq_p tim' e = T e) → post r (nI n, nI h, ij, wa, f, 2, nI t, lim, act, sh, lg, pol, tim', b, w))
    (hr : t < h → ∀ r tim', ox_tr n h tim' → (∃ T, gm_sp n h (gd_t lim) (gq_ct act) (gq_ac act) (gq_i sh) (gq_i lg) T ∧ ∀ e, e < n → gm_pos (gq_ct act) T (12 * (t + 1)) e = gq_p tim' e) → post r (nI n, nI h, ij, wa, f, 1, nI (t + 1), lim, act, sh, lg, pol, tim', b, w)) :
    wpX_step post (nI n, nI h, ij, wa, f, 1, nI t, lim, act, sh, lg, pol, tim, b, w) := by
  have h0ct := hN.2.2.2.1
  obtain ⟨ov, tim1, r1, r2, r3, rX⟩ := ox_out n h t ij wa f 1 lim act sh lg pol b w hn h7 ht hN hA T (n - 1) 1 (by omega) (by omega) 0 tim htr hg (fun x _ hx1 hxc => by
    have e : x = 0 := by omega
    rw [e, h0ct] at hxc
    simp at hxc)
  obtain ⟨T1, t1, t2⟩ := gr_out n h (gd_t lim) (gq_ct act) (gq_ac act) (gq_i sh) (gq_i lg) hN t ht T (gq_p tim1) r2 r3
  have t3 := gr_skip n h (gd_t lim) (gq_ct act) (gq_ac act) (gq_i sh) (gq_i lg) hN (12 * t + 6) (by omega) T1 (gq_p tim1) t1 t2 (Or.inl (by omega))
  obtain ⟨sx, tim2, s1, ⟨T2, s2, s3⟩, sX⟩ := ox_cho n h t ij wa f 1 lim act sh lg pol b w hn hn1 h7 ht hN hA hX hS hB (n - 1) 1 (by omega) (by omega) 0 tim1 r1 ⟨T1, t1, t3⟩
  unfold wpX_step
  dsimp only
  refine br_t rfl ⟨n - 1 + 1, rX _ ⟨n - 1 + 1, sX _ ?_⟩⟩
  refine xr_all n h ij wa f 1 (nI t) lim act sh lg pol tim2 b w hn _ (ox_tr_T n h h7 tim2 s1) (fun hfull => br_f (by decide) ?_) (fun hnf => br_t rfl (br_c (fun e => ?_) (fun e => nm_r (nI_1 t) ?_)))
  · refine hd _ tim2 s1 ⟨T2, s2, fun e he => ?_⟩
    have y := s3 e he
    have z := hfull e he
    unfold gm_pos at y
    by_cases q : gm_stp (gq_ct act) e (T2 e) < ((12 * t + 6 + n : Nat) : Int)
    · rw [if_pos q] at y; exact y.symm
    · rw [if_neg q] at y; exact absurd y.symm z
  · have et : t = h := (nI_eq (by omega) (by omega)).1 e
    refine hd _ tim2 s1 ⟨T2, s2, fun e he => ?_⟩
    have y := s3 e he
    have tt := s2.2.1 e he
    unfold gm_pos at y
    have q : gm_stp (gq_ct act) e (T2 e) < ((12 * t + 6 + n : Nat) : Int) := by
      by_cases e0 : e = 0
      · rw [e0, gm_stp_0]; omega
      · cases hc : gq_ct act e with
        | true => rw [gm_stp_t _ e _ e0 hc]; omega
        | false => rw [gm_stp_f _ e _ e0 hc]; omega
    rw [if_pos q] at y
    exact y.symm
  · have tne : t ≠ h := fun z => e (by rw [z])
    refine hr (by omega) _ tim2 s1 ⟨T2, s2, fun x hx => ?_⟩
    have gn := gr_next n h (gd_t lim) (gq_ct act) (gq_ac act) (gq_i sh) (gq_i lg) hN t T2 (gq_p tim2) s2 s3
    obtain ⟨_, p0, pa, pb⟩ := gn
    rw [← s3 x hx]
    unfold gm_pos
    by_cases e0 : x = 0
    · rw [e0, gm_stp_0, if_pos (by omega), if_pos (by omega)]
    · have sb := gm_stp_b (gq_ct act) x (T2 x) e0 (by omega)
      by_cases q : T2 x ≤ (t : Int)
      · have q2 : gm_stp (gq_ct act) x (T2 x) < ((12 * t + 6 + n : Nat) : Int) := by
          cases hc : gq_ct act x with
          | true => rw [gm_stp_t _ x _ e0 hc]; omega
          | false => rw [gm_stp_f _ x _ e0 hc]; omega
        rw [if_pos (by omega), if_pos q2]
      · rw [if_neg (by omega), if_neg (by omega)]
end ox
end
section
-- the calls on the program alone
section zf
variable (n h t : Nat) (ij wa f ph : Int32) (lim act sh lg pol tim b w : Nat → Int32)

theorem zf_ti (post : St2 → Prop) (u v : Nat) (most : Int32) (hu : u < 6) (hv : v < 6)
    (h1 : lim (u * 6 + v) ≤ most → post (nI n, nI h, ij, wa, f, ph, nI t, lim, act, sh, lg, pol, tim, b, w))
    (h2 : ¬ lim (u * 6 + v) ≤ most → post (nI n, nI h, ij, wa, f, ph, nI t, upd lim (u * 6 + v) most, act, sh, lg, pol, tim, b, w)) :
    wpX_tighten post (nI n, nI h, ij, wa, f, ph, nI t, lim, act, sh, lg, pol, tim, b, w) (nI u) (nI v) most := by
  have hi := xd_in u v hu hv
  have hc := xd_cl u v hu hv
  unfold wpX_tighten
  dsimp only
  rw [hc]
  exact ⟨hi, h1, fun hn => ⟨hi, fun a ea => by rw [ea]; exact h2 hn⟩⟩

theorem zf_lo (post : St2 → Prop) (u v : Nat) (hu : u < 6) (hv : v < 6)
    (g : post (nI n, nI h, ij, wa, f, ph, nI t, upd lim (u * 6 + v) (if v = 0 then 0 else nI h), act, sh, lg, pol, tim, b, w)) :
    wpX_loosen post (nI n, nI h, ij, wa, f, ph, nI t, lim, act, sh, lg, pol, tim, b, w) (nI u) (nI v) := by
  have hi := xd_in u v hu hv
  have hc := xd_cl u v hu hv
  unfold wpX_loosen
  dsimp only
  rw [hc]
  refine br_c (fun q => ⟨hi, nm_e ?_⟩) (fun q => ⟨hi, nm_e ?_⟩)
  · have e : v = 0 := (nI_eq (b := 0) (by omega) (by omega)).1 q
    rw [if_pos e] at g
    exact g
  · have e : ¬ v = 0 := fun z => q (by rw [z]; rfl)
    rw [if_neg e] at g
    exact g
end zf

section zg
variable (n h t : Nat) (ij wa f ph : Int32) (lim act sh lg pol tim b w : Nat → Int32)

theorem zg_dep (hn : n ≤ 6) (hn0 : 0 < n) (h0 : gq_ct act 0 = false)
    (hA : ∀ k, k < n → gq_ct act k = true → act k = nI (gq_ac act k) ∧ gq_ac act k < n)
    (post : Int32 → Prop) (a c : Nat) (ha : a < n) (hc : c < n)
    (h1 : (∃ m, gw_at (gq_ct act) (gq_ac act) a m = c) → post 1) (hz : (∀ m, gw_at (gq_ct act) (gq_ac act) a m ≠ c) → post 0) :
    wpX_dependsOn post (nI n, nI h, ij, wa, f, ph, nI t, lim, act, sh, lg, pol, tim, b, w) (nI a) (nI c) := by
  have hac : ∀ c, c < n → gq_ct act c = true → gq_ac act c < n := fun c hc hcc => (hA c hc hcc).2
  have hlt := gw_lt n (gq_ct act) (gq_ac act) hac a ha
  refine loop_0 (fun m i (_ : Unit) => wX_dependsOn_5 post (nI c) (nI n) (nI h) ij wa f ph (nI t) lim act sh lg pol tim b w m (nI (gw_at (gq_ct act) (gq_ac act) a i)) (nI i))
    (fun i _ => ∀ k, k < i → gw_at (gq_ct act) (gq_ac act) a k ≠ c ∧ gq_ct act (gw_at (gq_ct act) (gq_ac act) a k) = true) n () (fun k hk => absurd hk (by omega)) ?_ ?_
  · intro m _ hs
    refine br_t (Int32.le_refl _) (hz (fun m => ?_))
    obtain ⟨k, hk, e⟩ := gw_round n (gq_ct act) (gq_ac act) hac hn0 h0 a ha (fun k hk => (hs k hk).2) m
    rw [e]; exact (hs k hk).1
  · intro m i _ hi hs ih
    have hx := hlt i
    have hx6 : gw_at (gq_ct act) (gq_ac act) a i < 6 := by omega
    refine br_f (nI_ge hi (by omega)) (br_c (fun q => h1 ⟨i, (nI_eq (by omega) (by omega)).1 q⟩) (fun q => ?_))
    have hne : gw_at (gq_ct act) (gq_ac act) a i ≠ c := fun z => q (by rw [z])
    refine xr_ct n h ij wa f ph (nI t) lim act sh lg pol tim b w _ _ hx6 (fun z => br_t rfl (hz (fun m => ?_))) (fun z => br_f (by decide) ⟨xd_i1 _ hx6, ?_⟩)
    · by_cases hm : m < i
      · exact (hs m hm).1
      · obtain ⟨d, hd⟩ : ∃ d, m = i + d := ⟨m - i, by omega⟩
        rw [hd, gw_root (gq_ct act) (gq_ac act) a i z d]; exact hne
    · rw [xd_c1 _ hx6, (hA _ hx z).1]
      have en : nI (gq_ac act (gw_at (gq_ct act) (gq_ac act) a i)) = nI (gw_at (gq_ct act) (gq_ac act) a (i + 1)) := by
        show _ = nI (gw_next (gq_ct act) (gq_ac act) (gw_at (gq_ct act) (gq_ac act) a i))
        unfold gw_next
        rw [if_pos z]
      refine nm_r en (nm_r (nI_1 i) (ih () (fun k hk => ?_)))
      by_cases e : k = i
      · rw [e]; exact ⟨hne, z⟩
      · exact hs k (by omega)

end zg
section zh
variable (n h t : Nat) (ij wa f ph : Int32) (lim act sh lg pol tim b w : Nat → Int32)

theorem zh_enter (hn : n ≤ 6) (post : St2 → Prop) (g : ∀ tim', (∀ e, e < n → tim' e = -1) → post (nI n, nI h, ij, wa, f, 0, 0, lim, act, sh, lg, pol, tim', b, w)) :
    wpX_enterLoad post (nI n, nI h, ij, wa, f, ph, nI t, lim, act, sh, lg, pol, tim, b, w) := by
  refine loop_0 (fun m i (tim : Nat → Int32) => wX_enterLoad_12 post (nI n) (nI h) ij wa f 0 0 m (nI i) lim act sh lg pol tim b w) (fun i tim => ∀ e, e < i → tim e = -1) n tim
    (fun e he => absurd he (by omega)) ?_ ?_
  · intro m tim hs
    exact br_t (Int32.le_refl _) (g tim hs)
  · intro m i tim hi hs ih
    have hi6 : i < 6 := by omega
    refine br_f (nI_ge hi (by omega)) ⟨xd_i1 i hi6, ?_⟩
    rw [xd_c1 i hi6]
    refine nm_e (nm_r (nI_1 i) (ih _ (fun e he => ?_)))
    by_cases q : e = i
    · rw [q, pk_us]
    · rw [pk_un q]; exact hs e (by omega)

end zh

section ol
variable (n h : Nat)

def ol_lim (lim : Nat → Int32) : Prop :=
  (∀ u v, u < n → v < n → -(h : Int) ≤ gd_t lim u v ∧ gd_t lim u v ≤ (h : Int)) ∧ (∀ u, u < n → u ≠ 0 → gd_t lim u 0 ≤ 0)

theorem ol_lim_u (hn : n ≤ 6) (lim : Nat → Int32) (hI : ol_lim n h lim) (u v : Nat) (hv : v < n) (x : Int32)
    (hx : -(h : Int) ≤ x.toInt ∧ x.toInt ≤ (h : Int)) (h0 : v = 0 → x.toInt ≤ 0) : ol_lim n h (upd lim (u * 6 + v) x) := by
  obtain ⟨i2, i3⟩ := hI
  refine ⟨fun a c ha hc => ?_, fun a ha ha0 => ?_⟩
  · rcases gd_cell lim u v a c x (by omega) (by omega) with ⟨_, _, e3⟩ | ⟨_, e3⟩
    · rw [e3]; exact hx
    · rw [e3]; exact i2 a c ha hc
  · rcases gd_cell lim u v a 0 x (by omega) (by omega) with ⟨_, e2, e3⟩ | ⟨_, e3⟩
    · rw [e3]; exact h0 e2.symm
    · rw [e3]; exact i3 a ha ha0

def ol_lk (act sh lg : Nat → Int32) : Prop :=
  act 0 = -1 ∧ (∀ c, c < n → act c = -1 ∨ ∃ a, a < n ∧ a ≠ c ∧ act c = nI a ∧ 1 ≤ (sh c).toInt ∧ (sh c).toInt ≤ (lg c).toInt ∧ (lg c).toInt ≤ (h : Int))

theorem ol_net (h3 : 3 ≤ n) (h6 : n ≤ 6) (h7 : h ≤ 7) (lim act sh lg : Nat → Int32) (hL : ol_lim n h lim) (hK : ol_lk n h act sh lg) :
    gm_net n h (gd_t lim) (gq_ct act) (gq_ac act) (gq_i sh) (gq_i lg) := by
  refine ⟨by omega, h6, h7, gq_ct_n act 0 hK.1, hL.2, fun u v hu hv => (hL.1 u v hu hv).2, fun c hc hcc => ?_⟩
  rcases hK.2 c hc with q | ⟨a, q1, q2, q3, q4, q5, q6⟩
  · exact absurd q (gq_ct_t act c hcc)
  · have e : gq_ac act c = a := by
      unfold gq_ac
      rw [q3]
      exact nI_clamp (by omega)
    rw [e]
    exact ⟨q1, q2, q4, q5, q6⟩

/-- LOAD -/
def ol_ld (u : St2) : Prop :=
  ∃ (ij wa f : Int32) (lim act sh lg pol tim b w : Nat → Int32), u = (nI n, nI h, ij, wa, f, 0, nI 0, lim, act, sh, lg, pol, tim, b, w) ∧ ol_lim n h lim ∧ ol_lk n h act sh lg ∧
    (∀ e, e < n → tim e = -1) ∧ (wa = 0 ∨ wa = 1) ∧ (ij = 0 ∨ (ij = 1 ∧ gv_jud n h (gd_t lim) (gq_ct act) (gq_ac act) (gq_i sh) (gq_i lg) wa b w))

theorem ol_addReq (h3 : 3 ≤ n) (h6 : n ≤ 6) (hh : 3 ≤ h) (h7 : h ≤ 7) (u : St2) (I : ol_ld n h u) (post : Int32 → St2 → Prop) (g : ∀ r u', ol_ld n h u' → post r u')
    (v1 v2 v3 v4 : Int32) : wpX_addRequirement post u v1 v2 v3 v4 := by
  have I0 := I
  obtain ⟨ij, wa, f, lim, act, sh, lg, pol, tim, b, w, rfl, hL, hK, hT, hw, hJ⟩ := I
  unfold wpX_addRequirement
  dsimp only
  refine br_t rfl ?_
  by_cases q : ∃ i j, i < n ∧ j < n ∧ i ≠ j ∧ v1 = nI i ∧ v2 = nI j
  · obtain ⟨i, j, hi, hj, hij, e1, e2⟩ := q
    subst e1
    subst e2
    have hi6 : i < 6 := by omega
    have hj6 : j < 6 := by omega
    refine xr_pr1 n h ij wa f 0 (nI 0) lim act sh lg pol tim b w _ i j h6 hi hj hij (br_f (by decide) ?_)
    refine br_c (fun c1 => g _ _ I0) (fun c1 => br_c (fun c2 => g _ _ I0) (fun c2 => br_c (fun c3 => ?_) (fun c3 => g _ _ I0)))
    have nh := gq_nI h (by omega)
    have d1 : ¬ v3.toInt < -(h : Int) := by
      intro z
      refine c1 ((gn_lt _ _).2 ?_)
      rw [gn_neg _ ⟨by omega, by omega⟩, nh]; exact z
    have d2 : ¬ v4.toInt < v3.toInt := fun z => c2 ((gn_lt _ _).2 z)
    have d3 : v4.toInt ≤ (h : Int) := by
      have z := (gn_le _ _).1 c3
      rw [nh] at z
      exact z
    have d4 : (-v3).toInt = -v3.toInt := gn_neg _ ⟨by omega, by omega⟩
    have fin : ∀ lim2 : Nat → Int32, ol_lim n h lim2 → ol_ld n h (nI n, nI h, 0, wa, f, 0, nI 0, lim2, act, sh, lg, pol, tim, b, w) := fun lim2 hl =>
      ⟨0, wa, f, lim2, act, sh, lg, pol, tim, b, w, rfl, hl, hK, hT, hw, Or.inl rfl⟩
    have up1 : ¬ lim (i * 6 + j) ≤ v4 → ol_lim n h (upd lim (i * 6 + j) v4) := fun c =>
      ol_lim_u n h h6 lim hL i j hj v4 ⟨by omega, d3⟩ (fun z => by
        have y := (gn_lt _ _).1 (Int32.not_le.1 c)
        have y2 := hL.2 i hi (by omega)
        unfold gd_t at y2
        rw [z] at y
        omega)
    have up2 : ∀ lim1, ol_lim n h lim1 → ¬ lim1 (j * 6 + i) ≤ -v3 → ol_lim n h (upd lim1 (j * 6 + i) (-v3)) := fun lim1 hl c =>
      ol_lim_u n h h6 lim1 hl j i hi (-v3) ⟨by omega, by omega⟩ (fun z => by
        have y := (gn_lt _ _).1 (Int32.not_le.1 c)
        have y2 := hl.2 j hj (by omega)
        unfold gd_t at y2
        rw [z] at y
        omega)
    exact zf_ti n h 0 ij wa f 0 lim act sh lg pol tim b w _ i j v4 hi6 hj6
      (fun c => zf_ti n h 0 ij wa f 0 lim act sh lg pol tim b w _ j i (-v3) hj6 hi6 (fun _ => g _ _ (fin lim hL)) (fun c' => g _ _ (fin _ (up2 lim hL c'))))
      (fun c => zf_ti n h 0 ij wa f 0 _ act sh lg pol tim b w _ j i (-v3) hj6 hi6 (fun _ => g _ _ (fin _ (up1 c))) (fun c' => g _ _ (fin _ (up2 _ (up1 c) c'))))
  · exact xr_pr0 n h ij wa f 0 (nI 0) lim act sh lg pol tim b w _ v1 v2 h6 q (br_t rfl (g _ _ I0))

theorem ol_dropReq (h6 : n ≤ 6) (h7 : h ≤ 7) (u : St2) (I : ol_ld n h u) (post : Int32 → St2 → Prop) (g : ∀ r u', ol_ld n h u' → post r u')
    (v1 v2 : Int32) : wpX_dropRequirement post u v1 v2 := by
  have I0 := I
  obtain ⟨ij, wa, f, lim, act, sh, lg, pol, tim, b, w, rfl, hL, hK, hT, hw, hJ⟩ := I
  unfold wpX_dropRequirement
  dsimp only
  refine br_t rfl ?_
  by_cases q : ∃ i j, i < n ∧ j < n ∧ i ≠ j ∧ v1 = nI i ∧ v2 = nI j
  · obtain ⟨i, j, hi, hj, hij, e1, e2⟩ := q
    subst e1
    subst e2
    have hi6 : i < 6 := by omega
    have hj6 : j < 6 := by omega
    have nh := gq_nI h (by omega)
    have val : ∀ x : Nat, (-(h : Int) ≤ (if x = 0 then (0 : Int32) else nI h).toInt ∧ (if x = 0 then (0 : Int32) else nI h).toInt ≤ (h : Int)) ∧
        (x = 0 → (if x = 0 then (0 : Int32) else nI h).toInt ≤ 0) := by
      intro x
      have z0 : (0 : Int32).toInt = 0 := by decide
      by_cases z : x = 0
      · rw [if_pos z, z0]; exact ⟨⟨by omega, by omega⟩, fun _ => by omega⟩
      · rw [if_neg z, nh]; exact ⟨⟨by omega, by omega⟩, fun y => absurd y z⟩
    have hl1 := ol_lim_u n h h6 lim hL i j hj _ (val j).1 (val j).2
    have hl2 := ol_lim_u n h h6 _ hl1 j i hi _ (val i).1 (val i).2
    refine xr_pr1 n h ij wa f 0 (nI 0) lim act sh lg pol tim b w _ i j h6 hi hj hij (br_f (by decide) ?_)
    refine zf_lo n h 0 ij wa f 0 lim act sh lg pol tim b w _ i j hi6 hj6 ?_
    refine zf_lo n h 0 ij wa f 0 _ act sh lg pol tim b w _ j i hj6 hi6 (g _ _ ?_)
    exact ⟨0, wa, f, _, act, sh, lg, pol, tim, b, w, rfl, hl2, hK, hT, hw, Or.inl rfl⟩
  · exact xr_pr0 n h ij wa f 0 (nI 0) lim act sh lg pol tim b w _ v1 v2 h6 q (br_t rfl (g _ _ I0))

theorem ol_dropCon (h6 : n ≤ 6) (u : St2) (I : ol_ld n h u) (post : Int32 → St2 → Prop) (g : ∀ r u', ol_ld n h u' → post r u')
    (v1 : Int32) : wpX_dropContingent post u v1 := by
  have I0 := I
  obtain ⟨ij, wa, f, lim, act, sh, lg, pol, tim, b, w, rfl, hL, hK, hT, hw, hJ⟩ := I
  unfold wpX_dropContingent
  dsimp only
  refine br_t rfl ?_
  by_cases q : ∃ j, 1 ≤ j ∧ j < n ∧ v1 = nI j
  · obtain ⟨j, h1, hj, e⟩ := q
    subst e
    have hj6 : j < 6 := by omega
    refine xr_lt1 n h ij wa f 0 (nI 0) lim act sh lg pol tim b w _ j h6 h1 hj (br_f (by decide) (xr_ct n h ij wa f 0 (nI 0) lim act sh lg pol tim b w _ j hj6 (fun z => br_t rfl (g _ _ I0)) (fun z => br_f (by decide) ⟨xd_i1 j hj6, ?_⟩)))
    rw [xd_c1 j hj6]
    refine nm_e (g _ _ ⟨0, wa, f, lim, upd act j (-1), sh, lg, pol, tim, b, w, rfl, hL, ⟨by rw [pk_un (by omega)]; exact hK.1, fun c hc => ?_⟩, hT, hw, Or.inl rfl⟩)
    by_cases y : c = j
    · rw [y, pk_us]; exact Or.inl rfl
    · rw [pk_un y]; exact hK.2 c hc
  · exact xr_lt0 n h ij wa f 0 (nI 0) lim act sh lg pol tim b w _ v1 h6 q (br_t rfl (g _ _ I0))

theorem ol_addCon (h3 : 3 ≤ n) (h6 : n ≤ 6) (h7 : h ≤ 7) (u : St2) (I : ol_ld n h u) (post : Int32 → St2 → Prop) (g : ∀ r u', ol_ld n h u' → post r u')
    (v1 v2 v3 v4 : Int32) : wpX_addContingent post u v1 v2 v3 v4 := by
  have I0 := I
  obtain ⟨ij, wa, f, lim, act, sh, lg, pol, tim, b, w, rfl, hL, hK, hT, hw, hJ⟩ := I
  have hA := gq_link n h act sh lg h6 hK.2
  unfold wpX_addContingent
  dsimp only
  refine br_t rfl ?_
  by_cases q : ∃ i j, i < n ∧ j < n ∧ i ≠ j ∧ v1 = nI i ∧ v2 = nI j
  · obtain ⟨i, j, hi, hj, hij, e1, e2⟩ := q
    subst e1
    subst e2
    have hi6 : i < 6 := by omega
    have hj6 : j < 6 := by omega
    refine xr_pr1 n h ij wa f 0 (nI 0) lim act sh lg pol tim b w _ i j h6 hi hj hij (br_f (by decide) ?_)
    refine br_c (fun _ => g _ _ I0) (fun c0 => br_c (fun _ => g _ _ I0) (fun c1 => br_c (fun _ => g _ _ I0) (fun c2 => br_c (fun c3 => ?_) (fun _ => g _ _ I0))))
    have hj0 : j ≠ 0 := fun z => c0 (by rw [z]; rfl)
    have nh := gq_nI h (by omega)
    have one : (1 : Int32).toInt = 1 := by decide
    have d1 : 1 ≤ v3.toInt := by
      have z := (gn_le _ _).1 (Int32.not_lt.1 c1)
      rw [one] at z
      exact z
    have d2 : v3.toInt ≤ v4.toInt := (gn_le _ _).1 (Int32.not_lt.1 c2)
    have d3 : v4.toInt ≤ (h : Int) := by
      have z := (gn_le _ _).1 c3
      rw [nh] at z
      exact z
    refine xr_ct n h ij wa f 0 (nI 0) lim act sh lg pol tim b w _ j hj6 (fun z => br_t rfl ?_) (fun z => br_f (by decide) (g _ _ I0))
    refine zg_dep n h 0 ij wa f 0 lim act sh lg pol tim b w h6 (by omega) (gq_ct_n act 0 hK.1) hA _ i j hi hj (fun _ => br_f (by decide) (g _ _ I0)) (fun _ => br_t rfl ⟨xd_i1 j hj6, ?_⟩)
    rw [xd_c1 j hj6]
    refine nm_e ⟨xd_i1 j hj6, nm_e ⟨xd_i1 j hj6, nm_e (g _ _ ?_)⟩⟩
    refine ⟨0, wa, f, lim, upd act j (nI i), upd sh j v3, upd lg j v4, pol, tim, b, w, rfl, hL, ⟨by rw [pk_un (by omega)]; exact hK.1, fun c hc => ?_⟩, hT, hw, Or.inl rfl⟩
    by_cases y : c = j
    · rw [y, pk_us, pk_us, pk_us]; exact Or.inr ⟨i, hi, hij, rfl, d1, d2, d3⟩
    · rw [pk_un y, pk_un y, pk_un y]; exact hK.2 c hc
  · exact xr_pr0 n h ij wa f 0 (nI 0) lim act sh lg pol tim b w _ v1 v2 h6 q (br_t rfl (g _ _ I0))
end ol

section om
variable (n h t : Nat) (ij wa f ph : Int32) (lim act sh lg pol tim b w : Nat → Int32)

theorem om_time (h6 : n ≤ 6) (post : Int32 → Prop) (e : Nat) (he : e < n) (g0 : tim e = -1 → post 100) (g1 : ¬ tim e = -1 → post (tim e)) :
    wpX_timeOf post (nI n, nI h, ij, wa, f, ph, nI t, lim, act, sh, lg, pol, tim, b, w) (nI e) := by
  have he6 : e < 6 := by omega
  unfold wpX_timeOf
  dsimp only
  refine xr_ev1 n h ij wa f ph (nI t) lim act sh lg pol tim b w _ e h6 he (br_f (by decide) ⟨xd_i1 e he6, ?_⟩)
  rw [xd_c1 e he6]
  exact br_c g0 (fun z => ⟨xd_i1 e he6, g1 z⟩)

theorem om_lim (h6 : n ≤ 6) (post : Int32 → Prop) (u v : Nat) (hu : u < n) (hv : v < n) (huv : u ≠ v) (g : post (lim (u * 6 + v))) :
    wpX_limit post (nI n, nI h, ij, wa, f, ph, nI t, lim, act, sh, lg, pol, tim, b, w) (nI u) (nI v) := by
  unfold wpX_limit
  dsimp only
  refine xr_pr1 n h ij wa f ph (nI t) lim act sh lg pol tim b w _ u v h6 hu hv huv (br_f (by decide) ⟨xd_in u v (by omega) (by omega), ?_⟩)
  rw [xd_cl u v (by omega) (by omega)]
  exact g

theorem om_link (h6 : n ≤ 6) (post : Int32 → Prop) (e k : Nat) (he1 : 1 ≤ e) (he : e < n) (hk : k < 3)
    (g0 : gq_ct act e = false → post 100) (g1 : gq_ct act e = true → post (if k = 0 then act e else if k = 1 then sh e else lg e)) :
    wpX_linkOf post (nI n, nI h, ij, wa, f, ph, nI t, lim, act, sh, lg, pol, tim, b, w) (nI e) (nI k) := by
  have he6 : e < 6 := by omega
  unfold wpX_linkOf
  dsimp only
  have l0 : ¬ nI k < 0 := nI_pos (by omega)
  have l2 : nI k ≤ 2 := nI_le (b := 2) (by omega) (by omega)
  refine xr_lt1 n h ij wa f ph (nI t) lim act sh lg pol tim b w _ e h6 he1 he (br_f (by decide) (br_f l0 (br_t l2 (xr_ct n h ij wa f ph (nI t) lim act sh lg pol tim b w _ e he6 (fun z => br_t rfl (g0 z)) (fun z => br_f (by decide) ?_)))))
  have gg := g1 z
  refine br_c (fun q => ⟨xd_i1 e he6, ?_⟩) (fun q => br_c (fun q2 => ⟨xd_i1 e he6, ?_⟩) (fun q2 => ⟨xd_i1 e he6, ?_⟩))
  · have k0 : k = 0 := (nI_eq (b := 0) (by omega) (by omega)).1 q
    rw [xd_c1 e he6]
    rw [if_pos k0] at gg
    exact gg
  · have k0 : ¬ k = 0 := fun y => q (by rw [y]; rfl)
    have k1 : k = 1 := (nI_eq (b := 1) (by omega) (by omega)).1 q2
    rw [xd_c1 e he6]
    rw [if_neg k0, if_pos k1] at gg
    exact gg
  · have k0 : ¬ k = 0 := fun y => q (by rw [y]; rfl)
    have k1 : ¬ k = 1 := fun y => q2 (by rw [y]; rfl)
    rw [xd_c1 e he6]
    rw [if_neg k0, if_neg k1] at gg
    exact gg

theorem om_pol (h6 : n ≤ 6) (post : Int32 → St2 → Prop) (e : Nat) (he1 : 1 ≤ e) (he : e < n) (p1 : Int32) (g : ∀ r pol', post r (nI n, nI h, ij, wa, f, ph, nI t, lim, act, sh, lg, pol', tim, b, w)) :
    wpX_setPolicy post (nI n, nI h, ij, wa, f, ph, nI t, lim, act, sh, lg, pol, tim, b, w) (nI e) p1 := by
  have he6 : e < 6 := by omega
  unfold wpX_setPolicy
  dsimp only
  refine xr_lt1 n h ij wa f ph (nI t) lim act sh lg pol tim b w _ e h6 he1 he (br_f (by decide) (br_c (fun _ => ⟨xd_i1 e he6, nm_e (g _ _)⟩) (fun _ => br_c (fun _ => ⟨xd_i1 e he6, nm_e (g _ _)⟩) (fun _ => g _ _))))

theorem om_rev (h6 : n ≤ 6) (h7 : h ≤ 7) (ht : t ≤ h) (hN : gm_net n h (gd_t lim) (gq_ct act) (gq_ac act) (gq_i sh) (gq_i lg))
    (hA : ∀ k, k < n → gq_ct act k = true → act k = nI (gq_ac act k) ∧ gq_ac act k < n) (htr : ox_tr n h tim) (T : Nat → Int) (hg : gr_at n h (gd_t lim) (gq_ct act) (gq_ac act) (gq_i sh) (gq_i lg) t T (gq_p tim))
    (post : Int32 → St2 → Prop) (e : Nat) (he1 : 1 ≤ e) (he : e < n)
    (g : ∀ r tim', ox_tr n h tim' → gr_at n h (gd_t lim) (gq_ct act) (gq_ac act) (gq_i sh) (gq_i lg) t T (gq_p tim') → post r (nI n, nI h, ij, wa, f, 1, nI t, lim, act, sh, lg, pol, tim', b, w)) : wpX_reveal post (nI n, nI h, ij, wa, f, 1, nI t, lim, act, sh, lg, pol, tim, b, w) (nI e) := by
  have he6 : e < 6 := by omega
  have g0 := fun r => g r tim htr hg
  unfold wpX_reveal
  dsimp only
  refine br_t rfl (xr_lt1 n h ij wa f 1 (nI t) lim act sh lg pol tim b w _ e h6 he1 he (br_f (by decide) (xr_ct n h ij wa f 1 (nI t) lim act sh lg pol tim b w _ e he6 (fun z => br_t rfl (g0 _)) (fun z => br_f (by decide) ?_))))
  obtain ⟨c1, c2⟩ := hA e he z
  have c6 : gq_ac act e < 6 := by omega
  refine xr_run n h ij wa f 1 (nI t) lim act sh lg pol tim b w _ e he6 c1 c6 (fun q1 q2 => br_f (by decide) (xr_ela n h ij wa f 1 (nI t) lim act sh lg pol tim b w _ e he6 c1 c6 ⟨xd_i1 e he6, ?_⟩)) (fun _ => br_t rfl (g0 _))
  rw [xd_c1 e he6]
  rcases htr _ c2 with r | ⟨τ, hτ, r⟩
  · exact absurd r q2
  · refine br_c (fun q3 => ⟨xd_i1 e he6, nm_e (g _ _ (ox_tr_u n h tim htr e t ht) ?_)⟩) (fun _ => g0 _)
    have pa := gq_p_t tim _ τ (by omega) r
    rw [ox_p_u tim e t (by omega)]
    refine gr_rev n h (gd_t lim) (gq_ct act) (gq_ac act) (gq_i sh) (gq_i lg) hN t T (gq_p tim) hg e he z (gq_p_n tim e q1) (by rw [pa]; omega) ?_
    have es : (nI t - nI τ).toInt = (t : Int) - (τ : Int) := pk_sub_toInt (by omega) (by omega)
    rw [r] at q3
    have y6 := (gn_le _ _).1 q3
    rw [es] at y6
    rw [pa]
    exact y6

theorem om_ver (h3 : 3 ≤ n) (h6 : n ≤ 6) (h7 : h ≤ 7) (hL : ol_lim n h lim) (hK : ol_lk n h act sh lg) (hw : wa = 0 ∨ wa = 1) (hJ : ij = 0 ∨ (ij = 1 ∧ gv_jud n h (gd_t lim) (gq_ct act) (gq_ac act) (gq_i sh) (gq_i lg) wa b w))
    (post : Int32 → St2 → Prop) (g : ∀ r f b w, (r = 0 ∨ r = 1) → gv_jud n h (gd_t lim) (gq_ct act) (gq_ac act) (gq_i sh) (gq_i lg) r b w → post r (nI n, nI h, 1, r, f, 0, nI t, lim, act, sh, lg, pol, tim, b, w)) : wpX_verdict post (nI n, nI h, ij, wa, f, 0, nI t, lim, act, sh, lg, pol, tim, b, w) := by
  have hN := ol_net n h h3 h6 h7 lim act sh lg hL hK
  have hA := gq_link n h act sh lg h6 hK.2
  unfold wpX_verdict
  dsimp only
  refine br_t rfl (xe_acc n h ij wa 0 (nI t) lim act sh lg pol tim h6 hN.1 hN (fun u v hu hv => by have := (hL.1 u v hu hv).1; omega) _ hA f b w hw hJ (fun r f b w hr hj => ?_))
  have y := g r f b w hr hj
  rcases hr with e | e
  · rw [e] at y ⊢
    exact br_t rfl y
  · rw [e] at y ⊢
    exact br_f (by decide) y

theorem om_start (h3 : 3 ≤ n) (h6 : n ≤ 6) (h7 : h ≤ 7) (hL : ol_lim n h lim) (hK : ol_lk n h act sh lg) (hw : wa = 0 ∨ wa = 1) (hJ : ij = 0 ∨ (ij = 1 ∧ gv_jud n h (gd_t lim) (gq_ct act) (gq_ac act) (gq_i sh) (gq_i lg) wa b w))
    (post : Int32 → St2 → Prop)
    (g1 : ∀ f b w, gv_jud n h (gd_t lim) (gq_ct act) (gq_ac act) (gq_i sh) (gq_i lg) 1 b w → post 0 (nI n, nI h, 1, 1, f, 1, nI t, lim, act, sh, lg, pol, upd tim 0 (nI 0), b, w))
    (g0 : ∀ f b w, gv_jud n h (gd_t lim) (gq_ct act) (gq_ac act) (gq_i sh) (gq_i lg) 0 b w → post 105 (nI n, nI h, 1, 0, f, 0, nI t, lim, act, sh, lg, pol, tim, b, w)) : wpX_start post (nI n, nI h, ij, wa, f, 0, nI t, lim, act, sh, lg, pol, tim, b, w) := by
  have hN := ol_net n h h3 h6 h7 lim act sh lg hL hK
  have hA := gq_link n h act sh lg h6 hK.2
  unfold wpX_start
  dsimp only
  refine br_t rfl (xe_acc n h ij wa 0 (nI t) lim act sh lg pol tim h6 hN.1 hN (fun u v hu hv => by have := (hL.1 u v hu hv).1; omega) _ hA f b w hw hJ (fun r f b w hr hj => ?_))
  rcases hr with e | e
  · rw [e] at hj ⊢
    exact br_t rfl (g0 f b w hj)
  · rw [e] at hj ⊢
    exact br_f (by decide) (nm_e (g1 f b w hj))
end om
end
section
-- a search over 2 n steps a round
section ls
variable (n h : Nat) (L : Nat → Nat → Int) (ct : Nat → Bool) (ac : Nat → Nat) (lo hi : Nat → Int) (B : Nat)

def ls_B : Prop := (n = 3 ∧ B = 6) ∨ (n = 4 ∧ B = 8) ∨ (n = 5 ∧ B = 10) ∨ (n = 6 ∧ B = 12)

def ls_s (q : Nat) : Nat := 12 * (q / B) + (if q % B < n then q % B else 6 + (q % B - n))

theorem ls_mono (hB : ls_B n B) (q : Nat) : ls_s n B q + 1 ≤ ls_s n B (q + 1) := by
  unfold ls_s
  rcases hB with ⟨rfl, rfl⟩ | ⟨rfl, rfl⟩ | ⟨rfl, rfl⟩ | ⟨rfl, rfl⟩ <;> split <;> split <;> omega

theorem ls_gap (hB : ls_B n B) (q s : Nat) (h1 : ls_s n B q < s) (h2 : s < ls_s n B (q + 1)) : s % 6 = 0 ∨ n ≤ s % 6 := by
  unfold ls_s at h1 h2
  rcases hB with ⟨rfl, rfl⟩ | ⟨rfl, rfl⟩ | ⟨rfl, rfl⟩ | ⟨rfl, rfl⟩ <;> split at h1 <;> split at h2 <;> omega

theorem ls_div (hB : ls_B n B) (q : Nat) : ls_s n B q / 12 = q / B := by
  unfold ls_s
  rcases hB with ⟨rfl, rfl⟩ | ⟨rfl, rfl⟩ | ⟨rfl, rfl⟩ | ⟨rfl, rfl⟩ <;> split <;> omega

theorem ls_mod (hB : ls_B n B) (q : Nat) : ls_s n B q % 6 = q % B % n := by
  unfold ls_s
  rcases hB with ⟨rfl, rfl⟩ | ⟨rfl, rfl⟩ | ⟨rfl, rfl⟩ | ⟨rfl, rfl⟩ <;> split <;> omega

theorem ls_half (hB : ls_B n B) (q : Nat) : ls_s n B q % 12 < 6 ↔ q % B < n := by
  unfold ls_s
  rcases hB with ⟨rfl, rfl⟩ | ⟨rfl, rfl⟩ | ⟨rfl, rfl⟩ | ⟨rfl, rfl⟩ <;> split <;> omega

theorem ls_end (hB : ls_B n B) (q : Nat) (hq : q = (h + 1) * B) : ls_s n B q = 12 * (h + 1) := by
  unfold ls_s
  rcases hB with ⟨rfl, rfl⟩ | ⟨rfl, rfl⟩ | ⟨rfl, rfl⟩ | ⟨rfl, rfl⟩ <;> split <;> omega

theorem ls_lt (hB : ls_B n B) (q : Nat) (hq : q < (h + 1) * B) : ls_s n B q < 12 * (h + 1) := by
  unfold ls_s
  rcases hB with ⟨rfl, rfl⟩ | ⟨rfl, rfl⟩ | ⟨rfl, rfl⟩ | ⟨rfl, rfl⟩ <;> split <;> omega

theorem ls_begin (hB : ls_B n B) (t q : Nat) (hq : q = t * B) : ls_s n B q = 12 * t := by
  unfold ls_s
  rcases hB with ⟨rfl, rfl⟩ | ⟨rfl, rfl⟩ | ⟨rfl, rfl⟩ | ⟨rfl, rfl⟩ <;> split <;> omega

theorem ls_k0 (p : Nat → Int) (s : Nat) (hx : s % 6 = 0 ∨ n ≤ s % 6) : gm_kind n ct ac lo hi p s = 0 := by
  unfold gm_kind
  rw [if_pos]
  rcases hx with q | q
  · exact Or.inl q
  · exact Or.inr (Or.inl q)

theorem ls_pass (p : Nat → Int) (hb : ¬ gm_broken n L p) : ∀ (d s m : Nat), (∀ s', s ≤ s' → s' < s + d → gm_kind n ct ac lo hi p s' = 0) →
    (gm_val n L ct ac lo hi (m + d) s p ↔ gm_val n L ct ac lo hi m (s + d) p) := by
  intro d
  induction d with
  | zero => intro s m _; exact Iff.rfl
  | succ d ih =>
    intro s m hk
    have k0 := hk s (by omega) (by omega)
    have x := ih (s + 1) m (fun s' a b => hk s' (by omega) (by omega))
    rw [show s + 1 + d = s + (d + 1) by omega] at x
    rw [← x]
    show gm_val n L ct ac lo hi (m + d + 1) s p ↔ gm_val n L ct ac lo hi (m + d) (s + 1) p
    by_cases hf : gm_full n p
    · exact ⟨fun _ => gm_val_full n L ct ac lo hi _ _ p hb hf, fun _ => gm_val_full n L ct ac lo hi _ _ p hb hf⟩
    · constructor
      · intro z
        unfold gm_val at z
        rcases z.2 with a | ⟨_, a⟩ | ⟨a, _⟩ | ⟨a, _⟩ | ⟨a, _⟩
        · exact absurd a hf
        · exact a
        · omega
        · omega
        · omega
      · intro z
        unfold gm_val
        exact ⟨hb, Or.inr (Or.inl ⟨k0, z⟩)⟩

def ls_V (q : Nat) (p : Nat → Int) : Prop := gm_val n L ct ac lo hi (12 * (h + 1) - ls_s n B q) (ls_s n B q) p

/-- from the step behind q's to q + 1's -/
theorem ls_next (hB : ls_B n B) (q m : Nat) (hq : q < (h + 1) * B) (hm : ls_s n B q + (m + 1) = 12 * (h + 1)) (p : Nat → Int) :
    gm_val n L ct ac lo hi m (ls_s n B q + 1) p ↔ ls_V n h L ct ac lo hi B (q + 1) p := by
  have m1 := ls_mono n B hB q
  have m2 : ls_s n B (q + 1) ≤ 12 * (h + 1) := by
    by_cases z : q + 1 < (h + 1) * B
    · have := ls_lt n h B hB (q + 1) z; omega
    · have := ls_end n h B hB (q + 1) (by omega); omega
  by_cases hb : gm_broken n L p
  · exact ⟨fun z => absurd hb (gm_val_nb n L ct ac lo hi _ _ p z), fun z => absurd hb (gm_val_nb n L ct ac lo hi _ _ p z)⟩
  · have x := ls_pass n L ct ac lo hi p hb (ls_s n B (q + 1) - (ls_s n B q + 1)) (ls_s n B q + 1) (12 * (h + 1) - ls_s n B (q + 1))
      (fun s' a b => ls_k0 n ct ac lo hi p s' (ls_gap n B hB q s' (by omega) (by omega)))
    rw [show 12 * (h + 1) - ls_s n B (q + 1) + (ls_s n B (q + 1) - (ls_s n B q + 1)) = m by omega,
      show ls_s n B q + 1 + (ls_s n B (q + 1) - (ls_s n B q + 1)) = ls_s n B (q + 1) by omega] at x
    exact x

def ls_bd (q : Nat) (p : Nat → Int) : Nat := sr_bd n h ct (12 * (h + 1) - ls_s n B q) (ls_s n B q) p

theorem ls_bd_le (p : Nat → Int) : ∀ (d s m : Nat), sr_bd n h ct m (s + d) p ≤ sr_bd n h ct (m + d) s p := by
  intro d
  induction d with
  | zero => intro s m; exact Nat.le_refl _
  | succ d ih =>
    intro s m
    have x := ih (s + 1) m
    rw [show s + 1 + d = s + (d + 1) by omega] at x
    have y := sr_bd_pass n h ct (m + d) s p
    show sr_bd n h ct m (s + (d + 1)) p ≤ sr_bd n h ct (m + d + 1) s p
    omega

theorem ls_bd_next (hB : ls_B n B) (q m : Nat) (hq : q < (h + 1) * B) (hm : ls_s n B q + (m + 1) = 12 * (h + 1)) (p : Nat → Int) :
    ls_bd n h ct B (q + 1) p ≤ sr_bd n h ct m (ls_s n B q + 1) p := by
  have m1 := ls_mono n B hB q
  have m2 : ls_s n B (q + 1) ≤ 12 * (h + 1) := by
    by_cases z : q + 1 < (h + 1) * B
    · have := ls_lt n h B hB (q + 1) z; omega
    · have := ls_end n h B hB (q + 1) (by omega); omega
  have x := ls_bd_le n h ct p (ls_s n B (q + 1) - (ls_s n B q + 1)) (ls_s n B q + 1) (12 * (h + 1) - ls_s n B (q + 1))
  rw [show 12 * (h + 1) - ls_s n B (q + 1) + (ls_s n B (q + 1) - (ls_s n B q + 1)) = m by omega,
    show ls_s n B q + 1 + (ls_s n B (q + 1) - (ls_s n B q + 1)) = ls_s n B (q + 1) by omega] at x
  exact x

theorem ls_wf_up (s s' : Nat) (hs : s ≤ s') (p : Nat → Int) (hw : gm_wf n h ct ac lo hi s p) : gm_wf n h ct ac lo hi s' p := by
  refine ⟨hw.1, fun e he => ?_, hw.2.2⟩
  rcases hw.2.1 e he with a | ⟨a, b, c⟩
  · exact Or.inl a
  · exact Or.inr ⟨a, b, by omega⟩

theorem ls_dfs (first : Nat) (hN : gm_net n h L ct ac lo hi) (hB : ls_B n B)
    (Ag : (Nat → Int) → Prop) (hAg : ∀ p e t, e < n → Ag p → p e = 100 → Ag (gm_set p e t))
    (Dn Up : Nat → Nat → Prop → (Nat → Int) → Prop)
    (r1 : ∀ k q v p, first ≤ q → q ≤ (h + 1) * B → gm_wf n h ct ac lo hi (ls_s n B q) p → gm_full n p → Up k q True p → Dn (k + 1) q v p)
    (r2 : ∀ k q v p, first ≤ q → gm_wf n h ct ac lo hi (ls_s n B q) p → ¬ gm_full n p → q = (h + 1) * B → Up k q False p → Dn (k + 1) q v p)
    (r3 : ∀ k q v p, first ≤ q → gm_wf n h ct ac lo hi (ls_s n B q) p → ¬ gm_full n p → q < (h + 1) * B → gm_kind n ct ac lo hi p (ls_s n B q) = 0 →
      Dn k (q + 1) v p → Dn (k + 1) q v p)
    (r4 : ∀ k q v p, first ≤ q → gm_wf n h ct ac lo hi (ls_s n B q) p → ¬ gm_broken n L p → ¬ gm_full n p → q < (h + 1) * B → gm_kind n ct ac lo hi p (ls_s n B q) ≠ 0 →
      (gm_broken n L (gm_set p (ls_s n B q % 6) ((ls_s n B q / 12 : Nat) : Int)) → Up k (q + 1) False (gm_set p (ls_s n B q % 6) ((ls_s n B q / 12 : Nat) : Int))) →
      (¬ gm_broken n L (gm_set p (ls_s n B q % 6) ((ls_s n B q / 12 : Nat) : Int)) → Dn k (q + 1) v (gm_set p (ls_s n B q % 6) ((ls_s n B q / 12 : Nat) : Int))) →
      Dn (k + 1) q v p)
    (r5 : ∀ k q v p, first ≤ q → gm_wf n h ct ac lo hi (ls_s n B q) p → q < (h + 1) * B → Up k q v p → Up (k + 1) (q + 1) v p)
    (r6 : ∀ k q (v : Prop) p, first ≤ q → Ag p → gm_wf n h ct ac lo hi (ls_s n B q) p → q < (h + 1) * B → gm_kind n ct ac lo hi p (ls_s n B q) ≠ 0 →
      ((gm_kind n ct ac lo hi p (ls_s n B q) = 2 ∧ v ∨ gm_kind n ct ac lo hi p (ls_s n B q) = 3 ∧ ¬ v) → Dn k (q + 1) v p) →
      (¬ (gm_kind n ct ac lo hi p (ls_s n B q) = 2 ∧ v ∨ gm_kind n ct ac lo hi p (ls_s n B q) = 3 ∧ ¬ v) → Up k q v p) →
      Up (k + 1) (q + 1) v (gm_set p (ls_s n B q % 6) ((ls_s n B q / 12 : Nat) : Int))) :
    ∀ (M q : Nat) (p : Nat → Int) (k : Nat) (v : Prop), first ≤ q → q + M = (h + 1) * B → Ag p → gm_wf n h ct ac lo hi (ls_s n B q) p → ¬ gm_broken n L p →
      ls_bd n h ct B q p ≤ k → (∀ k', k ≤ k' + ls_bd n h ct B q p → Up k' q (ls_V n h L ct ac lo hi B q p) p) → Dn k q v p := by
  have hn6 : n ≤ 6 := hN.2.1
  have h7 : h ≤ 7 := hN.2.2.1
  intro M
  induction M with
  | zero =>
    intro q p k v hf hq hag hw hb hk hc
    have es := ls_end n h B hB q (by omega)
    have b2 := sr_bd_2 n h ct (12 * (h + 1) - ls_s n B q) (ls_s n B q) p
    have hk' : 2 ≤ k := by unfold ls_bd at hk; omega
    obtain ⟨k0, rfl⟩ : ∃ k0, k = k0 + 1 := ⟨k - 1, by omega⟩
    have hbd : 1 ≤ ls_bd n h ct B q p := by unfold ls_bd; omega
    have e1 : ls_V n h L ct ac lo hi B q p = gm_full n p := by
      unfold ls_V
      rw [show 12 * (h + 1) - ls_s n B q = 0 by omega]
      unfold gm_val
      exact propext ⟨fun z => z.2, fun z => ⟨hb, z⟩⟩
    have c1 := hc k0 (by omega)
    rw [e1] at c1
    by_cases hfull : gm_full n p
    · rw [show gm_full n p = True from propext ⟨fun _ => trivial, fun _ => hfull⟩] at c1
      exact r1 k0 q v p hf (by omega) hw hfull c1
    · rw [show gm_full n p = False from propext ⟨fun z => hfull z, fun z => z.elim⟩] at c1
      exact r2 k0 q v p hf hw hfull (by omega) c1
  | succ M ih =>
    intro q p k v hf hq hag hw hb hk hc
    have hqE : q < (h + 1) * B := by omega
    have hsl := ls_lt n h B hB q hqE
    obtain ⟨m, hm⟩ : ∃ m, ls_s n B q + (m + 1) = 12 * (h + 1) := ⟨12 * (h + 1) - ls_s n B q - 1, by omega⟩
    have em : 12 * (h + 1) - ls_s n B q = m + 1 := by omega
    have eb : ls_bd n h ct B q p = sr_bd n h ct (m + 1) (ls_s n B q) p := by unfold ls_bd; rw [em]
    have b2 := sr_bd_2 n h ct (m + 1) (ls_s n B q) p
    obtain ⟨k0, rfl⟩ : ∃ k0, k = k0 + 1 := ⟨k - 1, by omega⟩
    have eV : ls_V n h L ct ac lo hi B q p = gm_val n L ct ac lo hi (m + 1) (ls_s n B q) p := by unfold ls_V; rw [em]
    by_cases hfull : gm_full n p
    · have c1 := hc k0 (by omega)
      rw [eV, show gm_val n L ct ac lo hi (m + 1) (ls_s n B q) p = True from
        propext ⟨fun _ => trivial, fun _ => gm_val_full n L ct ac lo hi (m + 1) _ p hb hfull⟩] at c1
      exact r1 k0 q v p hf (by omega) hw hfull c1
    · have bn := ls_bd_next n h ct B hB q m hqE hm
      have nx := ls_next n h L ct ac lo hi B hB q m hqE hm
      have mono := ls_mono n B hB q
      by_cases hk0 : gm_kind n ct ac lo hi p (ls_s n B q) = 0
      · have e1 : ls_V n h L ct ac lo hi B q p = ls_V n h L ct ac lo hi B (q + 1) p := by
          rw [eV]
          refine propext ⟨fun z => ?_, fun z => ?_⟩
          · unfold gm_val at z
            rcases z.2 with a | ⟨_, a⟩ | ⟨a, _⟩ | ⟨a, _⟩ | ⟨a, _⟩
            · exact absurd a hfull
            · exact (nx p).1 a
            · omega
            · omega
            · omega
          · unfold gm_val
            exact ⟨hb, Or.inr (Or.inl ⟨hk0, (nx p).2 z⟩)⟩
        have bp := sr_bd_pass n h ct m (ls_s n B q) p
        have b1 := bn p
        refine r3 k0 q v p hf hw hfull hqE hk0 (ih (q + 1) p k0 v (by omega) (by omega) hag (ls_wf_up n h ct ac lo hi _ _ (by omega) p hw) hb (by omega) ?_)
        intro k' hk'
        obtain ⟨k1, rfl⟩ : ∃ k1, k' = k1 + 1 := ⟨k' - 1, by omega⟩
        refine r5 k1 q _ p hf hw hqE ?_
        rw [← e1]
        exact hc k1 (by omega)
      · have hkind := gm_kind_lt n ct ac lo hi p (ls_s n B q)
        have hslot : ls_s n B q % 6 ≠ 0 ∧ ls_s n B q % 6 < n ∧ p (ls_s n B q % 6) = 100 ∧ gm_stp ct (ls_s n B q % 6) ((ls_s n B q / 12 : Nat) : Int) = ((ls_s n B q : Nat) : Int) ∧
            (ct (ls_s n B q % 6) = true → p (ac (ls_s n B q % 6)) ≠ 100 ∧ p (ac (ls_s n B q % 6)) + lo (ls_s n B q % 6) ≤ ((ls_s n B q / 12 : Nat) : Int) ∧
              ((ls_s n B q / 12 : Nat) : Int) ≤ p (ac (ls_s n B q % 6)) + hi (ls_s n B q % 6)) := by
          rcases hkind with z | z | z | z
          · exact absurd z hk0
          · obtain ⟨k1, k2, k3, k4, k5, k6⟩ := gm_kind_12 n ct ac lo hi p _ (Or.inl z)
            have d := gm_kind_1 n ct ac lo hi p _ z
            have b := hN.2.2.2.2.2.2 _ k2 k4
            exact ⟨k1, k2, k3, gm_slot_t ct _ k1 k4 k5, fun _ => ⟨k6, by omega, by omega⟩⟩
          · obtain ⟨k1, k2, k3, k4, k5, k6⟩ := gm_kind_12 n ct ac lo hi p _ (Or.inr z)
            have d := gm_kind_2 n ct ac lo hi p _ z
            exact ⟨k1, k2, k3, gm_slot_t ct _ k1 k4 k5, fun _ => ⟨k6, by omega, by omega⟩⟩
          · obtain ⟨k1, k2, k3, k4, k5⟩ := gm_kind_3 n ct ac lo hi p _ z
            exact ⟨k1, k2, k3, gm_slot_f ct _ k1 k4 k5, fun y => by rw [k4] at y; simp at y⟩
        obtain ⟨g1, g2, g3, g4, g5⟩ := hslot
        have bt := sr_bd_two n h ct m (ls_s n B q) p hn6 g1 g2 g3 ((ls_s n B q / 12 : Nat) : Int) (by omega) hsl g4
        have b1 := bn p
        have b3 := bn (gm_set p (ls_s n B q % 6) ((ls_s n B q / 12 : Nat) : Int))
        have hw' := gp_wf_set n h L ct ac lo hi hN (ls_s n B q) p hsl hw g1 g2 g3 g4 g5
        have hwn := ls_wf_up n h ct ac lo hi _ (ls_s n B (q + 1)) (by omega) _ hw'
        have n1 := nx (gm_set p (ls_s n B q % 6) ((ls_s n B q / 12 : Nat) : Int))
        have n2 := nx p
        have e1 : ls_V n h L ct ac lo hi B q p = ((gm_kind n ct ac lo hi p (ls_s n B q) = 1 ∧ ls_V n h L ct ac lo hi B (q + 1) (gm_set p (ls_s n B q % 6) ((ls_s n B q / 12 : Nat) : Int))) ∨
            (gm_kind n ct ac lo hi p (ls_s n B q) = 2 ∧ ls_V n h L ct ac lo hi B (q + 1) (gm_set p (ls_s n B q % 6) ((ls_s n B q / 12 : Nat) : Int)) ∧ ls_V n h L ct ac lo hi B (q + 1) p) ∨
            (gm_kind n ct ac lo hi p (ls_s n B q) = 3 ∧ (ls_V n h L ct ac lo hi B (q + 1) (gm_set p (ls_s n B q % 6) ((ls_s n B q / 12 : Nat) : Int)) ∨ ls_V n h L ct ac lo hi B (q + 1) p))) := by
          rw [eV, ← propext n1, ← propext n2]
          conv => lhs; unfold gm_val
          refine propext ⟨fun z => ?_, fun z => ⟨hb, Or.inr (Or.inr z)⟩⟩
          rcases z.2 with a | ⟨a, _⟩ | z
          · exact absurd a hfull
          · exact absurd a hk0
          · exact z
        generalize hV1 : ls_V n h L ct ac lo hi B (q + 1) (gm_set p (ls_s n B q % 6) ((ls_s n B q / 12 : Nat) : Int)) = V1 at *
        generalize hV2 : ls_V n h L ct ac lo hi B (q + 1) p = V2 at *
        rw [e1] at hc
        have hpop : ∀ k1, k0 ≤ k1 + ls_bd n h ct B (q + 1) (gm_set p (ls_s n B q % 6) ((ls_s n B q / 12 : Nat) : Int)) →
            Up k1 (q + 1) V1 (gm_set p (ls_s n B q % 6) ((ls_s n B q / 12 : Nat) : Int)) := by
          intro k1 hk1
          have b4 := sr_bd_2 n h ct m (ls_s n B q + 1) p
          obtain ⟨k2, rfl⟩ : ∃ k2, k1 = k2 + 1 := ⟨k1 - 1, by omega⟩
          refine r6 k2 q V1 p hf hag hw hqE hk0 (fun hturn => ?_) (fun hturn => ?_)
          · refine ih (q + 1) p k2 V1 (by omega) (by omega) hag (ls_wf_up n h ct ac lo hi _ _ (by omega) p hw) hb (by omega) ?_
            intro k' hk'
            rw [hV2]
            obtain ⟨k3, rfl⟩ : ∃ k3, k' = k3 + 1 := ⟨k' - 1, by omega⟩
            refine r5 k3 q _ p hf hw hqE ?_
            have c1 := hc k3 (by omega)
            have e2 : ((gm_kind n ct ac lo hi p (ls_s n B q) = 1 ∧ V1) ∨ (gm_kind n ct ac lo hi p (ls_s n B q) = 2 ∧ V1 ∧ V2) ∨
                (gm_kind n ct ac lo hi p (ls_s n B q) = 3 ∧ (V1 ∨ V2))) = V2 := by
              rcases hturn with ⟨a, b⟩ | ⟨a, b⟩
              · rw [a]; simp [b]
              · rw [a]; simp [b]
            rw [e2] at c1
            exact c1
          · have c1 := hc k2 (by omega)
            have e2 : ((gm_kind n ct ac lo hi p (ls_s n B q) = 1 ∧ V1) ∨ (gm_kind n ct ac lo hi p (ls_s n B q) = 2 ∧ V1 ∧ V2) ∨
                (gm_kind n ct ac lo hi p (ls_s n B q) = 3 ∧ (V1 ∨ V2))) = V1 := by
              by_cases hv : V1
              · rcases hkind with z | z | z | z
                · exact absurd z hk0
                · rw [z]; simp [hv]
                · exact absurd (Or.inl ⟨z, hv⟩) hturn
                · rw [z]; simp [hv]
              · rcases hkind with z | z | z | z
                · exact absurd z hk0
                · rw [z]; simp [hv]
                · rw [z]; simp [hv]
                · exact absurd (Or.inr ⟨z, hv⟩) hturn
            rw [e2] at c1
            exact c1
        refine r4 k0 q v p hf hw hb hfull hqE hk0 (fun hbr => ?_) (fun hbr => ?_)
        · have e4 : V1 = False := by
            rw [← hV1]
            exact propext ⟨fun z => gm_val_nb n L ct ac lo hi _ _ _ z hbr, fun z => z.elim⟩
          have y := hpop k0 (by omega)
          rw [e4] at y
          exact y
        · refine ih (q + 1) _ k0 v (by omega) (by omega) (hAg p _ _ g2 hag g3) hwn hbr (by omega) ?_
          intro k' hk'
          rw [hV1]
          exact hpop k' hk'
end ls
end
section
-- the law's own search: its looks
section lw
variable (n h : Nat) (L : Nat → Nat → Int) (ct : Nat → Bool) (ac : Nat → Nat) (lo hi : Nat → Int) (B : Nat)

/-- times as the law packs them: 15 for none -/
def lw_T (p : Nat → Int) (N : Nat) (x : Nat → Nat) : Prop :=
  lb4_P N x ∧ N < 2 ^ 24 ∧ (∀ e, n ≤ e → x e = 0) ∧ ∀ e, e < n → (p e = 100 ∧ x e = 15) ∨ (0 ≤ p e ∧ p e ≤ 7 ∧ (x e : Int) = p e)

/-- links as the law packs them -/
def lw_K (N : Nat) (y : Nat → Nat) : Prop :=
  lb3_P N y ∧ N < 2 ^ 62 ∧ (∀ i, y i < 8) ∧ (∀ e, e < n → (ct e = false → y (3 * e) = 7) ∧
    (ct e = true → y (3 * e) = ac e ∧ (y (3 * e + 1) : Int) = lo e ∧ (y (3 * e + 2) : Int) = hi e))

/-- limits as the law packs them -/
def lw_L (N0 N1 : Nat) (z : Nat → Nat) : Prop :=
  lb4_P N0 (fun i => if i < 15 then z i else 0) ∧ lb4_P N1 (fun i => if i < 15 then z (i + 15) else 0) ∧ (∀ i, z i < 16) ∧
  ∀ u v, u < n → v < n → u ≠ v → (z (lc_ix u v) : Int) = L u v + 7

theorem lw_lt16 (p : Nat → Int) (N : Nat) (x : Nat → Nat) (hT : lw_T n p N x) (e : Nat) : x e < 16 := by
  obtain ⟨_, _, h3, h4⟩ := hT
  by_cases he : e < n
  · rcases h4 e he with ⟨_, b⟩ | ⟨a, b, c⟩ <;> omega
  · rw [h3 e (by omega)]; omega

theorem lw_15 (p : Nat → Int) (N : Nat) (x : Nat → Nat) (hT : lw_T n p N x) (e : Nat) (he : e < n) : nI (x e) = 15 ↔ p e = 100 := by
  have l16 := lw_lt16 n p N x hT e
  have e15 : (15 : Int32) = nI 15 := by decide
  rw [e15, nI_eq (by omega) (by omega)]
  rcases hT.2.2.2 e he with ⟨a, b⟩ | ⟨a, b, c⟩
  · exact ⟨fun _ => a, fun _ => b⟩
  · constructor
    · intro z; omega
    · intro z; omega

/-- a time put in, or taken away -/
theorem lw_set (hn : n ≤ 6) (p : Nat → Int) (N : Nat) (x : Nat → Nat) (hT : lw_T n p N x) (e t : Nat) (he : e < n) (ht : t ≤ 7) (hp : p e = 100) :
    ∃ N' x', lw_T n (gm_set p e (t : Int)) N' x' ∧ nI N ^^^ ((15 ^^^ nI t) <<< ((4 * nI e) &&& 31)) = nI N' := by
  obtain ⟨h1, h2, h3, h4⟩ := hT
  have xe : x e = 15 := by
    rcases h4 e he with ⟨_, b⟩ | ⟨a, b, c⟩
    · exact b
    · omega
  have ht16 : 15 ^^^ t < 16 := by
    have : ∀ t, t ≤ 7 → 15 ^^^ t < 16 := by decide
    exact this t ht
  have hxt : 15 ^^^ (15 ^^^ t) = t := by
    have : ∀ t, t ≤ 7 → 15 ^^^ (15 ^^^ t) = t := by decide
    exact this t ht
  have P := lb4_xor N x h1 e (15 ^^^ t) ht16
  have hx' : ∀ k, (fun k => if k = e then x k ^^^ (15 ^^^ t) else x k) k = (if k = e then t else x k) := by
    intro k
    show (if k = e then x k ^^^ (15 ^^^ t) else x k) = (if k = e then t else x k)
    by_cases q : k = e
    · rw [if_pos q, if_pos q, q, xe, hxt]
    · rw [if_neg q, if_neg q]
  have P' := lb4_c _ _ _ P hx'
  have hz : ∀ k, n ≤ k → (if k = e then t else x k) = 0 := by
    intro k hk
    rw [if_neg (by omega)]; exact h3 k hk
  have hlt := lb4_lt _ _ P' n hz
  have hle : 2 ^ (4 * n) ≤ 2 ^ 24 := Nat.pow_le_pow_right (by decide) (by omega)
  refine ⟨_, _, ⟨P', Nat.lt_of_lt_of_le hlt hle, hz, fun k hk => ?_⟩, ?_⟩
  · by_cases q : k = e
    · rw [q, gm_set_s, if_pos rfl]; exact Or.inr ⟨by omega, by omega, rfl⟩
    · rw [gm_set_n _ _ _ _ q, if_neg q]; exact h4 k hk
  · have e15 : (15 : Int32) = nI 15 := by decide
    rw [e15, nx_xor, lc_shl (15 ^^^ t) e ht16 (by omega), nx_xor]

theorem lw_uns (hn : n ≤ 6) (p : Nat → Int) (N : Nat) (x : Nat → Nat) (hT : lw_T n p N x) (e : Nat) (he : e < n) :
    ∃ N' x', lw_T n (gm_set p e 100) N' x' ∧ nI N ||| ((15 : Int32) <<< ((4 * nI e) &&& 31)) = nI N' := by
  have l16 := lw_lt16 n p N x hT e
  obtain ⟨h1, h2, h3, h4⟩ := hT
  have P := lb4_or N x h1 e 15 (by decide)
  have h15 : x e ||| 15 = 15 := by
    have : ∀ t, t < 16 → t ||| 15 = 15 := by decide
    exact this (x e) l16
  have hx' : ∀ k, (fun k => if k = e then x k ||| 15 else x k) k = (if k = e then 15 else x k) := by
    intro k
    show (if k = e then x k ||| 15 else x k) = (if k = e then 15 else x k)
    by_cases q : k = e
    · rw [if_pos q, if_pos q, q, h15]
    · rw [if_neg q, if_neg q]
  have P' := lb4_c _ _ _ P hx'
  have hz : ∀ k, n ≤ k → (if k = e then 15 else x k) = 0 := by
    intro k hk
    rw [if_neg (by omega)]; exact h3 k hk
  have hlt := lb4_lt _ _ P' n hz
  have hle : 2 ^ (4 * n) ≤ 2 ^ 24 := Nat.pow_le_pow_right (by decide) (by omega)
  refine ⟨_, _, ⟨P', Nat.lt_of_lt_of_le hlt hle, hz, fun k hk => ?_⟩, ?_⟩
  · by_cases q : k = e
    · rw [q, gm_set_s, if_pos rfl]; exact Or.inl ⟨rfl, rfl⟩
    · rw [gm_set_n _ _ _ _ q, if_neg q]; exact h4 k hk
  · have e15 : (15 : Int32) = nI 15 := by decide
    rw [e15, lc_shl 15 e (by decide) (by omega), lc_or]

theorem lw_full (hn : n ≤ 6) (post : Int32 → Prop) (p : Nat → Int) (N : Nat) (x : Nat → Nat) (hT : lw_T n p N x)
    (h1 : gm_full n p → post 1) (h0 : ¬ gm_full n p → post 0) : wpL_full post () (nI n) (nI N) := by
  refine loop_0 (fun m i (_ : Unit) => wL_full_2 post (nI n) (nI N) m (nI i)) (fun i _ => ∀ e, e < i → p e ≠ 100) n () (fun u hu => absurd hu (by omega)) ?_ ?_
  · intro m _ hs
    exact br_t (Int32.le_refl _) (h1 hs)
  · intro m i _ hi hs ih
    refine br_f (nI_ge hi (by omega)) (lc_get _ N x hT.1 hT.2.1 i (by omega) (lw_lt16 n p N x hT i) ?_)
    have iff := lw_15 n p N x hT i hi
    refine br_c (fun q => h0 (fun z => z i hi (iff.1 q))) (fun q => nm_r (nI_1 i) (ih () (fun e he => ?_)))
    by_cases y : e = i
    · rw [y]; exact fun z => q (iff.2 z)
    · exact hs e (by omega)

/-- a limit read back -/
theorem lw_lim (hn : n ≤ 6) (N0 N1 : Nat) (z : Nat → Nat) (hz : lw_L n L N0 N1 z) (hr : ∀ u v, u < n → v < n → -7 ≤ L u v ∧ L u v ≤ 7) (post : Int32 → Prop) (u v : Nat) (hu : u < n) (hv : v < n) (huv : u ≠ v)
    (g : ∀ r : Int32, r.toInt = L u v → post r) : wpL_lim post () (nI u) (nI v) (lN N0) (lN N1) := by
  refine lc_lim post N0 N1 z hz.1 hz.2.1 u v (by omega) (by omega) huv (hz.2.2.1 _) (g _ ?_)
  have e := hz.2.2.2 u v hu hv huv
  have l := hz.2.2.1 (lc_ix u v)
  have r := hr u v hu hv
  have e7 : (7 : Int32) = nI 7 := by decide
  rw [e7, pk_sub_toInt (by omega) (by omega)]
  omega

theorem lw_fits (hn : n ≤ 6) (N0 N1 : Nat) (z : Nat → Nat) (hz : lw_L n L N0 N1 z) (hr : ∀ u v, u < n → v < n → -7 ≤ L u v ∧ L u v ≤ 7) (post : Int32 → Prop) (p : Nat → Int) (N : Nat) (x : Nat → Nat)
    (hT : lw_T n p N x) (e : Nat) (he : e < n)
    (h1 : (∀ u, u < n → u ≠ e → p u ≠ 100 → p e ≠ 100 → p e - p u ≤ L u e ∧ p u - p e ≤ L e u) → post 1)
    (h0 : (∃ u, u < n ∧ u ≠ e ∧ p u ≠ 100 ∧ p e ≠ 100 ∧ (L u e < p e - p u ∨ L e u < p u - p e)) → post 0) :
    wpL_fits post () (nI n) (lN N0) (lN N1) (nI N) (nI e) := by
  have iffe := lw_15 n p N x hT e he
  unfold wpL_fits
  refine lc_get _ N x hT.1 hT.2.1 e (by omega) (lw_lt16 n p N x hT e) (br_c (fun q => h1 (fun u _ _ _ y => absurd (iffe.1 q) y)) (fun q => ?_))
  have pe : p e ≠ 100 := fun y => q (iffe.2 y)
  have xe : 0 ≤ p e ∧ p e ≤ 7 ∧ (x e : Int) = p e := (hT.2.2.2 e he).resolve_left (fun y => pe y.1)
  refine loop_0 (fun m i (_ : Unit) => wL_fits_21 post (nI n) (lN N0) (lN N1) (nI N) (nI e) (nI (x e)) m (nI i))
    (fun i _ => ∀ u, u < i → u ≠ e → p u ≠ 100 → p e - p u ≤ L u e ∧ p u - p e ≤ L e u) n () (fun u hu => absurd hu (by omega)) ?_ ?_
  · intro m _ hs
    exact br_t (Int32.le_refl _) (h1 (fun u hu hue hpu _ => hs u hu hue hpu))
  · intro m u _ hu hs ih
    have iffu := lw_15 n p N x hT u hu
    have nx : (u ≠ e → p u ≠ 100 → p e - p u ≤ L u e ∧ p u - p e ≤ L e u) → wL_fits_21 post (nI n) (lN N0) (lN N1) (nI N) (nI e) (nI (x e)) m (nI (u + 1)) := by
      intro y
      refine ih () (fun u' hu' => ?_)
      by_cases a : u' = u
      · rw [a]; exact y
      · exact hs u' (by omega)
    refine br_f (nI_ge hu (by omega)) (lc_get _ N x hT.1 hT.2.1 u (by omega) (lw_lt16 n p N x hT u) (br_c (fun q1 => nm_r (nI_1 u) (nx (fun y => absurd ((nI_eq (by omega) (by omega)).1 q1) y))) (fun q1 => br_c (fun q2 => nm_r (nI_1 u) (nx (fun _ y => absurd (iffu.1 q2) y))) (fun q2 => ?_))))
    have hue : u ≠ e := fun y => q1 (by rw [y])
    have pu : p u ≠ 100 := fun y => q2 (iffu.2 y)
    have xu : 0 ≤ p u ∧ p u ≤ 7 ∧ (x u : Int) = p u := (hT.2.2.2 u hu).resolve_left (fun y => pu y.1)
    have d1 : (nI (x e) - nI (x u)).toInt = p e - p u := by
      rw [pk_sub_toInt (by omega) (by omega)]; omega
    have d2 : (nI (x u) - nI (x e)).toInt = p u - p e := by
      rw [pk_sub_toInt (by omega) (by omega)]; omega
    refine lw_lim n L hn N0 N1 z hz hr _ u e hu he hue (fun r1 hr1 => br_c (fun q3 => h0 ⟨u, hu, hue, pu, pe, Or.inl ?_⟩) (fun q3 => lw_lim n L hn N0 N1 z hz hr _ e u he hu (fun y => hue y.symm) (fun r2 hr2 => br_c (fun q4 => nm_r (nI_1 u) (nx (fun _ _ => ⟨?_, ?_⟩))) (fun q4 => h0 ⟨u, hu, hue, pu, pe, Or.inr ?_⟩))))
    · have y := (gn_lt _ _).1 q3
      rw [hr1, d1] at y
      exact y
    · have y := (gn_le _ _).1 (Int32.not_lt.1 q3)
      rw [hr1, d1] at y
      exact y
    · have y := (gn_le _ _).1 q4
      rw [hr2, d2] at y
      exact y
    · have y := (gn_lt _ _).1 (Int32.not_le.1 q4)
      rw [hr2, d2] at y
      exact y

/-- what a slot can do -/
def lw_can (x0 x : Nat → Nat) (q : Nat) : Prop :=
  q % B % n ≠ 0 ∧ x0 (q % B % n) = 15 ∧ (ct (q % B % n) = true ↔ q % B < n) ∧ (x (q % B % n) = 15 ∨ x (q % B % n) = q / B) ∧
  (ct (q % B % n) = true → lo (q % B % n) ≤ ((q / B : Nat) : Int) - (x (ac (q % B % n)) : Int) ∧ ((q / B : Nat) : Int) - (x (ac (q % B % n)) : Int) ≤ hi (q % B % n))

theorem lw_120 (hN : gm_net n h L ct ac lo hi) (hB : ls_B n B) (post : Int32 → Prop) (J : Int32 → Int32 → Int32 → Int32 → Int32 → Prop) (l0 l1 : Int64) (K : Nat) (y : Nat → Nat) (hK : lw_K n ct ac lo hi K y)
    (p0 p : Nat → Int) (N0 N : Nat) (x0 x : Nat → Nat) (hT0 : lw_T n p0 N0 x0) (hT : lw_T n p N x) (q : Nat) (hq : q < (h + 1) * B) (up v i fi en : Int32)
    (H : ∀ can d : Int32, (can = 1 ∧ lw_can n ct ac lo hi B x0 x q ∨ can = 0 ∧ ¬ lw_can n ct ac lo hi B x0 x q) →
      (ct (q % B % n) = true → d.toInt = ((q / B : Nat) : Int) - (x (ac (q % B % n)) : Int)) →
      wL_win_282 post J (nI n) l0 l1 (lN K) (nI N0) (nI B) fi en (nI q) (nI N) up v i (nI (q / B)) (nI (q % B % n)) (nI (x (q % B % n))) (if ct (q % B % n) = true then 1 else 0) can d) :
    wL_win_120 post J (nI n) l0 l1 (lN K) (nI N0) (nI B) fi en (nI q) (nI N) up v i := by
  have h7 : h ≤ 7 := hN.2.2.1
  have hn6 : n ≤ 6 := hN.2.1
  have hn3 : 3 ≤ n := by rcases hB with ⟨a, _⟩ | ⟨a, _⟩ | ⟨a, _⟩ | ⟨a, _⟩ <;> omega
  have hb12 : B ≤ 12 ∧ 6 ≤ B := by rcases hB with ⟨_, a⟩ | ⟨_, a⟩ | ⟨_, a⟩ | ⟨_, a⟩ <;> omega
  have hq96 : q < 96 := by rcases hB with ⟨_, a⟩ | ⟨_, a⟩ | ⟨_, a⟩ | ⟨_, a⟩ <;> subst a <;> omega
  have hen : q % B % n < n := Nat.mod_lt _ (by omega)
  have hslot : q % B < B := Nat.mod_lt _ (by omega)
  have htd : q / B ≤ 7 := by rcases hB with ⟨_, a⟩ | ⟨_, a⟩ | ⟨_, a⟩ | ⟨_, a⟩ <;> subst a <;> omega
  have nB : ¬ nI B = 0 := nI_ne0 (by omega) (by omega)
  have nn : ¬ nI n = 0 := nI_ne0 (by omega) (by omega)
  obtain ⟨k1, k2, k3, k4⟩ := hK
  have ke := k4 _ hen
  unfold lw_can at H
  refine ⟨nB, nm_r (pk_div (by omega) (by omega) (by omega)) ⟨nB, nm_r (pk_rem (by omega) (by omega) (by omega)) ⟨nn, nm_r (pk_rem (by omega) (by omega) (by omega)) ?_⟩⟩⟩
  refine lc_get _ N x hT.1 hT.2.1 _ (by omega) (lw_lt16 n p N x hT _) ?_
  refine lc_link _ K y k1 k2 _ 0 (by omega) (by omega) (k3 _) ?_
  generalize q % B % n = e at *
  generalize hsl : q % B = slot at *
  generalize q / B = t at *
  have x16 := lw_lt16 n p N x hT
  have ey : y (3 * e + 0) = y (3 * e) := rfl
  rw [ey]
  -- the slot's looks behind con
  have rest : ∀ (a con : Int32), (ct e = true → a = nI (ac e)) → con = (if ct e = true then 1 else 0) →
      wL_win_171 post J (nI n) l0 l1 (lN K) (nI N0) (nI B) fi en (nI q) (nI N) up v i (nI t) (nI slot) (nI e) (nI (x e)) a con := by
    intro a con ha hcon
    have c225 : ∀ can : Int32, (can = 1 ∧ (e ≠ 0 ∧ x0 e = 15 ∧ (ct e = true ↔ slot < n) ∧ (x e = 15 ∨ x e = t)) ∨ can = 0 ∧ ¬ (e ≠ 0 ∧ x0 e = 15 ∧ (ct e = true ↔ slot < n) ∧ (x e = 15 ∨ x e = t))) →
        wL_win_225 post J (nI n) l0 l1 (lN K) (nI N0) (nI B) fi en (nI q) (nI N) up v i (nI t) (nI e) (nI (x e)) a con can := by
      intro can hcan
      cases hc : ct e with
      | false =>
        have e0 : con = 0 := by rw [hcon, hc]; rfl
        have f0 : ∀ P : Prop, ct e = true → P := fun P z => by rw [hc] at z; simp at z
        refine br_t e0 (br_t e0 ?_)
        rw [e0]
        have HH := H can 0 (by
          rcases hcan with ⟨z1, z2⟩ | ⟨z1, z2⟩
          · exact Or.inl ⟨z1, z2.1, z2.2.1, z2.2.2.1, z2.2.2.2, fun z => f0 _ z⟩
          · exact Or.inr ⟨z1, fun z => z2 ⟨z.1, z.2.1, z.2.2.1, z.2.2.2.1⟩⟩) (fun z => f0 _ z)
        rw [hc] at HH
        exact HH
      | true =>
        have e1 : con = 1 := by rw [hcon, hc]; rfl
        have ne1 : ¬ con = 0 := by rw [e1]; decide
        have b := hN.2.2.2.2.2.2 e hen hc
        obtain ⟨y0, y1, y2⟩ := ke.2 hc
        rw [ha hc]
        refine br_f ne1 (lc_get _ N x hT.1 hT.2.1 _ (by omega) (x16 _) (br_f ne1 ?_))
        rw [e1]
        have xa := x16 (ac e)
        have dd : (nI t - nI (x (ac e))).toInt = (t : Int) - (x (ac e) : Int) := pk_sub_toInt (by omega) (by omega)
        have r1 := gq_nI (y (3 * e + 1)) (by have := k3 (3 * e + 1); omega)
        have r2 := gq_nI (y (3 * e + 2)) (by have := k3 (3 * e + 2); omega)
        have HH := fun can' hcan' => H can' (nI t - nI (x (ac e))) hcan' (fun _ => dd)
        rw [hc] at HH
        refine lc_link _ K y k1 k2 e 1 (by omega) (by omega) (k3 _) (br_c (fun q1 => ?_) (fun q1 => lc_link _ K y k1 k2 e 2 (by omega) (by omega) (k3 _) (br_c (fun q2 => ?_) (fun q2 => ?_))))
        · refine HH 0 (Or.inr ⟨rfl, fun z => ?_⟩)
          have z1 := (z.2.2.2.2 rfl).1
          have z2 := (gn_lt _ _).1 q1
          rw [dd, r1] at z2
          omega
        · have z1 := (gn_le _ _).1 (Int32.not_lt.1 q1)
          have z2 := (gn_le _ _).1 q2
          rw [dd, r1] at z1
          rw [dd, r2] at z2
          refine HH can ?_
          rcases hcan with ⟨w1, w2⟩ | ⟨w1, w2⟩
          · exact Or.inl ⟨w1, w2.1, w2.2.1, by rw [hc] at w2; exact w2.2.2.1, w2.2.2.2, fun _ => ⟨by omega, by omega⟩⟩
          · refine Or.inr ⟨w1, fun z => w2 ⟨z.1, z.2.1, by rw [hc]; exact z.2.2.1, z.2.2.2.1⟩⟩
        · refine HH 0 (Or.inr ⟨rfl, fun z => ?_⟩)
          have z1 := (z.2.2.2.2 rfl).2
          have z2 := (gn_lt _ _).1 (Int32.not_le.1 q2)
          rw [dd, r2] at z2
          omega
    refine br_c (fun q1 => c225 0 (Or.inr ⟨rfl, fun z => z.1 ?_⟩)) (fun q1 => ?_)
    · have z0 := (gn_le _ _).1 q1
      rw [gq_nI e (by omega), show (0 : Int32).toInt = 0 by decide] at z0
      omega
    · have e0 : e ≠ 0 := fun z => q1 (by rw [z]; decide)
      have hl0 := lw_lt16 n p0 N0 x0 hT0 e
      refine lc_get _ N0 x0 hT0.1 hT0.2.1 e (by omega) hl0 (br_c (fun q2 => ?_) (fun q2 => c225 0 (Or.inr ⟨rfl, fun z => q2 (by rw [z.2.1]; rfl)⟩)))
      have p15 : x0 e = 15 := (nI_eq (b := 15) (by omega) (by omega)).1 q2
      have c203 : ∀ z0 : Int32, (z0 = 1 ∧ slot < n ∨ z0 = 0 ∧ ¬ slot < n) →
          wL_win_203 post J (nI n) l0 l1 (lN K) (nI N0) (nI B) fi en (nI q) (nI N) up v i (nI t) (nI e) (nI (x e)) a con z0 con := by
        intro z0 hz0
        have ciff : con = z0 ↔ (ct e = true ↔ slot < n) := by
          cases hc : ct e with
          | false =>
            have e0 : con = 0 := by rw [hcon, hc]; rfl
            rcases hz0 with ⟨w1, w2⟩ | ⟨w1, w2⟩
            · rw [e0, w1]
              exact ⟨fun z => absurd z (by decide), fun z => by have := z.2 w2; simp at this⟩
            · rw [e0, w1]
              exact ⟨fun _ => ⟨fun z => by simp at z, fun z => absurd z w2⟩, fun _ => rfl⟩
          | true =>
            have e1 : con = 1 := by rw [hcon, hc]; rfl
            rcases hz0 with ⟨w1, w2⟩ | ⟨w1, w2⟩
            · rw [e1, w1]
              exact ⟨fun _ => ⟨fun _ => w2, fun _ => rfl⟩, fun _ => rfl⟩
            · rw [e1, w1]
              exact ⟨fun z => absurd z (by decide), fun z => absurd (z.1 rfl) w2⟩
        have xl := x16 e
        refine br_c (fun q3 => br_c (fun q4 => c225 1 (Or.inl ⟨rfl, e0, p15, ciff.1 q3, Or.inl ((nI_eq (b := 15) (by omega) (by omega)).1 q4)⟩))
          (fun q4 => br_c (fun q5 => c225 1 (Or.inl ⟨rfl, e0, p15, ciff.1 q3, Or.inr ((nI_eq (by omega) (by omega)).1 q5)⟩)) (fun q5 => c225 0 (Or.inr ⟨rfl, fun z => ?_⟩))))
          (fun q3 => c225 0 (Or.inr ⟨rfl, fun z => q3 (ciff.2 z.2.2.1)⟩))
        rcases z.2.2.2 with w | w
        · exact q4 (by rw [w]; rfl)
        · exact q5 (by rw [w])
      refine br_c (fun q3 => c203 0 (Or.inr ⟨rfl, ?_⟩)) (fun q3 => c203 1 (Or.inl ⟨rfl, ?_⟩))
      · have := (nI_leI (by omega) (by omega)).1 q3; omega
      · by_cases z : slot < n
        · exact z
        · exact absurd (nI_le (by omega) (by omega)) q3
  cases hc : ct e with
  | false =>
    have y7 := ke.1 hc
    exact br_t (by rw [y7]; rfl) (rest _ 0 (fun z => by rw [hc] at z; simp at z) (by rw [hc]; rfl))
  | true =>
    have b := hN.2.2.2.2.2.2 e hen hc
    obtain ⟨y0, y1, y2⟩ := ke.2 hc
    refine br_f (fun z => ?_) (rest _ 1 (fun _ => by rw [y0]) (by rw [hc]; rfl))
    have z7 : y (3 * e) = 7 := (nI_eq (b := 7) (by have := k3 (3 * e); omega) (by omega)).1 z
    omega
end lw
end
section
-- the law's own search: its turns
section lx
variable (n h : Nat) (L : Nat → Nat → Int) (ct : Nat → Bool) (ac : Nat → Nat) (lo hi : Nat → Int) (B : Nat)

theorem lx_q (hN : gm_net n h L ct ac lo hi) (hB : ls_B n B) (q : Nat) (hq : q < (h + 1) * B) :
    q < 96 ∧ q / B ≤ h ∧ q % B % n < n ∧ 3 ≤ n := by
  have h7 : h ≤ 7 := hN.2.2.1
  have hn3 : 3 ≤ n := by rcases hB with ⟨a, _⟩ | ⟨a, _⟩ | ⟨a, _⟩ | ⟨a, _⟩ <;> omega
  refine ⟨?_, ?_, Nat.mod_lt _ (by omega), hn3⟩
  · rcases hB with ⟨_, a⟩ | ⟨_, a⟩ | ⟨_, a⟩ | ⟨_, a⟩ <;> subst a <;> omega
  · rcases hB with ⟨_, a⟩ | ⟨_, a⟩ | ⟨_, a⟩ | ⟨_, a⟩ <;> subst a <;> omega

/-- a time of this very slot's event and round: its step -/
theorem lx_own (hN : gm_net n h L ct ac lo hi) (hB : ls_B n B) (q : Nat) (hq : q < (h + 1) * B) (he0 : q % B % n ≠ 0) (hc : ct (q % B % n) = true ↔ q % B < n) :
    gm_stp ct (q % B % n) ((q / B : Nat) : Int) = ((ls_s n B q : Nat) : Int) := by
  have d := ls_div n B hB q
  have m := ls_mod n B hB q
  have hf := ls_half n B hB q
  rw [← m, ← d]
  rw [← m] at hc he0
  cases hcc : ct (ls_s n B q % 6) with
  | true => exact gm_slot_t ct _ he0 hcc (hf.2 (hc.1 hcc))
  | false =>
    refine gm_slot_f ct _ he0 hcc ?_
    by_cases z : ls_s n B q % 12 < 6
    · have := hc.2 (hf.1 z)
      rw [hcc] at this
      simp at this
    · omega

theorem lx_r5 (hN : gm_net n h L ct ac lo hi) (hB : ls_B n B) (q : Nat) (hq : q < (h + 1) * B) (p : Nat → Int) (N : Nat) (x0 x : Nat → Nat) (hT : lw_T n p N x)
    (hw : gm_wf n h ct ac lo hi (ls_s n B q) p) (hcan : lw_can n ct ac lo hi B x0 x q) : x (q % B % n) ≠ q / B := by
  obtain ⟨c1, c2, c3, c4, c5⟩ := hcan
  obtain ⟨q1, q2, q3, q4⟩ := lx_q n h L ct ac lo hi B hN hB q hq
  have h7 : h ≤ 7 := hN.2.2.1
  have own := lx_own n h L ct ac lo hi B hN hB q hq c1 c3
  intro z
  rcases hT.2.2.2 _ q3 with ⟨a, b⟩ | ⟨a, b, c⟩
  · omega
  · rcases hw.2.1 _ q3 with y | ⟨_, _, y⟩
    · omega
    · rw [← c, z, own] at y
      omega

theorem lx_k0 (hN : gm_net n h L ct ac lo hi) (hB : ls_B n B) (q : Nat) (hq : q < (h + 1) * B) (p : Nat → Int) (N : Nat) (x0 x : Nat → Nat) (hT : lw_T n p N x)
    (hw : gm_wf n h ct ac lo hi (ls_s n B q) p) (hk : gm_kind n ct ac lo hi p (ls_s n B q) = 0) : ¬ lw_can n ct ac lo hi B x0 x q := by
  intro hcan
  have hne := lx_r5 n h L ct ac lo hi B hN hB q hq p N x0 x hT hw hcan
  obtain ⟨c1, c2, c3, c4, c5⟩ := hcan
  obtain ⟨q1, q2, q3, q4⟩ := lx_q n h L ct ac lo hi B hN hB q hq
  have h7 : h ≤ 7 := hN.2.2.1
  have d := ls_div n B hB q
  have m := ls_mod n B hB q
  have hf := ls_half n B hB q
  have xe : x (q % B % n) = 15 := c4.resolve_right hne
  have pe : p (q % B % n) = 100 := by
    rcases hT.2.2.2 _ q3 with ⟨a, b⟩ | ⟨a, b, c⟩
    · exact a
    · omega
  rw [← m] at c1 c3 c5 pe q3
  cases hcc : ct (ls_s n B q % 6) with
  | true =>
    have bb := hN.2.2.2.2.2.2 _ q3 hcc
    have r := c5 hcc
    rw [← d] at r
    have pa : p (ac (ls_s n B q % 6)) ≠ 100 ∧ (x (ac (ls_s n B q % 6)) : Int) = p (ac (ls_s n B q % 6)) := by
      rcases hT.2.2.2 _ bb.1 with ⟨a, b⟩ | ⟨a, b, c⟩
      · omega
      · exact ⟨by omega, c⟩
    have kr := gm_kind_run n ct ac lo hi p (ls_s n B q) c1 q3 pe hcc (hf.2 (c3.1 hcc)) pa.1
    by_cases y : ((ls_s n B q / 12 : Nat) : Int) - p (ac (ls_s n B q % 6)) = hi (ls_s n B q % 6)
    · have := kr.1 y; omega
    · have := kr.2 (by omega) (by omega); omega
  | false =>
    have z : 6 ≤ ls_s n B q % 12 := by
      by_cases z : ls_s n B q % 12 < 6
      · have := c3.2 (hf.1 z)
        rw [hcc] at this
        simp at this
      · omega
    have := gm_kind_exe n ct ac lo hi p (ls_s n B q) c1 q3 pe hcc z
    omega

theorem lx_k1 (hN : gm_net n h L ct ac lo hi) (hB : ls_B n B) (q : Nat) (hq : q < (h + 1) * B) (p0 p : Nat → Int) (N0 N N' : Nat) (x0 x x' : Nat → Nat) (hT0 : lw_T n p0 N0 x0)
    (hT : lw_T n p N x) (ha : ∀ e, e < n → p0 e ≠ 100 → p e = p0 e) (hk : gm_kind n ct ac lo hi p (ls_s n B q) ≠ 0)
    (hT' : lw_T n (gm_set p (ls_s n B q % 6) ((ls_s n B q / 12 : Nat) : Int)) N' x') :
    lw_can n ct ac lo hi B x0 x q ∧ lw_can n ct ac lo hi B x0 x' q ∧ x' (q % B % n) = q / B ∧ p (q % B % n) = 100 := by
  obtain ⟨q1, q2, q3, q4⟩ := lx_q n h L ct ac lo hi B hN hB q hq
  have h7 : h ≤ 7 := hN.2.2.1
  have d := ls_div n B hB q
  have m := ls_mod n B hB q
  have hf := ls_half n B hB q
  have hkind := gm_kind_lt n ct ac lo hi p (ls_s n B q)
  have core : q % B % n ≠ 0 ∧ p (q % B % n) = 100 ∧ (ct (q % B % n) = true ↔ q % B < n) ∧
      (ct (q % B % n) = true → p (ac (q % B % n)) ≠ 100 ∧ lo (q % B % n) ≤ ((q / B : Nat) : Int) - p (ac (q % B % n)) ∧ ((q / B : Nat) : Int) - p (ac (q % B % n)) ≤ hi (q % B % n)) := by
    rw [← m, ← d]
    rcases hkind with z | z | z | z
    · exact absurd z hk
    · obtain ⟨k1, k2, k3, k4, k5, k6⟩ := gm_kind_12 n ct ac lo hi p _ (Or.inl z)
      have dd := gm_kind_1 n ct ac lo hi p _ z
      have b := hN.2.2.2.2.2.2 _ k2 k4
      exact ⟨k1, k3, ⟨fun _ => hf.1 k5, fun _ => k4⟩, fun _ => ⟨k6, by omega, by omega⟩⟩
    · obtain ⟨k1, k2, k3, k4, k5, k6⟩ := gm_kind_12 n ct ac lo hi p _ (Or.inr z)
      have dd := gm_kind_2 n ct ac lo hi p _ z
      exact ⟨k1, k3, ⟨fun _ => hf.1 k5, fun _ => k4⟩, fun _ => ⟨k6, by omega, by omega⟩⟩
    · obtain ⟨k1, k2, k3, k4, k5⟩ := gm_kind_3 n ct ac lo hi p _ z
      refine ⟨k1, k3, ⟨fun y => by rw [k4] at y; simp at y, fun y => ?_⟩, fun y => by rw [k4] at y; simp at y⟩
      have := hf.2 y
      omega
  obtain ⟨g1, g2, g3, g4⟩ := core
  have x0e : x0 (q % B % n) = 15 := by
    rcases hT0.2.2.2 _ q3 with ⟨a, b⟩ | ⟨a, b, c⟩
    · exact b
    · have := ha _ q3 (by omega)
      omega
  have xe : x (q % B % n) = 15 := by
    rcases hT.2.2.2 _ q3 with ⟨a, b⟩ | ⟨a, b, c⟩
    · exact b
    · omega
  rw [m, d] at hT'
  have xe' : x' (q % B % n) = q / B := by
    rcases hT'.2.2.2 _ q3 with ⟨a, b⟩ | ⟨a, b, c⟩
    · rw [gm_set_s] at a; omega
    · rw [gm_set_s] at c; omega
  have xa : ct (q % B % n) = true → (x (ac (q % B % n)) : Int) = p (ac (q % B % n)) ∧ (x' (ac (q % B % n)) : Int) = p (ac (q % B % n)) := by
    intro hcc
    have bb := hN.2.2.2.2.2.2 _ q3 hcc
    have pa := (g4 hcc).1
    constructor
    · rcases hT.2.2.2 _ bb.1 with ⟨a, b⟩ | ⟨a, b, c⟩
      · exact absurd a pa
      · exact c
    · rcases hT'.2.2.2 _ bb.1 with ⟨a, b⟩ | ⟨a, b, c⟩
      · rw [gm_set_n _ _ _ _ bb.2.1] at a; exact absurd a pa
      · rw [gm_set_n _ _ _ _ bb.2.1] at c; exact c
  refine ⟨⟨g1, x0e, g3, Or.inl xe, fun hcc => ?_⟩, ⟨g1, x0e, g3, Or.inr xe', fun hcc => ?_⟩, xe', g2⟩
  · rw [(xa hcc).1]; exact (g4 hcc).2
  · rw [(xa hcc).2]; exact (g4 hcc).2

variable (l0 l1 K P : Nat) (first : Nat)

def lx_pf (post : Int32 → Prop) (p0 : Nat → Int) (upI : Int32) (x13 : Int32) (k : Nat) (v : Prop) (p : Nat → Int) : Prop :=
  ∀ (N : Nat) (x : Nat → Nat) (vI : Int32), lw_T n p N x → (∀ e, e < n → p0 e ≠ 100 → p e = p0 e) → (vI = 1 ∧ v ∨ vI = 0 ∧ ¬ v) → k ≤ 50000000 →
    wL_win_68 post (nI n) (lN l0) (lN l1) (lN K) (nI P) (nI B) (nI first) (nI ((h + 1) * B)) (k + 1) x13 (nI N) upI vI (nI (50000000 - k))

theorem lx_i (k : Nat) (hk : k + 1 ≤ 50000000) : nI (50000000 - (k + 1)) + 1 = nI (50000000 - k) := by
  rw [nI_1]
  congr 1
  omega

theorem lx_lt (k : Nat) (hk : k + 1 ≤ 50000000) : ¬ (50000000 : Int32) ≤ nI (50000000 - (k + 1)) :=
  nI_ge (b := 50000000) (by omega) (by decide)

theorem lx_nf (q : Nat) (hq : first ≤ q) (hq2 : q < 1000) : ¬ nI q < nI first := nI_nlt hq (by omega)

theorem lx_1 (hn : n ≤ 6) (post : Int32 → Prop) (p0 : Nat → Int) (k q : Nat) (v : Prop) (p : Nat → Int) (hf : first ≤ q) (hq : q < 1000) (hfull : gm_full n p)
    (H : lx_pf n h B l0 l1 K P first post p0 1 (nI q + (-1)) k True p) : lx_pf n h B l0 l1 K P first post p0 0 (nI q) (k + 1) v p := by
  intro N x vI hT ha hv hk
  have go : wL_win_103 post (wL_win_68 post (nI n) (lN l0) (lN l1) (lN K) (nI P) (nI B) (nI first) (nI ((h + 1) * B)) (k + 1)) (nI n) (lN l0) (lN l1) (lN K) (nI P) (nI B) (nI first) (nI ((h + 1) * B)) (nI q) (nI N) (nI (50000000 - (k + 1))) :=
    lw_full n hn _ p N x hT (fun _ => nm_e (nm_r (lx_i k hk) (H N x 1 hT ha (Or.inl ⟨rfl, trivial⟩) (by omega)))) (fun z => absurd hfull z)
  exact br_f (lx_lt k hk) (br_f (lx_nf first q hf hq) (br_t rfl (br_c (fun _ => go) (fun _ => lw_full n hn _ p N x hT (fun _ => br_f (by decide) go) (fun z => absurd hfull z)))))

theorem lx_2 (hn : n ≤ 6) (post : Int32 → Prop) (p0 : Nat → Int) (k q : Nat) (v : Prop) (p : Nat → Int) (hf : first ≤ q) (hq : q < 1000) (hfull : ¬ gm_full n p) (hE : q = (h + 1) * B)
    (H : lx_pf n h B l0 l1 K P first post p0 1 (nI q + (-1)) k False p) : lx_pf n h B l0 l1 K P first post p0 0 (nI q) (k + 1) v p := by
  intro N x vI hT ha hv hk
  exact br_f (lx_lt k hk) (br_f (lx_nf first q hf hq) (br_t rfl (br_t (by rw [hE]) (lw_full n hn _ p N x hT (fun z => absurd z hfull) (fun _ => nm_e (nm_r (lx_i k hk) (H N x 0 hT ha (Or.inr ⟨rfl, fun z => z⟩) (by omega))))))))

theorem lx_3 (hN : gm_net n h L ct ac lo hi) (hB : ls_B n B) (y : Nat → Nat) (hK : lw_K n ct ac lo hi K y) (post : Int32 → Prop) (p0 : Nat → Int) (x0 : Nat → Nat) (hT0 : lw_T n p0 P x0) (k q : Nat) (v : Prop) (p : Nat → Int)
    (hf : first ≤ q) (hw : gm_wf n h ct ac lo hi (ls_s n B q) p) (hfull : ¬ gm_full n p) (hq : q < (h + 1) * B) (hk0 : gm_kind n ct ac lo hi p (ls_s n B q) = 0)
    (H : lx_pf n h B l0 l1 K P first post p0 0 (nI (q + 1)) k v p) : lx_pf n h B l0 l1 K P first post p0 0 (nI q) (k + 1) v p := by
  intro N x vI hT ha hv hk
  have hn : n ≤ 6 := hN.2.1
  have h7 : h ≤ 7 := hN.2.2.1
  obtain ⟨q1, q2, q3, q4⟩ := lx_q n h L ct ac lo hi B hN hB q hq
  have hE96 : (h + 1) * B ≤ 96 := by rcases hB with ⟨_, a⟩ | ⟨_, a⟩ | ⟨_, a⟩ | ⟨_, a⟩ <;> subst a <;> omega
  have nE : ¬ nI q = nI ((h + 1) * B) := fun z => by have := (nI_eq (by omega) (by omega)).1 z; omega
  refine br_f (lx_lt k hk) (br_f (lx_nf first q hf (by omega)) (br_t rfl (br_f nE (lw_full n hn _ p N x hT (fun z => absurd z hfull) (fun _ => br_t rfl ?_)))))
  refine lw_120 n h L ct ac lo hi B hN hB post _ (lN l0) (lN l1) K y hK p0 p P N x0 x hT0 hT q hq 0 vI _ _ _ (fun can d hcan hd => ?_)
  have c0 : can = 0 := by
    rcases hcan with ⟨_, z⟩ | ⟨z, _⟩
    · exact absurd z (lx_k0 n h L ct ac lo hi B hN hB q hq p N x0 x hT hw hk0)
    · exact z
  exact br_t rfl (br_t c0 (nm_r (nI_1 q) (nm_r (lx_i k hk) (H N x vI hT ha hv (by omega)))))

theorem lx_4 (hN : gm_net n h L ct ac lo hi) (hB : ls_B n B) (y : Nat → Nat) (hK : lw_K n ct ac lo hi K y) (z : Nat → Nat) (hz : lw_L n L l0 l1 z) (hr : ∀ u v, u < n → v < n → -7 ≤ L u v ∧ L u v ≤ 7)
    (post : Int32 → Prop) (p0 : Nat → Int) (x0 : Nat → Nat) (hT0 : lw_T n p0 P x0) (k q : Nat) (v : Prop) (p : Nat → Int)
    (hf : first ≤ q) (hw : gm_wf n h ct ac lo hi (ls_s n B q) p) (hb : ¬ gm_broken n L p) (hfull : ¬ gm_full n p) (hq : q < (h + 1) * B) (hk0 : gm_kind n ct ac lo hi p (ls_s n B q) ≠ 0)
    (H1 : gm_broken n L (gm_set p (ls_s n B q % 6) ((ls_s n B q / 12 : Nat) : Int)) → lx_pf n h B l0 l1 K P first post p0 1 (nI (q + 1) + (-1)) k False (gm_set p (ls_s n B q % 6) ((ls_s n B q / 12 : Nat) : Int)))
    (H2 : ¬ gm_broken n L (gm_set p (ls_s n B q % 6) ((ls_s n B q / 12 : Nat) : Int)) → lx_pf n h B l0 l1 K P first post p0 0 (nI (q + 1)) k v (gm_set p (ls_s n B q % 6) ((ls_s n B q / 12 : Nat) : Int))) :
    lx_pf n h B l0 l1 K P first post p0 0 (nI q) (k + 1) v p := by
  intro N x vI hT ha hv hk
  have hn : n ≤ 6 := hN.2.1
  have h7 : h ≤ 7 := hN.2.2.1
  obtain ⟨q1, q2, q3, q4⟩ := lx_q n h L ct ac lo hi B hN hB q hq
  have d := ls_div n B hB q
  have m := ls_mod n B hB q
  have hE96 : (h + 1) * B ≤ 96 := by rcases hB with ⟨_, a⟩ | ⟨_, a⟩ | ⟨_, a⟩ | ⟨_, a⟩ <;> subst a <;> omega
  have nE : ¬ nI q = nI ((h + 1) * B) := fun z => by have := (nI_eq (by omega) (by omega)).1 z; omega
  have pe : p (q % B % n) = 100 := by
    rw [← m]
    rcases gm_kind_lt n ct ac lo hi p (ls_s n B q) with w | w | w | w
    · exact absurd w hk0
    · exact (gm_kind_12 n ct ac lo hi p _ (Or.inl w)).2.2.1
    · exact (gm_kind_12 n ct ac lo hi p _ (Or.inr w)).2.2.1
    · exact (gm_kind_3 n ct ac lo hi p _ w).2.2.1
  obtain ⟨N', x', hT', eN⟩ := lw_set n hn p N x hT (q % B % n) (q / B) q3 (by omega) pe
  have hT2 : lw_T n (gm_set p (ls_s n B q % 6) ((ls_s n B q / 12 : Nat) : Int)) N' x' := by rw [m, d]; exact hT'
  obtain ⟨k1, k2, k3, k4⟩ := lx_k1 n h L ct ac lo hi B hN hB q hq p0 p P N N' x0 x x' hT0 hT ha hk0 hT2
  have ha' : ∀ e, e < n → p0 e ≠ 100 → gm_set p (ls_s n B q % 6) ((ls_s n B q / 12 : Nat) : Int) e = p0 e := by
    intro e he h0
    rw [gm_set_n _ _ _ _ (fun w => ?_)]
    · exact ha e he h0
    · rw [m] at w
      rw [w] at h0 he
      have := ha _ he h0
      rw [pe] at this
      exact h0 this.symm
  refine br_f (lx_lt k hk) (br_f (lx_nf first q hf (by omega)) (br_t rfl (br_f nE (lw_full n hn _ p N x hT (fun w => absurd w hfull) (fun _ => br_t rfl ?_)))))
  refine lw_120 n h L ct ac lo hi B hN hB post _ (lN l0) (lN l1) K y hK p0 p P N x0 x hT0 hT q hq 0 vI _ _ _ (fun can dd hcan hd => ?_)
  have c1 : ¬ can = 0 := by
    rcases hcan with ⟨w, _⟩ | ⟨_, w⟩
    · rw [w]; decide
    · exact absurd k1 w
  refine br_t rfl (br_f c1 (nm_r eN (lw_fits n L hn l0 l1 z hz hr _ _ N' x' hT' (q % B % n) q3 (fun hfit => br_f (by decide) ?_) (fun hno => br_t rfl ?_))))
  · have nb : ¬ gm_broken n L (gm_set p (ls_s n B q % 6) ((ls_s n B q / 12 : Nat) : Int)) := by
      rw [m, d]
      intro ⟨u, w, hu, hw2, huw, e1, e2, e3⟩
      by_cases a : u = q % B % n
      · have := (hfit w hw2 (fun c => huw (by rw [a, c])) e2 (by rw [gm_set_s]; omega)).2
        rw [a] at e3
        omega
      · by_cases c : w = q % B % n
        · have := (hfit u hu a e1 (by rw [gm_set_s]; omega)).1
          rw [c] at e3
          omega
        · rw [gm_set_n _ _ _ _ a, gm_set_n _ _ _ _ c] at e3
          rw [gm_set_n _ _ _ _ a] at e1
          rw [gm_set_n _ _ _ _ c] at e2
          exact hb ⟨u, w, hu, hw2, huw, e1, e2, e3⟩
    exact nm_r (nI_1 q) (nm_r (lx_i k hk) (H2 nb N' x' vI hT2 ha' hv (by omega)))
  · have br : gm_broken n L (gm_set p (ls_s n B q % 6) ((ls_s n B q / 12 : Nat) : Int)) := by
      rw [m, d]
      obtain ⟨u, hu, hue, e1, e2, e3⟩ := hno
      rcases e3 with e3 | e3
      · exact ⟨u, _, hu, q3, hue, e1, e2, e3⟩
      · exact ⟨_, u, q3, hu, fun c => hue c.symm, e2, e1, e3⟩
    have yy := H1 br N' x' 0 hT2 ha' (Or.inr ⟨rfl, fun w => w⟩) (by omega)
    rw [pk_m1] at yy
    exact nm_r (lx_i k hk) yy

theorem lx_5 (hN : gm_net n h L ct ac lo hi) (hB : ls_B n B) (y : Nat → Nat) (hK : lw_K n ct ac lo hi K y) (post : Int32 → Prop) (p0 : Nat → Int) (x0 : Nat → Nat) (hT0 : lw_T n p0 P x0) (k q : Nat) (v : Prop) (p : Nat → Int)
    (hf : first ≤ q) (hw : gm_wf n h ct ac lo hi (ls_s n B q) p) (hq : q < (h + 1) * B)
    (H : lx_pf n h B l0 l1 K P first post p0 1 (nI q + (-1)) k v p) : lx_pf n h B l0 l1 K P first post p0 1 (nI (q + 1) + (-1)) (k + 1) v p := by
  intro N x vI hT ha hv hk
  obtain ⟨q1, q2, q3, q4⟩ := lx_q n h L ct ac lo hi B hN hB q hq
  have h7 : h ≤ 7 := hN.2.2.1
  rw [pk_m1]
  refine br_f (lx_lt k hk) (br_f (lx_nf first q hf (by omega)) (br_f (by decide) ?_))
  refine lw_120 n h L ct ac lo hi B hN hB post _ (lN l0) (lN l1) K y hK p0 p P N x0 x hT0 hT q hq 1 vI _ _ _ (fun can dd hcan hd => ?_)
  have go := H N x vI hT ha hv (by omega)
  refine br_f (by decide) (br_c (fun _ => nm_e (nm_r (lx_i k hk) go)) (fun c => br_f (fun w => ?_) (nm_e (nm_r (lx_i k hk) go))))
  rcases hcan with ⟨_, cc⟩ | ⟨cc, _⟩
  · have l16 := lw_lt16 n p N x hT (q % B % n)
    exact lx_r5 n h L ct ac lo hi B hN hB q hq p N x0 x hT hw cc ((nI_eq (by omega) (by omega)).1 w)
  · exact c cc

theorem lx_6 (hN : gm_net n h L ct ac lo hi) (hB : ls_B n B) (y : Nat → Nat) (hK : lw_K n ct ac lo hi K y) (post : Int32 → Prop) (p0 : Nat → Int) (x0 : Nat → Nat) (hT0 : lw_T n p0 P x0) (k q : Nat) (v : Prop) (p : Nat → Int)
    (hf : first ≤ q) (ha1 : ∀ e, e < n → p0 e ≠ 100 → p e = p0 e) (hw : gm_wf n h ct ac lo hi (ls_s n B q) p) (hq : q < (h + 1) * B) (hk0 : gm_kind n ct ac lo hi p (ls_s n B q) ≠ 0)
    (H1 : (gm_kind n ct ac lo hi p (ls_s n B q) = 2 ∧ v ∨ gm_kind n ct ac lo hi p (ls_s n B q) = 3 ∧ ¬ v) → lx_pf n h B l0 l1 K P first post p0 0 (nI (q + 1)) k v p)
    (H2 : ¬ (gm_kind n ct ac lo hi p (ls_s n B q) = 2 ∧ v ∨ gm_kind n ct ac lo hi p (ls_s n B q) = 3 ∧ ¬ v) → lx_pf n h B l0 l1 K P first post p0 1 (nI q + (-1)) k v p) :
    lx_pf n h B l0 l1 K P first post p0 1 (nI (q + 1) + (-1)) (k + 1) v (gm_set p (ls_s n B q % 6) ((ls_s n B q / 12 : Nat) : Int)) := by
  intro N x vI hT ha hv hk
  obtain ⟨q1, q2, q3, q4⟩ := lx_q n h L ct ac lo hi B hN hB q hq
  have hn : n ≤ 6 := hN.2.1
  have h7 : h ≤ 7 := hN.2.2.1
  have d := ls_div n B hB q
  have m := ls_mod n B hB q
  have hf2 := ls_half n B hB q
  have hkind := gm_kind_lt n ct ac lo hi p (ls_s n B q)
  have pe : p (ls_s n B q % 6) = 100 := by
    rcases hkind with w | w | w | w
    · exact absurd w hk0
    · exact (gm_kind_12 n ct ac lo hi p _ (Or.inl w)).2.2.1
    · exact (gm_kind_12 n ct ac lo hi p _ (Or.inr w)).2.2.1
    · exact (gm_kind_3 n ct ac lo hi p _ w).2.2.1
  have hback : gm_set (gm_set p (ls_s n B q % 6) ((ls_s n B q / 12 : Nat) : Int)) (ls_s n B q % 6) 100 = p := by
    funext e
    by_cases c : e = ls_s n B q % 6
    · rw [c, gm_set_s, pe]
    · rw [gm_set_n _ _ _ _ c, gm_set_n _ _ _ _ c]
  obtain ⟨N1, x1, hT1, e1⟩ := lw_uns n hn _ N x hT (ls_s n B q % 6) (by rw [m]; exact q3)
  rw [hback] at hT1
  rw [m] at e1
  obtain ⟨k1, k2, k3, k4⟩ := lx_k1 n h L ct ac lo hi B hN hB q hq p0 p P N1 N x0 x1 x hT0 hT1 ha1 hk0 hT
  rw [pk_m1]
  refine br_f (lx_lt k hk) (br_f (lx_nf first q hf (by omega)) (br_f (by decide) ?_))
  refine lw_120 n h L ct ac lo hi B hN hB post _ (lN l0) (lN l1) K y hK p0 _ P N x0 x hT0 hT q hq 1 vI _ _ _ (fun can dd hcan hd => ?_)
  have c1 : ¬ can = 0 := by
    rcases hcan with ⟨w, _⟩ | ⟨_, w⟩
    · rw [w]; decide
    · exact absurd k2 w
  have hv0 : vI = 0 ↔ ¬ v := by
    rcases hv with ⟨a, b⟩ | ⟨a, b⟩
    · rw [a]; exact ⟨fun w => absurd w (by decide), fun w => absurd b w⟩
    · exact ⟨fun _ => b, fun _ => a⟩
  have down := fun w => H1 w N1 x1 vI hT1 ha1 hv (by omega)
  have back := fun w => H2 w N1 x1 vI hT1 ha1 hv (by omega)
  refine br_f (by decide) (br_f c1 (br_t (by rw [k3]) (nm_r e1 ?_)))
  cases hcc : ct (q % B % n) with
  | false =>
    have hk3 : gm_kind n ct ac lo hi p (ls_s n B q) = 3 := by
      rcases hkind with w | w | w | w
      · exact absurd w hk0
      · have := (gm_kind_12 n ct ac lo hi p _ (Or.inl w)).2.2.2.1
        rw [m, hcc] at this; simp at this
      · have := (gm_kind_12 n ct ac lo hi p _ (Or.inr w)).2.2.2.1
        rw [m, hcc] at this; simp at this
      · exact w
    refine br_t rfl (br_c (fun w => nm_r (nI_1 q) (nm_r (lx_i k hk) (down (Or.inr ⟨hk3, hv0.1 w⟩)))) (fun w => nm_e (nm_r (lx_i k hk) (back (fun b => ?_)))))
    rcases b with ⟨b, _⟩ | ⟨_, b⟩
    · omega
    · exact w (hv0.2 b)
  | true =>
    have hk12 : gm_kind n ct ac lo hi p (ls_s n B q) = 1 ∨ gm_kind n ct ac lo hi p (ls_s n B q) = 2 := by
      rcases hkind with w | w | w | w
      · exact absurd w hk0
      · exact Or.inl w
      · exact Or.inr w
      · have := (gm_kind_3 n ct ac lo hi p _ w).2.2.2.1
        rw [m, hcc] at this; simp at this
    obtain ⟨y0, y1, y2⟩ := (hK.2.2.2 _ q3).2 hcc
    have r2 := gq_nI (y (3 * (q % B % n) + 2)) (by have := hK.2.2.1 (3 * (q % B % n) + 2); omega)
    have hdd := hd hcc
    have bb := hN.2.2.2.2.2.2 _ q3 hcc
    have xa : (x (ac (q % B % n)) : Int) = p (ac (q % B % n)) := by
      have pa : p (ac (q % B % n)) ≠ 100 := by
        rw [← m]
        exact (gm_kind_12 n ct ac lo hi p _ hk12).2.2.2.2.2
      rcases hT.2.2.2 _ bb.1 with ⟨a, b⟩ | ⟨a, b, c⟩
      · rw [m, gm_set_n _ _ _ _ bb.2.1] at a; exact absurd a pa
      · rw [m, gm_set_n _ _ _ _ bb.2.1] at c; exact c
    rw [xa] at hdd
    have nturn0 : ¬ v → ¬ (gm_kind n ct ac lo hi p (ls_s n B q) = 2 ∧ v ∨ gm_kind n ct ac lo hi p (ls_s n B q) = 3 ∧ ¬ v) := by
      intro w b
      rcases b with ⟨_, b⟩ | ⟨b, _⟩
      · exact w b
      · omega
    refine br_f (by decide) (br_c (fun w => nm_e (nm_r (lx_i k hk) (back (nturn0 (hv0.1 w))))) (fun w => ?_))
    have hvt : v := Classical.byContradiction (fun b => w (hv0.2 b))
    refine lc_link _ K y hK.1 hK.2.1 _ 2 (by omega) (by omega) (hK.2.2.1 _) (br_c (fun w2 => nm_e (nm_r (lx_i k hk) (back (fun b => ?_)))) (fun w2 => nm_r (nI_1 q) (nm_r (lx_i k hk) (down (Or.inl ⟨?_, hvt⟩)))))
    · have z := (gn_le _ _).1 w2
      rw [r2, hdd] at z
      rcases b with ⟨b, _⟩ | ⟨b, _⟩
      · have e2 := gm_kind_2 n ct ac lo hi p _ b
        rw [m, d] at e2
        omega
      · omega
    · have z := (gn_lt _ _).1 (Int32.not_le.1 w2)
      rw [r2, hdd] at z
      rcases hk12 with b | b
      · have e2 := gm_kind_1 n ct ac lo hi p _ b
        rw [m, d] at e2
        omega
      · exact b

/-- the search's end -/
theorem lx_end (post : Int32 → Prop) (p0 : Nat → Int) (k : Nat) (v : Prop) (p : Nat → Int) (hf : first < 1000)
    (hpost : ∀ r : Int32, (r = 1 ∧ v ∨ r = 0 ∧ ¬ v) → post r) : lx_pf n h B l0 l1 K P first post p0 1 (nI first + (-1)) (k + 1) v p := by
  intro N x vI hT ha hv hk
  have hl : nI first + (-1) < nI first := by
    have e1 := gq_nI first (by omega)
    rw [gn_lt, gn_add _ _ ⟨by omega, by omega⟩ ⟨by decide, by decide⟩, e1, gq_m1]
    omega
  refine br_f (lx_lt k hk) (br_t hl ⟨?_, hpost vI hv⟩)
  rcases hv with ⟨b, _⟩ | ⟨b, _⟩
  · rw [b]; rfl
  · rw [b]; rfl

theorem lx_win (hN : gm_net n h L ct ac lo hi) (hB : ls_B n B) (y : Nat → Nat) (hK : lw_K n ct ac lo hi K y) (z : Nat → Nat) (hz : lw_L n L l0 l1 z) (hr : ∀ u v, u < n → v < n → -7 ≤ L u v ∧ L u v ≤ 7)
    (post : Int32 → Prop) (p0 : Nat → Int) (x0 : Nat → Nat) (hT0 : lw_T n p0 P x0) (t0 m : Nat) (ht0 : t0 ≤ h) (hm : 12 * t0 + m = 12 * (h + 1)) (hw : gm_wf n h ct ac lo hi (12 * t0) p0)
    (hpost : ∀ r : Int32, (r = 1 ∧ gm_val n L ct ac lo hi m (12 * t0) p0 ∨ r = 0 ∧ ¬ gm_val n L ct ac lo hi m (12 * t0) p0) → post r) :
    wpL_win post () (nI n) (nI h) (lN l0) (lN l1) (lN K) (nI P) (nI t0) := by
  have hn : n ≤ 6 := hN.2.1
  have h7 : h ≤ 7 := hN.2.2.1
  have hn3 : 3 ≤ n := by rcases hB with ⟨a, _⟩ | ⟨a, _⟩ | ⟨a, _⟩ | ⟨a, _⟩ <;> omega
  have hB2 : B = 2 * n := by rcases hB with ⟨a, b⟩ | ⟨a, b⟩ | ⟨a, b⟩ | ⟨a, b⟩ <;> omega
  have hE96 : (h + 1) * B ≤ 96 := by rcases hB with ⟨_, a⟩ | ⟨_, a⟩ | ⟨_, a⟩ | ⟨_, a⟩ <;> subst a <;> omega
  have htE : t0 * B ≤ (h + 1) * B := Nat.mul_le_mul_right B (by omega)
  have es := ls_begin n B hB t0 (t0 * B) rfl
  refine loop_0 (fun f i (_ : Unit) => wL_win_3 post (nI n) (nI h) (lN l0) (lN l1) (lN K) (nI P) (nI t0) f (nI i))
    (fun i _ => ∀ e, e < i → ∀ u, u < n → u ≠ e → p0 u ≠ 100 → p0 e ≠ 100 → p0 e - p0 u ≤ L u e ∧ p0 u - p0 e ≤ L e u) n () (fun u hu => absurd hu (by omega)) ?_ ?_
  · intro f _ hs
    have hb : ¬ gm_broken n L p0 := by
      intro ⟨u, w, hu, hw2, huw, e1, e2, e3⟩
      have := (hs w hw2 u hu huw e1 e2).1
      omega
    have k1 : (2 : Int32) * nI n = nI B := by
      have e2 : (2 : Int32) = nI 2 := by decide
      rw [e2, pk_mul, hB2]
    have k3 : (nI h + 1) * nI B = nI ((h + 1) * B) := by rw [nI_1, pk_mul]
    refine br_t (Int32.le_refl _) (nm_r k1 (nm_r (pk_mul t0 B) (nm_r k3 ?_)))
    obtain ⟨V, hV⟩ : ∃ V : Nat, V = 50000000 := ⟨_, rfl⟩
    have e0 : (0 : Int32) = nI (50000000 - V) := by rw [hV]; rfl
    have eV : ls_V n h L ct ac lo hi B (t0 * B) p0 = gm_val n L ct ac lo hi m (12 * t0) p0 := by
      unfold ls_V
      rw [es, show 12 * (h + 1) - 12 * t0 = m by omega]
    have top : ls_bd n h ct B (t0 * B) p0 ≤ 11455506 := by
      unfold ls_bd
      exact sr_bd_top n h ct _ _ p0 h7 (by omega)
    have main : lx_pf n h B l0 l1 K P (t0 * B) post p0 0 (nI (t0 * B)) V False p0 := by
      refine ls_dfs n h L ct ac lo hi B (t0 * B) hN hB (fun p => ∀ e, e < n → p0 e ≠ 100 → p e = p0 e) ?_
        (fun k q v p => lx_pf n h B l0 l1 K P (t0 * B) post p0 0 (nI q) k v p) (fun k q v p => lx_pf n h B l0 l1 K P (t0 * B) post p0 1 (nI q + (-1)) k v p) ?_ ?_ ?_ ?_ ?_ ?_
        ((h + 1) * B - t0 * B) (t0 * B) p0 V False (Nat.le_refl _) (by omega) (fun _ _ _ => rfl) (by rw [es]; exact hw) hb (by omega) ?_
      · intro p e t he hA hp e' he' h0
        by_cases c : e' = e
        · rw [c] at h0
          have := hA e he h0
          rw [hp] at this
          exact absurd this.symm h0
        · rw [gm_set_n _ _ _ _ c]; exact hA e' he' h0
      · exact fun k q v p hf hqE hw' hfull H => lx_1 n h B l0 l1 K P (t0 * B) hn post p0 k q v p hf (by omega) hfull H
      · exact fun k q v p hf hw' hfull hE H => lx_2 n h B l0 l1 K P (t0 * B) hn post p0 k q v p hf (by omega) hfull hE H
      · exact fun k q v p hf hw' hfull hq hk0 H => lx_3 n h L ct ac lo hi B l0 l1 K P (t0 * B) hN hB y hK post p0 x0 hT0 k q v p hf hw' hfull hq hk0 H
      · exact fun k q v p hf hw' hb' hfull hq hk0 H1 H2 => lx_4 n h L ct ac lo hi B l0 l1 K P (t0 * B) hN hB y hK z hz hr post p0 x0 hT0 k q v p hf hw' hb' hfull hq hk0 H1 H2
      · exact fun k q v p hf hw' hq H => lx_5 n h L ct ac lo hi B l0 l1 K P (t0 * B) hN hB y hK post p0 x0 hT0 k q v p hf hw' hq H
      · exact fun k q v p hf hag hw' hq hk0 H1 H2 => lx_6 n h L ct ac lo hi B l0 l1 K P (t0 * B) hN hB y hK post p0 x0 hT0 k q v p hf hag hw' hq hk0 H1 H2
      · intro k' hk'
        obtain ⟨k1, rfl⟩ : ∃ k1, k' = k1 + 1 := ⟨k' - 1, by omega⟩
        rw [eV]
        exact lx_end n h B l0 l1 K P (t0 * B) post p0 k1 _ p0 (by omega) hpost
    have yy := main P x0 0 hT0 (fun _ _ _ => rfl) (Or.inr ⟨rfl, fun w => w⟩) (by omega)
    rw [← e0] at yy
    exact ⟨V + 1, yy⟩
  · intro f e _ he hs ih
    refine br_f (nI_ge he (by omega)) (lw_fits n L hn l0 l1 z hz hr _ p0 P x0 hT0 e he (fun hfit => br_f (by decide) (nm_r (nI_1 e) (ih () (fun e' he' => ?_)))) (fun hno => br_t rfl (hpost 0 (Or.inr ⟨rfl, fun w => ?_⟩))))
    · by_cases c : e' = e
      · rw [c]; exact hfit
      · exact hs e' (by omega)
    · refine gm_val_nb n L ct ac lo hi _ _ p0 w ?_
      obtain ⟨u, hu, hue, e1, e2, e3⟩ := hno
      rcases e3 with e3 | e3
      · exact ⟨u, e, hu, he, hue, e1, e2, e3⟩
      · exact ⟨e, u, he, hu, fun c => hue c.symm, e2, e1, e3⟩
end lx
end
section
-- the law: a run's rounds and its end
section lz
variable (n h t : Nat) (ij wa f : Int32) (lim act sh lg pol tim b w : Nat → Int32) (Ls : Nat) (xs : Nat → Int32)

theorem lz_cell (post : Int32 → Prop) (k : Nat) (hk : k < 100000) (hL : Ls ≤ 260) (g : ∀ r, post r) : wpL_cell post Ls xs () (nI k) := by
  refine br_c (fun _ => g _) (fun q => ⟨?_, g _⟩)
  refine vp_in_nI ?_ (by omega)
  by_cases z : k < Ls
  · exact z
  · exact absurd (nI_le (a := Ls) (by omega) (by omega)) q

theorem lz_pick (post : Int32 → Prop) (k m : Nat) (hk : k < 100000) (hL : Ls ≤ 260) (hm : 0 < m) (hm2 : m < 1000) (g : ∀ j, j < m → post (nI j)) : wpL_pick post Ls xs () (nI k) (nI m) := by
  unfold wpL_pick
  refine lz_cell Ls xs _ k hk hL (fun r => ⟨nI_ne0 hm (by omega), ?_⟩)
  obtain ⟨j, hj, e⟩ := pk_andE r (m := 2147483647) 31 (by decide)
  rw [e, pk_rem hj hm (by omega)]
  exact g _ (Nat.mod_lt _ hm)

/-- all is done: every event has its time in a safe play -/
def lz_done (tim : Nat → Int32) (T : Nat → Int) : Prop :=
  gm_sp n h (gd_t lim) (gq_ct act) (gq_ac act) (gq_i sh) (gq_i lg) T ∧ ∀ e, e < n → tim e = nI (T e).toNat

theorem lz_done_of (h7 : h ≤ 7) (htr : ox_tr n h tim) (T : Nat → Int) (hT : gm_sp n h (gd_t lim) (gq_ct act) (gq_ac act) (gq_i sh) (gq_i lg) T) (hp : ∀ e, e < n → gq_p tim e = T e) : lz_done n h lim act sh lg tim T := by
  refine ⟨hT, fun e he => ?_⟩
  have y := hp e he
  have tt := hT.2.1 e he
  rcases htr e he with q | ⟨τ, hτ, q⟩
  · rw [gq_p_n tim e q] at y; omega
  · rw [gq_p_t tim e τ (by omega) q] at y
    rw [q, ← y]
    rfl

theorem lz_948 (h6 : n ≤ 6) (h7 : h ≤ 7) (hN : gm_net n h (gd_t lim) (gq_ct act) (gq_ac act) (gq_i sh) (gq_i lg)) (hA : ∀ k, k < n → gq_ct act k = true → act k = nI (gq_ac act k) ∧ gq_ac act k < n)
    (T : Nat → Int) (hD : lz_done n h lim act sh lg tim T) (post : Int32 → Prop) (J44 : Int32 → Int32 → Int32 → Int32 → Int32 → Int32 → Int32 → Int32 → Int32 → (Nat → Int32) → (Nat → Int32) → (Nat → Int32) → (Nat → Int32) → (Nat → Int32) → (Nat → Int32) → (Nat → Int32) → (Nat → Int32) → Prop) (J917 : Int32 → Prop) (x3 x5 : Int32) (kc ks e : Nat) (he : e < n) (g : J917 (nI (e + 1))) :
    ∃ m, wL_law_948 post Ls xs J44 J917 (nI n) (nI h) x3 x5 (nI e) (tim e) kc ks (nI n) (nI h) ij wa f 2 (nI t) lim act sh lg pol tim b w m 0 := by
  obtain ⟨hT, hti⟩ := hD
  have hb := hT.2.1
  have nz : ∀ x, x < n → ¬ tim x = -1 := fun x hx => by rw [hti x hx]; exact gq_nIm _ (by have := hb x hx; omega)
  have sub : ∀ x y, x < n → y < n → (tim x - tim y).toInt = T x - T y := by
    intro x y hx hy
    have b1 := hb x hx
    have b2 := hb y hy
    rw [hti x hx, hti y hy, pk_sub_toInt (by omega) (by omega)]
    omega
  have tmo : ∀ (P : Int32 → Prop) (x : Nat), x < n → P (tim x) → wpX_timeOf P (nI n, nI h, ij, wa, f, 2, nI t, lim, act, sh, lg, pol, tim, b, w) (nI x) := fun P x hx gp =>
    om_time n h t ij wa f 2 lim act sh lg pol tim b w h6 P x hx (fun z => absurd z (nz x hx)) (fun _ => gp)
  refine loop_0 (fun m i (_ : Unit) => wL_law_948 post Ls xs J44 J917 (nI n) (nI h) x3 x5 (nI e) (tim e) kc ks (nI n) (nI h) ij wa f 2 (nI t) lim act sh lg pol tim b w m (nI i)) (fun _ _ => True) n () trivial ?_ ?_
  · intro m _ _
    refine br_t (Int32.le_refl _) (br_c (fun _ => nm_r (nI_1 e) g) (fun q => ?_))
    have e1 : 1 ≤ e := by
      by_cases z : e = 0
      · exact absurd (by rw [z]; rfl) q
      · omega
    refine om_link n h t ij wa f 2 lim act sh lg pol tim b w h6 _ e 0 e1 he (by omega) (fun _ => br_t rfl (nm_r (nI_1 e) g)) (fun hc => ?_)
    obtain ⟨a1, a2⟩ := hA e he hc
    have bb := hN.2.2.2.2.2.2 e he hc
    have tt := hT.2.2.1 e he hc
    have n100 : ¬ act e = 100 := by rw [a1]; exact gq_nI100 _ (by omega)
    refine br_f n100 (om_link n h t ij wa f 2 lim act sh lg pol tim b w h6 _ e 0 e1 he (by omega) (fun z => by rw [hc] at z; simp at z) (fun _ => ?_))
    rw [if_pos rfl, a1]
    refine tmo _ _ a2 (nm_e ?_)
    have dd := sub e _ he a2
    refine om_link n h t ij wa f 2 lim act sh lg pol tim b w h6 _ e 1 e1 he (by omega) (fun z => by rw [hc] at z; simp at z) (fun _ => br_f (fun z => ?_) ?_)
    · have y := (gn_lt _ _).1 z
      rw [dd] at y
      have y2 : (if (1 : Nat) = 0 then act e else if (1 : Nat) = 1 then sh e else lg e).toInt = gq_i sh e := rfl
      rw [y2] at y
      omega
    · refine om_link n h t ij wa f 2 lim act sh lg pol tim b w h6 _ e 2 e1 he (by omega) (fun z => by rw [hc] at z; simp at z) (fun _ => br_t ?_ (nm_r (nI_1 e) g))
      rw [gn_le, dd]
      show _ ≤ gq_i lg e
      omega
  · intro m u _ hu _ ih
    refine br_f (nI_ge hu (by omega)) (br_c (fun _ => nm_r (nI_1 u) (ih () trivial)) (fun q => ?_))
    have hue : u ≠ e := fun z => q (by rw [z])
    refine tmo _ u hu (om_lim n h t ij wa f 2 lim act sh lg pol tim b w h6 _ u e hu he hue (br_t ?_ (nm_r (nI_1 u) (ih () trivial))))
    rw [gn_le, sub e u he hu]
    exact gv_lim n h (gd_t lim) (gq_ct act) (gq_ac act) (gq_i sh) (gq_i lg) hN T hT u e hu he hue

theorem lz_917 (h6 : n ≤ 6) (h7 : h ≤ 7) (hN : gm_net n h (gd_t lim) (gq_ct act) (gq_ac act) (gq_i sh) (gq_i lg)) (hL : ol_lim n h lim) (hK : ol_lk n h act sh lg)
    (T : Nat → Int) (hD : lz_done n h lim act sh lg tim T) (hw : wa = 0 ∨ wa = 1) (hJ : ij = 1 ∧ gv_jud n h (gd_t lim) (gq_ct act) (gq_ac act) (gq_i sh) (gq_i lg) wa b w)
    (post : Int32 → Prop) (J44 : Int32 → Int32 → Int32 → Int32 → Int32 → Int32 → Int32 → Int32 → Int32 → (Nat → Int32) → (Nat → Int32) → (Nat → Int32) → (Nat → Int32) → (Nat → Int32) → (Nat → Int32) → (Nat → Int32) → (Nat → Int32) → Prop) (x3 : Int32) (x5 : Nat) (kc ks : Nat)
    (g : ∀ (tim : Nat → Int32), (∀ e, e < n → tim e = -1) → J44 x3 (nI (x5 + 1)) (nI n) (nI h) ij wa f 0 (nI 0) lim act sh lg pol tim b w) :
    ∃ m, wL_law_917 post Ls xs J44 (nI n) (nI h) x3 (nI x5) kc ks (nI n) (nI h) ij wa f 2 (nI t) lim act sh lg pol tim b w m 0 := by
  have hA := gq_link n h act sh lg h6 hK.2
  refine loop_0 (fun m i (_ : Unit) => wL_law_917 post Ls xs J44 (nI n) (nI h) x3 (nI x5) kc ks (nI n) (nI h) ij wa f 2 (nI t) lim act sh lg pol tim b w m (nI i)) (fun _ _ => True) n () trivial ?_ ?_
  · intro m _ _
    refine br_t (Int32.le_refl _) ?_
    unfold wpX_restart
    dsimp only
    exact br_f (by decide) (zh_enter n h t ij wa f 2 lim act sh lg pol tim b w h6 _ (fun tim' ht' => nm_r (nI_1 x5) (g tim' ht')))
  · intro m e _ he _ ih
    have hb := hD.1.2.1 e he
    have hte := hD.2 e he
    refine br_f (nI_ge he (by omega)) (om_time n h t ij wa f 2 lim act sh lg pol tim b w h6 _ e he (fun z => ?_) (fun _ => br_f (fun z => ?_) (br_t ?_ ?_)))
    · rw [hte] at z
      exact absurd z (gq_nIm _ (by omega))
    · rw [hte] at z
      exact nI_pos (by omega) z
    · rw [hte]
      exact nI_le (by omega) (by omega)
    · exact lz_948 n h t ij wa f lim act sh lg pol tim b w Ls xs h6 h7 hN hA T hD post J44 _ x3 (nI x5) kc ks e he (ih () trivial)

/-- the looks and calls within a round -/
theorem lz_828 (h3 : 3 ≤ n) (h6 : n ≤ 6) (h7 : h ≤ 7) (ht : t ≤ h) (hN : gm_net n h (gd_t lim) (gq_ct act) (gq_ac act) (gq_i sh) (gq_i lg)) (hA : ∀ k, k < n → gq_ct act k = true → act k = nI (gq_ac act k) ∧ gq_ac act k < n)
    (hX : gc_fix n (gd_t lim) (gq_ct act) (gq_ac act) (gq_i sh) (gq_i lg) (gd_t b) (gd_t w)) (hS : gs_snd n h (gd_t lim) (gq_ct act) (gq_ac act) (gq_i sh) (gq_i lg) (gd_t b) (gd_t w))
    (hB : ∀ u v, u < n → v < n → -7 ≤ gd_t b u v ∧ gd_t b u v ≤ 7) (htr : ox_tr n h tim) (T : Nat → Int) (hg : gr_at n h (gd_t lim) (gq_ct act) (gq_ac act) (gq_i sh) (gq_i lg) t T (gq_p tim))
    (post : Int32 → Prop) (J44 J683 : Int32 → Int32 → Int32 → Int32 → Int32 → Int32 → Int32 → Int32 → Int32 → (Nat → Int32) → (Nat → Int32) → (Nat → Int32) → (Nat → Int32) → (Nat → Int32) → (Nat → Int32) → (Nat → Int32) → (Nat → Int32) → Prop) (k i : Nat) (x5 : Int32) (l0 l1 lk : Int64) (c1 c2 : Int32) (kc ks : Nat)
    (hd : ∀ (pol tim : Nat → Int32), ox_tr n h tim → (∃ T, gm_sp n h (gd_t lim) (gq_ct act) (gq_ac act) (gq_i sh) (gq_i lg) T ∧ ∀ e, e < n → gq_p tim e = T e) → J683 (nI (k + 2)) (nI (i + 1)) (nI n) (nI h) ij wa f 2 (nI t) lim act sh lg pol tim b w)
    (hr : t < h → ∀ (pol tim : Nat → Int32), ox_tr n h tim → (∃ T, gm_sp n h (gd_t lim) (gq_ct act) (gq_ac act) (gq_i sh) (gq_i lg) T ∧ ∀ e, e < n → gm_pos (gq_ct act) T (12 * (t + 1)) e = gq_p tim e) → J683 (nI (k + 2)) (nI (i + 1)) (nI n) (nI h) ij wa f 1 (nI (t + 1)) lim act sh lg pol tim b w) :
    ∃ m, wL_law_828 post Ls xs J44 J683 (nI n) (nI h) (nI k) x5 l0 l1 lk (nI i) c1 c2 kc ks m 1 (nI n) (nI h) ij wa f 1 (nI t) lim act sh lg pol tim b w := by
  have k2 : nI k + 2 = nI (k + 2) := nI_add k 2
  refine pk_loop (fun m e (s : (Nat → Int32) × (Nat → Int32)) => wL_law_828 post Ls xs J44 J683 (nI n) (nI h) (nI k) x5 l0 l1 lk (nI i) c1 c2 kc ks m (nI e) (nI n) (nI h) ij wa f 1 (nI t) lim act sh lg s.1 s.2 b w)
    (fun e s => 1 ≤ e ∧ ox_tr n h s.2 ∧ gr_at n h (gd_t lim) (gq_ct act) (gq_ac act) (gq_i sh) (gq_i lg) t T (gq_p s.2)) n 1 (pol, tim) (by omega) ⟨by omega, htr, hg⟩ ?_ ?_
  · intro m s hs
    obtain ⟨pol, tim⟩ := s
    refine br_t (Int32.le_refl _) (br_f (by decide) ?_)
    exact ox_step n h t ij wa f lim act sh lg pol b w h6 (by omega) h7 ht hN hA hX hS hB tim hs.2.1 T hs.2.2 _
      (fun r tim' a1 a2 => nm_r (nI_1 i) (nm_r k2 (hd pol tim' a1 a2))) (fun hlt r tim' a1 a2 => nm_r (nI_1 i) (nm_r k2 (hr hlt pol tim' a1 a2)))
  · intro m e s he hs ih
    obtain ⟨pol, tim⟩ := s
    refine br_f (nI_ge he (by omega)) (om_pol n h t ij wa f 1 lim act sh lg pol tim b w h6 _ e hs.1 he _ (fun r pol' => br_c (fun _ => ?_) (fun _ => nm_r (nI_1 e) (ih (pol', tim) ⟨by omega, hs.2⟩))))
    exact om_rev n h t ij wa f lim act sh lg pol' tim b w h6 h7 ht hN hA hs.2.1 T hs.2.2 _ e hs.1 he (fun r tim' a1 a2 => nm_r (nI_1 e) (ih (pol', tim') ⟨by omega, a1, a2⟩))

theorem lz_gr (hN : gm_net n h (gd_t lim) (gq_ct act) (gq_ac act) (gq_i sh) (gq_i lg)) (T p : Nat → Int) (hT : gm_sp n h (gd_t lim) (gq_ct act) (gq_ac act) (gq_i sh) (gq_i lg) T) (hp : ∀ e, e < n → gm_pos (gq_ct act) T (12 * t) e = p e) : gr_at n h (gd_t lim) (gq_ct act) (gq_ac act) (gq_i sh) (gq_i lg) t T p := by
  have hn6 : n ≤ 6 := hN.2.1
  refine ⟨hT, ?_, fun e he he0 hl => ?_, fun e he he0 hl => ?_⟩
  · rw [← hp 0 hN.1]; unfold gm_pos; rw [gm_stp_0, if_pos (by omega)]; exact hT.1
  · have sb := gm_stp_b (gq_ct act) e (T e) he0 (by omega)
    rw [← hp e he]; unfold gm_pos; rw [if_pos (by omega)]
  · have sb := gm_stp_b (gq_ct act) e (T e) he0 (by omega)
    rw [← hp e he]; unfold gm_pos; rw [if_neg (by omega)]; exact Or.inl rfl

def lz_v (tim : Nat → Int32) (j : Nat) : Nat := if tim j = -1 then 15 else (tim j).toNatClampNeg

theorem lz_v_T (h6 : n ≤ 6) (h7 : h ≤ 7) (htr : ox_tr n h tim) (N : Nat) (hP : lb4_P N (fun j => if j < n then lz_v tim j else 0)) :
    lw_T n (gq_p tim) N (fun j => if j < n then lz_v tim j else 0) := by
  have hz : ∀ e, n ≤ e → (if e < n then lz_v tim e else 0) = 0 := fun e he => if_neg (by omega)
  have hlt := lb4_lt N _ hP n hz
  have hle : 2 ^ (4 * n) ≤ 2 ^ 24 := Nat.pow_le_pow_right (by decide) (by omega)
  refine ⟨hP, Nat.lt_of_lt_of_le hlt hle, hz, fun e he => ?_⟩
  show (gq_p tim e = 100 ∧ (if e < n then lz_v tim e else 0) = 15) ∨ (0 ≤ gq_p tim e ∧ gq_p tim e ≤ 7 ∧ ((if e < n then lz_v tim e else 0 : Nat) : Int) = gq_p tim e)
  rw [if_pos he]
  rcases htr e he with q | ⟨τ, hτ, q⟩
  · refine Or.inl ⟨gq_p_n tim e q, ?_⟩
    unfold lz_v
    rw [if_pos q]
  · have pt := gq_p_t tim e τ (by omega) q
    have v1 : lz_v tim e = τ := by
      unfold lz_v
      rw [q, if_neg (gq_nIm τ (by omega))]
      exact nI_clamp (by omega)
    rw [v1, pt]
    exact Or.inr ⟨by omega, by omega, rfl⟩

theorem lz_724 (h3 : 3 ≤ n) (h6 : n ≤ 6) (h7 : h ≤ 7) (ht : t ≤ h) (B : Nat) (hBB : ls_B n B) (hN : gm_net n h (gd_t lim) (gq_ct act) (gq_ac act) (gq_i sh) (gq_i lg)) (hA : ∀ k, k < n → gq_ct act k = true → act k = nI (gq_ac act k) ∧ gq_ac act k < n)
    (hX : gc_fix n (gd_t lim) (gq_ct act) (gq_ac act) (gq_i sh) (gq_i lg) (gd_t b) (gd_t w)) (hS : gs_snd n h (gd_t lim) (gq_ct act) (gq_ac act) (gq_i sh) (gq_i lg) (gd_t b) (gd_t w))
    (hB : ∀ u v, u < n → v < n → -7 ≤ gd_t b u v ∧ gd_t b u v ≤ 7) (hlr : ∀ u v, u < n → v < n → -7 ≤ gd_t lim u v ∧ gd_t lim u v ≤ 7) (htr : ox_tr n h tim) (T : Nat → Int) (hT : gm_sp n h (gd_t lim) (gq_ct act) (gq_ac act) (gq_i sh) (gq_i lg) T) (hp : ∀ e, e < n → gm_pos (gq_ct act) T (12 * t) e = gq_p tim e)
    (l0 l1 K : Nat) (z y : Nat → Nat) (hz : lw_L n (gd_t lim) l0 l1 z) (hK : lw_K n (gq_ct act) (gq_ac act) (gq_i sh) (gq_i lg) K y) (hL : Ls ≤ 260)
    (post : Int32 → Prop) (J44 J683 : Int32 → Int32 → Int32 → Int32 → Int32 → Int32 → Int32 → Int32 → Int32 → (Nat → Int32) → (Nat → Int32) → (Nat → Int32) → (Nat → Int32) → (Nat → Int32) → (Nat → Int32) → (Nat → Int32) → (Nat → Int32) → Prop) (k i : Nat) (hk : k < 10000) (x5 : Int32) (kc ks : Nat)
    (hd : ∀ (pol tim : Nat → Int32), ox_tr n h tim → (∃ T, gm_sp n h (gd_t lim) (gq_ct act) (gq_ac act) (gq_i sh) (gq_i lg) T ∧ ∀ e, e < n → gq_p tim e = T e) → J683 (nI (k + 2)) (nI (i + 1)) (nI n) (nI h) ij wa f 2 (nI t) lim act sh lg pol tim b w)
    (hr : t < h → ∀ (pol tim : Nat → Int32), ox_tr n h tim → (∃ T, gm_sp n h (gd_t lim) (gq_ct act) (gq_ac act) (gq_i sh) (gq_i lg) T ∧ ∀ e, e < n → gm_pos (gq_ct act) T (12 * (t + 1)) e = gq_p tim e) → J683 (nI (k + 2)) (nI (i + 1)) (nI n) (nI h) ij wa f 1 (nI (t + 1)) lim act sh lg pol tim b w) :
    ∃ m, wL_law_724 post Ls xs J44 J683 (nI n) (nI h) (nI k) x5 (lN l0) (lN l1) (lN K) (nI i) (nI t) kc ks (nI n) (nI h) ij wa f 1 (nI t) lim act sh lg pol tim b w m 0 0 := by
  refine loop_0 (fun m e (s : Int32) => wL_law_724 post Ls xs J44 J683 (nI n) (nI h) (nI k) x5 (lN l0) (lN l1) (lN K) (nI i) (nI t) kc ks (nI n) (nI h) ij wa f 1 (nI t) lim act sh lg pol tim b w m s (nI e))
    (fun e s => ∃ N, s = nI N ∧ lb4_P N (fun j => if j < e then lz_v tim j else 0)) n 0 ⟨0, rfl, lb4_c 0 _ _ lb4_0 (fun j => (if_neg (by omega)).symm)⟩ ?_ ?_
  · intro m s hs
    obtain ⟨N, e, hP⟩ := hs
    subst e
    have hT0 := lz_v_T n h tim h6 h7 htr N hP
    have hw := (gh_at n h (gd_t lim) (gq_ct act) (gq_ac act) (gq_i sh) (gq_i lg) (gd_t b) (gd_t w) hN hS (12 * (h + 1) - 12 * t) (12 * t) (by omega) T hT (gq_p tim) hp).1
    have hac : ∀ c, c < n → gq_ct act c = true → gq_ac act c < n := fun c hc hcc => (hA c hc hcc).2
    have hval := gm_val_c n (gd_t lim) (gq_ct act) (gq_ac act) (gq_i sh) (gq_i lg) hac (12 * (h + 1) - 12 * t) (12 * t) _ _ hp (hT.2.2.2 _ _ (by omega))
    refine br_t (Int32.le_refl _) (lx_win n h (gd_t lim) (gq_ct act) (gq_ac act) (gq_i sh) (gq_i lg) B l0 l1 K N hN hBB y hK z hz hlr _ (gq_p tim) _ hT0 t (12 * (h + 1) - 12 * t) ht (by omega) hw (fun r hv => ?_))
    rcases hv with ⟨r1, _⟩ | ⟨_, r2⟩
    · have k1 : nI k + 1 = nI (k + 1) := nI_1 k
      refine br_f (by rw [r1]; decide) (lz_cell Ls xs _ k (by omega) hL (fun c1 => ?_))
      rw [k1]
      refine lz_cell Ls xs _ (k + 1) (by omega) hL (fun c2 => ?_)
      exact lz_828 n h t ij wa f lim act sh lg pol tim b w Ls xs h3 h6 h7 ht hN hA hX hS hB htr T (lz_gr n h t lim act sh lg hN T (gq_p tim) hT hp) post J44 J683 k i x5 _ _ _ c1 c2 kc ks hd hr
    · exact absurd hval r2
  · intro m e s he hs ih
    obtain ⟨N, es, hP⟩ := hs
    subst es
    have put : ∀ v : Nat, v < 16 → lz_v tim e = v → ∃ N', nI N ||| (nI v <<< ((4 * nI e) &&& 31)) = nI N' ∧ lb4_P N' (fun j => if j < e + 1 then lz_v tim j else 0) := by
      intro v hv hve
      refine ⟨N ||| (v <<< (4 * e)), by rw [lc_shl v e hv (by omega), lc_or], lb4_c _ _ _ (lb4_or N _ hP e v hv) (fun j => ?_)⟩
      show (if j = e then (if j < e then lz_v tim j else 0) ||| v else (if j < e then lz_v tim j else 0)) = (if j < e + 1 then lz_v tim j else 0)
      by_cases c : j = e
      · rw [if_pos c, if_neg (by omega), if_pos (by omega), c, hve, Nat.zero_or]
      · rw [if_neg c]
        by_cases c2 : j < e
        · rw [if_pos c2, if_pos (by omega)]
        · rw [if_neg c2, if_neg (by omega)]
    refine br_f (nI_ge he (by omega)) (om_time n h t ij wa f 1 lim act sh lg pol tim b w h6 _ e he (fun q => br_t rfl (br_t rfl ?_)) (fun q => ?_))
    · obtain ⟨N', e1, e2⟩ := put 15 (by omega) (by unfold lz_v; rw [if_pos q])
      exact nm_r e1 (nm_r (nI_1 e) (ih _ ⟨N', rfl, e2⟩))
    · rcases htr e he with q2 | ⟨τ, hτ, q2⟩
      · exact absurd q2 q
      · have n100 : ¬ nI τ = 100 := gq_nI100 τ (by omega)
        rw [q2]
        refine br_f n100 (br_f (nI_pos (by omega)) (br_t (nI_le (by omega) (by omega)) (br_f n100 ?_)))
        obtain ⟨N', e1, e2⟩ := put τ (by omega) (by unfold lz_v; rw [q2, if_neg (gq_nIm τ (by omega))]; exact nI_clamp (by omega))
        exact nm_r e1 (nm_r (nI_1 e) (ih _ ⟨N', rfl, e2⟩))

theorem lz_683 (h3 : 3 ≤ n) (h6 : n ≤ 6) (h7 : h ≤ 7) (B : Nat) (hBB : ls_B n B) (hLm : ol_lim n h lim) (hKk : ol_lk n h act sh lg)
    (hX : gc_fix n (gd_t lim) (gq_ct act) (gq_ac act) (gq_i sh) (gq_i lg) (gd_t b) (gd_t w)) (hS : gs_snd n h (gd_t lim) (gq_ct act) (gq_ac act) (gq_i sh) (gq_i lg) (gd_t b) (gd_t w)) (T0 : Nat → Int) (hT0 : gm_sp n h (gd_t lim) (gq_ct act) (gq_ac act) (gq_i sh) (gq_i lg) T0)
    (l0 l1 K : Nat) (z y : Nat → Nat) (hz : lw_L n (gd_t lim) l0 l1 z) (hK : lw_K n (gq_ct act) (gq_ac act) (gq_i sh) (gq_i lg) K y) (hL : Ls ≤ 260)
    (post : Int32 → Prop) (J44 : Int32 → Int32 → Int32 → Int32 → Int32 → Int32 → Int32 → Int32 → Int32 → (Nat → Int32) → (Nat → Int32) → (Nat → Int32) → (Nat → Int32) → (Nat → Int32) → (Nat → Int32) → (Nat → Int32) → (Nat → Int32) → Prop) (k : Nat) (hk : k < 9000) (x5 : Nat) (kc ks : Nat) (hij : ij = 1) (hwa : wa = 1)
    (htr : ox_tr n h tim) (hp : ∀ e, e < n → gm_pos (gq_ct act) T0 0 e = gq_p tim e)
    (g : ∀ (k' : Nat) (pol tim : Nat → Int32), k' ≤ k + 16 → (∀ e, e < n → tim e = -1) → J44 (nI k') (nI (x5 + 1)) (nI n) (nI h) ij wa f 0 (nI 0) lim act sh lg pol tim b w) :
    ∃ m, wL_law_683 post Ls xs J44 (nI n) (nI h) (nI x5) (lN l0) (lN l1) (lN K) kc ks m (nI k) 0 (nI n) (nI h) ij wa f 1 (nI 0) lim act sh lg pol tim b w := by
  have hN := ol_net n h h3 h6 h7 lim act sh lg hLm hKk
  have hA := gq_link n h act sh lg h6 hKk.2
  have hlr : ∀ u v, u < n → v < n → -7 ≤ gd_t lim u v ∧ gd_t lim u v ≤ 7 := fun u v hu hv => by
    have := hLm.1 u v hu hv
    exact ⟨by omega, by omega⟩
  have hB : ∀ u v, u < n → v < n → -7 ≤ gd_t b u v ∧ gd_t b u v ≤ 7 := by
    intro u v hu hv
    refine ⟨gd_b7 n h (gd_t lim) (gq_ct act) (gq_ac act) (gq_i sh) (gq_i lg) hN _ _ hS T0 hT0 u v hu hv, ?_⟩
    by_cases e : u = v
    · rw [e, hX.2.1 v hv]; omega
    · have z1 := hX.1 u v hu hv e
      have z2 := (hlr u v hu hv).2
      omega
  have jud : gv_jud n h (gd_t lim) (gq_ct act) (gq_ac act) (gq_i sh) (gq_i lg) wa b w := by rw [hwa]; exact Or.inl ⟨rfl, hX, hS⟩
  -- behind the rounds
  have fin : ∀ (k' t' : Nat) (pol tim : Nat → Int32), k' ≤ k + 16 → ox_tr n h tim → (∃ T, gm_sp n h (gd_t lim) (gq_ct act) (gq_ac act) (gq_i sh) (gq_i lg) T ∧ ∀ e, e < n → gq_p tim e = T e) →
      wL_law_903 post Ls xs J44 (nI n) (nI h) (nI k') (nI x5) kc ks (nI n) (nI h) ij wa f 2 (nI t') lim act sh lg pol tim b w := by
    intro k' t' pol tim hk' a1 ⟨T, a2, a3⟩
    exact br_t rfl (lz_917 n h t' ij wa f lim act sh lg pol tim b w Ls xs h6 h7 hN hLm hKk T (lz_done_of n h lim act sh lg tim h7 a1 T a2 a3) (Or.inr hwa) ⟨hij, jud⟩ post J44 (nI k') x5 kc ks
      (fun tim' ht' => g k' pol tim' hk' ht'))
  refine loop_0 (fun m i (s : Int32 × Nat × (Nat → Int32) × (Nat → Int32)) => wL_law_683 post Ls xs J44 (nI n) (nI h) (nI x5) (lN l0) (lN l1) (lN K) kc ks m (nI (k + 2 * i)) (nI i) (nI n) (nI h) ij wa f s.1 (nI s.2.1) lim act sh lg s.2.2.1 s.2.2.2 b w)
    (fun i s => ox_tr n h s.2.2.2 ∧ ((s.1 = 1 ∧ s.2.1 = i ∧ i ≤ h ∧ ∃ T, gm_sp n h (gd_t lim) (gq_ct act) (gq_ac act) (gq_i sh) (gq_i lg) T ∧ ∀ e, e < n → gm_pos (gq_ct act) T (12 * i) e = gq_p s.2.2.2 e) ∨
      (s.1 = 2 ∧ ∃ T, gm_sp n h (gd_t lim) (gq_ct act) (gq_ac act) (gq_i sh) (gq_i lg) T ∧ ∀ e, e < n → gq_p s.2.2.2 e = T e))) (h + 1) (1, 0, pol, tim) ⟨htr, Or.inl ⟨rfl, rfl, by omega, T0, hT0, hp⟩⟩ ?_ ?_
  · intro m s hs
    obtain ⟨ph, t', pol, tim⟩ := s
    obtain ⟨s1, s2⟩ := hs
    rcases s2 with ⟨_, _, q, _⟩ | ⟨q, s3⟩
    · exact absurd q (by omega)
    · have q' : ph = 2 := q
      subst q'
      exact br_t (nI_lt (by omega) (by omega)) (fin (k + 2 * (h + 1)) t' pol tim (by omega) s1 s3)
  · intro m i s hi hs ih
    obtain ⟨ph, t', pol, tim⟩ := s
    obtain ⟨s1, s2⟩ := hs
    refine br_f (nI_nlt (by omega) (by omega)) ?_
    rcases s2 with ⟨q1, q2, q3, T, s3, s4⟩ | ⟨q, s3⟩
    · have q1' : ph = 1 := q1
      have q2' : t' = i := q2
      subst q1'
      subst q2'
      have n12 : ¬ (1 : Int32) = 2 := by decide
      refine br_f n12 (br_f (nI_pos (by omega)) (br_t (nI_le q3 (by omega)) ?_))
      have e2 : k + 2 * t' + 2 = k + 2 * (t' + 1) := by omega
      refine lz_724 n h t' ij wa f lim act sh lg pol tim b w Ls xs h3 h6 h7 q3 B hBB hN hA hX hS hB hlr s1 T s3 s4 l0 l1 K z y hz hK hL post J44 _ (k + 2 * t') t' (by omega) (nI x5) kc ks ?_ ?_
      · intro pol' tim' a1 a2
        rw [e2]
        exact ih (2, t', pol', tim') ⟨a1, Or.inr ⟨rfl, a2⟩⟩
      · intro hlt pol' tim' a1 a2
        rw [e2]
        exact ih (1, t' + 1, pol', tim') ⟨a1, Or.inl ⟨rfl, rfl, by omega, a2⟩⟩
    · have q' : ph = 2 := q
      subst q'
      exact br_t rfl (fin (k + 2 * i) t' pol tim (by omega) s1 s3)
end lz
end
section
-- the law: reading the network, verdict and start
section lr
variable (n h : Nat) (ij wa f : Int32) (lim act sh lg pol tim b w : Nat → Int32) (Ls : Nat) (xs : Nat → Int32)

def lr_v (i : Nat) : Nat := if i % 5 < i / 5 then i % 5 else i % 5 + 1

def lr_z (c i : Nat) : Nat := if i < c ∧ i / 5 < n ∧ lr_v i < n then (gd_t lim (i / 5) (lr_v i) + 7).toNat else 0

def lr_b (u v : Nat) : Nat := u * 5 + (if v ≤ u then v else v - 1)

def lr_P (c N0 N1 : Nat) : Prop := lb4_P N0 (fun i => if i < 15 then lr_z n lim c i else 0) ∧ lb4_P N1 (fun i => if i < 15 then lr_z n lim c (i + 15) else 0)

theorem lr_ix (u v : Nat) (hu : u < 6) (hv : v < 6) (huv : u ≠ v) : lc_ix u v / 5 = u ∧ lr_v (lc_ix u v) = v ∧ lc_ix u v < 30 ∧ lr_b u v = lc_ix u v ∧ lr_b u (v + 1) = lc_ix u v + 1 := by
  unfold lc_ix lr_v lr_b
  by_cases c : v < u
  · rw [if_pos c, if_pos (show v ≤ u by omega), if_pos (show v + 1 ≤ u by omega)]
    refine ⟨by omega, ?_, by omega, rfl, by omega⟩
    rw [if_pos (by omega)]; omega
  · rw [if_neg c, if_neg (show ¬ v ≤ u by omega), if_neg (show ¬ v + 1 ≤ u by omega)]
    refine ⟨by omega, ?_, by omega, rfl, by omega⟩
    rw [if_neg (by omega)]; omega

theorem lr_z_c (c c' : Nat) (hcc : c ≤ c') (hx : ∀ i, c ≤ i → i < c' → ¬ (i / 5 < n ∧ lr_v i < n)) (i : Nat) : lr_z n lim c i = lr_z n lim c' i := by
  unfold lr_z
  by_cases q : i / 5 < n ∧ lr_v i < n
  · by_cases q2 : i < c
    · rw [if_pos ⟨q2, q⟩, if_pos ⟨by omega, q⟩]
    · by_cases q3 : i < c'
      · exact absurd q (hx i (by omega) q3)
      · rw [if_neg (fun z => q2 z.1), if_neg (fun z => q3 z.1)]
  · rw [if_neg (fun z => q z.2), if_neg (fun z => q z.2)]

theorem lr_P_c (c c' N0 N1 : Nat) (hcc : c ≤ c') (hx : ∀ i, c ≤ i → i < c' → ¬ (i / 5 < n ∧ lr_v i < n)) (hP : lr_P n lim c N0 N1) : lr_P n lim c' N0 N1 := by
  refine ⟨lb4_c _ _ _ hP.1 (fun i => ?_), lb4_c _ _ _ hP.2 (fun i => ?_)⟩
  · show (if i < 15 then lr_z n lim c i else 0) = (if i < 15 then lr_z n lim c' i else 0)
    rw [lr_z_c n lim c c' hcc hx]
  · show (if i < 15 then lr_z n lim c (i + 15) else 0) = (if i < 15 then lr_z n lim c' (i + 15) else 0)
    rw [lr_z_c n lim c c' hcc hx]

theorem lr_z_lt (hlr : ∀ u v, u < n → v < n → -7 ≤ gd_t lim u v ∧ gd_t lim u v ≤ 7) (c i : Nat) : lr_z n lim c i < 16 := by
  unfold lr_z
  by_cases q : i < c ∧ i / 5 < n ∧ lr_v i < n
  · rw [if_pos q]
    have := hlr _ _ q.2.1 q.2.2
    omega
  · rw [if_neg q]; omega

/-- one limit more -/
theorem lr_put (hlr : ∀ u v, u < n → v < n → -7 ≤ gd_t lim u v ∧ gd_t lim u v ≤ 7) (c N0 N1 : Nat) (hc : c < 30) (hin : c / 5 < n ∧ lr_v c < n) (hP : lr_P n lim c N0 N1) (y : Nat) (hy : y < 16) (hyv : (y : Int) = gd_t lim (c / 5) (lr_v c) + 7) :
    (c < 15 → lr_P n lim (c + 1) (N0 ||| (y <<< (4 * c))) N1) ∧ (15 ≤ c → lr_P n lim (c + 1) N0 (N1 ||| (y <<< (4 * (c - 15))))) := by
  have zc : lr_z n lim c c = 0 := by unfold lr_z; rw [if_neg (fun z => absurd z.1 (by omega))]
  have zc1 : lr_z n lim (c + 1) c = y := by unfold lr_z; rw [if_pos ⟨by omega, hin⟩]; omega
  have oth : ∀ i, i ≠ c → lr_z n lim c i = lr_z n lim (c + 1) i := by
    intro i hi
    unfold lr_z
    by_cases q : i < c ∧ i / 5 < n ∧ lr_v i < n
    · rw [if_pos q, if_pos ⟨by omega, q.2⟩]
    · rw [if_neg q, if_neg (fun z => q ⟨by omega, z.2⟩)]
  constructor
  · intro h15
    refine ⟨lb4_c _ _ _ (lb4_or N0 _ hP.1 c y hy) (fun i => ?_), lb4_c _ _ _ hP.2 (fun i => ?_)⟩
    · show (if i = c then (if i < 15 then lr_z n lim c i else 0) ||| y else (if i < 15 then lr_z n lim c i else 0)) = (if i < 15 then lr_z n lim (c + 1) i else 0)
      by_cases e : i = c
      · rw [if_pos e, e, if_pos h15, if_pos h15, zc, zc1, Nat.zero_or]
      · rw [if_neg e, oth i e]
    · show (if i < 15 then lr_z n lim c (i + 15) else 0) = (if i < 15 then lr_z n lim (c + 1) (i + 15) else 0)
      rw [oth (i + 15) (by omega)]
  · intro h15
    refine ⟨lb4_c _ _ _ hP.1 (fun i => ?_), lb4_c _ _ _ (lb4_or N1 _ hP.2 (c - 15) y hy) (fun i => ?_)⟩
    · show (if i < 15 then lr_z n lim c i else 0) = (if i < 15 then lr_z n lim (c + 1) i else 0)
      by_cases e : i < 15
      · rw [if_pos e, if_pos e, oth i (by omega)]
      · rw [if_neg e, if_neg e]
    · show (if i = c - 15 then (if i < 15 then lr_z n lim c (i + 15) else 0) ||| y else (if i < 15 then lr_z n lim c (i + 15) else 0)) = (if i < 15 then lr_z n lim (c + 1) (i + 15) else 0)
      by_cases e : i = c - 15
      · rw [if_pos e, e, if_pos (by omega), if_pos (by omega), show c - 15 + 15 = c by omega, zc, zc1, Nat.zero_or]
      · rw [if_neg e, oth (i + 15) (by omega)]

theorem lr_b60 (hlr : ∀ u v, u < n → v < n → -7 ≤ gd_t lim u v ∧ gd_t lim u v ≤ 7) (c N0 N1 : Nat) (hP : lr_P n lim c N0 N1) : N0 < 2 ^ 60 ∧ N1 < 2 ^ 60 :=
  ⟨lb4_lt N0 _ hP.1 15 (fun i hi => if_neg (by omega)), lb4_lt N1 _ hP.2 15 (fun i hi => if_neg (by omega))⟩

theorem lr_or (N y k : Nat) (hN : N < 2 ^ 60) (hy : y < 16) (hk : k ≤ 56) : lN N ||| ((nI y).toInt64 <<< ((nI k).toInt64 &&& 63)) = lN (N ||| (y <<< k)) := by
  have hle : 2 ^ k ≤ 2 ^ 56 := Nat.pow_le_pow_right (by decide) hk
  have hm : y * 2 ^ k ≤ 15 * 2 ^ 56 := Nat.mul_le_mul (by omega) hle
  rw [nI_l (by omega), wb_shl y (by omega), wb_or (by omega) (by omega), Nat.shiftLeft_eq]

theorem lr_L (hlr : ∀ u v, u < n → v < n → -7 ≤ gd_t lim u v ∧ gd_t lim u v ≤ 7) (h6 : n ≤ 6) (N0 N1 : Nat) (hP : lr_P n lim 30 N0 N1) : lw_L n (gd_t lim) N0 N1 (lr_z n lim 30) := by
  refine ⟨hP.1, hP.2, lr_z_lt n lim hlr 30, fun u v hu hv huv => ?_⟩
  obtain ⟨i1, i2, i3, i4, i5⟩ := lr_ix u v (by omega) (by omega) huv
  have r := hlr u v hu hv
  unfold lr_z
  rw [i1, i2, if_pos ⟨i3, hu, hv⟩]
  omega

-- links
def lr_tg (j : Nat) : Nat :=
  if j / 3 = 0 then (if j % 3 = 0 then 7 else 0) else if j / 3 < n then
    (if gq_ct act (j / 3) = true then (if j % 3 = 0 then gq_ac act (j / 3) else if j % 3 = 1 then (gq_i sh (j / 3)).toNat else (gq_i lg (j / 3)).toNat) else (if j % 3 = 0 then 7 else 0)) else 0

def lr_Q (c N : Nat) : Prop := lb3_P N (fun j => if j < c then lr_tg n act sh lg j else 0)

theorem lr_tg_lt (hN : gm_net n h (gd_t lim) (gq_ct act) (gq_ac act) (gq_i sh) (gq_i lg)) (j : Nat) : lr_tg n act sh lg j < 8 := by
  have h6 : n ≤ 6 := hN.2.1
  have h7 : h ≤ 7 := hN.2.2.1
  unfold lr_tg
  by_cases q0 : j / 3 = 0
  · rw [if_pos q0]; split <;> omega
  · rw [if_neg q0]
    by_cases q1 : j / 3 < n
    · rw [if_pos q1]
      by_cases q2 : gq_ct act (j / 3) = true
      · rw [if_pos q2]
        have bb := hN.2.2.2.2.2.2 _ q1 q2
        split
        · omega
        · split <;> omega
      · rw [if_neg q2]; split <;> omega
    · rw [if_neg q1]; omega

theorem lr_Q_b (hN : gm_net n h (gd_t lim) (gq_ct act) (gq_ac act) (gq_i sh) (gq_i lg)) (c N : Nat) (hc : c ≤ 18) (hQ : lr_Q n act sh lg c N) : N < 2 ^ 54 := by
  exact lb3_lt N _ hQ 18 (fun i hi => if_neg (by omega))

theorem lr_Q_put (c N y : Nat) (hy : y < 8) (hQ : lr_Q n act sh lg c N) (hyv : lr_tg n act sh lg c = y) : lr_Q n act sh lg (c + 1) (N ||| (y <<< (3 * c))) := by
  refine lb3_c _ _ _ (lb3_or N _ hQ c y hy) (fun j => ?_)
  show (if j = c then (if j < c then lr_tg n act sh lg j else 0) ||| y else (if j < c then lr_tg n act sh lg j else 0)) = (if j < c + 1 then lr_tg n act sh lg j else 0)
  by_cases e : j = c
  · rw [if_pos e, if_neg (by omega), if_pos (by omega), e, hyv, Nat.zero_or]
  · rw [if_neg e]
    by_cases q : j < c
    · rw [if_pos q, if_pos (by omega)]
    · rw [if_neg q, if_neg (by omega)]

theorem lr_Q_c (c c' N : Nat) (hcc : c ≤ c') (hx : ∀ j, c ≤ j → j < c' → lr_tg n act sh lg j = 0) (hQ : lr_Q n act sh lg c N) : lr_Q n act sh lg c' N := by
  refine lb3_c _ _ _ hQ (fun j => ?_)
  show (if j < c then lr_tg n act sh lg j else 0) = (if j < c' then lr_tg n act sh lg j else 0)
  by_cases q : j < c
  · rw [if_pos q, if_pos (by omega)]
  · by_cases q2 : j < c'
    · rw [if_neg q, if_pos q2, hx j (by omega) q2]
    · rw [if_neg q, if_neg q2]

theorem lr_or3 (N y k : Nat) (hN : N < 2 ^ 54) (hy : y < 8) (hk : k ≤ 51) : lN N ||| ((nI y).toInt64 <<< ((nI k).toInt64 &&& 63)) = lN (N ||| (y <<< k)) := lr_or N y k (by omega) (by omega) (by omega)

theorem lr_K (hN : gm_net n h (gd_t lim) (gq_ct act) (gq_ac act) (gq_i sh) (gq_i lg)) (h3 : 3 ≤ n) (N : Nat) (hQ : lr_Q n act sh lg 18 N) : lw_K n (gq_ct act) (gq_ac act) (gq_i sh) (gq_i lg) N (fun j => if j < 18 then lr_tg n act sh lg j else 0) := by
  have h6 : n ≤ 6 := hN.2.1
  have h7 : h ≤ 7 := hN.2.2.1
  have hb := lr_Q_b n h lim act sh lg hN 18 N (by omega) hQ
  refine ⟨hQ, by omega, fun i => ?_, fun e he => ⟨fun hc => ?_, fun hc => ?_⟩⟩
  · show (if i < 18 then lr_tg n act sh lg i else 0) < 8
    split
    · exact lr_tg_lt n h lim act sh lg hN i
    · omega
  · show (if 3 * e < 18 then lr_tg n act sh lg (3 * e) else 0) = 7
    rw [if_pos (by omega)]
    unfold lr_tg
    rw [show 3 * e / 3 = e by omega, show 3 * e % 3 = 0 by omega]
    by_cases e0 : e = 0
    · rw [if_pos e0, if_pos rfl]
    · rw [if_neg e0, if_pos he, if_neg (by rw [hc]; simp), if_pos rfl]
  · have e0 : ¬ e = 0 := gc_0 n h (gd_t lim) (gq_ct act) (gq_ac act) (gq_i sh) (gq_i lg) hN e hc
    have bb := hN.2.2.2.2.2.2 e he hc
    refine ⟨?_, ?_, ?_⟩
    · show (if 3 * e < 18 then lr_tg n act sh lg (3 * e) else 0) = gq_ac act e
      rw [if_pos (by omega)]
      unfold lr_tg
      rw [show 3 * e / 3 = e by omega, show 3 * e % 3 = 0 by omega, if_neg e0, if_pos he, if_pos hc, if_pos rfl]
    · show ((if 3 * e + 1 < 18 then lr_tg n act sh lg (3 * e + 1) else 0 : Nat) : Int) = gq_i sh e
      rw [if_pos (by omega)]
      unfold lr_tg
      rw [show (3 * e + 1) / 3 = e by omega, show (3 * e + 1) % 3 = 1 by omega, if_neg e0, if_pos he, if_pos hc, if_neg (by omega), if_pos rfl]
      omega
    · show ((if 3 * e + 2 < 18 then lr_tg n act sh lg (3 * e + 2) else 0 : Nat) : Int) = gq_i lg e
      rw [if_pos (by omega)]
      unfold lr_tg
      rw [show (3 * e + 2) / 3 = e by omega, show (3 * e + 2) % 3 = 2 by omega, if_neg e0, if_pos he, if_pos hc, if_neg (by omega), if_neg (by omega)]
      omega
end lr
end
section
-- the law: reading the network, verdict and start: its walks
section lv
variable (n h : Nat) (ij wa f : Int32) (lim act sh lg pol tim b w : Nat → Int32) (Ls : Nat) (xs : Nat → Int32)

theorem lv_562 (h6 : n ≤ 6) (hN : gm_net n h (gd_t lim) (gq_ct act) (gq_ac act) (gq_i sh) (gq_i lg)) (hA : ∀ k, k < n → gq_ct act k = true → act k = nI (gq_ac act k) ∧ gq_ac act k < n)
    (post : Int32 → Prop) (J44 : Int32 → Int32 → Int32 → Int32 → Int32 → Int32 → Int32 → Int32 → Int32 → (Nat → Int32) → (Nat → Int32) → (Nat → Int32) → (Nat → Int32) → (Nat → Int32) → (Nat → Int32) → (Nat → Int32) → (Nat → Int32) → Prop) (J412 : Int64 → Int64 → Int64 → Int32 → Prop) (x3 x5 : Int32) (l0 l1 : Int64) (kc ks u N : Nat) (hu1 : 1 ≤ u) (hu : u < n) (hc : gq_ct act u = true) (hQ : lr_Q n act sh lg (3 * u) N)
    (g : ∀ N', lr_Q n act sh lg (3 * u + 3) N' → J412 l0 l1 (lN N') (nI (u + 1))) :
    ∃ m, wL_law_562 post Ls xs J44 J412 (nI n) (nI h) x3 x5 l0 l1 (nI u) kc ks (nI n) (nI h) ij wa f 0 (nI 0) lim act sh lg pol tim b w m (lN N) 0 := by
  have h7 : h ≤ 7 := hN.2.2.1
  refine loop_0 (fun m k (s : Int64) => wL_law_562 post Ls xs J44 J412 (nI n) (nI h) x3 x5 l0 l1 (nI u) kc ks (nI n) (nI h) ij wa f 0 (nI 0) lim act sh lg pol tim b w m s (nI k)) (fun k s => ∃ N, s = lN N ∧ lr_Q n act sh lg (3 * u + k) N) 3 (lN N) ⟨N, rfl, hQ⟩ ?_ ?_
  · intro m s hs
    obtain ⟨N', e, hq⟩ := hs
    subst e
    exact br_t (Int32.le_refl _) (nm_r (nI_1 u) (g N' hq))
  · intro m k s hk hs ih
    obtain ⟨N', e, hq⟩ := hs
    subst e
    have bb := hN.2.2.2.2.2.2 u hu hc
    have b54 := lr_Q_b n h lim act sh lg hN (3 * u + k) N' (by omega) hq
    have tl := lr_tg_lt n h lim act sh lg hN (3 * u + k)
    refine br_f (nI_ge (b := 3) hk (by decide)) (om_link n h 0 ij wa f 0 lim act sh lg pol tim b w h6 _ u k hu1 hu hk (fun z => by rw [hc] at z; simp at z) (fun _ => ?_))
    have er : (if k = 0 then act u else if k = 1 then sh u else lg u) = nI (lr_tg n act sh lg (3 * u + k)) := by
      apply gq_inj
      rw [gq_nI _ (by omega)]
      unfold lr_tg
      rw [show (3 * u + k) / 3 = u by omega, show (3 * u + k) % 3 = k by omega, if_neg (show ¬ u = 0 by omega), if_pos hu, if_pos hc]
      by_cases k0 : k = 0
      · rw [if_pos k0, if_pos k0, (hA u hu hc).1, gq_nI _ (by omega)]
      · rw [if_neg k0, if_neg k0]
        by_cases k1 : k = 1
        · rw [if_pos k1, if_pos k1]
          show gq_i sh u = _
          omega
        · rw [if_neg k1, if_neg k1]
          show gq_i lg u = _
          omega
    have em : nI (lr_tg n act sh lg (3 * u + k)) &&& 7 = nI (lr_tg n act sh lg (3 * u + k)) := by
      rw [pk_andN (by omega) 3 (by decide), Nat.mod_eq_of_lt (by omega)]
    have e9 : (9 : Int32) * nI u + 3 * nI k = nI (3 * (3 * u + k)) := by
      have e9 : (9 : Int32) = nI 9 := by decide
      have e3 : (3 : Int32) = nI 3 := by decide
      rw [e9, e3, pk_mul, pk_mul, nI_add]
      congr 1
      omega
    rw [er, em, e9]
    exact nm_r (lr_or3 N' _ _ b54 tl (by omega)) (nm_r (nI_1 k) (ih _ ⟨_, rfl, lr_Q_put n act sh lg (3 * u + k) N' _ tl hq rfl⟩))

theorem lv_457 (h6 : n ≤ 6) (hlr : ∀ u v, u < n → v < n → -7 ≤ gd_t lim u v ∧ gd_t lim u v ≤ 7)
    (post : Int32 → Prop) (J44 : Int32 → Int32 → Int32 → Int32 → Int32 → Int32 → Int32 → Int32 → Int32 → (Nat → Int32) → (Nat → Int32) → (Nat → Int32) → (Nat → Int32) → (Nat → Int32) → (Nat → Int32) → (Nat → Int32) → (Nat → Int32) → Prop) (J412 : Int64 → Int64 → Int64 → Int32 → Prop) (J421 : Int64 → Int64 → Int32 → Prop) (x3 x5 : Int32) (lk : Int64) (kc ks u v z N0 N1 : Nat) (hu : u < n) (hv : v < n) (huv : u ≠ v) (hz : u * 5 + z = lc_ix u v)
    (hP : lr_P n lim (lr_b u v) N0 N1) (g : ∀ N0' N1', lr_P n lim (lr_b u (v + 1)) N0' N1' → J421 (lN N0') (lN N1') (nI (v + 1))) :
    wL_law_457 post Ls xs J44 J412 J421 (nI n) (nI h) x3 x5 (lN N0) (lN N1) lk (nI u) (nI v) (nI z) (nI u * 5) kc ks (nI n) (nI h) ij wa f 0 (nI 0) lim act sh lg pol tim b w := by
  obtain ⟨i1, i2, i3, i4, i5⟩ := lr_ix u v (by omega) (by omega) huv
  have e5 : nI u * 5 + nI z = nI (lc_ix u v) := by
    have e5 : (5 : Int32) = nI 5 := by decide
    rw [e5, pk_mul, nI_add, hz]
  rw [i4] at hP
  rw [i5] at g
  have b60 := lr_b60 n lim hlr _ N0 N1 hP
  refine nm_r e5 (om_lim n h 0 ij wa f 0 lim act sh lg pol tim b w h6 _ u v hu hv huv ?_)
  have r := hlr u v hu hv
  have hy : ∃ y : Nat, y < 16 ∧ (y : Int) = gd_t lim u v + 7 ∧ (lim (u * 6 + v) + 7) &&& 15 = nI y := by
    refine ⟨(gd_t lim u v + 7).toNat, by omega, by omega, ?_⟩
    have e7 : (7 : Int32).toInt = 7 := by decide
    have e1 : lim (u * 6 + v) + 7 = nI (gd_t lim u v + 7).toNat := by
      apply gq_inj
      rw [gq_nI _ (by omega), gn_add _ _ ⟨by unfold gd_t at r; omega, by unfold gd_t at r; omega⟩ ⟨by omega, by omega⟩, e7]
      show gd_t lim u v + 7 = _
      omega
    rw [e1, pk_andN (by omega) 4 (by decide), Nat.mod_eq_of_lt (by omega)]
  obtain ⟨y, hy16, hyv, hye⟩ := hy
  have put := lr_put n lim hlr (lc_ix u v) N0 N1 i3 ⟨by rw [i1]; exact hu, by rw [i2]; exact hv⟩ hP y hy16 (by rw [i1, i2]; exact hyv)
  generalize lc_ix u v = i at *
  have e4 : (4 : Int32) = nI 4 := by decide
  have e15 : (15 : Int32) = nI 15 := by decide
  rw [hye]
  refine nm_e (br_c (fun q => ?_) (fun q => ?_))
  · have q' : 15 ≤ i := (nI_leI (a := 15) (by omega) (by omega)).1 q
    have k1 : (4 : Int32) * (nI i - 15) = nI (4 * (i - 15)) := by rw [e15, pk_sub q', e4, pk_mul]
    rw [k1]
    exact nm_r (lr_or N1 y _ b60.2 hy16 (by omega)) (nm_r (nI_1 v) (g _ _ (put.2 q')))
  · have q' : i < 15 := by
      by_cases w : i < 15
      · exact w
      · exact absurd (nI_le (a := 15) (by omega) (by omega)) q
    rw [lc_4]
    exact nm_r (lr_or N0 y _ b60.1 hy16 (by omega)) (nm_r (nI_1 v) (g _ _ (put.1 q')))

theorem lv_421 (h6 : n ≤ 6) (hN : gm_net n h (gd_t lim) (gq_ct act) (gq_ac act) (gq_i sh) (gq_i lg)) (hA : ∀ k, k < n → gq_ct act k = true → act k = nI (gq_ac act k) ∧ gq_ac act k < n)
    (hlr : ∀ u v, u < n → v < n → -7 ≤ gd_t lim u v ∧ gd_t lim u v ≤ 7)
    (post : Int32 → Prop) (J44 : Int32 → Int32 → Int32 → Int32 → Int32 → Int32 → Int32 → Int32 → Int32 → (Nat → Int32) → (Nat → Int32) → (Nat → Int32) → (Nat → Int32) → (Nat → Int32) → (Nat → Int32) → (Nat → Int32) → (Nat → Int32) → Prop) (J412 : Int64 → Int64 → Int64 → Int32 → Prop) (x3 x5 : Int32) (kc ks u N0 N1 N : Nat) (hu : u < n) (hP : lr_P n lim (5 * u) N0 N1) (hQ : lr_Q n act sh lg (if u = 0 then 3 else 3 * u) N)
    (g : ∀ N0' N1' N', lr_P n lim (5 * (u + 1)) N0' N1' → lr_Q n act sh lg (3 * (u + 1)) N' → J412 (lN N0') (lN N1') (lN N') (nI (u + 1))) :
    ∃ m, wL_law_421 post Ls xs J44 J412 (nI n) (nI h) x3 x5 (lN N) (nI u) kc ks (nI n) (nI h) ij wa f 0 (nI 0) lim act sh lg pol tim b w m (lN N0) (lN N1) 0 := by
  have hu6 : u < 6 := by omega
  refine loop_0 (fun m v (s : Int64 × Int64) => wL_law_421 post Ls xs J44 J412 (nI n) (nI h) x3 x5 (lN N) (nI u) kc ks (nI n) (nI h) ij wa f 0 (nI 0) lim act sh lg pol tim b w m s.1 s.2 (nI v)) (fun v s => ∃ N0 N1, s = (lN N0, lN N1) ∧ lr_P n lim (lr_b u v) N0 N1) n (lN N0, lN N1)
    ⟨N0, N1, rfl, by unfold lr_b; rw [if_pos (by omega), show u * 5 + 0 = 5 * u by omega]; exact hP⟩ ?_ ?_
  · intro m s hs
    obtain ⟨M0, M1, e, hp⟩ := hs
    subst e
    have hp' : lr_P n lim (5 * (u + 1)) M0 M1 := by
      refine lr_P_c n lim (lr_b u n) _ M0 M1 (by unfold lr_b; rw [if_neg (by omega)]; omega) (fun i h1 h2 z => ?_) hp
      unfold lr_b at h1
      rw [if_neg (by omega)] at h1
      have zv := z.2
      unfold lr_v at zv
      split at zv <;> omega
    refine br_t (Int32.le_refl _) (br_c (fun q => ?_) (fun q => ?_))
    · have u0 : u = 0 := (nI_eq (b := 0) (by omega) (by omega)).1 q
      refine nm_r (nI_1 u) (g M0 M1 N hp' ?_)
      rw [if_pos u0] at hQ
      rw [u0]
      exact hQ
    · have u0 : ¬ u = 0 := fun z => q (by rw [z]; rfl)
      rw [if_neg u0] at hQ
      refine om_link n h 0 ij wa f 0 lim act sh lg pol tim b w h6 _ u 0 (by omega) hu (by omega) (fun hc => br_t rfl ?_) (fun hc => br_f ?_ ?_)
      · have b54 := lr_Q_b n h lim act sh lg hN (3 * u) N (by omega) hQ
        have e9 : (9 : Int32) * nI u = nI (3 * (3 * u)) := by
          have e9 : (9 : Int32) = nI 9 := by decide
          rw [e9, pk_mul]
          congr 1
          omega
        have e7 : (7 : Int64) = (nI 7).toInt64 := by decide
        rw [e9, e7]
        refine nm_r (lr_or3 N 7 _ b54 (by omega) (by omega)) (nm_r (nI_1 u) (g M0 M1 _ hp' ?_))
        refine lr_Q_c n act sh lg (3 * u + 1) _ _ (by omega) (fun j h1 h2 => ?_) (lr_Q_put n act sh lg (3 * u) N 7 (by omega) hQ ?_)
        · unfold lr_tg
          rw [show j / 3 = u by omega, if_neg u0, if_pos hu, if_neg (by rw [hc]; simp), if_neg (by omega)]
        · unfold lr_tg
          rw [show 3 * u / 3 = u by omega, if_neg u0, if_pos hu, if_neg (by rw [hc]; simp), if_pos (by omega)]
      · rw [if_pos rfl, (hA u hu hc).1]
        exact gq_nI100 _ (by have := (hA u hu hc).2; omega)
      · exact lv_562 n h ij wa f lim act sh lg pol tim b w Ls xs h6 hN hA post J44 J412 x3 x5 (lN M0) (lN M1) kc ks u N (by omega) hu hc hQ (fun N' hq => g M0 M1 N' hp' hq)
  · intro m v s hv hs ih
    obtain ⟨M0, M1, e, hp⟩ := hs
    subst e
    refine br_f (nI_ge hv (by omega)) (br_c (fun q => ?_) (fun q => ?_))
    · have uv : u = v := (nI_eq (by omega) (by omega)).1 q
      refine nm_r (nI_1 v) (ih (lN M0, lN M1) ⟨M0, M1, rfl, ?_⟩)
      unfold lr_b at hp ⊢
      rw [if_pos (by omega)] at hp
      rw [if_neg (by omega)]
      exact hp
    · have uv : u ≠ v := fun z => q (by rw [z])
      have nx : ∀ N0' N1', lr_P n lim (lr_b u (v + 1)) N0' N1' → wL_law_421 post Ls xs J44 J412 (nI n) (nI h) x3 x5 (lN N) (nI u) kc ks (nI n) (nI h) ij wa f 0 (nI 0) lim act sh lg pol tim b w m (lN N0') (lN N1') (nI (v + 1)) :=
        fun N0' N1' hp' => ih (lN N0', lN N1') ⟨N0', N1', rfl, hp'⟩
      refine br_c (fun q2 => ?_) (fun q2 => ?_)
      · have q' : u ≤ v := (nI_leI (by omega) (by omega)).1 q2
        have e1 : nI v - 1 = nI (v - 1) := pk_sub (b := 1) (by omega)
        rw [e1]
        exact lv_457 n h ij wa f lim act sh lg pol tim b w Ls xs h6 hlr post J44 J412 _ x3 x5 (lN N) kc ks u v (v - 1) M0 M1 hu hv uv (by unfold lc_ix; rw [if_neg (by omega)]) hp nx
      · have q' : v < u := by
          by_cases w : v < u
          · exact w
          · exact absurd (nI_le (by omega) (by omega)) q2
        exact lv_457 n h ij wa f lim act sh lg pol tim b w Ls xs h6 hlr post J44 J412 _ x3 x5 (lN N) kc ks u v v M0 M1 hu hv uv (by unfold lc_ix; rw [if_pos q']) hp nx

/-- the times at the beginning, packed -/
theorem lv_pin (hn : n = 3 ∨ n = 4 ∨ n = 5 ∨ n = 6) : ∃ N x, lw_T n (fun e : Nat => if e = 0 then (0 : Int) else 100) N x ∧ ((1 : Int32) <<< ((4 * nI n) &&& 31)) - 16 = nI N := by
  have key : ∀ N : Nat, lb4_P N (fun e => if e = 0 then 0 else if e < n then 15 else 0) → lw_T n (fun e : Nat => if e = 0 then (0 : Int) else 100) N (fun e => if e = 0 then 0 else if e < n then 15 else 0) := by
    intro N hP
    have hz : ∀ e, n ≤ e → (if e = 0 then 0 else if e < n then 15 else 0) = 0 := fun e he => by rw [if_neg (by omega), if_neg (by omega)]
    have hlt := lb4_lt N _ hP n hz
    have hle : 2 ^ (4 * n) ≤ 2 ^ 24 := Nat.pow_le_pow_right (by decide) (by omega)
    refine ⟨hP, Nat.lt_of_lt_of_le hlt hle, hz, fun e he => ?_⟩
    show ((if e = 0 then (0 : Int) else 100) = 100 ∧ (if e = 0 then 0 else if e < n then 15 else 0) = 15) ∨ (0 ≤ (if e = 0 then (0 : Int) else 100) ∧ (if e = 0 then (0 : Int) else 100) ≤ 7 ∧ ((if e = 0 then 0 else if e < n then 15 else 0 : Nat) : Int) = (if e = 0 then (0 : Int) else 100))
    by_cases q : e = 0
    · rw [if_pos q, if_pos q]; exact Or.inr ⟨by omega, by omega, rfl⟩
    · rw [if_neg q, if_neg q, if_pos he]; exact Or.inl ⟨rfl, rfl⟩
  have b2 := lb4_or _ _ (lb4_or _ _ lb4_0 1 15 (by decide)) 2 15 (by decide)
  have b3 := lb4_or _ _ b2 3 15 (by decide)
  have b4 := lb4_or _ _ b3 4 15 (by decide)
  have b5 := lb4_or _ _ b4 5 15 (by decide)
  rcases hn with e | e | e | e
  · subst e
    exact ⟨_, _, key 4080 (lb4_c 4080 _ _ b2 (fun i => by
      by_cases c0 : i = 0
      · subst c0; rfl
      · by_cases c1 : i = 1
        · subst c1; rfl
        · by_cases c2 : i = 2
          · subst c2; rfl
          · simp [c0, c1, c2]; omega)), by decide⟩
  · subst e
    exact ⟨_, _, key 65520 (lb4_c 65520 _ _ b3 (fun i => by
      by_cases c0 : i = 0
      · subst c0; rfl
      · by_cases c1 : i = 1
        · subst c1; rfl
        · by_cases c2 : i = 2
          · subst c2; rfl
          · by_cases c3 : i = 3
            · subst c3; rfl
            · simp [c0, c1, c2, c3]; omega)), by decide⟩
  · subst e
    exact ⟨_, _, key 1048560 (lb4_c 1048560 _ _ b4 (fun i => by
      by_cases c0 : i = 0
      · subst c0; rfl
      · by_cases c1 : i = 1
        · subst c1; rfl
        · by_cases c2 : i = 2
          · subst c2; rfl
          · by_cases c3 : i = 3
            · subst c3; rfl
            · by_cases c4 : i = 4
              · subst c4; rfl
              · simp [c0, c1, c2, c3, c4]; omega)), by decide⟩
  · subst e
    exact ⟨_, _, key 16777200 (lb4_c 16777200 _ _ b5 (fun i => by
      by_cases c0 : i = 0
      · subst c0; rfl
      · by_cases c1 : i = 1
        · subst c1; rfl
        · by_cases c2 : i = 2
          · subst c2; rfl
          · by_cases c3 : i = 3
            · subst c3; rfl
            · by_cases c4 : i = 4
              · subst c4; rfl
              · by_cases c5 : i = 5
                · subst c5; rfl
                · simp [c0, c1, c2, c3, c4, c5]; omega)), by decide⟩

theorem lv_412 (h3 : 3 ≤ n) (h6 : n ≤ 6) (h7 : h ≤ 7) (hL : Ls ≤ 260) (B : Nat) (hBB : ls_B n B) (hLm : ol_lim n h lim) (hKk : ol_lk n h act sh lg) (hT : ∀ e, e < n → tim e = -1)
    (hw : wa = 0 ∨ wa = 1) (hJ : ij = 0 ∨ (ij = 1 ∧ gv_jud n h (gd_t lim) (gq_ct act) (gq_ac act) (gq_i sh) (gq_i lg) wa b w))
    (post : Int32 → Prop) (J44 : Int32 → Int32 → Int32 → Int32 → Int32 → Int32 → Int32 → Int32 → Int32 → (Nat → Int32) → (Nat → Int32) → (Nat → Int32) → (Nat → Int32) → (Nat → Int32) → (Nat → Int32) → (Nat → Int32) → (Nat → Int32) → Prop) (k x5 : Nat) (hk : k < 9000) (kc ks : Nat)
    (g : ∀ (k' : Nat) (ij wa f : Int32) (pol tim b w : Nat → Int32), k' ≤ k + 16 → ol_ld n h (nI n, nI h, ij, wa, f, 0, nI 0, lim, act, sh, lg, pol, tim, b, w) → J44 (nI k') (nI (x5 + 1)) (nI n) (nI h) ij wa f 0 (nI 0) lim act sh lg pol tim b w) :
    ∃ m, wL_law_412 post Ls xs J44 (nI n) (nI h) (nI k) (nI x5) kc ks (nI n) (nI h) ij wa f 0 (nI 0) lim act sh lg pol tim b w m 0 0 7 0 := by
  have hN := ol_net n h h3 h6 h7 lim act sh lg hLm hKk
  have hA := gq_link n h act sh lg h6 hKk.2
  have hlr : ∀ u v, u < n → v < n → -7 ≤ gd_t lim u v ∧ gd_t lim u v ≤ 7 := fun u v hu hv => by
    have := hLm.1 u v hu hv
    exact ⟨by omega, by omega⟩
  refine loop_0 (fun m u (s : Int64 × Int64 × Int64) => wL_law_412 post Ls xs J44 (nI n) (nI h) (nI k) (nI x5) kc ks (nI n) (nI h) ij wa f 0 (nI 0) lim act sh lg pol tim b w m s.1 s.2.1 s.2.2 (nI u))
    (fun u s => ∃ N0 N1 N, s = (lN N0, lN N1, lN N) ∧ lr_P n lim (5 * u) N0 N1 ∧ lr_Q n act sh lg (if u = 0 then 3 else 3 * u) N) n (0, 0, 7) ?_ ?_ ?_
  · refine ⟨0, 0, 7, rfl, ⟨lb4_c _ _ _ lb4_0 (fun i => ?_), lb4_c _ _ _ lb4_0 (fun i => ?_)⟩, ?_⟩
    · show 0 = (if i < 15 then lr_z n lim (5 * 0) i else 0)
      have z : lr_z n lim (5 * 0) i = 0 := by unfold lr_z; rw [if_neg (fun y => absurd y.1 (by omega))]
      rw [z]; split <;> rfl
    · show 0 = (if i < 15 then lr_z n lim (5 * 0) (i + 15) else 0)
      have z : lr_z n lim (5 * 0) (i + 15) = 0 := by unfold lr_z; rw [if_neg (fun y => absurd y.1 (by omega))]
      rw [z]; split <;> rfl
    · rw [if_pos rfl]
      refine lb3_c 7 _ _ (lb3_or 0 _ lb3_0 0 7 (by decide)) (fun j => ?_)
      show (if j = 0 then 0 ||| 7 else 0) = (if j < 3 then lr_tg n act sh lg j else 0)
      by_cases c : j = 0
      · rw [if_pos c, if_pos (by omega), c]; rfl
      · rw [if_neg c]
        by_cases c2 : j < 3
        · rw [if_pos c2]
          unfold lr_tg
          rw [if_pos (by omega), if_neg (by omega)]
        · rw [if_neg c2]
  · intro m s hs
    obtain ⟨N0, N1, N, e, hp, hq⟩ := hs
    subst e
    rw [if_neg (by omega)] at hq
    have hp30 : lr_P n lim 30 N0 N1 := lr_P_c n lim (5 * n) 30 N0 N1 (by omega) (fun i h1 h2 z => by have := z.1; omega) hp
    have hq18 : lr_Q n act sh lg 18 N := lr_Q_c n act sh lg (3 * n) 18 N (by omega) (fun j h1 h2 => by
      unfold lr_tg
      rw [if_neg (by omega), if_neg (by omega)]) hq
    have hz := lr_L n lim hlr h6 N0 N1 hp30
    have hK := lr_K n h lim act sh lg hN h3 N hq18
    obtain ⟨P, x0, hT0, eP⟩ := lv_pin n (by omega)
    have hp0 : ∀ e, e < n → e ≠ 0 → (fun e : Nat => if e = 0 then (0 : Int) else 100) e = 100 := by
      intro e _ he
      show (if e = 0 then (0 : Int) else 100) = 100
      rw [if_neg he]
    have hw0 := gv_wf0 n h (gd_t lim) (gq_ct act) (gq_ac act) (gq_i sh) (gq_i lg) hN (fun e : Nat => if e = 0 then (0 : Int) else 100) rfl hp0
    have hiff := gv_val0 n h (gd_t lim) (gq_ct act) (gq_ac act) (gq_i sh) (gq_i lg) hN (fun e : Nat => if e = 0 then (0 : Int) else 100) rfl hp0
    refine br_t (Int32.le_refl _) ?_
    rw [eP]
    refine lx_win n h (gd_t lim) (gq_ct act) (gq_ac act) (gq_i sh) (gq_i lg) B N0 N1 N P hN hBB _ hK _ hz hlr _ (fun e : Nat => if e = 0 then (0 : Int) else 100) x0 hT0 0 (12 * (h + 1)) (by omega) (by omega) hw0 (fun r hv => ?_)
    refine om_ver n h 0 ij wa f lim act sh lg pol tim b w h3 h6 h7 hLm hKk hw hJ _ (fun r2 f b w hr2 hj => ?_)
    have hL2 : ∀ (wa : Int32) (f : Int32) (pol : Nat → Int32) (tim : Nat → Int32) (b w : Nat → Int32), (∀ e, e < n → tim e = -1) → (wa = 0 ∨ wa = 1) → gv_jud n h (gd_t lim) (gq_ct act) (gq_ac act) (gq_i sh) (gq_i lg) wa b w → ol_ld n h (nI n, nI h, 1, wa, f, 0, nI 0, lim, act, sh, lg, pol, tim, b, w) :=
      fun wa f pol tim b w a1 a2 a3 => ⟨1, wa, f, lim, act, sh, lg, pol, tim, b, w, rfl, hLm, hKk, a1, a2, Or.inr ⟨rfl, a3⟩⟩
    rcases hv with ⟨r1, v1⟩ | ⟨r1, v1⟩
    · -- the dispatcher can win
      obtain ⟨T, hT2⟩ := hiff.1 v1
      have e2 : r2 = 1 := by
        rcases hj with ⟨z, _⟩ | ⟨_, z⟩
        · exact z
        · exact absurd hT2 (z T)
      subst r1
      subst e2
      refine br_f (by decide) (br_t rfl ?_)
      refine om_start n h 0 1 1 f lim act sh lg pol tim b w h3 h6 h7 hLm hKk (Or.inr rfl) (Or.inr ⟨rfl, hj⟩) _ (fun f b w hj2 => ?_) (fun f b w hj2 => ?_)
      · have hj3 : gc_fix n (gd_t lim) (gq_ct act) (gq_ac act) (gq_i sh) (gq_i lg) (gd_t b) (gd_t w) ∧ gs_snd n h (gd_t lim) (gq_ct act) (gq_ac act) (gq_i sh) (gq_i lg) (gd_t b) (gd_t w) := by
          rcases hj2 with ⟨_, z⟩ | ⟨z, _⟩
          · exact z
          · exact absurd z (by decide)
        refine br_f (by decide) (br_t rfl (br_f (by decide) ?_))
        refine lz_683 n h 1 1 f lim act sh lg pol (upd tim 0 (nI 0)) b w Ls xs h3 h6 h7 B hBB hLm hKk hj3.1 hj3.2 T hT2 N0 N1 N _ _ hz hK hL post J44 k hk x5 kc ks rfl rfl ?_ ?_
          (fun k' pol' tim' hk' ht' => g k' 1 1 f pol' tim' b w hk' (hL2 1 f pol' tim' b w ht' (Or.inr rfl) hj2))
        · intro e he
          by_cases c : e = 0
          · rw [c, pk_us]; exact Or.inr ⟨0, by omega, rfl⟩
          · rw [pk_un c]; exact Or.inl (hT e he)
        · intro e he
          by_cases c : e = 0
          · rw [c]
            unfold gm_pos
            rw [gm_stp_0, if_pos (by omega), gq_p_t _ 0 0 (by omega) pk_us]
            exact hT2.1
          · have sb := (gm_stp_b (gq_ct act) e (T e) c (by omega)).1
            have tb := hT2.2.1 e he
            unfold gm_pos
            rw [if_neg (by omega), gq_p_n _ e (by rw [pk_un c]; exact hT e he)]
      · rcases hj2 with ⟨z, _⟩ | ⟨_, z⟩
        · exact absurd z (by decide)
        · exact absurd hT2 (z T)
    · have e2 : r2 = 0 := by
        rcases hj with ⟨_, z, _⟩ | ⟨z, _⟩
        · exact absurd (hiff.2 (gv_play n h (gd_t lim) (gq_ct act) (gq_ac act) (gq_i sh) (gq_i lg) hN _ _ z)) v1
        · exact z
      subst r1
      subst e2
      refine br_t rfl (br_t rfl ?_)
      refine om_start n h 0 1 0 f lim act sh lg pol tim b w h3 h6 h7 hLm hKk (Or.inl rfl) (Or.inr ⟨rfl, hj⟩) _ (fun f b w hj2 => ?_) (fun f b w hj2 => ?_)
      · rcases hj2 with ⟨_, z, _⟩ | ⟨z, _⟩
        · exact absurd (hiff.2 (gv_play n h (gd_t lim) (gq_ct act) (gq_ac act) (gq_i sh) (gq_i lg) hN _ _ z)) v1
        · exact absurd z (by decide)
      · exact br_t rfl (br_t rfl (br_t rfl (nm_r (nI_1 x5) (g k 1 0 f pol tim b w (by omega) (hL2 0 f pol tim b w hT (Or.inl rfl) hj2)))))
  · intro m u s hu hs ih
    obtain ⟨N0, N1, N, e, hp, hq⟩ := hs
    subst e
    refine br_f (nI_ge hu (by omega)) (lv_421 n h ij wa f lim act sh lg pol tim b w Ls xs h6 hN hA hlr post J44 _ (nI k) (nI x5) kc ks u N0 N1 N hu hp hq (fun N0' N1' N' a1 a2 => ih (lN N0', lN N1', lN N') ⟨N0', N1', N', rfl, a1, ?_⟩))
    rw [if_neg (by omega)]
    exact a2
end lv
end
section
-- the law: its edits, its phases, its beginning
section zj
variable (n h : Nat) (ij wa f ph rd : Int32) (lim act sh lg pol tim b w : Nat → Int32)

def zj_row (N m : Nat) (x : Nat) (lim : Nat → Int32) : Prop := ∀ y, y < m → y < N → lim (x * 6 + y) = (if y = 0 then (0 : Int32) else nI h)

theorem zj_26 (hn : n ≤ 6) (post : St2 → Prop) (J2 : Int32 → Int32 → Int32 → Int32 → Int32 → Int32 → Int32 → Int32 → (Nat → Int32) → (Nat → Int32) → (Nat → Int32) → (Nat → Int32) → (Nat → Int32) → (Nat → Int32) → (Nat → Int32) → (Nat → Int32) → Prop) (u : Nat) (hu : u < n) (lim0 : Nat → Int32)
    (hx : ∀ lim, (∀ x, x ≠ u → ∀ y, y < 6 → lim (x * 6 + y) = lim0 (x * 6 + y)) → zj_row h n n u lim → J2 (nI (u + 1)) (nI n) (nI h) ij wa f ph rd lim act sh lg pol tim b w) :
    ∃ m, wX_clearLinks_26 post J2 (nI u) m 0 (nI n) (nI h) ij wa f ph rd lim0 act sh lg pol tim b w := by
  have hu6 : u < 6 := by omega
  refine loop_0 (fun m i (lim : Nat → Int32) => wX_clearLinks_26 post J2 (nI u) m (nI i) (nI n) (nI h) ij wa f ph rd lim act sh lg pol tim b w)
    (fun i lim => (∀ x, x ≠ u → ∀ y, y < 6 → lim (x * 6 + y) = lim0 (x * 6 + y)) ∧ zj_row h n i u lim) n lim0 ⟨fun _ _ _ _ => rfl, fun y hy => absurd hy (by omega)⟩ ?_ ?_
  · intro m lim hs
    exact br_t (Int32.le_refl _) (nm_r (nI_1 u) (hx lim hs.1 hs.2))
  · intro m i lim hi hs ih
    have hi6 : i < 6 := by omega
    have hin := xd_in u i hu6 hi6
    have step : ∀ z : Int32, z = (if i = 0 then (0 : Int32) else nI h) →
        (∀ x, x ≠ u → ∀ y, y < 6 → upd lim (u * 6 + i) z (x * 6 + y) = lim0 (x * 6 + y)) ∧ zj_row h n (i + 1) u (upd lim (u * 6 + i) z) := by
      intro z hz
      refine ⟨fun x hx y hy => ?_, fun y hy hyn => ?_⟩
      · rw [pk_un (by omega)]; exact hs.1 x hx y hy
      · by_cases e : y = i
        · rw [e, pk_us]; exact hz
        · rw [pk_un (by omega)]; exact hs.2 y (by omega) hyn
    refine br_f (nI_ge hi (by omega)) ?_
    unfold wpX_loosen
    dsimp only
    rw [xd_cl u i hu6 hi6]
    refine br_c (fun q => ⟨hin, nm_e (nm_r (nI_1 i) (ih _ (step 0 ?_)))⟩) (fun q => ⟨hin, nm_e (nm_r (nI_1 i) (ih _ (step (nI h) ?_)))⟩)
    · rw [if_pos ((nI_eq (b := 0) (by omega) (by omega)).1 q)]
    · rw [if_neg (fun y => q (by rw [y]; rfl))]

theorem zj_clear (hn : n ≤ 6) (post : St2 → Prop)
    (g : ∀ lim act pol, (∀ x, x < n → act x = -1 ∧ pol x = 0 ∧ zj_row h n n x lim) → post (nI n, nI h, ij, wa, f, ph, rd, lim, act, sh, lg, pol, tim, b, w)) : wpX_clearLinks post (nI n, nI h, ij, wa, f, ph, rd, lim, act, sh, lg, pol, tim, b, w) := by
  refine loop_0 (fun m i (s : (Nat → Int32) × (Nat → Int32) × (Nat → Int32)) => wX_clearLinks_2 post m (nI i) (nI n) (nI h) ij wa f ph rd s.1 s.2.1 sh lg s.2.2 tim b w)
    (fun i s => ∀ x, x < i → s.2.1 x = -1 ∧ s.2.2 x = 0 ∧ zj_row h n n x s.1) n (lim, act, pol) (fun x hx => absurd hx (by omega)) ?_ ?_
  · intro m s hs
    obtain ⟨lim, act, pol⟩ := s
    exact br_t (Int32.le_refl _) (g lim act pol hs)
  · intro m i s hi hs ih
    obtain ⟨lim, act, pol⟩ := s
    have hi6 : i < 6 := by omega
    refine br_f (nI_ge hi (by omega)) ⟨xd_i1 i hi6, ?_⟩
    rw [xd_c1 i hi6]
    refine nm_e ⟨xd_i1 i hi6, nm_e (zj_26 n h ij wa f ph rd _ sh lg _ tim b w hn post _ i hi lim (fun lim' h1 h2 => ih (lim', upd act i (-1), upd pol i 0) (fun x hx => ?_)))⟩
    by_cases e : x = i
    · rw [e]; exact ⟨pk_us, pk_us, h2⟩
    · obtain ⟨c1, c2, c3⟩ := hs x (by omega)
      refine ⟨?_, ?_, fun y hy hyn => ?_⟩
      · show upd act i (-1) x = -1
        rw [pk_un e]; exact c1
      · show upd pol i 0 x = 0
        rw [pk_un e]; exact c2
      · show lim' (x * 6 + y) = _
        rw [h1 x e y (by omega)]; exact c3 y hy hyn

end zj

section lu
variable (n h : Nat) (Ls : Nat) (xs : Nat → Int32)

/-- the calls behind the edits -/
def lu_J (J44 : Int32 → Int32 → Int32 → Int32 → Int32 → Int32 → Int32 → Int32 → Int32 → (Nat → Int32) → (Nat → Int32) → (Nat → Int32) → (Nat → Int32) → (Nat → Int32) → (Nat → Int32) → (Nat → Int32) → (Nat → Int32) → Prop) (x5 kb : Nat) : Prop := ∀ (k' : Nat) (s : St2), k' ≤ kb → ol_ld n h s → J44 (nI k') (nI (x5 + 1)) s.1 s.2.1 s.2.2.1 s.2.2.2.1 s.2.2.2.2.1 s.2.2.2.2.2.1 s.2.2.2.2.2.2.1 s.2.2.2.2.2.2.2.1 s.2.2.2.2.2.2.2.2.1 s.2.2.2.2.2.2.2.2.2.1 s.2.2.2.2.2.2.2.2.2.2.1 s.2.2.2.2.2.2.2.2.2.2.2.1 s.2.2.2.2.2.2.2.2.2.2.2.2.1 s.2.2.2.2.2.2.2.2.2.2.2.2.2.1 s.2.2.2.2.2.2.2.2.2.2.2.2.2.2

theorem lu_284 (h3 : 3 ≤ n) (h6 : n ≤ 6) (hh : 3 ≤ h) (h7 : h ≤ 7) (hL : Ls ≤ 260) (post : Int32 → Prop) (J44 : Int32 → Int32 → Int32 → Int32 → Int32 → Int32 → Int32 → Int32 → Int32 → (Nat → Int32) → (Nat → Int32) → (Nat → Int32) → (Nat → Int32) → (Nat → Int32) → (Nat → Int32) → (Nat → Int32) → (Nat → Int32) → Prop) (x5 c k : Nat) (hk : k + 4 * c < 8000) (kc ks : Nat)
    (s0 : St2) (hs0 : ol_ld n h s0) (g : lu_J n h J44 x5 (k + 4 * c + 16)) :
    ∃ m, wL_law_284 post Ls xs J44 (nI n) (nI h) (nI x5) (nI c) kc ks m (nI k) 0 s0.1 s0.2.1 s0.2.2.1 s0.2.2.2.1 s0.2.2.2.2.1 s0.2.2.2.2.2.1 s0.2.2.2.2.2.2.1 s0.2.2.2.2.2.2.2.1 s0.2.2.2.2.2.2.2.2.1 s0.2.2.2.2.2.2.2.2.2.1 s0.2.2.2.2.2.2.2.2.2.2.1 s0.2.2.2.2.2.2.2.2.2.2.2.1 s0.2.2.2.2.2.2.2.2.2.2.2.2.1 s0.2.2.2.2.2.2.2.2.2.2.2.2.2.1 s0.2.2.2.2.2.2.2.2.2.2.2.2.2.2 := by
  refine loop_0 (fun m i (s : St2) => wL_law_284 post Ls xs J44 (nI n) (nI h) (nI x5) (nI c) kc ks m (nI (k + 4 * i)) (nI i) s.1 s.2.1 s.2.2.1 s.2.2.2.1 s.2.2.2.2.1 s.2.2.2.2.2.1 s.2.2.2.2.2.2.1 s.2.2.2.2.2.2.2.1 s.2.2.2.2.2.2.2.2.1 s.2.2.2.2.2.2.2.2.2.1 s.2.2.2.2.2.2.2.2.2.2.1 s.2.2.2.2.2.2.2.2.2.2.2.1 s.2.2.2.2.2.2.2.2.2.2.2.2.1 s.2.2.2.2.2.2.2.2.2.2.2.2.2.1 s.2.2.2.2.2.2.2.2.2.2.2.2.2.2) (fun _ s => ol_ld n h s) c s0 hs0 ?_ ?_
  · intro m s hs
    obtain ⟨ij, wa, f, lim, act, sh, lg, pol, tim, b, w, rfl, a1, a2, a3, a4, a5⟩ := hs
    refine br_t (Int32.le_refl _) ?_
    exact lv_412 n h ij wa f lim act sh lg pol tim b w Ls xs h3 h6 h7 hL (2 * n) (by unfold ls_B; omega) a1 a2 a3 a4 a5 post J44 (k + 4 * c) x5 (by omega) kc ks
      (fun k' ij wa f pol tim b w hk' hl => g k' _ hk' hl)
  · intro m i s hi hs ih
    have e1 : ∀ a b : Nat, nI a + nI b = nI (a + b) := nI_add
    have n1 : nI n - 1 = nI (n - 1) := pk_sub (b := 1) (by omega)
    have nn : ¬ nI n = 0 := nI_ne0 (by omega) (by omega)
    have add : ∀ z0 z1 z2 z3 : Int32, wL_law_385 post Ls xs J44 (wL_law_284 post Ls xs J44 (nI n) (nI h) (nI x5) (nI c) kc ks m) (nI n) (nI h) (nI (k + 4 * i)) (nI x5) (nI c) (nI i) z0 z1 z2 z3 kc ks s.1 s.2.1 s.2.2.1 s.2.2.2.1 s.2.2.2.2.1 s.2.2.2.2.2.1 s.2.2.2.2.2.2.1 s.2.2.2.2.2.2.2.1 s.2.2.2.2.2.2.2.2.1 s.2.2.2.2.2.2.2.2.2.1 s.2.2.2.2.2.2.2.2.2.2.1 s.2.2.2.2.2.2.2.2.2.2.2.1 s.2.2.2.2.2.2.2.2.2.2.2.2.1 s.2.2.2.2.2.2.2.2.2.2.2.2.2.1 s.2.2.2.2.2.2.2.2.2.2.2.2.2.2 := by
      intro z0 z1 z2 z3
      refine ol_addReq n h h3 h6 hh h7 s hs _ (fun r u' hu' => ?_) z3 z2 z1 z0
      exact nm_r (nI_1 i) (nm_r (nI_add (k + 4 * i) 4) (ih u' hu'))
    have a371 : ∀ x11 x12 z0 z1 : Int32, wL_law_371 post Ls xs J44 (wL_law_284 post Ls xs J44 (nI n) (nI h) (nI x5) (nI c) kc ks m) (nI n) (nI h) (nI (k + 4 * i)) (nI x5) (nI c) (nI i) x11 x12 z0 z1 kc ks s.1 s.2.1 s.2.2.1 s.2.2.2.1 s.2.2.2.2.1 s.2.2.2.2.2.1 s.2.2.2.2.2.2.1 s.2.2.2.2.2.2.2.1 s.2.2.2.2.2.2.2.2.1 s.2.2.2.2.2.2.2.2.2.1 s.2.2.2.2.2.2.2.2.2.2.1 s.2.2.2.2.2.2.2.2.2.2.2.1 s.2.2.2.2.2.2.2.2.2.2.2.2.1 s.2.2.2.2.2.2.2.2.2.2.2.2.2.1 s.2.2.2.2.2.2.2.2.2.2.2.2.2.2 :=
      fun x11 x12 z0 z1 => br_c (fun _ => add _ _ _ _) (fun _ => add _ _ _ _)
    refine br_f (nI_ge hi (by omega)) (lz_pick Ls xs _ (k + 4 * i) n (by omega) hL (by omega) (by omega) (fun j1 hj1 => ?_))
    rw [nI_1 (k + 4 * i), n1]
    refine lz_pick Ls xs _ (k + 4 * i + 1) (n - 1) (by omega) hL (by omega) (by omega) (fun j2 hj2 => ⟨nn, ?_⟩)
    rw [show nI (k + 4 * i) + 2 = nI (k + 4 * i + 2) from nI_add _ 2, show nI (k + 4 * i) + 3 = nI (k + 4 * i + 3) from nI_add _ 3]
    refine nm_e (lz_pick Ls xs _ (k + 4 * i + 2) 5 (by omega) hL (by omega) (by omega) (fun j3 hj3 => nm_e (lz_pick Ls xs _ (k + 4 * i + 3) h (by omega) hL (by omega) (by omega) (fun j4 hj4 => nm_e ?_))))
    exact br_c (fun _ => br_c (fun _ => a371 _ _ _ _) (fun _ => a371 _ _ _ _)) (fun _ => br_c (fun _ => a371 _ _ _ _) (fun _ => a371 _ _ _ _))

theorem lu_161 (h3 : 3 ≤ n) (h6 : n ≤ 6) (hh : 3 ≤ h) (h7 : h ≤ 7) (hL : Ls ≤ 260) (post : Int32 → Prop) (J44 : Int32 → Int32 → Int32 → Int32 → Int32 → Int32 → Int32 → Int32 → Int32 → (Nat → Int32) → (Nat → Int32) → (Nat → Int32) → (Nat → Int32) → (Nat → Int32) → (Nat → Int32) → (Nat → Int32) → (Nat → Int32) → Prop) (x5 c k : Nat) (hk : k + 4 * c < 7000) (kc ks : Nat)
    (s0 : St2) (hs0 : ol_ld n h s0) (g : lu_J n h J44 x5 (k + 4 * c + 33)) :
    ∃ m, wL_law_161 post Ls xs J44 (nI n) (nI h) (nI x5) (nI c) kc ks m (nI k) 0 s0.1 s0.2.1 s0.2.2.1 s0.2.2.2.1 s0.2.2.2.2.1 s0.2.2.2.2.2.1 s0.2.2.2.2.2.2.1 s0.2.2.2.2.2.2.2.1 s0.2.2.2.2.2.2.2.2.1 s0.2.2.2.2.2.2.2.2.2.1 s0.2.2.2.2.2.2.2.2.2.2.1 s0.2.2.2.2.2.2.2.2.2.2.2.1 s0.2.2.2.2.2.2.2.2.2.2.2.2.1 s0.2.2.2.2.2.2.2.2.2.2.2.2.2.1 s0.2.2.2.2.2.2.2.2.2.2.2.2.2.2 := by
  refine loop_0 (fun m i (s : St2) => wL_law_161 post Ls xs J44 (nI n) (nI h) (nI x5) (nI c) kc ks m (nI (k + 4 * i)) (nI i) s.1 s.2.1 s.2.2.1 s.2.2.2.1 s.2.2.2.2.1 s.2.2.2.2.2.1 s.2.2.2.2.2.2.1 s.2.2.2.2.2.2.2.1 s.2.2.2.2.2.2.2.2.1 s.2.2.2.2.2.2.2.2.2.1 s.2.2.2.2.2.2.2.2.2.2.1 s.2.2.2.2.2.2.2.2.2.2.2.1 s.2.2.2.2.2.2.2.2.2.2.2.2.1 s.2.2.2.2.2.2.2.2.2.2.2.2.2.1 s.2.2.2.2.2.2.2.2.2.2.2.2.2.2) (fun _ s => ol_ld n h s) c s0 hs0 ?_ ?_
  · intro m s hs
    refine br_t (Int32.le_refl _) (nm_r (nI_1 (k + 4 * c)) (lz_pick Ls xs _ (k + 4 * c) 4 (by omega) hL (by omega) (by omega) (fun j hj => ?_)))
    have nx : ∀ c' : Nat, c' ≤ 4 → ∃ m, wL_law_284 post Ls xs J44 (nI n) (nI h) (nI x5) (nI c') kc ks m (nI (k + 4 * c + 1)) 0 s.1 s.2.1 s.2.2.1 s.2.2.2.1 s.2.2.2.2.1 s.2.2.2.2.2.1 s.2.2.2.2.2.2.1 s.2.2.2.2.2.2.2.1 s.2.2.2.2.2.2.2.2.1 s.2.2.2.2.2.2.2.2.2.1 s.2.2.2.2.2.2.2.2.2.2.1 s.2.2.2.2.2.2.2.2.2.2.2.1 s.2.2.2.2.2.2.2.2.2.2.2.2.1 s.2.2.2.2.2.2.2.2.2.2.2.2.2.1 s.2.2.2.2.2.2.2.2.2.2.2.2.2.2 := fun c' hc' =>
      lu_284 n h Ls xs h3 h6 hh h7 hL post J44 x5 c' (k + 4 * c + 1) (by omega) kc ks s hs (fun k' s' hk' hl => g k' s' (by omega) hl)
    refine br_c (fun _ => nm_r (nI_1 j) (nx (j + 1) (by omega))) (fun _ => nm_r (nI_add j 0) (nx (j + 0) (by omega)))
  · intro m i s hi hs ih
    have n1 : nI n - 1 = nI (n - 1) := pk_sub (b := 1) (by omega)
    have add : ∀ z0 z1 z2 z3 : Int32, wL_law_246 post Ls xs J44 (wL_law_161 post Ls xs J44 (nI n) (nI h) (nI x5) (nI c) kc ks m) (nI n) (nI h) (nI (k + 4 * i)) (nI x5) (nI c) (nI i) z0 z1 z2 z3 kc ks s.1 s.2.1 s.2.2.1 s.2.2.2.1 s.2.2.2.2.1 s.2.2.2.2.2.1 s.2.2.2.2.2.2.1 s.2.2.2.2.2.2.2.1 s.2.2.2.2.2.2.2.2.1 s.2.2.2.2.2.2.2.2.2.1 s.2.2.2.2.2.2.2.2.2.2.1 s.2.2.2.2.2.2.2.2.2.2.2.1 s.2.2.2.2.2.2.2.2.2.2.2.2.1 s.2.2.2.2.2.2.2.2.2.2.2.2.2.1 s.2.2.2.2.2.2.2.2.2.2.2.2.2.2 := by
      intro z0 z1 z2 z3
      refine ol_addCon n h h3 h6 h7 s hs _ (fun r u' hu' => ?_) z3 z2 z1 z0
      exact nm_r (nI_1 i) (nm_r (nI_add (k + 4 * i) 4) (ih u' hu'))
    have a230 : ∀ x8 x10 x11 z0 : Int32, wL_law_230 post Ls xs J44 (wL_law_161 post Ls xs J44 (nI n) (nI h) (nI x5) (nI c) kc ks m) (nI n) (nI h) (nI (k + 4 * i)) (nI x5) (nI c) (nI i) x8 x10 x11 z0 kc ks s.1 s.2.1 s.2.2.1 s.2.2.2.1 s.2.2.2.2.1 s.2.2.2.2.2.1 s.2.2.2.2.2.2.1 s.2.2.2.2.2.2.2.1 s.2.2.2.2.2.2.2.2.1 s.2.2.2.2.2.2.2.2.2.1 s.2.2.2.2.2.2.2.2.2.2.1 s.2.2.2.2.2.2.2.2.2.2.2.1 s.2.2.2.2.2.2.2.2.2.2.2.2.1 s.2.2.2.2.2.2.2.2.2.2.2.2.2.1 s.2.2.2.2.2.2.2.2.2.2.2.2.2.2 :=
      fun x8 x10 x11 z0 => br_c (fun _ => add _ _ _ _) (fun _ => add _ _ _ _)
    refine br_f (nI_ge hi (by omega)) ?_
    rw [n1]
    refine lz_pick Ls xs _ (k + 4 * i) (n - 1) (by omega) hL (by omega) (by omega) (fun j1 hj1 => nm_e ?_)
    rw [nI_1 (k + 4 * i)]
    refine lz_pick Ls xs _ (k + 4 * i + 1) n (by omega) hL (by omega) (by omega) (fun j2 hj2 => ?_)
    rw [show nI (k + 4 * i) + 2 = nI (k + 4 * i + 2) from nI_add _ 2, show nI (k + 4 * i) + 3 = nI (k + 4 * i + 3) from nI_add _ 3]
    refine lz_pick Ls xs _ (k + 4 * i + 2) 2 (by omega) hL (by omega) (by omega) (fun j3 hj3 => nm_e (lz_pick Ls xs _ (k + 4 * i + 3) 3 (by omega) hL (by omega) (by omega) (fun j4 hj4 => nm_e ?_)))
    exact br_c (fun _ => a230 _ _ _ _) (fun _ => a230 _ _ _ _)

theorem lu_136 (h3 : 3 ≤ n) (h6 : n ≤ 6) (hh : 3 ≤ h) (h7 : h ≤ 7) (hL : Ls ≤ 260) (post : Int32 → Prop) (J44 : Int32 → Int32 → Int32 → Int32 → Int32 → Int32 → Int32 → Int32 → Int32 → (Nat → Int32) → (Nat → Int32) → (Nat → Int32) → (Nat → Int32) → (Nat → Int32) → (Nat → Int32) → (Nat → Int32) → (Nat → Int32) → Prop) (x5 k : Nat) (hk : k < 6000) (kc ks : Nat)
    (s : St2) (hs : ol_ld n h s) (g : lu_J n h J44 x5 (k + 50)) :
    wL_law_136 post Ls xs J44 (nI n) (nI h) (nI k) (nI x5) kc ks s.1 s.2.1 s.2.2.1 s.2.2.2.1 s.2.2.2.2.1 s.2.2.2.2.2.1 s.2.2.2.2.2.2.1 s.2.2.2.2.2.2.2.1 s.2.2.2.2.2.2.2.2.1 s.2.2.2.2.2.2.2.2.2.1 s.2.2.2.2.2.2.2.2.2.2.1 s.2.2.2.2.2.2.2.2.2.2.2.1 s.2.2.2.2.2.2.2.2.2.2.2.2.1 s.2.2.2.2.2.2.2.2.2.2.2.2.2.1 s.2.2.2.2.2.2.2.2.2.2.2.2.2.2 := by
  refine nm_r (nI_1 k) (lz_pick Ls xs _ k 3 (by omega) hL (by omega) (by omega) (fun j hj => ?_))
  have nx : ∀ c' : Nat, c' ≤ 3 → ∃ m, wL_law_161 post Ls xs J44 (nI n) (nI h) (nI x5) (nI c') kc ks m (nI (k + 1)) 0 s.1 s.2.1 s.2.2.1 s.2.2.2.1 s.2.2.2.2.1 s.2.2.2.2.2.1 s.2.2.2.2.2.2.1 s.2.2.2.2.2.2.2.1 s.2.2.2.2.2.2.2.2.1 s.2.2.2.2.2.2.2.2.2.1 s.2.2.2.2.2.2.2.2.2.2.1 s.2.2.2.2.2.2.2.2.2.2.2.1 s.2.2.2.2.2.2.2.2.2.2.2.2.1 s.2.2.2.2.2.2.2.2.2.2.2.2.2.1 s.2.2.2.2.2.2.2.2.2.2.2.2.2.2 := fun c' hc' =>
    lu_161 n h Ls xs h3 h6 hh h7 hL post J44 x5 c' (k + 1) (by omega) kc ks s hs (fun k' s' hk' hl => g k' s' (by omega) hl)
  exact br_c (fun _ => nm_r (nI_1 j) (nx (j + 1) (by omega))) (fun _ => nm_r (nI_add j 0) (nx (j + 0) (by omega)))

theorem lu_69 (h3 : 3 ≤ n) (h6 : n ≤ 6) (hh : 3 ≤ h) (h7 : h ≤ 7) (hL : Ls ≤ 260) (post : Int32 → Prop) (J44 : Int32 → Int32 → Int32 → Int32 → Int32 → Int32 → Int32 → Int32 → Int32 → (Nat → Int32) → (Nat → Int32) → (Nat → Int32) → (Nat → Int32) → (Nat → Int32) → (Nat → Int32) → (Nat → Int32) → (Nat → Int32) → Prop) (x5 k : Nat) (hk : k < 5000) (kc ks : Nat)
    (s0 : St2) (hs0 : ol_ld n h s0) (g : lu_J n h J44 x5 (k + 60)) :
    ∃ m, wL_law_69 post Ls xs J44 (nI n) (nI h) (nI x5) kc ks m (nI k) 0 s0.1 s0.2.1 s0.2.2.1 s0.2.2.2.1 s0.2.2.2.2.1 s0.2.2.2.2.2.1 s0.2.2.2.2.2.2.1 s0.2.2.2.2.2.2.2.1 s0.2.2.2.2.2.2.2.2.1 s0.2.2.2.2.2.2.2.2.2.1 s0.2.2.2.2.2.2.2.2.2.2.1 s0.2.2.2.2.2.2.2.2.2.2.2.1 s0.2.2.2.2.2.2.2.2.2.2.2.2.1 s0.2.2.2.2.2.2.2.2.2.2.2.2.2.1 s0.2.2.2.2.2.2.2.2.2.2.2.2.2.2 := by
  have n1 : nI n - 1 = nI (n - 1) := pk_sub (b := 1) (by omega)
  have nn : ¬ nI n = 0 := nI_ne0 (by omega) (by omega)
  refine loop_0 (fun m i (s : St2) => wL_law_69 post Ls xs J44 (nI n) (nI h) (nI x5) kc ks m (nI (k + 2 * i)) (nI i) s.1 s.2.1 s.2.2.1 s.2.2.2.1 s.2.2.2.2.1 s.2.2.2.2.2.1 s.2.2.2.2.2.2.1 s.2.2.2.2.2.2.2.1 s.2.2.2.2.2.2.2.2.1 s.2.2.2.2.2.2.2.2.2.1 s.2.2.2.2.2.2.2.2.2.2.1 s.2.2.2.2.2.2.2.2.2.2.2.1 s.2.2.2.2.2.2.2.2.2.2.2.2.1 s.2.2.2.2.2.2.2.2.2.2.2.2.2.1 s.2.2.2.2.2.2.2.2.2.2.2.2.2.2) (fun _ s => ol_ld n h s) 3 s0 hs0 ?_ ?_
  · intro m s hs
    refine br_t (Int32.le_refl _) (nm_r (nI_1 (k + 2 * 3)) ?_)
    rw [n1]
    refine lz_pick Ls xs _ (k + 2 * 3) (n - 1) (by omega) hL (by omega) (by omega) (fun j hj => ?_)
    exact ol_dropCon n h h6 s hs _ (fun r u' hu' => lu_136 n h Ls xs h3 h6 hh h7 hL post J44 x5 (k + 2 * 3 + 1) (by omega) kc ks u' hu' (fun k' s' hk' hl => g k' s' (by omega) hl)) _
  · intro m i s hi hs ih
    refine br_f (nI_ge (b := 3) hi (by decide)) (lz_pick Ls xs _ (k + 2 * i) n (by omega) hL (by omega) (by omega) (fun j1 hj1 => ?_))
    rw [nI_1 (k + 2 * i), n1]
    refine lz_pick Ls xs _ (k + 2 * i + 1) (n - 1) (by omega) hL (by omega) (by omega) (fun j2 hj2 => ⟨nn, ?_⟩)
    exact ol_dropReq n h h6 h7 s hs _ (fun r u' hu' => nm_r (nI_1 i) (nm_r (nI_add (k + 2 * i) 2) (ih u' hu'))) _ _

theorem lu_44 (h3 : 3 ≤ n) (h6 : n ≤ 6) (hh : 3 ≤ h) (h7 : h ≤ 7) (hL : Ls ≤ 260) (post : Int32 → Prop) (hp1 : post 1) (kc ks : Nat) (s0 : St2) (hs0 : ol_ld n h s0) :
    ∃ m, wL_law_44 post Ls xs (nI n) (nI h) kc ks m 2 0 s0.1 s0.2.1 s0.2.2.1 s0.2.2.2.1 s0.2.2.2.2.1 s0.2.2.2.2.2.1 s0.2.2.2.2.2.2.1 s0.2.2.2.2.2.2.2.1 s0.2.2.2.2.2.2.2.2.1 s0.2.2.2.2.2.2.2.2.2.1 s0.2.2.2.2.2.2.2.2.2.2.1 s0.2.2.2.2.2.2.2.2.2.2.2.1 s0.2.2.2.2.2.2.2.2.2.2.2.2.1 s0.2.2.2.2.2.2.2.2.2.2.2.2.2.1 s0.2.2.2.2.2.2.2.2.2.2.2.2.2.2 := by
  refine loop_0 (fun m i (s : Nat × St2) => wL_law_44 post Ls xs (nI n) (nI h) kc ks m (nI s.1) (nI i) s.2.1 s.2.2.1 s.2.2.2.1 s.2.2.2.2.1 s.2.2.2.2.2.1 s.2.2.2.2.2.2.1 s.2.2.2.2.2.2.2.1 s.2.2.2.2.2.2.2.2.1 s.2.2.2.2.2.2.2.2.2.1 s.2.2.2.2.2.2.2.2.2.2.1 s.2.2.2.2.2.2.2.2.2.2.2.1 s.2.2.2.2.2.2.2.2.2.2.2.2.1 s.2.2.2.2.2.2.2.2.2.2.2.2.2.1 s.2.2.2.2.2.2.2.2.2.2.2.2.2.2.1 s.2.2.2.2.2.2.2.2.2.2.2.2.2.2.2) (fun i s => s.1 ≤ 2 + 100 * i ∧ ol_ld n h s.2) 3 (2, s0) ⟨by omega, hs0⟩ ?_ ?_
  · intro m s hs
    exact br_t (Int32.le_refl _) hp1
  · intro m i s hi hs ih
    obtain ⟨k, s⟩ := s
    obtain ⟨hk, hs⟩ := hs
    have hk' : k ≤ 2 + 100 * i := hk
    have hs' : ol_ld n h s := hs
    have gg : lu_J n h (wL_law_44 post Ls xs (nI n) (nI h) kc ks m) i (k + 60) := fun k2 s2 hk2 hl => ih (k2, s2) ⟨by show k2 ≤ _; omega, hl⟩
    have gg2 : lu_J n h (wL_law_44 post Ls xs (nI n) (nI h) kc ks m) i (k + 50) := fun k2 s2 hk2 hl => gg k2 s2 (by omega) hl
    have go : wL_law_61 post Ls xs (wL_law_44 post Ls xs (nI n) (nI h) kc ks m) (nI n) (nI h) (nI k) (nI i) kc ks s.1 s.2.1 s.2.2.1 s.2.2.2.1 s.2.2.2.2.1 s.2.2.2.2.2.1 s.2.2.2.2.2.2.1 s.2.2.2.2.2.2.2.1 s.2.2.2.2.2.2.2.2.1 s.2.2.2.2.2.2.2.2.2.1 s.2.2.2.2.2.2.2.2.2.2.1 s.2.2.2.2.2.2.2.2.2.2.2.1 s.2.2.2.2.2.2.2.2.2.2.2.2.1 s.2.2.2.2.2.2.2.2.2.2.2.2.2.1 s.2.2.2.2.2.2.2.2.2.2.2.2.2.2 :=
      br_c (fun _ => lu_136 n h Ls xs h3 h6 hh h7 hL post _ i k (by omega) kc ks s hs' gg2) (fun _ => lu_69 n h Ls xs h3 h6 hh h7 hL post _ i k (by omega) kc ks s hs' gg)
    exact br_f (nI_ge (b := 3) hi (by decide)) (br_c (fun _ => go) (fun _ => br_c (fun _ => hp1) (fun _ => go)))

theorem lu_clamp (c M : Nat) (h3 : 3 ≤ c) (hM : c ≤ M) (hM7 : M ≤ 7) (post : Int32 → Prop) (g : post (nI c)) : wpX_clamp post () (nI c) 3 (nI M) :=
  br_t (nI_le (a := 3) h3 (by omega)) (br_t (nI_le hM (by omega)) g)

theorem lu_23 (h3 : 3 ≤ n) (h6 : n ≤ 6) (hL : Ls ≤ 260) (post : Int32 → Prop) (hp1 : post 1) (m : Nat) (hm : 0 < m) (hm5 : m ≤ 5) : wL_law_23 post Ls xs (nI n) (nI m) 1 3 0 0 := by
  refine lz_pick Ls xs _ 1 m (by omega) hL hm (by omega) (fun j hj => ?_)
  refine nm_r (show (3 : Int32) + nI j = nI (3 + j) from nI_add 3 j) ⟨by omega, by omega, 8, 138, by omega, by omega, ?_⟩
  generalize hh : 3 + j = hz
  have g3 : 3 ≤ hz := by omega
  have g7 : hz ≤ 7 := by omega
  refine ⟨by omega, by omega, by omega, by omega, by omega, by omega, by omega, by omega, by omega, by omega, by omega, by omega, by omega, by omega, by omega, by omega, ?_⟩
  refine lu_clamp n 6 h3 h6 (by omega) _ (lu_clamp hz 7 g3 g7 (by omega) _ ?_)
  refine zj_clear n hz 0 0 0 0 0 _ _ _ _ _ _ _ _ h6 _ (fun lim act pol h1 => ?_)
  refine loop_0 (fun m i (tim : Nat → Int32) => wX_enterLoad_12 _ (nI n) (nI hz) 0 0 0 0 0 m (nI i) lim act (fun _ => 0) (fun _ => 0) pol tim (fun _ => 0) (fun _ => 0))
    (fun i tim => ∀ e, e < i → tim e = -1) n (fun _ => 0) (fun e he => absurd he (by omega)) ?_ ?_
  · intro m tim ht
    refine br_t (Int32.le_refl _) ?_
    refine lu_44 n hz Ls xs h3 h6 g3 g7 hL post hp1 _ _ (nI n, nI hz, 0, 0, 0, 0, nI 0, lim, act, (fun _ => 0), (fun _ => 0), pol, tim, (fun _ => 0), (fun _ => 0)) ?_
    have nh := gq_nI hz (by omega)
    have z0 : (0 : Int32).toInt = 0 := by decide
    refine ⟨0, 0, 0, lim, act, _, _, pol, tim, _, _, rfl, ⟨fun u v hu hv => ?_, fun u hu hu0 => ?_⟩, ⟨(h1 0 (by omega)).1, fun c hc => Or.inl (h1 c hc).1⟩, ht, Or.inl rfl, Or.inl rfl⟩
    · unfold gd_t
      rw [(h1 u hu).2.2 v hv hv]
      by_cases q : v = 0
      · rw [if_pos q, z0]; exact ⟨by omega, by omega⟩
      · rw [if_neg q, nh]; exact ⟨by omega, by omega⟩
    · unfold gd_t
      rw [(h1 u hu).2.2 0 (by omega) (by omega), if_pos rfl, z0]
      omega
  · intro m i tim hi hs ih
    have hi6 : i < 6 := by omega
    refine br_f (nI_ge hi (by omega)) ⟨xd_i1 i hi6, ?_⟩
    rw [xd_c1 i hi6]
    refine nm_e (nm_r (nI_1 i) (ih _ (fun e he => ?_)))
    by_cases q : e = i
    · rw [q, pk_us]
    · rw [pk_un q]; exact hs e (by omega)
end lu

theorem i_vc (xs : Nat → Int32) (L : Nat) (hL : L ≤ 260) : wpL_law (fun r => r = 1) L xs := by
  unfold wpL_law
  refine lz_pick L xs _ 0 4 (by omega) hL (by omega) (by omega) (fun j hj => nm_r (show (3 : Int32) + nI j = nI (3 + j) from nI_add 3 j) ?_)
  exact br_c (fun _ => lu_23 (3 + j) L xs (by omega) (by omega) hL (fun r => r = 1) rfl 3 (by omega) (by omega)) (fun _ => lu_23 (3 + j) L xs (by omega) (by omega) hL (fun r => r = 1) rfl 5 (by omega) (by omega))
end
