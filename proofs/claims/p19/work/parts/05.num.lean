-- ints of 32 bits as whole numbers, while they are small
section gn

theorem gn_add (a b : Int32) (ha : -100000000 ≤ a.toInt ∧ a.toInt ≤ 100000000) (hb : -100000000 ≤ b.toInt ∧ b.toInt ≤ 100000000) :
    (a + b).toInt = a.toInt + b.toInt := by
  rw [Int32.toInt_add]
  exact Int.bmod_eq_of_le (by omega) (by omega)

theorem gn_sub (a b : Int32) (ha : -100000000 ≤ a.toInt ∧ a.toInt ≤ 100000000) (hb : -100000000 ≤ b.toInt ∧ b.toInt ≤ 100000000) :
    (a - b).toInt = a.toInt - b.toInt := by
  rw [Int32.toInt_sub]
  exact Int.bmod_eq_of_le (by omega) (by omega)

theorem gn_neg (a : Int32) (ha : -100000000 ≤ a.toInt ∧ a.toInt ≤ 100000000) : (-a).toInt = -a.toInt := by
  rw [Int32.toInt_neg]
  exact Int.bmod_eq_of_le (by omega) (by omega)

theorem gn_lt (a b : Int32) : a < b ↔ a.toInt < b.toInt := Int32.lt_iff_toInt_lt
theorem gn_le (a b : Int32) : a ≤ b ↔ a.toInt ≤ b.toInt := Int32.le_iff_toInt_le

/-- sums over the first k cells -/
def gn_sum (f : Nat → Int32) : Nat → Int
  | 0 => 0
  | k + 1 => gn_sum f k + (f k).toInt

theorem gn_sum_same (f : Nat → Int32) (i : Nat) (x : Int32) : ∀ k, k ≤ i → gn_sum (upd f i x) k = gn_sum f k := by
  intro k
  induction k with
  | zero => intro _; rfl
  | succ k ih =>
    intro hk
    unfold gn_sum
    rw [ih (by omega)]
    have : upd f i x k = f k := by
      unfold upd; rw [if_neg (by omega)]
    rw [this]

theorem gn_sum_upd (f : Nat → Int32) (i : Nat) (x : Int32) : ∀ k, i < k → gn_sum (upd f i x) k = gn_sum f k - (f i).toInt + x.toInt := by
  intro k
  induction k with
  | zero => intro h; omega
  | succ k ih =>
    intro hk
    unfold gn_sum
    by_cases hx : i = k
    · subst hx
      rw [gn_sum_same f i x i (Nat.le_refl i)]
      have : upd f i x i = x := by unfold upd; rw [if_pos rfl]
      rw [this]
      omega
    · rw [ih (by omega)]
      have : upd f i x k = f k := by unfold upd; rw [if_neg (fun z => hx z.symm)]
      rw [this]
      omega

theorem gn_sum_ge (f : Nat → Int32) (d : Int) : ∀ k : Nat, (∀ i, i < k → d ≤ (f i).toInt) → d * (k : Int) ≤ gn_sum f k := by
  intro k
  induction k with
  | zero => intro _; simp [gn_sum]
  | succ k ih =>
    intro hh
    have a := ih (fun i hi => hh i (by omega))
    have b := hh k (by omega)
    unfold gn_sum
    have c : d * ((k + 1 : Nat) : Int) = d * (k : Int) + d := by
      rw [Int.natCast_succ, Int.mul_add, Int.mul_one]
    omega

theorem gn_sum_le (f : Nat → Int32) (d : Int) : ∀ k : Nat, (∀ i, i < k → (f i).toInt ≤ d) → gn_sum f k ≤ d * (k : Int) := by
  intro k
  induction k with
  | zero => intro _; simp [gn_sum]
  | succ k ih =>
    intro hh
    have a := ih (fun i hi => hh i (by omega))
    have b := hh k (by omega)
    unfold gn_sum
    have c : d * ((k + 1 : Nat) : Int) = d * (k : Int) + d := by
      rw [Int.natCast_succ, Int.mul_add, Int.mul_one]
    omega
end gn
