-- a walk along activations: six steps tell as much as n
section gw
variable (n : Nat) (ct : Nat → Bool) (ac : Nat → Nat)

def gw_next (x : Nat) : Nat := if ct x = true then ac x else x

def gw_at (a : Nat) : Nat → Nat
  | 0 => a
  | k + 1 => gw_next ct ac (gw_at a k)

theorem gw_pig : ∀ (k : Nat) (f : Nat → Nat), (∀ i, i < k + 1 → f i < k) → ∃ i j, i < j ∧ j < k + 1 ∧ f i = f j := by
  intro k
  induction k with
  | zero =>
    intro f hf
    have := hf 0 (by omega)
    omega
  | succ k ih =>
    intro f hf
    by_cases hx : ∃ i, i < k + 1 ∧ f i = f (k + 1)
    · obtain ⟨i, hi, e⟩ := hx
      exact ⟨i, k + 1, by omega, by omega, e⟩
    · have hno : ∀ i, i < k + 1 → f i ≠ f (k + 1) := fun i hi e => hx ⟨i, hi, e⟩
      obtain ⟨i, j, hij, hj, e⟩ := ih (fun i => if f i = k then f (k + 1) else f i) (fun i hi => by
        have h1 := hf i (by omega)
        have h2 := hf (k + 1) (by omega)
        have h3 := hno i hi
        show (if f i = k then f (k + 1) else f i) < k
        by_cases hq : f i = k
        · rw [if_pos hq]; omega
        · rw [if_neg hq]; omega)
      have e' : (if f i = k then f (k + 1) else f i) = (if f j = k then f (k + 1) else f j) := e
      have h3 := hno i (by omega)
      have h4 := hno j (by omega)
      refine ⟨i, j, hij, by omega, ?_⟩
      by_cases q1 : f i = k
      · by_cases q2 : f j = k
        · omega
        · rw [if_pos q1, if_neg q2] at e'; exact absurd e'.symm h4
      · by_cases q2 : f j = k
        · rw [if_neg q1, if_pos q2] at e'; exact absurd e' h3
        · rw [if_neg q1, if_neg q2] at e'; exact e'

theorem gw_add (a : Nat) (k : Nat) : ∀ m, gw_at ct ac a (k + m) = gw_at ct ac (gw_at ct ac a k) m := by
  intro m
  induction m with
  | zero => rfl
  | succ m ih =>
    show gw_next ct ac (gw_at ct ac a (k + m)) = gw_next ct ac (gw_at ct ac (gw_at ct ac a k) m)
    rw [ih]

theorem gw_lt (hac : ∀ c, c < n → ct c = true → ac c < n) (a : Nat) (ha : a < n) : ∀ k, gw_at ct ac a k < n := by
  intro k
  induction k with
  | zero => exact ha
  | succ k ih =>
    show gw_next ct ac (gw_at ct ac a k) < n
    unfold gw_next
    by_cases hq : ct (gw_at ct ac a k) = true
    · rw [if_pos hq]; exact hac _ ih hq
    · rw [if_neg hq]; exact ih

theorem gw_root (a k : Nat) (hr : ct (gw_at ct ac a k) = false) : ∀ m, gw_at ct ac a (k + m) = gw_at ct ac a k := by
  intro m
  induction m with
  | zero => rfl
  | succ m ih =>
    show gw_next ct ac (gw_at ct ac a (k + m)) = gw_at ct ac a k
    rw [ih]
    unfold gw_next
    rw [if_neg (by rw [hr]; simp)]

/-- n contingent events in a row: the walk goes round -/
theorem gw_round (hac : ∀ c, c < n → ct c = true → ac c < n) (hn : 0 < n) (h0 : ct 0 = false) (a : Nat) (ha : a < n)
    (hall : ∀ k, k < n → ct (gw_at ct ac a k) = true) : ∀ m, ∃ k, k < n ∧ gw_at ct ac a m = gw_at ct ac a k := by
  have hpos : ∀ k, k < n → gw_at ct ac a k ≠ 0 := by
    intro k hk z
    have y := hall k hk
    rw [z, h0] at y
    simp at y
  obtain ⟨i, j, hij, hj, e⟩ := gw_pig (n - 1) (fun k => gw_at ct ac a k - 1) (fun i hi => by
    have y1 := gw_lt n ct ac hac a ha i
    have y2 := hpos i (by omega)
    show gw_at ct ac a i - 1 < n - 1
    omega)
  have e' : gw_at ct ac a i = gw_at ct ac a j := by
    have e1 : gw_at ct ac a i - 1 = gw_at ct ac a j - 1 := e
    have y1 := hpos i (by omega)
    have y2 := hpos j (by omega)
    omega
  intro m
  induction m using Nat.strongRecOn with
  | ind m ih =>
    by_cases hm : m < n
    · exact ⟨m, hm, rfl⟩
    · obtain ⟨t, ht⟩ : ∃ t, m = j + t := ⟨m - j, by omega⟩
      obtain ⟨k, hk, ek⟩ := ih (i + t) (by omega)
      refine ⟨k, hk, ?_⟩
      rw [ht, gw_add, ← e', ← gw_add]
      exact ek
end gw
