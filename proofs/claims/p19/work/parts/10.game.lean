-- the game of the document, over plain functions
-- n events, horizon h, limits L u v, contingent ct c with activation ac c and durations lo c .. hi c.
-- A position: step s (12 steps a round: 0..5 outcomes, 6..11 choices), times p (100: no time yet).
section gm
variable (n h : Nat) (L : Nat → Nat → Int) (ct : Nat → Bool) (ac : Nat → Nat) (lo hi : Nat → Int)

def gm_set (p : Nat → Int) (e : Nat) (t : Int) : Nat → Int := fun x => if x = e then t else p x

def gm_broken (p : Nat → Int) : Prop :=
  ∃ u v, u < n ∧ v < n ∧ u ≠ v ∧ p u ≠ 100 ∧ p v ≠ 100 ∧ L u v < p v - p u

def gm_full (p : Nat → Int) : Prop := ∀ e, e < n → p e ≠ 100

def gm_kind (p : Nat → Int) (s : Nat) : Nat :=
  if s % 6 = 0 ∨ n ≤ s % 6 ∨ p (s % 6) ≠ 100 then 0
  else if 6 ≤ s % 12 then (if ct (s % 6) = true then 0 else 3)
  else if ct (s % 6) = false ∨ p (ac (s % 6)) = 100 then 0
  else if ((s / 12 : Nat) : Int) - p (ac (s % 6)) = hi (s % 6) then 1
  else if lo (s % 6) ≤ ((s / 12 : Nat) : Int) - p (ac (s % 6)) ∧ ((s / 12 : Nat) : Int) - p (ac (s % 6)) < hi (s % 6) then 2
  else 0

def gm_val : Nat → Nat → (Nat → Int) → Prop
  | 0, _, p => ¬ gm_broken n L p ∧ gm_full n p
  | m + 1, s, p => ¬ gm_broken n L p ∧ (gm_full n p ∨
      (gm_kind n ct ac lo hi p s = 0 ∧ gm_val m (s + 1) p) ∨
      (gm_kind n ct ac lo hi p s = 1 ∧ gm_val m (s + 1) (gm_set p (s % 6) ((s / 12 : Nat) : Int))) ∨
      (gm_kind n ct ac lo hi p s = 2 ∧ gm_val m (s + 1) (gm_set p (s % 6) ((s / 12 : Nat) : Int)) ∧ gm_val m (s + 1) p) ∨
      (gm_kind n ct ac lo hi p s = 3 ∧ (gm_val m (s + 1) (gm_set p (s % 6) ((s / 12 : Nat) : Int)) ∨ gm_val m (s + 1) p)))

/-- what the editing calls keep of a network -/
def gm_net : Prop :=
  0 < n ∧ n ≤ 6 ∧ h ≤ 7 ∧ ct 0 = false ∧ (∀ u, u < n → u ≠ 0 → L u 0 ≤ 0) ∧ (∀ u v, u < n → v < n → L u v ≤ (h : Int)) ∧
  (∀ c, c < n → ct c = true → ac c < n ∧ ac c ≠ c ∧ 1 ≤ lo c ∧ lo c ≤ hi c ∧ hi c ≤ (h : Int))

def gm_of (e : Nat) : Int := if ct e = true then (e : Int) else 6 + (e : Int)

/-- the step at which event e gets the time t -/
def gm_stp (e : Nat) (t : Int) : Int := if e = 0 then -1 else 12 * t + gm_of ct e

def gm_pos (T : Nat → Int) (s : Nat) (e : Nat) : Int := if gm_stp ct e (T e) < (s : Int) then T e else 100

/-- the times of a position at step s, as play can have given them -/
def gm_wf (s : Nat) (p : Nat → Int) : Prop :=
  p 0 = 0 ∧ (∀ e, e < n → p e = 100 ∨ (0 ≤ p e ∧ p e ≤ (h : Int) ∧ gm_stp ct e (p e) < (s : Int))) ∧
  (∀ c, c < n → ct c = true → p c ≠ 100 → p (ac c) ≠ 100 ∧ p (ac c) + lo c ≤ p c ∧ p c ≤ p (ac c) + hi c)

/-- a whole play all of whose positions are safe -/
def gm_sp (T : Nat → Int) : Prop :=
  T 0 = 0 ∧ (∀ e, e < n → 0 ≤ T e ∧ T e ≤ (h : Int)) ∧
  (∀ c, c < n → ct c = true → T (ac c) + lo c ≤ T c ∧ T c ≤ T (ac c) + hi c) ∧
  (∀ m s, s + m = 12 * (h + 1) → gm_val n L ct ac lo hi m s (gm_pos ct T s))

theorem gm_set_s (p : Nat → Int) (e : Nat) (t : Int) : gm_set p e t e = t := by
  simp [gm_set]

theorem gm_set_n (p : Nat → Int) (e : Nat) (t : Int) (x : Nat) (hx : x ≠ e) : gm_set p e t x = p x := by
  simp [gm_set, hx]

theorem gm_of_t (e : Nat) (hc : ct e = true) : gm_of ct e = (e : Int) := by
  simp [gm_of, hc]

theorem gm_of_f (e : Nat) (hc : ct e = false) : gm_of ct e = 6 + (e : Int) := by
  simp [gm_of, hc]

theorem gm_stp_0 (t : Int) : gm_stp ct 0 t = -1 := by
  simp [gm_stp]

theorem gm_stp_t (e : Nat) (t : Int) (he : e ≠ 0) (hc : ct e = true) : gm_stp ct e t = 12 * t + (e : Int) := by
  simp [gm_stp, gm_of, he, hc]

theorem gm_stp_f (e : Nat) (t : Int) (he : e ≠ 0) (hc : ct e = false) : gm_stp ct e t = 12 * t + (6 + (e : Int)) := by
  simp [gm_stp, gm_of, he, hc]

/-- a step within its round -/
theorem gm_stp_b (e : Nat) (t : Int) (he : e ≠ 0) (h6 : e < 6) :
    12 * t + 1 ≤ gm_stp ct e t ∧ gm_stp ct e t ≤ 12 * t + 11 := by
  cases hc : ct e with
  | true => rw [gm_stp_t ct e t he hc]; omega
  | false => rw [gm_stp_f ct e t he hc]; omega

theorem gm_stp_u (e : Nat) (t : Int) (h6 : e < 6) (h0 : 0 ≤ t) : gm_stp ct e t ≤ 12 * t + 11 := by
  by_cases he : e = 0
  · subst he; rw [gm_stp_0]; omega
  · exact (gm_stp_b ct e t he h6).2

theorem gm_stp_add (e : Nat) (t d : Int) (he : e ≠ 0) : gm_stp ct e (t + d) = gm_stp ct e t + 12 * d := by
  cases hc : ct e with
  | true => rw [gm_stp_t ct e _ he hc, gm_stp_t ct e _ he hc]; omega
  | false => rw [gm_stp_f ct e _ he hc, gm_stp_f ct e _ he hc]; omega

theorem gm_stp_mono (e : Nat) (t t' : Int) (he : e ≠ 0) : gm_stp ct e t ≤ gm_stp ct e t' ↔ t ≤ t' := by
  cases hc : ct e with
  | true => rw [gm_stp_t ct e _ he hc, gm_stp_t ct e _ he hc]; omega
  | false => rw [gm_stp_f ct e _ he hc, gm_stp_f ct e _ he hc]; omega

/-- a step belongs to one event and one time -/
theorem gm_slot (e s : Nat) (t : Int) (he : e ≠ 0) (h6 : e < 6) (hs : gm_stp ct e t = (s : Int)) :
    e = s % 6 ∧ t = ((s / 12 : Nat) : Int) ∧ (ct e = true → s % 12 < 6) ∧ (ct e = false → 6 ≤ s % 12) := by
  cases hc : ct e with
  | true =>
    rw [gm_stp_t ct e t he hc] at hs
    refine ⟨by omega, by omega, fun _ => by omega, fun z => by simp at z⟩
  | false =>
    rw [gm_stp_f ct e t he hc] at hs
    refine ⟨by omega, by omega, fun z => by simp at z, fun _ => by omega⟩

theorem gm_slot_t (s : Nat) (he : s % 6 ≠ 0) (hc : ct (s % 6) = true) (hs : s % 12 < 6) :
    gm_stp ct (s % 6) ((s / 12 : Nat) : Int) = (s : Int) := by
  rw [gm_stp_t ct _ _ he hc]; omega

theorem gm_slot_f (s : Nat) (he : s % 6 ≠ 0) (hc : ct (s % 6) = false) (hs : 6 ≤ s % 12) :
    gm_stp ct (s % 6) ((s / 12 : Nat) : Int) = (s : Int) := by
  rw [gm_stp_f ct _ _ he hc]; omega

/-- what a kind says -/
theorem gm_kind_3 (p : Nat → Int) (s : Nat) (hk : gm_kind n ct ac lo hi p s = 3) :
    s % 6 ≠ 0 ∧ s % 6 < n ∧ p (s % 6) = 100 ∧ ct (s % 6) = false ∧ 6 ≤ s % 12 := by
  unfold gm_kind at hk
  split at hk
  · omega
  · rename_i h1
    split at hk
    · rename_i h2
      split at hk
      · omega
      · rename_i h3
        refine ⟨by omega, by omega, by omega, by simpa using h3, h2⟩
    · split at hk
      · omega
      · split at hk
        · omega
        · split at hk <;> omega

theorem gm_kind_12 (p : Nat → Int) (s : Nat) (hk : gm_kind n ct ac lo hi p s = 1 ∨ gm_kind n ct ac lo hi p s = 2) :
    s % 6 ≠ 0 ∧ s % 6 < n ∧ p (s % 6) = 100 ∧ ct (s % 6) = true ∧ s % 12 < 6 ∧ p (ac (s % 6)) ≠ 100 := by
  unfold gm_kind at hk
  split at hk
  · omega
  · rename_i h1
    split at hk
    · split at hk <;> omega
    · rename_i h2
      split at hk
      · omega
      · rename_i h3
        refine ⟨by omega, by omega, by omega, ?_, by omega, ?_⟩
        · cases hc : ct (s % 6) with
          | true => rfl
          | false => exact absurd (Or.inl hc) h3
        · exact fun z => h3 (Or.inr z)

theorem gm_kind_1 (p : Nat → Int) (s : Nat) (hk : gm_kind n ct ac lo hi p s = 1) :
    ((s / 12 : Nat) : Int) - p (ac (s % 6)) = hi (s % 6) := by
  unfold gm_kind at hk
  split at hk
  · omega
  · split at hk
    · split at hk <;> omega
    · split at hk
      · omega
      · split at hk
        · assumption
        · split at hk <;> omega

theorem gm_kind_2 (p : Nat → Int) (s : Nat) (hk : gm_kind n ct ac lo hi p s = 2) :
    lo (s % 6) ≤ ((s / 12 : Nat) : Int) - p (ac (s % 6)) ∧ ((s / 12 : Nat) : Int) - p (ac (s % 6)) < hi (s % 6) := by
  unfold gm_kind at hk
  split at hk
  · omega
  · split at hk
    · split at hk <;> omega
    · split at hk
      · omega
      · split at hk
        · omega
        · split at hk
          · assumption
          · omega

/-- a running contingent event at its own step, by how long it has run -/
theorem gm_kind_run (p : Nat → Int) (s : Nat) (he : s % 6 ≠ 0) (hn : s % 6 < n) (hp : p (s % 6) = 100)
    (hc : ct (s % 6) = true) (hs : s % 12 < 6) (ha : p (ac (s % 6)) ≠ 100) :
    (((s / 12 : Nat) : Int) - p (ac (s % 6)) = hi (s % 6) → gm_kind n ct ac lo hi p s = 1) ∧
    (lo (s % 6) ≤ ((s / 12 : Nat) : Int) - p (ac (s % 6)) → ((s / 12 : Nat) : Int) - p (ac (s % 6)) < hi (s % 6) →
      gm_kind n ct ac lo hi p s = 2) := by
  have h1 : ¬ (s % 6 = 0 ∨ n ≤ s % 6 ∨ p (s % 6) ≠ 100) := by
    intro z
    rcases z with z | z | z
    · exact he z
    · omega
    · exact z hp
  have h2 : ¬ 6 ≤ s % 12 := by omega
  have h3 : ¬ (ct (s % 6) = false ∨ p (ac (s % 6)) = 100) := by
    intro z
    rcases z with z | z
    · rw [hc] at z; simp at z
    · exact ha z
  constructor
  · intro hd
    unfold gm_kind
    rw [if_neg h1, if_neg h2, if_neg h3, if_pos hd]
  · intro hl hh
    have h4 : ¬ ((s / 12 : Nat) : Int) - p (ac (s % 6)) = hi (s % 6) := by omega
    unfold gm_kind
    rw [if_neg h1, if_neg h2, if_neg h3, if_neg h4, if_pos ⟨hl, hh⟩]

theorem gm_kind_exe (p : Nat → Int) (s : Nat) (he : s % 6 ≠ 0) (hn : s % 6 < n) (hp : p (s % 6) = 100)
    (hc : ct (s % 6) = false) (hs : 6 ≤ s % 12) : gm_kind n ct ac lo hi p s = 3 := by
  have h1 : ¬ (s % 6 = 0 ∨ n ≤ s % 6 ∨ p (s % 6) ≠ 100) := by
    intro z
    rcases z with z | z | z
    · exact he z
    · omega
    · exact z hp
  have h3 : ¬ ct (s % 6) = true := by rw [hc]; simp
  unfold gm_kind
  rw [if_neg h1, if_pos hs, if_neg h3]

theorem gm_kind_lt (p : Nat → Int) (s : Nat) :
    gm_kind n ct ac lo hi p s = 0 ∨ gm_kind n ct ac lo hi p s = 1 ∨ gm_kind n ct ac lo hi p s = 2 ∨ gm_kind n ct ac lo hi p s = 3 := by
  unfold gm_kind
  split
  · exact Or.inl rfl
  · split
    · split
      · exact Or.inl rfl
      · exact Or.inr (Or.inr (Or.inr rfl))
    · split
      · exact Or.inl rfl
      · split
        · exact Or.inr (Or.inl rfl)
        · split
          · exact Or.inr (Or.inr (Or.inl rfl))
          · exact Or.inl rfl

/-- only the times of the n events matter -/
theorem gm_broken_c (p q : Nat → Int) (hpq : ∀ e, e < n → p e = q e) (hb : gm_broken n L p) : gm_broken n L q := by
  obtain ⟨u, v, hu, hv, huv, h1, h2, h3⟩ := hb
  exact ⟨u, v, hu, hv, huv, by rw [← hpq u hu]; exact h1, by rw [← hpq v hv]; exact h2, by rw [← hpq u hu, ← hpq v hv]; exact h3⟩

theorem gm_full_c (p q : Nat → Int) (hpq : ∀ e, e < n → p e = q e) (hb : gm_full n p) : gm_full n q :=
  fun e he => by rw [← hpq e he]; exact hb e he

theorem gm_kind_c (p q : Nat → Int) (s : Nat) (hpq : ∀ e, e < n → p e = q e)
    (hac : ∀ c, c < n → ct c = true → ac c < n) : gm_kind n ct ac lo hi p s = gm_kind n ct ac lo hi q s := by
  by_cases h1 : s % 6 < n
  · have e1 : p (s % 6) = q (s % 6) := hpq _ h1
    cases hc : ct (s % 6) with
    | true =>
      have e2 : p (ac (s % 6)) = q (ac (s % 6)) := hpq _ (hac _ h1 hc)
      unfold gm_kind
      rw [e1, e2]
    | false =>
      unfold gm_kind
      rw [e1, hc]
      simp
  · have h2 : n ≤ s % 6 := by omega
    have a1 : s % 6 = 0 ∨ n ≤ s % 6 ∨ p (s % 6) ≠ 100 := Or.inr (Or.inl h2)
    have a2 : s % 6 = 0 ∨ n ≤ s % 6 ∨ q (s % 6) ≠ 100 := Or.inr (Or.inl h2)
    unfold gm_kind
    rw [if_pos a1, if_pos a2]

theorem gm_set_c (p q : Nat → Int) (x : Nat) (t : Int) (hpq : ∀ e, e < n → p e = q e) :
    ∀ e, e < n → gm_set p x t e = gm_set q x t e := by
  intro e he
  by_cases hx : e = x
  · subst hx; rw [gm_set_s, gm_set_s]
  · rw [gm_set_n _ _ _ _ hx, gm_set_n _ _ _ _ hx, hpq e he]

theorem gm_val_c (hac : ∀ c, c < n → ct c = true → ac c < n) : ∀ (m s : Nat) (p q : Nat → Int),
    (∀ e, e < n → p e = q e) → gm_val n L ct ac lo hi m s p → gm_val n L ct ac lo hi m s q := by
  intro m
  induction m with
  | zero =>
    intro s p q hpq hv
    unfold gm_val at hv ⊢
    exact ⟨fun z => hv.1 (gm_broken_c n L q p (fun e he => (hpq e he).symm) z), gm_full_c n p q hpq hv.2⟩
  | succ m ih =>
    intro s p q hpq hv
    unfold gm_val at hv ⊢
    have hk := gm_kind_c n ct ac lo hi p q s hpq hac
    have hs := gm_set_c n p q (s % 6) ((s / 12 : Nat) : Int) hpq
    refine ⟨fun z => hv.1 (gm_broken_c n L q p (fun e he => (hpq e he).symm) z), ?_⟩
    rw [← hk]
    rcases hv.2 with hf | ⟨k, a⟩ | ⟨k, a⟩ | ⟨k, a, b⟩ | ⟨k, a | b⟩
    · exact Or.inl (gm_full_c n p q hpq hf)
    · exact Or.inr (Or.inl ⟨k, ih _ _ _ hpq a⟩)
    · exact Or.inr (Or.inr (Or.inl ⟨k, ih _ _ _ hs a⟩))
    · exact Or.inr (Or.inr (Or.inr (Or.inl ⟨k, ih _ _ _ hs a, ih _ _ _ hpq b⟩)))
    · exact Or.inr (Or.inr (Or.inr (Or.inr ⟨k, Or.inl (ih _ _ _ hs a)⟩)))
    · exact Or.inr (Or.inr (Or.inr (Or.inr ⟨k, Or.inr (ih _ _ _ hpq b)⟩)))

theorem gm_val_full (m s : Nat) (p : Nat → Int) (hb : ¬ gm_broken n L p) (hf : gm_full n p) :
    gm_val n L ct ac lo hi m s p := by
  cases m with
  | zero => unfold gm_val; exact ⟨hb, hf⟩
  | succ m => unfold gm_val; exact ⟨hb, Or.inl hf⟩

theorem gm_val_nb (m s : Nat) (p : Nat → Int) (hv : gm_val n L ct ac lo hi m s p) : ¬ gm_broken n L p := by
  cases m with
  | zero => unfold gm_val at hv; exact hv.1
  | succ m => unfold gm_val at hv; exact hv.1
end gm
