-- a round of the dispatcher: what was revealed and what is due, then the choices one by one
section gr
variable (n h : Nat) (L : Nat → Nat → Int) (ct : Nat → Bool) (ac : Nat → Nat) (lo hi : Nat → Int)

/-- times p in round t, with outcomes of this round already in: T is a safe play up to the round's beginning -/
def gr_at (t : Nat) (T p : Nat → Int) : Prop :=
  gm_sp n h L ct ac lo hi T ∧ p 0 = 0 ∧ (∀ e, e < n → e ≠ 0 → T e < (t : Int) → p e = T e) ∧
  (∀ e, e < n → e ≠ 0 → ¬ T e < (t : Int) → p e = 100 ∨
    (p e = (t : Int) ∧ ct e = true ∧ T (ac e) < (t : Int) ∧ T (ac e) + lo e ≤ (t : Int) ∧ (t : Int) ≤ T (ac e) + hi e))

/-- all that is due at the longest duration is in: then the times are a position of a safe play, at the first choice -/
theorem gr_out (hN : gm_net n h L ct ac lo hi) (t : Nat) (ht : t ≤ h) (T p : Nat → Int) (hA : gr_at n h L ct ac lo hi t T p)
    (hdue : ∀ c, c < n → ct c = true → p c = 100 → p (ac c) ≠ 100 → (t : Int) ≠ p (ac c) + hi c) :
    ∃ T', gm_sp n h L ct ac lo hi T' ∧ ∀ e, e < n → gm_pos ct T' (12 * t + 6) e = p e := by
  have hn6 : n ≤ 6 := hN.2.1
  have h7 : h ≤ 7 := hN.2.2.1
  obtain ⟨hT, p0, pa, pb⟩ := hA
  have t0 := hT.1
  have tb := hT.2.1
  -- before the round's first step: just the times below t
  have hbef : ∀ e, e < n → e ≠ 0 → (gm_stp ct e (T e) < ((12 * t : Nat) : Int) ↔ T e < (t : Int)) := by
    intro e he he0
    have y := gm_stp_b ct e (T e) he0 (by omega)
    constructor
    · intro z; omega
    · intro z; omega
  obtain ⟨T', a1, a2, a3, a4⟩ := gp_rer n h L ct ac lo hi hN
    (fun c => if p c = (t : Int) then (t : Int) - T (ac c) else hi c)
    (fun c x1 x2 => by
      have b := hN.2.2.2.2.2.2 c x1 x2
      have hc0 : c ≠ 0 := by
        intro z; subst z
        have y := hN.2.2.2.1
        rw [x2] at y; simp at y
      by_cases hx : p c = (t : Int)
      · simp only [if_pos hx]
        by_cases hlt : T c < (t : Int)
        · have := pa c x1 hc0 hlt; omega
        · rcases pb c x1 hc0 hlt with z | ⟨_, _, _, z1, z2⟩
          · omega
          · omega
      · simp only [if_neg hx]; omega)
    (12 * (h + 1) - 12 * t) (12 * t) T (by omega) hT
    (fun c x1 x2 x3 x4 => by
      have hc0 : c ≠ 0 := by
        intro z; subst z
        have y := hN.2.2.2.1
        rw [x2] at y; simp at y
      by_cases hx : p c = (t : Int)
      · simp only [if_pos hx]
        have e1 : T (ac c) + ((t : Int) - T (ac c)) = (t : Int) := by omega
        rw [e1]
        have := (gm_stp_b ct c (t : Int) hc0 (by omega)).1
        omega
      · simp only [if_neg hx]
        have y := (hT.2.2.1 c x1 x2).2
        have z := (gm_stp_mono ct c (T c) (T (ac c) + hi c) hc0).2 y
        omega)
  refine ⟨T', a1, ?_⟩
  intro e he
  by_cases he0 : e = 0
  · subst he0
    unfold gm_pos
    rw [gm_stp_0, if_pos (by omega), p0]
    exact a1.1
  by_cases hlt : T e < (t : Int)
  · have y := (hbef e he he0).2 hlt
    have z := a2 e he y
    unfold gm_pos
    rw [z, if_pos (by omega), pa e he he0 hlt]
  · have y : ¬ gm_stp ct e (T e) < ((12 * t : Nat) : Int) := fun z => hlt ((hbef e he he0).1 z)
    have z := a3 e he y
    have sb := gm_stp_b ct e (T' e) he0 (by omega)
    have hge : (t : Int) ≤ T' e := by omega
    cases hc : ct e with
    | false =>
      have hp : p e = 100 := by
        rcases pb e he he0 hlt with q | ⟨_, q, _⟩
        · exact q
        · rw [hc] at q; simp at q
      unfold gm_pos
      rw [gm_stp_f ct e _ he0 hc, if_neg (by omega), hp]
    | true =>
      obtain ⟨b1, b2, b3, b4, b5⟩ := hN.2.2.2.2.2.2 e he hc
      have w := a4 e he hc y
      have hta : T (ac e) < (t : Int) → T' (ac e) = T (ac e) := by
        intro hl
        by_cases ha0 : ac e = 0
        · rw [ha0, a1.1, t0]
        · exact a2 _ b1 ((hbef _ b1 ha0).2 hl)
      rcases pb e he he0 hlt with q | ⟨q1, _, q3, q4, q5⟩
      · -- not in: its time comes later
        have hne : p e ≠ (t : Int) := by omega
        simp only [if_neg hne] at w
        have hlater : (t : Int) + 1 ≤ T' e := by
          by_cases hl : T (ac e) < (t : Int)
          · have hpa : p (ac e) = T (ac e) := by
              by_cases ha0 : ac e = 0
              · rw [ha0, p0, t0]
              · exact pa _ b1 ha0 hl
            have hd := hdue e he hc q (by have := tb _ b1; omega)
            have := hta hl
            omega
          · -- its activation is not in before the round
            by_cases ha0 : ac e = 0
            · -- only in round 0
              have hpa : p (ac e) = 0 := by rw [ha0, p0]
              have := a1.1
              rw [ha0] at w
              rw [ha0, t0] at hl
              omega
            · have y2 : ¬ gm_stp ct (ac e) (T (ac e)) < ((12 * t : Nat) : Int) := fun z => hl ((hbef _ b1 ha0).1 z)
              have z2 := a3 _ b1 y2
              have sb2 := gm_stp_b ct (ac e) (T' (ac e)) ha0 (by omega)
              omega
        unfold gm_pos
        rw [gm_stp_t ct e _ he0 hc, if_neg (by omega), q]
      · simp only [if_pos q1] at w
        have := hta q3
        have he' : T' e = (t : Int) := by omega
        unfold gm_pos
        rw [he', gm_stp_t ct e _ he0 hc, if_pos (by omega), q1]

/-- a step that is no choice of an event without a time passes -/
theorem gr_skip (hN : gm_net n h L ct ac lo hi) (s : Nat) (h6 : 6 ≤ s % 12) (T p : Nat → Int) (hT : gm_sp n h L ct ac lo hi T)
    (hp : ∀ e, e < n → gm_pos ct T s e = p e) (hx : s % 6 = 0 ∨ n ≤ s % 6 ∨ ct (s % 6) = true ∨ p (s % 6) ≠ 100) :
    ∀ e, e < n → gm_pos ct T (s + 1) e = p e := by
  have hn6 : n ≤ 6 := hN.2.1
  intro e he
  have y := hp e he
  unfold gm_pos at y ⊢
  by_cases h1 : gm_stp ct e (T e) < (s : Int)
  · rw [if_pos h1] at y; rw [if_pos (by omega)]; exact y
  · rw [if_neg h1] at y
    by_cases h2 : gm_stp ct e (T e) < ((s + 1 : Nat) : Int)
    · exfalso
      by_cases he0 : e = 0
      · subst he0; rw [gm_stp_0] at h1; omega
      · obtain ⟨z1, z2, z3, z4⟩ := gm_slot ct e s (T e) he0 (by omega) (by omega)
        subst z1
        rcases hx with a | a | a | a
        · exact he0 a
        · omega
        · have := z3 a; omega
        · exact a y.symm
    · rw [if_neg h2]; exact y

/-- the next round's beginning -/
theorem gr_next (hN : gm_net n h L ct ac lo hi) (t : Nat) (T p : Nat → Int) (hT : gm_sp n h L ct ac lo hi T)
    (hp : ∀ e, e < n → gm_pos ct T (12 * t + 6 + n) e = p e) : gr_at n h L ct ac lo hi (t + 1) T p := by
  have hn6 : n ≤ 6 := hN.2.1
  have h7 : h ≤ 7 := hN.2.2.1
  refine ⟨hT, ?_, ?_, ?_⟩
  · rw [← hp 0 hN.1]; unfold gm_pos; rw [gm_stp_0, if_pos (by omega)]; exact hT.1
  · intro e he he0 hlt
    rw [← hp e he]
    unfold gm_pos
    have := gm_stp_b ct e (T e) he0 (by omega)
    cases hc : ct e with
    | true => rw [gm_stp_t ct e _ he0 hc, if_pos (by omega)]
    | false => rw [gm_stp_f ct e _ he0 hc, if_pos (by omega)]
  · intro e he he0 hlt
    rw [← hp e he]
    unfold gm_pos
    have := gm_stp_b ct e (T e) he0 (by omega)
    rw [if_neg (by omega)]
    exact Or.inl rfl

/-- an outcome that comes in this round -/
theorem gr_rev (hN : gm_net n h L ct ac lo hi) (t : Nat) (T p : Nat → Int) (hA : gr_at n h L ct ac lo hi t T p) (c : Nat) (hc : c < n)
    (hcc : ct c = true) (hpc : p c = 100) (hpa : p (ac c) ≠ 100) (hlo : lo c ≤ (t : Int) - p (ac c)) :
    gr_at n h L ct ac lo hi t T (gm_set p c (t : Int)) := by
  have hc0 := gc_0 n h L ct ac lo hi hN c hcc
  have h7 : h ≤ 7 := hN.2.2.1
  obtain ⟨b1, b2, b3, b4, b5⟩ := hN.2.2.2.2.2.2 c hc hcc
  obtain ⟨hT, p0, pa, pb⟩ := hA
  have hTc : ¬ T c < (t : Int) := by
    intro z
    have y := pa c hc hc0 z
    have y2 := hT.2.1 c hc
    omega
  have hTa : T (ac c) < (t : Int) ∧ p (ac c) = T (ac c) := by
    by_cases ha0 : ac c = 0
    · rw [ha0] at hlo ⊢
      rw [p0] at hlo ⊢
      rw [hT.1]
      exact ⟨by omega, rfl⟩
    · by_cases hl : T (ac c) < (t : Int)
      · exact ⟨hl, pa _ b1 ha0 hl⟩
      · exfalso
        rcases pb _ b1 ha0 hl with q | ⟨q, _⟩
        · exact hpa q
        · omega
  refine ⟨hT, ?_, fun e he he0 hl => ?_, fun e he he0 hl => ?_⟩
  · rw [gm_set_n _ _ _ _ (fun z => hc0 z.symm)]; exact p0
  · have hec : e ≠ c := fun z => by rw [z] at hl; exact hTc hl
    rw [gm_set_n _ _ _ _ hec]; exact pa e he he0 hl
  · by_cases hec : e = c
    · subst hec
      rw [gm_set_s]
      have y := hT.2.2.1 e hc hcc
      exact Or.inr ⟨rfl, hcc, hTa.1, by omega, by omega⟩
    · rw [gm_set_n _ _ _ _ hec]; exact pb e he he0 hl

theorem gr_start (T p : Nat → Int) (hT : gm_sp n h L ct ac lo hi T) (hp0 : p 0 = 0) (hp : ∀ e, e < n → e ≠ 0 → p e = 100) :
    gr_at n h L ct ac lo hi 0 T p := by
  refine ⟨hT, hp0, fun e he he0 hl => ?_, fun e he he0 _ => Or.inl (hp e he he0)⟩
  have y := hT.2.1 e he
  omega

/-- the times of a round -/
theorem gr_range (hN : gm_net n h L ct ac lo hi) (t : Nat) (ht : t ≤ h) (T p : Nat → Int) (hA : gr_at n h L ct ac lo hi t T p) (e : Nat) (he : e < n) :
    p e = 100 ∨ (0 ≤ p e ∧ p e ≤ (t : Int)) := by
  obtain ⟨hT, p0, pa, pb⟩ := hA
  by_cases he0 : e = 0
  · subst he0; rw [p0]; exact Or.inr ⟨by omega, by omega⟩
  · have y := hT.2.1 e he
    by_cases hl : T e < (t : Int)
    · rw [pa e he he0 hl]; exact Or.inr ⟨by omega, by omega⟩
    · rcases pb e he he0 hl with q | ⟨q, _⟩
      · exact Or.inl q
      · rw [q]; exact Or.inr ⟨by omega, by omega⟩

/-- only the times of the n events matter -/
theorem gr_c (t : Nat) (T p q : Nat → Int) (hn : 0 < n) (hpq : ∀ e, e < n → p e = q e) (hA : gr_at n h L ct ac lo hi t T p) :
    gr_at n h L ct ac lo hi t T q := by
  obtain ⟨hT, p0, pa, pb⟩ := hA
  refine ⟨hT, by rw [← hpq 0 hn]; exact p0, fun e he he0 hl => ?_, fun e he he0 hl => ?_⟩
  · rw [← hpq e he]; exact pa e he he0 hl
  · rw [← hpq e he]; exact pb e he he0 hl
end gr
