-- plays all of whose positions are safe; from a safe position the environment's durations may be chosen
section gp
variable (n h : Nat) (L : Nat → Nat → Int) (ct : Nat → Bool) (ac : Nat → Nat) (lo hi : Nat → Int)

theorem gp_wf_s (s : Nat) (p : Nat → Int) (hw : gm_wf n h ct ac lo hi s p) : gm_wf n h ct ac lo hi (s + 1) p := by
  refine ⟨hw.1, fun e he => ?_, hw.2.2⟩
  rcases hw.2.1 e he with a | ⟨a, b, c⟩
  · exact Or.inl a
  · exact Or.inr ⟨a, b, by omega⟩

/-- a time given at its own step -/
theorem gp_wf_set (hN : gm_net n h L ct ac lo hi) (s : Nat) (p : Nat → Int) (hs : s < 12 * (h + 1))
    (hw : gm_wf n h ct ac lo hi s p) (he : s % 6 ≠ 0) (hen : s % 6 < n) (hp : p (s % 6) = 100)
    (hst : gm_stp ct (s % 6) ((s / 12 : Nat) : Int) = (s : Int))
    (hd : ct (s % 6) = true → p (ac (s % 6)) ≠ 100 ∧ p (ac (s % 6)) + lo (s % 6) ≤ ((s / 12 : Nat) : Int) ∧
      ((s / 12 : Nat) : Int) ≤ p (ac (s % 6)) + hi (s % 6)) :
    gm_wf n h ct ac lo hi (s + 1) (gm_set p (s % 6) ((s / 12 : Nat) : Int)) := by
  obtain ⟨_, _, h7, _, _, _, hc⟩ := hN
  refine ⟨?_, ?_, ?_⟩
  · rw [gm_set_n _ _ _ _ (fun z => he z.symm)]; exact hw.1
  · intro e hen'
    by_cases hx : e = s % 6
    · subst hx
      rw [gm_set_s]
      refine Or.inr ⟨by omega, by omega, by omega⟩
    · rw [gm_set_n _ _ _ _ hx]
      rcases hw.2.1 e hen' with a | ⟨a, b, c⟩
      · exact Or.inl a
      · exact Or.inr ⟨a, b, by omega⟩
  · intro c hcn hcc hpc
    obtain ⟨h1, h2, h3⟩ := hc c hcn hcc
    by_cases hx : c = s % 6
    · subst hx
      rw [gm_set_s, gm_set_n _ _ _ _ h2]
      exact hd hcc
    · rw [gm_set_n _ _ _ _ hx] at hpc ⊢
      have hq := hw.2.2 c hcn hcc hpc
      have hax : ac c ≠ s % 6 := fun z => hq.1 (by rw [z]; exact hp)
      rw [gm_set_n _ _ _ _ hax]
      exact hq

theorem gp_ext_full (hN : gm_net n h L ct ac lo hi) (D : Nat → Int) (s : Nat) (p : Nat → Int)
    (hw : gm_wf n h ct ac lo hi s p) (hb : ¬ gm_broken n L p) (hf : gm_full n p) :
    ∃ T : Nat → Int, (∀ e, e < n → gm_pos ct T s e = p e) ∧ (∀ e, e < n → 0 ≤ T e ∧ T e ≤ (h : Int)) ∧ T 0 = 0 ∧
      (∀ c, c < n → ct c = true → T (ac c) + lo c ≤ T c ∧ T c ≤ T (ac c) + hi c) ∧
      (∀ c, c < n → ct c = true → p c = 100 → T c = T (ac c) + D c) ∧
      (∀ m' s', s ≤ s' → s' + m' = 12 * (h + 1) → gm_val n L ct ac lo hi m' s' (gm_pos ct T s')) := by
  have hpos : ∀ s', s ≤ s' → ∀ e, e < n → gm_pos ct p s' e = p e := by
    intro s' hs' e he
    rcases hw.2.1 e he with a | ⟨a, b, c⟩
    · exact absurd a (hf e he)
    · unfold gm_pos
      rw [if_pos (by omega)]
  refine ⟨p, hpos s (Nat.le_refl s), ?_, hw.1, ?_, ?_, ?_⟩
  · intro e he
    rcases hw.2.1 e he with a | ⟨a, b, c⟩
    · exact absurd a (hf e he)
    · exact ⟨a, b⟩
  · intro c hcn hcc
    exact (hw.2.2 c hcn hcc (hf c hcn)).2
  · intro c hcn _ hp
    exact absurd hp (hf c hcn)
  · intro m' s' hs' _
    exact gm_val_c n L ct ac lo hi (fun c hcn hcc => (hN.2.2.2.2.2.2 c hcn hcc).1) m' s' p _
      (fun e he => (hpos s' hs' e he).symm) (gm_val_full n L ct ac lo hi m' s' p hb hf)

/-- from a safe position the environment may choose every duration that is still to come -/
theorem gp_ext (hN : gm_net n h L ct ac lo hi) (D : Nat → Int) (hD : ∀ c, c < n → ct c = true → lo c ≤ D c ∧ D c ≤ hi c) :
    ∀ (m s : Nat) (p : Nat → Int), s + m = 12 * (h + 1) → gm_wf n h ct ac lo hi s p → gm_val n L ct ac lo hi m s p →
      (∀ c, c < n → ct c = true → p c = 100 → p (ac c) ≠ 100 → (s : Int) ≤ gm_stp ct c (p (ac c) + D c)) →
      ∃ T : Nat → Int, (∀ e, e < n → gm_pos ct T s e = p e) ∧ (∀ e, e < n → 0 ≤ T e ∧ T e ≤ (h : Int)) ∧ T 0 = 0 ∧
        (∀ c, c < n → ct c = true → T (ac c) + lo c ≤ T c ∧ T c ≤ T (ac c) + hi c) ∧
        (∀ c, c < n → ct c = true → p c = 100 → T c = T (ac c) + D c) ∧
        (∀ m' s', s ≤ s' → s' + m' = 12 * (h + 1) → gm_val n L ct ac lo hi m' s' (gm_pos ct T s')) := by
  have hac : ∀ c, c < n → ct c = true → ac c < n := fun c hcn hcc => (hN.2.2.2.2.2.2 c hcn hcc).1
  have hn6 : n ≤ 6 := hN.2.1
  have h7 : h ≤ 7 := hN.2.2.1
  intro m
  induction m with
  | zero =>
    intro s p hs hw hv ho
    unfold gm_val at hv
    exact gp_ext_full n h L ct ac lo hi hN D s p hw hv.1 hv.2
  | succ m ih =>
    intro s p hs hw hv ho
    have hv0 := hv
    unfold gm_val at hv
    have hb := hv.1
    -- the slot passes: the same times at the next step
    have hpass : gm_val n L ct ac lo hi m (s + 1) p →
        (∀ c, c < n → ct c = true → p c = 100 → p (ac c) ≠ 100 → gm_stp ct c (p (ac c) + D c) ≠ (s : Int)) →
        ∃ T : Nat → Int, (∀ e, e < n → gm_pos ct T s e = p e) ∧ (∀ e, e < n → 0 ≤ T e ∧ T e ≤ (h : Int)) ∧ T 0 = 0 ∧
          (∀ c, c < n → ct c = true → T (ac c) + lo c ≤ T c ∧ T c ≤ T (ac c) + hi c) ∧
          (∀ c, c < n → ct c = true → p c = 100 → T c = T (ac c) + D c) ∧
          (∀ m' s', s ≤ s' → s' + m' = 12 * (h + 1) → gm_val n L ct ac lo hi m' s' (gm_pos ct T s')) := by
      intro hv1 hne
      obtain ⟨T, t1, t2, t3, t4, t5, t6⟩ := ih (s + 1) p (by omega) (gp_wf_s n h ct ac lo hi s p hw) hv1
        (fun c a b d e => by
          have x1 := ho c a b d e
          have x2 := hne c a b d e
          omega)
      have hpos : ∀ e, e < n → gm_pos ct T s e = p e := by
        intro e he
        have y := t1 e he
        unfold gm_pos at y ⊢
        by_cases h1 : gm_stp ct e (T e) < (s : Int)
        · rw [if_pos h1]
          rw [if_pos (by omega)] at y
          exact y
        · rw [if_neg h1]
          by_cases h2 : gm_stp ct e (T e) < ((s + 1 : Nat) : Int)
          · rw [if_pos h2] at y
            exfalso
            have z := t2 e he
            rcases hw.2.1 e he with a | ⟨_, _, c⟩
            · omega
            · rw [← y] at c; exact h1 c
          · rw [if_neg h2] at y
            exact y
      refine ⟨T, hpos, t2, t3, t4, t5, ?_⟩
      intro m' s' hs' hm'
      by_cases hx : s' = s
      · subst hx
        have hm : m' = m + 1 := by omega
        subst hm
        exact gm_val_c n L ct ac lo hi hac (m + 1) s' p _ (fun e he => (hpos e he).symm) hv0
      · exact t6 m' s' (by omega) hm'
    -- the slot's event gets its time
    have hset : gm_val n L ct ac lo hi m (s + 1) (gm_set p (s % 6) ((s / 12 : Nat) : Int)) →
        s % 6 ≠ 0 → s % 6 < n → p (s % 6) = 100 → gm_stp ct (s % 6) ((s / 12 : Nat) : Int) = (s : Int) →
        (ct (s % 6) = true → p (ac (s % 6)) ≠ 100 ∧ ((s / 12 : Nat) : Int) = p (ac (s % 6)) + D (s % 6)) →
        ∃ T : Nat → Int, (∀ e, e < n → gm_pos ct T s e = p e) ∧ (∀ e, e < n → 0 ≤ T e ∧ T e ≤ (h : Int)) ∧ T 0 = 0 ∧
          (∀ c, c < n → ct c = true → T (ac c) + lo c ≤ T c ∧ T c ≤ T (ac c) + hi c) ∧
          (∀ c, c < n → ct c = true → p c = 100 → T c = T (ac c) + D c) ∧
          (∀ m' s', s ≤ s' → s' + m' = 12 * (h + 1) → gm_val n L ct ac lo hi m' s' (gm_pos ct T s')) := by
      intro hv1 he hen hpe hst hd
      have hw1 : gm_wf n h ct ac lo hi (s + 1) (gm_set p (s % 6) ((s / 12 : Nat) : Int)) :=
        gp_wf_set n h L ct ac lo hi hN s p (by omega) hw he hen hpe hst (fun hc => by
          have x := hd hc
          have y := hD _ hen hc
          refine ⟨x.1, by omega, by omega⟩)
      obtain ⟨T, t1, t2, t3, t4, t5, t6⟩ := ih (s + 1) _ (by omega) hw1 hv1 (fun c a b d e => by
          have hc0 : c ≠ 0 := by
            intro z; subst z
            have y := hN.2.2.2.1
            rw [b] at y; simp at y
          by_cases hx : c = s % 6
          · subst hx; rw [gm_set_s] at d
            omega
          · rw [gm_set_n _ _ _ _ hx] at d
            by_cases hax : ac c = s % 6
            · rw [hax, gm_set_s]
              have y := (hD c a b)
              have y2 := (hN.2.2.2.2.2.2 c a b).2.2.1
              have y3 := (gm_stp_b ct c (((s / 12 : Nat) : Int) + D c) hc0 (by omega)).1
              omega
            · rw [gm_set_n _ _ _ _ hax] at e ⊢
              have y := ho c a b d e
              by_cases hq : gm_stp ct c (p (ac c) + D c) = (s : Int)
              · exact absurd (gm_slot ct c s _ hc0 (by omega) hq).1 hx
              · omega)
      have hTe : T (s % 6) = ((s / 12 : Nat) : Int) := by
        have y := t1 _ hen
        rw [gm_set_s] at y
        unfold gm_pos at y
        by_cases h1 : gm_stp ct (s % 6) (T (s % 6)) < ((s + 1 : Nat) : Int)
        · rw [if_pos h1] at y; exact y
        · rw [if_neg h1] at y; omega
      have hpos : ∀ e, e < n → gm_pos ct T s e = p e := by
        intro e hen'
        by_cases hx : e = s % 6
        · subst hx
          unfold gm_pos
          rw [hTe, hst, if_neg (by omega), hpe]
        · have y := t1 e hen'
          rw [gm_set_n _ _ _ _ hx] at y
          unfold gm_pos at y ⊢
          by_cases h1 : gm_stp ct e (T e) < (s : Int)
          · rw [if_pos h1]; rw [if_pos (by omega)] at y; exact y
          · rw [if_neg h1]
            by_cases h2 : gm_stp ct e (T e) < ((s + 1 : Nat) : Int)
            · exfalso
              by_cases he0 : e = 0
              · subst he0; rw [gm_stp_0] at h1; omega
              · exact hx (gm_slot ct e s (T e) he0 (by omega) (by omega)).1
            · rw [if_neg h2] at y; exact y
      refine ⟨T, hpos, t2, t3, t4, ?_, ?_⟩
      · intro c hcn hcc hpc
        by_cases hx : c = s % 6
        · subst hx
          have x := hd hcc
          have hax : ac (s % 6) ≠ s % 6 := (hN.2.2.2.2.2.2 _ hcn hcc).2.1
          have y := hpos _ (hac _ hcn hcc)
          unfold gm_pos at y
          by_cases h1 : gm_stp ct (ac (s % 6)) (T (ac (s % 6))) < (s : Int)
          · rw [if_pos h1] at y
            rw [hTe, y]; exact x.2
          · rw [if_neg h1] at y
            exact absurd y.symm x.1
        · exact t5 c hcn hcc (by rw [gm_set_n _ _ _ _ hx]; exact hpc)
      · intro m' s' hs' hm'
        by_cases hx : s' = s
        · subst hx
          have hm : m' = m + 1 := by omega
          subst hm
          exact gm_val_c n L ct ac lo hi hac (m + 1) s' p _ (fun e he => (hpos e he).symm) hv0
        · exact t6 m' s' (by omega) hm'
    -- a contingent event whose chosen time is this step's
    have hc0 : ∀ c, ct c = true → c ≠ 0 := by
      intro c b z; subst z
      have y := hN.2.2.2.1
      rw [b] at y; simp at y
    rcases hv.2 with hf | ⟨k, a⟩ | ⟨k, a⟩ | ⟨k, a, b⟩ | ⟨k, ab⟩
    · exact gp_ext_full n h L ct ac lo hi hN D s p hw hb hf
    · refine hpass a (fun c x1 x2 x3 x4 x5 => ?_)
      obtain ⟨y1, y2, y3, _⟩ := gm_slot ct c s _ (hc0 c x2) (by omega) x5
      have z := hD c x1 x2
      have zr := gm_kind_run n ct ac lo hi p s (by rw [← y1]; exact hc0 c x2) (by rw [← y1]; exact x1) (by rw [← y1]; exact x3)
        (by rw [← y1]; exact x2) (y3 x2) (by rw [← y1]; exact x4)
      rw [← y1] at zr
      by_cases hq : D c = hi c
      · have w := zr.1 (by omega); omega
      · have w := zr.2 (by omega) (by omega); omega
    · obtain ⟨k1, k2, k3, k4, k5, k6⟩ := gm_kind_12 n ct ac lo hi p s (Or.inl k)
      have kd := gm_kind_1 n ct ac lo hi p s k
      have hst := gm_slot_t ct s k1 k4 k5
      have y := ho _ k2 k4 k3 k6
      have z := hD _ k2 k4
      have w : gm_stp ct (s % 6) ((s / 12 : Nat) : Int) ≤ gm_stp ct (s % 6) (p (ac (s % 6)) + D (s % 6)) := by omega
      have w2 := (gm_stp_mono ct (s % 6) _ _ k1).1 w
      exact hset a k1 k2 k3 hst (fun _ => ⟨k6, by omega⟩)
    · obtain ⟨k1, k2, k3, k4, k5, k6⟩ := gm_kind_12 n ct ac lo hi p s (Or.inr k)
      have hst := gm_slot_t ct s k1 k4 k5
      by_cases hq : ((s / 12 : Nat) : Int) = p (ac (s % 6)) + D (s % 6)
      · exact hset a k1 k2 k3 hst (fun _ => ⟨k6, hq⟩)
      · refine hpass b (fun c x1 x2 x3 x4 x5 => ?_)
        obtain ⟨y1, y2, _, _⟩ := gm_slot ct c s _ (hc0 c x2) (by omega) x5
        subst y1
        exact hq y2.symm
    · obtain ⟨k1, k2, k3, k4, k5⟩ := gm_kind_3 n ct ac lo hi p s k
      rcases ab with a | b
      · exact hset a k1 k2 k3 (gm_slot_f ct s k1 k4 k5) (fun z => by rw [k4] at z; simp at z)
      · refine hpass b (fun c x1 x2 x3 x4 x5 => ?_)
        obtain ⟨y1, y2, y3, _⟩ := gm_slot ct c s _ (hc0 c x2) (by omega) x5
        have := y3 x2
        omega

/-- a position of a safe play -/
theorem gp_pos_wf (s : Nat) (T : Nat → Int) (hN : gm_net n h L ct ac lo hi) (hT : gm_sp n h L ct ac lo hi T) :
    gm_wf n h ct ac lo hi s (gm_pos ct T s) := by
  obtain ⟨a1, a2, a3, _⟩ := hT
  have hn6 : n ≤ 6 := hN.2.1
  have h7 : h ≤ 7 := hN.2.2.1
  refine ⟨?_, ?_, ?_⟩
  · unfold gm_pos; rw [gm_stp_0, if_pos (by omega)]; exact a1
  · intro e he
    unfold gm_pos
    by_cases h1 : gm_stp ct e (T e) < (s : Int)
    · rw [if_pos h1]; exact Or.inr ⟨(a2 e he).1, (a2 e he).2, h1⟩
    · rw [if_neg h1]; exact Or.inl rfl
  · intro c hcn hcc hp
    obtain ⟨b1, b2, b3, b4, b5⟩ := hN.2.2.2.2.2.2 c hcn hcc
    have hc0 : c ≠ 0 := by
      intro z; subst z
      have y := hN.2.2.2.1
      rw [hcc] at y; simp at y
    have x := a3 c hcn hcc
    have ta := a2 _ b1
    unfold gm_pos at hp ⊢
    by_cases h1 : gm_stp ct c (T c) < (s : Int)
    · have h2 : gm_stp ct (ac c) (T (ac c)) < (s : Int) := by
        have y1 := (gm_stp_b ct c (T c) hc0 (by omega)).1
        have y2 := gm_stp_u ct (ac c) (T (ac c)) (by omega) ta.1
        omega
      rw [if_pos h1, if_pos h2]
      exact ⟨by omega, x.1, x.2⟩
    · rw [if_neg h1] at hp
      exact absurd rfl hp

/-- a safe position with a safe past lies on a safe play, with the durations that are wished -/
theorem gp_thru (hN : gm_net n h L ct ac lo hi) (D : Nat → Int) (hD : ∀ c, c < n → ct c = true → lo c ≤ D c ∧ D c ≤ hi c)
    (m s : Nat) (p : Nat → Int) (hs : s + m = 12 * (h + 1)) (hw : gm_wf n h ct ac lo hi s p)
    (hv : gm_val n L ct ac lo hi m s p)
    (ho : ∀ c, c < n → ct c = true → p c = 100 → p (ac c) ≠ 100 → (s : Int) ≤ gm_stp ct c (p (ac c) + D c))
    (hpast : ∀ m' s', s' < s → s' + m' = 12 * (h + 1) →
      gm_val n L ct ac lo hi m' s' (fun e => if gm_stp ct e (p e) < (s' : Int) then p e else 100)) :
    ∃ T : Nat → Int, gm_sp n h L ct ac lo hi T ∧ (∀ e, e < n → gm_pos ct T s e = p e) ∧
      (∀ c, c < n → ct c = true → p c = 100 → T c = T (ac c) + D c) := by
  have hac : ∀ c, c < n → ct c = true → ac c < n := fun c hcn hcc => (hN.2.2.2.2.2.2 c hcn hcc).1
  obtain ⟨T, t1, t2, t3, t4, t5, t6⟩ := gp_ext n h L ct ac lo hi hN D hD m s p hs hw hv ho
  refine ⟨T, ⟨t3, t2, t4, ?_⟩, t1, t5⟩
  intro m' s' hm'
  by_cases hlt : s' < s
  · refine gm_val_c n L ct ac lo hi hac m' s' _ _ ?_ (hpast m' s' hlt hm')
    intro e he
    have y := t1 e he
    have z := t2 e he
    have h7 : h ≤ 7 := hN.2.2.1
    show (if gm_stp ct e (p e) < (s' : Int) then p e else 100) = gm_pos ct T s' e
    unfold gm_pos at y ⊢
    by_cases h1 : gm_stp ct e (T e) < (s : Int)
    · rw [if_pos h1] at y
      rw [← y]
    · rw [if_neg h1] at y
      rw [← y, if_neg (show ¬ gm_stp ct e (T e) < (s' : Int) by omega)]
      split <;> rfl
  · exact t6 m' s' (by omega) hm'

/-- from a step of a safe play on, other durations -/
theorem gp_rer (hN : gm_net n h L ct ac lo hi) (D : Nat → Int) (hD : ∀ c, c < n → ct c = true → lo c ≤ D c ∧ D c ≤ hi c)
    (m s : Nat) (T : Nat → Int) (hs : s + m = 12 * (h + 1)) (hT : gm_sp n h L ct ac lo hi T)
    (ho : ∀ c, c < n → ct c = true → ¬ gm_stp ct c (T c) < (s : Int) → gm_stp ct (ac c) (T (ac c)) < (s : Int) →
      (s : Int) ≤ gm_stp ct c (T (ac c) + D c)) :
    ∃ T' : Nat → Int, gm_sp n h L ct ac lo hi T' ∧ (∀ e, e < n → gm_stp ct e (T e) < (s : Int) → T' e = T e) ∧
      (∀ e, e < n → ¬ gm_stp ct e (T e) < (s : Int) → ¬ gm_stp ct e (T' e) < (s : Int)) ∧
      (∀ c, c < n → ct c = true → ¬ gm_stp ct c (T c) < (s : Int) → T' c = T' (ac c) + D c) := by
  have h7 : h ≤ 7 := hN.2.2.1
  have hac : ∀ c, c < n → ct c = true → ac c < n := fun c hcn hcc => (hN.2.2.2.2.2.2 c hcn hcc).1
  have hun : ∀ e, e < n → gm_pos ct T s e = 100 → ¬ gm_stp ct e (T e) < (s : Int) := by
    intro e he y h1
    unfold gm_pos at y
    rw [if_pos h1] at y
    have := hT.2.1 e he
    omega
  obtain ⟨T', u1, u2, u3⟩ := gp_thru n h L ct ac lo hi hN D hD m s (gm_pos ct T s) hs
    (gp_pos_wf n h L ct ac lo hi s T hN hT) (hT.2.2.2 m s hs)
    (fun c x1 x2 x3 x4 => by
      have y1 := hun c x1 x3
      have y2 : gm_stp ct (ac c) (T (ac c)) < (s : Int) := by
        by_cases h1 : gm_stp ct (ac c) (T (ac c)) < (s : Int)
        · exact h1
        · exact absurd (by unfold gm_pos; rw [if_neg h1]) x4
      have y3 : gm_pos ct T s (ac c) = T (ac c) := by unfold gm_pos; rw [if_pos y2]
      rw [y3]
      exact ho c x1 x2 y1 y2)
    (fun m' s' hlt hm' => by
      refine gm_val_c n L ct ac lo hi hac m' s' _ _ ?_ (hT.2.2.2 m' s' hm')
      intro e he
      show gm_pos ct T s' e = (if gm_stp ct e (gm_pos ct T s e) < (s' : Int) then gm_pos ct T s e else 100)
      unfold gm_pos
      by_cases h1 : gm_stp ct e (T e) < (s : Int)
      · rw [if_pos h1]
      · rw [if_neg h1, if_neg (show ¬ gm_stp ct e (T e) < (s' : Int) by omega)]
        split <;> rfl)
  have hnp : ∀ e, e < n → ¬ gm_stp ct e (T e) < (s : Int) → gm_pos ct T s e = 100 := by
    intro e _ h1
    unfold gm_pos; rw [if_neg h1]
  refine ⟨T', u1, ?_, ?_, ?_⟩
  · intro e he h1
    have y := u2 e he
    have z := hT.2.1 e he
    unfold gm_pos at y
    rw [if_pos h1] at y
    by_cases h2 : gm_stp ct e (T' e) < (s : Int)
    · rw [if_pos h2] at y; exact y
    · rw [if_neg h2] at y; omega
  · intro e he h1 h2
    have y := u2 e he
    have z := u1.2.1 e he
    unfold gm_pos at y
    rw [if_neg h1, if_pos h2] at y
    omega
  · intro c x1 x2 x3
    exact u3 c x1 x2 (hnp c x1 x3)
end gp
