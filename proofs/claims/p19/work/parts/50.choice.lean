-- at a choice on a safe play, looking at bounds and waits tells just what is safe
section gh
variable (n h : Nat) (L : Nat → Nat → Int) (ct : Nat → Bool) (ac : Nat → Nat) (lo hi : Nat → Int) (B W : Nat → Nat → Int)

/-- the time of v, or the soonest time that it can still get when event e is chosen about in round t -/
def gh_soon (p : Nat → Int) (t : Int) (e v : Nat) : Int :=
  if p v ≠ 100 then p v else if e < v ∧ ct v = false then t else t + 1

def gh_can (p : Nat → Int) (t : Int) (e : Nat) : Prop :=
  (∀ v, v < n → v ≠ e → gh_soon ct p t e v ≤ t + B e v) ∧
  (∀ c, c < n → ct c = true → p c = 100 → p (ac c) ≠ 100 → W c e ≤ t - p (ac c))

def gh_skip (p : Nat → Int) (t : Int) (e : Nat) : Prop := ∀ u, u < n → p u ≠ 100 → t < p u + B u e

/-- the soonest time, by steps -/
theorem gh_soon_s (e v : Nat) (t x : Int) (he : e ≠ 0) (he6 : e < 6) (hv : v ≠ 0) (hv6 : v < 6) (hve : v ≠ e) (p : Nat → Int)
    (hp : p v = 100) : gh_soon ct p t e v ≤ x ↔ 12 * t + 6 + (e : Int) + 1 ≤ gm_stp ct v x := by
  unfold gh_soon
  rw [if_neg (by simp [hp])]
  cases hc : ct v with
  | true =>
    rw [gm_stp_t ct v x hv hc, if_neg (by simp)]
    omega
  | false =>
    rw [gm_stp_f ct v x hv hc]
    by_cases hlt : e < v
    · rw [if_pos ⟨hlt, rfl⟩]; omega
    · rw [if_neg (fun z => hlt z.1)]; omega

/-- what holds of a position that lies on a safe play -/
theorem gh_at (hN : gm_net n h L ct ac lo hi) (hS : gs_snd n h L ct ac lo hi B W) (m s : Nat) (hs : s + m = 12 * (h + 1))
    (T0 : Nat → Int) (hT0 : gm_sp n h L ct ac lo hi T0) (p : Nat → Int) (hp : ∀ x, x < n → gm_pos ct T0 s x = p x) :
    gm_wf n h ct ac lo hi s p ∧ gc_inv n ct ac B W s p := by
  have hac : ∀ c, c < n → ct c = true → ac c < n := fun c hcn hcc => (hN.2.2.2.2.2.2 c hcn hcc).1
  have hw0 := gp_pos_wf n h L ct ac lo hi s T0 hN hT0
  have hi0 := gs_inv n h L ct ac lo hi hN B W hS m s hs T0 hT0
  refine ⟨⟨by rw [← hp 0 hN.1]; exact hw0.1, fun e x => ?_, fun c x1 x2 x3 => ?_⟩, ?_, ?_, ?_⟩
  · rw [← hp e x]; exact hw0.2.1 e x
  · rw [← hp c x1] at x3 ⊢
    rw [← hp _ (hac c x1 x2)]
    exact hw0.2.2 c x1 x2 x3
  · intro u v hu hv h1 h2
    rw [← hp u hu] at h1 ⊢
    rw [← hp v hv] at h2 ⊢
    exact hi0.1 u v hu hv h1 h2
  · intro u v hu hv h1 h2
    rw [← hp u hu] at h1 ⊢
    rw [← hp v hv] at h2
    exact hi0.2.1 u v hu hv h1 h2
  · intro c hc hcc h1 h2 u hu h3
    rw [← hp c hc] at h1
    rw [← hp _ (hac c hc hcc)] at h2 ⊢
    rw [← hp u hu] at h3 ⊢
    exact hi0.2.2 c hc hcc h1 h2 u hu h3

theorem gh_can_iff (hN : gm_net n h L ct ac lo hi) (hF : gc_fix n L ct ac lo hi B W) (hS : gs_snd n h L ct ac lo hi B W)
    (m s : Nat) (hs : s + (m + 1) = 12 * (h + 1)) (T0 : Nat → Int) (hT0 : gm_sp n h L ct ac lo hi T0)
    (e : Nat) (hes : e = s % 6) (he : e ≠ 0) (hen : e < n) (hcf : ct e = false) (h6 : 6 ≤ s % 12)
    (t : Int) (hts : t = ((s / 12 : Nat) : Int))
    (p : Nat → Int) (hp : ∀ x, x < n → gm_pos ct T0 s x = p x) (hpe : p e = 100) :
    gm_val n L ct ac lo hi m (s + 1) (gm_set p e t) ↔ gh_can n ct ac B W p t e := by
  subst hes
  subst hts
  have hn6 : n ≤ 6 := hN.2.1
  have h7 : h ≤ 7 := hN.2.2.1
  have hst := gm_slot_f ct s he hcf h6
  obtain ⟨hw, hI⟩ := gh_at n h L ct ac lo hi B W hN hS (m + 1) s hs T0 hT0 p hp
  have hnc : ct (s % 6) = true → False := fun z => by rw [hcf] at z; simp at z
  have hs12 : (s : Int) = 12 * ((s / 12 : Nat) : Int) + 6 + ((s % 6 : Nat) : Int) := by omega
  constructor
  · intro hv
    obtain ⟨T, t1, t2, t3⟩ := gs_next n h L ct ac lo hi hN m s hs T0 hT0 he hen hcf h6 p hp hpe _ (Or.inr rfl) hv
    have tt := t1.2.1
    have hTe : T (s % 6) = ((s / 12 : Nat) : Int) := by
      have y := t2 _ hen
      rw [gm_set_s] at y
      unfold gm_pos at y
      by_cases g : gm_stp ct (s % 6) (T (s % 6)) < ((s + 1 : Nat) : Int)
      · rw [if_pos g] at y; exact y
      · rw [if_neg g] at y; omega
    have hTa : ∀ x, x < n → p x ≠ 100 → T x = p x := by
      intro x hx hpx
      have y := t2 x hx
      rw [gm_set_n _ _ _ _ (fun z => by rw [z] at hpx; exact hpx hpe)] at y
      unfold gm_pos at y
      by_cases g : gm_stp ct x (T x) < ((s + 1 : Nat) : Int)
      · rw [if_pos g] at y; exact y
      · rw [if_neg g] at y; exact absurd y.symm hpx
    refine ⟨?_, ?_⟩
    · intro v hv' hve
      have y := (hS T t1).1 (s % 6) v hen hv'
      by_cases hpv : p v = 100
      · have hv0 : v ≠ 0 := by intro z; subst z; have := hw.1; omega
        have z := t2 v hv'
        rw [gm_set_n _ _ _ _ hve] at z
        have g : ¬ gm_stp ct v (T v) < ((s + 1 : Nat) : Int) := by
          intro g
          unfold gm_pos at z
          rw [if_pos g] at z
          have := tt v hv'
          omega
        have w := (gh_soon_s ct (s % 6) v ((s / 12 : Nat) : Int) (T v) he (by omega) hv0 (by omega) hve p hpv).2 (by omega)
        omega
      · have w := hTa v hv' hpv
        unfold gh_soon
        rw [if_pos hpv]
        omega
    · intro c hc hcc hpc hpa
      have hce : c ≠ s % 6 := fun z => by rw [z] at hcc; exact hnc hcc
      have a1 := t3 c hc hcc (by rw [gm_set_n _ _ _ _ hce]; exact hpc)
      have a2 := (hS T t1).2 c hc hcc a1 (s % 6) hen
      have a3 := hTa _ (hN.2.2.2.2.2.2 c hc hcc).1 hpa
      omega
  · intro ⟨c1, c2⟩
    refine gc_win n h L ct ac lo hi B W hN hF m (s + 1) _ (by omega) ?_ ?_
    · exact gp_wf_set n h L ct ac lo hi hN s p (by omega) hw he hen hpe hst (fun z => absurd z hnc)
    · refine gc_new n h L ct ac lo hi B W hN hF s p (by omega) hw hI he hen hpe hst ?_ ?_ ?_
      · intro v hv hpv
        have y := c1 v hv (fun z => by rw [z] at hpv; exact hpv hpe)
        unfold gh_soon at y
        rw [if_pos hpv] at y
        exact y
      · intro v hv hve hpv
        have hv0 : v ≠ 0 := by intro z; subst z; have := hw.1; omega
        have y := (gh_soon_s ct (s % 6) v ((s / 12 : Nat) : Int) _ he (by omega) hv0 (by omega) hve p hpv).1 (c1 v hv hve)
        omega
      · intro c hc hcc _ hpc hpa
        have y := c2 c hc hcc hpc hpa
        omega

theorem gh_skip_iff (hN : gm_net n h L ct ac lo hi) (hF : gc_fix n L ct ac lo hi B W) (hS : gs_snd n h L ct ac lo hi B W)
    (m s : Nat) (hs : s + (m + 1) = 12 * (h + 1)) (T0 : Nat → Int) (hT0 : gm_sp n h L ct ac lo hi T0)
    (e : Nat) (hes : e = s % 6) (he : e ≠ 0) (hen : e < n) (hcf : ct e = false) (h6 : 6 ≤ s % 12)
    (t : Int) (hts : t = ((s / 12 : Nat) : Int))
    (p : Nat → Int) (hp : ∀ x, x < n → gm_pos ct T0 s x = p x) (hpe : p e = 100) :
    gm_val n L ct ac lo hi m (s + 1) p ↔ gh_skip n B p t e := by
  subst hes
  subst hts
  have hn6 : n ≤ 6 := hN.2.1
  have h7 : h ≤ 7 := hN.2.2.1
  have hst := gm_slot_f ct s he hcf h6
  obtain ⟨hw, hI⟩ := gh_at n h L ct ac lo hi B W hN hS (m + 1) s hs T0 hT0 p hp
  constructor
  · intro hv u hu hpu
    obtain ⟨T, t1, t2, _⟩ := gs_next n h L ct ac lo hi hN m s hs T0 hT0 he hen hcf h6 p hp hpe p (Or.inl rfl) hv
    have y := (hS T t1).1 u (s % 6) hu hen
    have z := t2 u hu
    have w := t2 _ hen
    have tt := t1.2.1 _ hen
    unfold gm_pos at z w
    by_cases g : gm_stp ct (s % 6) (T (s % 6)) < ((s + 1 : Nat) : Int)
    · rw [if_pos g] at w; omega
    · by_cases g2 : gm_stp ct u (T u) < ((s + 1 : Nat) : Int)
      · rw [if_pos g2] at z
        have hm : ¬ T (s % 6) ≤ ((s / 12 : Nat) : Int) := by
          intro hle
          have := (gm_stp_mono ct (s % 6) _ _ he).2 hle
          omega
        omega
      · rw [if_neg g2] at z; exact absurd z.symm hpu
  · intro hk
    refine gc_win n h L ct ac lo hi B W hN hF m (s + 1) p (by omega) (gp_wf_s n h ct ac lo hi s p hw) ?_
    exact gc_pass n h L ct ac lo hi B W hN s p hI hw.1 (fun _ _ _ _ u hu hpu => by
      have := hk u hu hpu
      omega)

/-- on a safe play one of the two choices is safe -/
theorem gh_one (hN : gm_net n h L ct ac lo hi) (m s : Nat) (hs : s + (m + 1) = 12 * (h + 1)) (T0 : Nat → Int)
    (hT0 : gm_sp n h L ct ac lo hi T0) (he : s % 6 ≠ 0) (hen : s % 6 < n) (hcf : ct (s % 6) = false) (h6 : 6 ≤ s % 12)
    (p : Nat → Int) (hp : ∀ x, x < n → gm_pos ct T0 s x = p x) (hpe : p (s % 6) = 100) :
    gm_val n L ct ac lo hi m (s + 1) (gm_set p (s % 6) ((s / 12 : Nat) : Int)) ∨ gm_val n L ct ac lo hi m (s + 1) p := by
  have hac : ∀ c, c < n → ct c = true → ac c < n := fun c hcn hcc => (hN.2.2.2.2.2.2 c hcn hcc).1
  have hv := gm_val_c n L ct ac lo hi hac (m + 1) s _ p hp (hT0.2.2.2 (m + 1) s hs)
  have hk := gm_kind_exe n ct ac lo hi p s he hen hpe hcf h6
  unfold gm_val at hv
  rw [hk] at hv
  rcases hv.2 with hf | ⟨k, _⟩ | ⟨k, _⟩ | ⟨k, _⟩ | ⟨_, ab⟩
  · exact absurd hpe (hf _ hen)
  · exact absurd k (by decide)
  · exact absurd k (by decide)
  · exact absurd k (by decide)
  · exact ab
end gh
