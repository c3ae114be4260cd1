-- what is deduced holds in every safe play
section gs
variable (n h : Nat) (L : Nat → Nat → Int) (ct : Nat → Bool) (ac : Nat → Nat) (lo hi : Nat → Int)

/-- one duration changed, the others as they were -/
theorem gs_one (hN : gm_net n h L ct ac lo hi) (T : Nat → Int) (hT : gm_sp n h L ct ac lo hi T) (k : Nat) (hk : k < n)
    (hkc : ct k = true) (d : Int) (hd : lo k ≤ d ∧ d ≤ hi k) (m s : Nat) (hs : s + m = 12 * (h + 1))
    (hu : ¬ gm_stp ct k (T k) < (s : Int)) (ho : (s : Int) ≤ gm_stp ct k (T (ac k) + d)) :
    ∃ T' : Nat → Int, gm_sp n h L ct ac lo hi T' ∧ (∀ e, e < n → gm_stp ct e (T e) < (s : Int) → T' e = T e) ∧
      (∀ e, e < n → ¬ gm_stp ct e (T e) < (s : Int) → ¬ gm_stp ct e (T' e) < (s : Int)) ∧
      T' k = T' (ac k) + d ∧
      (∀ c, c < n → ct c = true → c ≠ k → T c = T (ac c) + hi c → T' c = T' (ac c) + hi c) := by
  have hn6 : n ≤ 6 := hN.2.1
  obtain ⟨T', a1, a2, a3, a4⟩ := gp_rer n h L ct ac lo hi hN (fun x => if x = k then d else T x - T (ac x))
    (fun c x1 x2 => by
      have y := hT.2.2.1 c x1 x2
      by_cases hx : c = k
      · subst hx; simp; exact hd
      · simp only [if_neg hx]; omega) m s T hs hT
    (fun c x1 x2 x3 x4 => by
      by_cases hx : c = k
      · subst hx; simp only [if_pos rfl]; exact ho
      · simp only [if_neg hx]
        have e1 : T (ac c) + (T c - T (ac c)) = T c := by omega
        rw [e1]; omega)
  refine ⟨T', a1, a2, a3, ?_, ?_⟩
  · have y := a4 k hk hkc hu
    simp only [if_pos rfl] at y
    exact y
  · intro c x1 x2 x3 x4
    have hc0 : c ≠ 0 := by
      intro z; subst z
      have y := hN.2.2.2.1
      rw [x2] at y; simp at y
    by_cases h1 : gm_stp ct c (T c) < (s : Int)
    · have b := hN.2.2.2.2.2.2 c x1 x2
      have ta := hT.2.1 _ b.1
      have x := hT.2.2.1 c x1 x2
      have h2 : gm_stp ct (ac c) (T (ac c)) < (s : Int) := by
        have y1 := (gm_stp_b ct c (T c) hc0 (by omega)).1
        have y2 := gm_stp_u ct (ac c) (T (ac c)) (by omega) ta.1
        omega
      rw [a2 c x1 h1, a2 _ b.1 h2]; exact x4
    · have y := a4 c x1 x2 h1
      simp only [if_neg x3] at y
      omega

/-- rule: what must come before c cannot look at c first -/
theorem gs_r5 (hN : gm_net n h L ct ac lo hi) (c v : Nat) (hc : c < n) (hcc : ct c = true) (hv : v < n) (b : Int) (hb : b < 0)
    (hB : ∀ T, gm_sp n h L ct ac lo hi T → T v - T c ≤ b) (T : Nat → Int) (hT : gm_sp n h L ct ac lo hi T) :
    T v - T (ac c) ≤ lo c + b := by
  have hn6 : n ≤ 6 := hN.2.1
  obtain ⟨b1, b2, b3, b4, b5⟩ := hN.2.2.2.2.2.2 c hc hcc
  have hc0 : c ≠ 0 := by
    intro z; subst z
    have y := hN.2.2.2.1
    rw [hcc] at y; simp at y
  have ta := hT.2.1 _ b1
  have tc := hT.2.1 _ hc
  have tx := hT.2.2.1 c hc hcc
  have sb := gm_stp_b ct c (T (ac c) + lo c) hc0 (by omega)
  obtain ⟨s, hs⟩ : ∃ s : Nat, (s : Int) = gm_stp ct c (T (ac c) + lo c) := ⟨(gm_stp ct c (T (ac c) + lo c)).toNat, by omega⟩
  have hu : ¬ gm_stp ct c (T c) < (s : Int) := by
    rw [hs]
    have := (gm_stp_mono ct c (T (ac c) + lo c) (T c) hc0).2 (by omega)
    omega
  obtain ⟨T', a1, a2, a3, a4, _⟩ := gs_one n h L ct ac lo hi hN T hT c hc hcc (lo c) ⟨by omega, by omega⟩
    (12 * (h + 1) - s) s (by omega) hu (by omega)
  have ha : T' (ac c) = T (ac c) := a2 _ b1 (by
    have y2 := gm_stp_u ct (ac c) (T (ac c)) (by omega) ta.1
    omega)
  have y := hB T' a1
  have tv := a1.2.1 v hv
  have hvs : gm_stp ct v (T' v) < (s : Int) := by
    have y2 := gm_stp_u ct v (T' v) (by omega) tv.1
    omega
  by_cases h1 : gm_stp ct v (T v) < (s : Int)
  · have z := a2 v hv h1
    omega
  · exact absurd hvs (a3 v hv h1)

/-- rule: a wait within the shortest duration is a bound -/
theorem gs_r4 (hN : gm_net n h L ct ac lo hi) (c u : Nat) (hc : c < n) (hcc : ct c = true) (hun : u < n) (w : Int)
    (hW : ∀ T, gm_sp n h L ct ac lo hi T → T c = T (ac c) + hi c → T (ac c) + w ≤ T u)
    (T : Nat → Int) (hT : gm_sp n h L ct ac lo hi T) : T (ac c) + w ≤ T u ∨ T (ac c) + lo c ≤ T u := by
  by_cases hlt : T (ac c) + lo c ≤ T u
  · exact Or.inr hlt
  refine Or.inl ?_
  have hn6 : n ≤ 6 := hN.2.1
  obtain ⟨b1, b2, b3, b4, b5⟩ := hN.2.2.2.2.2.2 c hc hcc
  have hc0 : c ≠ 0 := by
    intro z; subst z
    have y := hN.2.2.2.1
    rw [hcc] at y; simp at y
  have ta := hT.2.1 _ b1
  have tu := hT.2.1 _ hun
  have tc := hT.2.1 _ hc
  have tx := hT.2.2.1 c hc hcc
  -- the end of the round in which both u and the activation have their times
  obtain ⟨r, hr1, hr2, hr3, hr4⟩ : ∃ r : Nat, T u ≤ (r : Int) ∧ T (ac c) ≤ (r : Int) ∧ (r : Int) < T (ac c) + lo c ∧ r ≤ h := by
    by_cases hx : T u ≤ T (ac c)
    · exact ⟨(T (ac c)).toNat, by omega, by omega, by omega, by omega⟩
    · exact ⟨(T u).toNat, by omega, by omega, by omega, by omega⟩
  have hu : ¬ gm_stp ct c (T c) < ((12 * (r + 1) : Nat) : Int) := by
    have := (gm_stp_b ct c (T c) hc0 (by omega)).1
    omega
  obtain ⟨T', a1, a2, a3, a4, _⟩ := gs_one n h L ct ac lo hi hN T hT c hc hcc (hi c) ⟨by omega, by omega⟩
    (12 * (h - r)) (12 * (r + 1)) (by omega) hu (by
      have := (gm_stp_b ct c (T (ac c) + hi c) hc0 (by omega)).1
      omega)
  have ha : T' (ac c) = T (ac c) := a2 _ b1 (by
    have y2 := gm_stp_u ct (ac c) (T (ac c)) (by omega) ta.1
    omega)
  have hu' : T' u = T u := a2 _ hun (by
    have y2 := gm_stp_u ct u (T u) (by omega) tu.1
    omega)
  have y := hW T' a1 a4
  omega

/-- rule: a contingent event that has to wait for c: its activation event must -/
theorem gs_r3 (hN : gm_net n h L ct ac lo hi) (c k : Nat) (hc : c < n) (hcc : ct c = true) (hk : k < n) (hkc : ct k = true)
    (hck : c ≠ k) (w : Int) (hw : 0 < w)
    (hW : ∀ T, gm_sp n h L ct ac lo hi T → T c = T (ac c) + hi c → T (ac c) + w ≤ T k)
    (T : Nat → Int) (hT : gm_sp n h L ct ac lo hi T) (hTc : T c = T (ac c) + hi c) : T (ac c) + (w - lo k) ≤ T (ac k) := by
  have hn6 : n ≤ 6 := hN.2.1
  obtain ⟨b1, b2, b3, b4, b5⟩ := hN.2.2.2.2.2.2 k hk hkc
  obtain ⟨c1, c2, c3, c4, c5⟩ := hN.2.2.2.2.2.2 c hc hcc
  have hk0 : k ≠ 0 := by
    intro z; subst z
    have y := hN.2.2.2.1
    rw [hkc] at y; simp at y
  have ta := hT.2.1 _ b1
  have tk := hT.2.1 _ hk
  have tx := hT.2.2.1 k hk hkc
  have sb := gm_stp_b ct k (T (ac k) + lo k) hk0 (by omega)
  obtain ⟨s, hs⟩ : ∃ s : Nat, (s : Int) = gm_stp ct k (T (ac k) + lo k) := ⟨(gm_stp ct k (T (ac k) + lo k)).toNat, by omega⟩
  have hu : ¬ gm_stp ct k (T k) < (s : Int) := by
    rw [hs]
    have := (gm_stp_mono ct k (T (ac k) + lo k) (T k) hk0).2 (by omega)
    omega
  obtain ⟨T', a1, a2, a3, a4, a5⟩ := gs_one n h L ct ac lo hi hN T hT k hk hkc (lo k) ⟨by omega, by omega⟩
    (12 * (h + 1) - s) s (by omega) hu (by omega)
  have ha : T' (ac k) = T (ac k) := a2 _ b1 (by
    have y2 := gm_stp_u ct (ac k) (T (ac k)) (by omega) ta.1
    omega)
  have y := hW T' a1 (a5 c hc hcc hck hTc)
  have tc' := a1.2.1 _ c1
  by_cases h1 : gm_stp ct (ac c) (T (ac c)) < (s : Int)
  · have z := a2 _ c1 h1
    omega
  · have z := a3 _ c1 h1
    have y2 := gm_stp_u ct (ac c) (T' (ac c)) (by omega) tc'.1
    omega

/-- bounds B and waits W hold in every safe play -/
def gs_snd (B W : Nat → Nat → Int) : Prop :=
  ∀ T, gm_sp n h L ct ac lo hi T → (∀ u v, u < n → v < n → T v - T u ≤ B u v) ∧
    (∀ c, c < n → ct c = true → T c = T (ac c) + hi c → ∀ u, u < n → T (ac c) + W c u ≤ T u)

/-- positions of a safe play keep bounds and waits -/
theorem gs_inv (hN : gm_net n h L ct ac lo hi) (B W : Nat → Nat → Int) (hS : gs_snd n h L ct ac lo hi B W)
    (m s : Nat) (hs : s + m = 12 * (h + 1)) (T : Nat → Int) (hT : gm_sp n h L ct ac lo hi T) :
    gc_inv n ct ac B W s (gm_pos ct T s) := by
  have hn6 : n ≤ 6 := hN.2.1
  have h7 : h ≤ 7 := hN.2.2.1
  have as1 : ∀ e, e < n → gm_pos ct T s e ≠ 100 → gm_stp ct e (T e) < (s : Int) ∧ gm_pos ct T s e = T e := by
    intro e _ x
    unfold gm_pos at x ⊢
    by_cases h1 : gm_stp ct e (T e) < (s : Int)
    · rw [if_pos h1]; exact ⟨h1, rfl⟩
    · rw [if_neg h1] at x; exact absurd rfl x
  have as2 : ∀ e, e < n → gm_pos ct T s e = 100 → ¬ gm_stp ct e (T e) < (s : Int) := by
    intro e he x h1
    unfold gm_pos at x
    rw [if_pos h1] at x
    have := hT.2.1 e he
    omega
  refine ⟨?_, ?_, ?_⟩
  · intro u v hu hv h1 h2
    rw [(as1 u hu h1).2, (as1 v hv h2).2]
    exact (hS T hT).1 u v hu hv
  · intro u v hu hv h1 h2
    rw [(as1 u hu h1).2]
    have y := (hS T hT).1 u v hu hv
    have z := as2 v hv h2
    have hv0 : v ≠ 0 := by
      intro w; subst w
      rw [gm_stp_0] at z; omega
    have w := (gm_stp_mono ct v (T v) (T u + B u v) hv0).2 (by omega)
    omega
  · intro c hc hcc h1 h2 u hu h3
    obtain ⟨b1, b2, b3, b4, b5⟩ := hN.2.2.2.2.2.2 c hc hcc
    have hc0 : c ≠ 0 := by
      intro z; subst z
      have y := hN.2.2.2.1
      rw [hcc] at y; simp at y
    have x1 := as2 c hc h1
    have tx := hT.2.2.1 c hc hcc
    obtain ⟨T', a1, a2, a3, a4, _⟩ := gs_one n h L ct ac lo hi hN T hT c hc hcc (hi c) ⟨b4, by omega⟩ m s hs x1 (by
      have := (gm_stp_mono ct c (T c) (T (ac c) + hi c) hc0).2 (by omega)
      omega)
    have ya := a2 _ b1 (as1 _ b1 h2).1
    have yu := a2 _ hu (as1 _ hu h3).1
    have z := (hS T' a1).2 c hc hcc a4 u hu
    rw [(as1 _ b1 h2).2, (as1 _ hu h3).2]
    omega

/-- the child of a choice, if it is safe, lies on a safe play in which every duration to come is the longest -/
theorem gs_next (hN : gm_net n h L ct ac lo hi) (m s : Nat) (hs : s + (m + 1) = 12 * (h + 1))
    (T0 : Nat → Int) (hT0 : gm_sp n h L ct ac lo hi T0)
    (he : s % 6 ≠ 0) (hen : s % 6 < n) (hcf : ct (s % 6) = false) (h6 : 6 ≤ s % 12)
    (p : Nat → Int) (hp : ∀ e, e < n → gm_pos ct T0 s e = p e) (hpe : p (s % 6) = 100)
    (q : Nat → Int) (hq : q = p ∨ q = gm_set p (s % 6) ((s / 12 : Nat) : Int))
    (hv : gm_val n L ct ac lo hi m (s + 1) q) :
    ∃ T, gm_sp n h L ct ac lo hi T ∧ (∀ e, e < n → gm_pos ct T (s + 1) e = q e) ∧
      (∀ c, c < n → ct c = true → q c = 100 → T c = T (ac c) + hi c) := by
  have hn6 : n ≤ 6 := hN.2.1
  have h7 : h ≤ 7 := hN.2.2.1
  have hac : ∀ c, c < n → ct c = true → ac c < n := fun c hcn hcc => (hN.2.2.2.2.2.2 c hcn hcc).1
  have hst := gm_slot_f ct s he hcf h6
  have hw0 := gp_pos_wf n h L ct ac lo hi s T0 hN hT0
  have hw : gm_wf n h ct ac lo hi s p := by
    refine ⟨by rw [← hp 0 hN.1]; exact hw0.1, fun e x => ?_, fun c x1 x2 x3 => ?_⟩
    · rw [← hp e x]; exact hw0.2.1 e x
    · rw [← hp c x1] at x3 ⊢
      rw [← hp _ (hac c x1 x2)]
      exact hw0.2.2 c x1 x2 x3
  have hnc : ct (s % 6) = true → False := fun z => by rw [hcf] at z; simp at z
  have hwq : gm_wf n h ct ac lo hi (s + 1) q := by
    rcases hq with hq | hq
    · rw [hq]; exact gp_wf_s n h ct ac lo hi s p hw
    · rw [hq]; exact gp_wf_set n h L ct ac lo hi hN s p (by omega) hw he hen hpe hst (fun z => absurd z hnc)
  have hpq : ∀ e, e < n → p e ≠ 100 → q e = p e := by
    intro e _ x
    rcases hq with hq | hq
    · rw [hq]
    · rw [hq]
      by_cases hx : e = s % 6
      · subst hx; exact absurd hpe x
      · exact gm_set_n _ _ _ _ hx
  have hqs : ∀ e, e < n → p e = 100 → q e = 100 ∨ (e = s % 6 ∧ q e = ((s / 12 : Nat) : Int)) := by
    intro e _ x
    rcases hq with hq | hq
    · rw [hq]; exact Or.inl x
    · rw [hq]
      by_cases hx : e = s % 6
      · subst hx; rw [gm_set_s]; exact Or.inr ⟨rfl, rfl⟩
      · rw [gm_set_n _ _ _ _ hx]; exact Or.inl x
  refine gp_thru n h L ct ac lo hi hN hi (fun c x1 x2 => ?_) m (s + 1) q (by omega) hwq hv ?_ ?_
  · have y := hN.2.2.2.2.2.2 c x1 x2
    exact ⟨y.2.2.2.1, by omega⟩
  · intro c x1 x2 x3 x4
    have hc0 : c ≠ 0 := by
      intro z; subst z
      have y := hN.2.2.2.1
      rw [x2] at y; simp at y
    obtain ⟨b1, b2, b3, b4, b5⟩ := hN.2.2.2.2.2.2 c x1 x2
    have x3' : p c = 100 := by
      by_cases hx : p c = 100
      · exact hx
      · exact absurd (hpq c x1 hx ▸ x3) hx
    by_cases hpa : p (ac c) = 100
    · rcases hqs _ b1 hpa with a | ⟨a, b⟩
      · exact absurd a x4
      · rw [b]
        have := (gm_stp_b ct c (((s / 12 : Nat) : Int) + hi c) hc0 (by omega)).1
        omega
    · rw [hpq _ b1 hpa]
      have y1 := hp c x1
      have y2 := hp _ b1
      have tc := hT0.2.1 c x1
      have tx := hT0.2.2.1 c x1 x2
      unfold gm_pos at y1 y2
      by_cases g1 : gm_stp ct c (T0 c) < (s : Int)
      · rw [if_pos g1] at y1; omega
      · by_cases g2 : gm_stp ct (ac c) (T0 (ac c)) < (s : Int)
        · rw [if_pos g2] at y2
          rw [← y2]
          have z := (gm_stp_mono ct c (T0 c) (T0 (ac c) + hi c) hc0).2 (by omega)
          by_cases hqq : gm_stp ct c (T0 (ac c) + hi c) = (s : Int)
          · have := (gm_slot ct c s _ hc0 (by omega) hqq).2.2.1 x2
            omega
          · omega
        · rw [if_neg g2] at y2; exact absurd y2.symm hpa
  · intro m' s' hlt hm'
    refine gm_val_c n L ct ac lo hi hac m' s' _ _ ?_ (hT0.2.2.2 m' s' hm')
    intro e x
    have y := hp e x
    have z := hT0.2.1 e x
    show gm_pos ct T0 s' e = (if gm_stp ct e (q e) < (s' : Int) then q e else 100)
    unfold gm_pos at y ⊢
    by_cases h1 : gm_stp ct e (T0 e) < (s : Int)
    · rw [if_pos h1] at y
      have w := hpq e x (by omega)
      rw [w, ← y]
    · rw [if_neg h1] at y
      rw [if_neg (show ¬ gm_stp ct e (T0 e) < (s' : Int) by omega)]
      rcases hqs e x y.symm with a | ⟨a, b⟩
      · rw [a]; split <;> rfl
      · subst a
        rw [b, hst, if_neg (by omega)]
end gs
