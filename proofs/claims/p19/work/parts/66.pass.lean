-- one pass of the deduction, its beginning and its end
section gv
variable (n h : Nat) (L : Nat → Nat → Int) (ct : Nat → Bool) (ac : Nat → Nat) (lo hi : Nat → Int)

/-- within one event j to go by: row and column j stand still, what has changed goes by j -/
def gv_via (j : Nat) (bJ b : Nat → Int32) : Prop :=
  (∀ x y, x < n → y < n → gd_t b x y = gd_t bJ x y ∨ gd_t b x y = gd_t bJ x j + gd_t bJ j y) ∧
  (∀ x, x < n → gd_t b x j = gd_t bJ x j ∧ gd_t b j x = gd_t bJ j x) ∧
  (∀ x y, x < n → y < n → gd_t b x y ≤ gd_t bJ x y)

theorem gv_via_0 (j : Nat) (bJ : Nat → Int32) : gv_via n j bJ bJ :=
  ⟨fun _ _ _ _ => Or.inl rfl, fun _ _ => ⟨rfl, rfl⟩, fun _ _ _ _ => Int.le_refl _⟩

theorem gv_via_t (hn : n ≤ 6) (j : Nat) (bJ b : Nat → Int32) (u v : Nat) (most : Int32) (hj : j < n) (hu : u < n) (hv : v < n)
    (hd : gd_t bJ j j = 0) (hV : gv_via n j bJ b) (hm : most.toInt = gd_t bJ u j + gd_t bJ j v) (hlt : most.toInt < gd_t b u v) :
    gv_via n j bJ (upd b (u * 6 + v) most) := by
  obtain ⟨a1, a2, a3⟩ := hV
  have hvj : v ≠ j := by
    intro e
    rw [e] at hm hlt
    have := (a2 u hu).1
    omega
  have huj : u ≠ j := by
    intro e
    rw [e] at hm hlt
    have := (a2 v hv).2
    omega
  refine ⟨fun x y hx hy => ?_, fun x hx => ⟨?_, ?_⟩, fun x y hx hy => ?_⟩
  · rcases gd_cell b u v x y most (by omega) (by omega) with ⟨e1, e2, e3⟩ | ⟨_, e3⟩
    · rw [e3, e1, e2]; exact Or.inr hm
    · rw [e3]; exact a1 x y hx hy
  · rw [gd_t_n b u v x j most (by omega) (by omega) (Or.inr (fun z => hvj z.symm))]
    exact (a2 x hx).1
  · rw [gd_t_n b u v j x most (by omega) (by omega) (Or.inl (fun z => huj z.symm))]
    exact (a2 x hx).2
  · have z := a3 x y hx hy
    rcases gd_cell b u v x y most (by omega) (by omega) with ⟨e1, e2, e3⟩ | ⟨_, e3⟩
    · rw [e1, e2] at z ⊢
      rw [e1, e2] at e3
      rw [e3]; omega
    · rw [e3]; exact z

theorem gv_via_end (hN : gm_net n h L ct ac lo hi) (K : Int) (j : Nat) (bJ b w : Nat → Int32) (hj : j < n)
    (hG : gd_good n h L ct ac lo hi K bJ w) (hV : gv_via n j bJ b)
    (hd : ∀ x, x < n → gd_t b x x ≤ gd_t bJ x j + gd_t bJ j x) : gd_inv n h L ct ac lo hi K b w := by
  obtain ⟨g1, g2, g3, g4, g5, g6⟩ := hG
  obtain ⟨a1, a2, a3⟩ := hV
  by_cases hneg : ∃ x, x < n ∧ gd_t bJ x j + gd_t bJ j x < 0
  · obtain ⟨x, hx, hx0⟩ := hneg
    refine Or.inl ⟨⟨x, hx, ?_⟩, fun T hT => ?_⟩
    · have := hd x hx; omega
    · have y1 := (g6 T hT).1 x j hx hj
      have y2 := (g6 T hT).1 j x hj hx
      omega
  · have hpos : ∀ x, x < n → 0 ≤ gd_t bJ x j + gd_t bJ j x := by
      intro x hx
      by_cases hq : 0 ≤ gd_t bJ x j + gd_t bJ j x
      · exact hq
      · exact absurd ⟨x, hx, by omega⟩ hneg
    refine Or.inr ⟨fun x y hx hy => ?_, fun x hx => ?_, g3, fun x y hx hy hxy => ?_, fun c hc hcc => ?_, fun T hT => ?_⟩
    · have z1 := g1 x y hx hy
      have z2 := a3 x y hx hy
      have p1 := hpos x hx
      have p2 := hpos y hy
      have q1 := g1 j x hj hx
      have q2 := g1 y j hy hj
      refine ⟨?_, by omega⟩
      rcases a1 x y hx hy with e | e <;> omega
    · have z1 := g2 x hx
      have z2 := a3 x x hx hx
      have p1 := hpos x hx
      rcases a1 x x hx hx with e | e <;> omega
    · have z1 := g4 x y hx hy hxy
      have z2 := a3 x y hx hy
      omega
    · have b1 := (hN.2.2.2.2.2.2 c hc hcc).1
      have z1 := g5 c hc hcc
      have z2 := a3 (ac c) c b1 hc
      exact ⟨by omega, z1.2⟩
    · have z := g6 T hT
      refine ⟨fun x y hx hy => ?_, z.2⟩
      rcases a1 x y hx hy with e | e
      · rw [e]; exact z.1 x y hx hy
      · rw [e]
        have y1 := z.1 x j hx hj
        have y2 := z.1 j y hj hy
        omega

/-- a pass in which every look failed -/
theorem gv_fix (K : Int) (b w : Nat → Int32) (hG : gd_good n h L ct ac lo hi K b w)
    (d1 : ∀ j, j < n → ∀ u, u < n → ∀ v, v < n → gd_t b u v ≤ gd_t b u j + gd_t b j v)
    (dc : ∀ c, c < n → ct c = true →
      (∀ u, u < n → ∀ v, v < n → gd_t w c v - gd_t b u v ≤ gd_t w c u) ∧
      (∀ k, k < n → ct k = true → k ≠ c → 0 < gd_t w c k → gd_t w c k - lo k ≤ gd_t w c (ac k)) ∧
      (∀ u, u < n → gd_t b u (ac c) ≤ - gd_t w c u ∨ gd_t b u (ac c) ≤ - lo c) ∧
      (∀ v, v < n → gd_t b c v < 0 → gd_t b (ac c) v ≤ lo c + gd_t b c v)) :
    gc_fix n L ct ac lo hi (gd_t b) (gd_t w) := by
  obtain ⟨g1, g2, g3, g4, g5, g6⟩ := hG
  exact ⟨g4, g2, g5, fun u v x hu hv hx => d1 x hx u hu v hv,
    fun c hc hcc u v hu hv => (dc c hc hcc).1 u hu v hv,
    fun c hc hcc k hk hkc hne hpos => (dc c hc hcc).2.1 k hk hkc hne hpos,
    fun c hc hcc u hu => (dc c hc hcc).2.2.1 u hu,
    fun c hc hcc v hv hneg => (dc c hc hcc).2.2.2 v hv hneg⟩

/-- the times at the beginning -/
theorem gv_wf0 (hN : gm_net n h L ct ac lo hi) (p : Nat → Int) (hp0 : p 0 = 0) (hp : ∀ e, e < n → e ≠ 0 → p e = 100) :
    gm_wf n h ct ac lo hi 0 p := by
  refine ⟨hp0, fun e he => ?_, fun c hc hcc hpc => ?_⟩
  · by_cases hq : e = 0
    · subst hq; rw [hp0, gm_stp_0]; exact Or.inr ⟨by omega, by omega, by omega⟩
    · exact Or.inl (hp e he hq)
  · exact absurd (hp c hc (gc_0 n h L ct ac lo hi hN c hcc)) hpc

/-- the beginning is safe if and only if there is a safe play -/
theorem gv_val0 (hN : gm_net n h L ct ac lo hi) (p : Nat → Int) (hp0 : p 0 = 0) (hp : ∀ e, e < n → e ≠ 0 → p e = 100) :
    gm_val n L ct ac lo hi (12 * (h + 1)) 0 p ↔ ∃ T, gm_sp n h L ct ac lo hi T := by
  have hn6 : n ≤ 6 := hN.2.1
  have hac : ∀ c, c < n → ct c = true → ac c < n := fun c hcn hcc => (hN.2.2.2.2.2.2 c hcn hcc).1
  have hw := gv_wf0 n h L ct ac lo hi hN p hp0 hp
  constructor
  · intro hv
    obtain ⟨T, t1, _⟩ := gp_thru n h L ct ac lo hi hN hi (fun c x1 x2 => by
        have y := hN.2.2.2.2.2.2 c x1 x2
        exact ⟨y.2.2.2.1, by omega⟩) (12 * (h + 1)) 0 p (by omega) hw hv
      (fun c x1 x2 x3 x4 => by
        have y := hN.2.2.2.2.2.2 c x1 x2
        have hc0 := gc_0 n h L ct ac lo hi hN c x2
        have s1 := (gm_stp_b ct c (p (ac c) + hi c) hc0 (by omega)).1
        rcases hw.2.1 _ y.1 with q | ⟨q, _, _⟩
        · exact absurd q x4
        · omega)
      (fun m' s' hlt _ => absurd hlt (by omega))
    exact ⟨T, t1⟩
  · intro ⟨T, hT⟩
    refine gm_val_c n L ct ac lo hi hac _ 0 (gm_pos ct T 0) p (fun e he => ?_) (hT.2.2.2 (12 * (h + 1)) 0 (by omega))
    by_cases hq : e = 0
    · subst hq
      unfold gm_pos
      rw [gm_stp_0, if_pos (by omega), hp0]; exact hT.1
    · have s1 := (gm_stp_b ct e (T e) hq (by omega)).1
      have tt := hT.2.1 e he
      unfold gm_pos
      rw [if_neg (by omega), hp e he hq]

theorem gv_play (hN : gm_net n h L ct ac lo hi) (B W : Nat → Nat → Int) (hF : gc_fix n L ct ac lo hi B W) :
    ∃ T, gm_sp n h L ct ac lo hi T := by
  have hp0 : (fun e : Nat => if e = 0 then (0 : Int) else 100) 0 = 0 := rfl
  have hp : ∀ e, e < n → e ≠ 0 → (fun e : Nat => if e = 0 then (0 : Int) else 100) e = 100 := by
    intro e _ he
    show (if e = 0 then (0 : Int) else 100) = 100
    rw [if_neg he]
  obtain ⟨hw, hI⟩ := gc_begin n h L ct ac lo hi B W hN hF (fun e : Nat => if e = 0 then (0 : Int) else 100) hp0 hp
  exact (gv_val0 n h L ct ac lo hi hN (fun e : Nat => if e = 0 then (0 : Int) else 100) hp0 hp).1 (gc_win n h L ct ac lo hi B W hN hF (12 * (h + 1)) 0 _ (by omega) hw hI)

theorem gv_lim (hN : gm_net n h L ct ac lo hi) (T : Nat → Int) (hT : gm_sp n h L ct ac lo hi T) (u v : Nat) (hu : u < n) (hv : v < n)
    (huv : u ≠ v) : T v - T u ≤ L u v := by
  have hn6 : n ≤ 6 := hN.2.1
  have h7 : h ≤ 7 := hN.2.2.1
  have hnb := gm_val_nb n L ct ac lo hi 0 (12 * (h + 1)) _ (hT.2.2.2 0 (12 * (h + 1)) (by omega))
  have hpos : ∀ e, e < n → gm_pos ct T (12 * (h + 1)) e = T e := by
    intro e he
    have tt := hT.2.1 e he
    have s1 := gm_stp_u ct e (T e) (by omega) tt.1
    unfold gm_pos
    rw [if_pos (by omega)]
  by_cases hq : T v - T u ≤ L u v
  · exact hq
  · have tu := hT.2.1 u hu
    have tv := hT.2.1 v hv
    refine absurd ⟨u, v, hu, hv, huv, ?_, ?_, ?_⟩ hnb
    · rw [hpos u hu]; omega
    · rw [hpos v hv]; omega
    · rw [hpos u hu, hpos v hv]; omega

/-- what is loaded -/
theorem gv_init (hN : gm_net n h L ct ac lo hi) (hL : ∀ u v, u < n → v < n → -7 ≤ L u v) (b w : Nat → Int32)
    (hb : ∀ u v, u < n → v < n → gd_t b u v ≤ (if u = v then 0 else L u v) ∧
      (gd_t b u v = (if u = v then 0 else L u v) ∨ (ct v = true ∧ u = ac v ∧ gd_t b u v = hi v)))
    (hbc : ∀ c, c < n → ct c = true → gd_t b (ac c) c ≤ hi c)
    (hw : ∀ c u, c < n → ct c = true → u < n → (u ≠ c ∧ gd_t w c u = -(h : Int)) ∨ (u = c ∧ gd_t w c u = hi c)) :
    gd_good n h L ct ac lo hi 7 b w := by
  have h7 : h ≤ 7 := hN.2.2.1
  have hLu := hN.2.2.2.2.2.1
  have hcc0 := hN.2.2.2.2.2.2
  refine ⟨fun u v hu hv => ?_, fun u hu => ?_, fun c u hc hcc hu => ?_, fun u v hu hv huv => ?_, fun c hc hcc => ?_, fun T hT => ?_⟩
  · have z := hb u v hu hv
    have l1 := hL u v hu hv
    have l2 := hLu u v hu hv
    by_cases e : u = v
    · rw [if_pos e] at z
      refine ⟨?_, by omega⟩
      rcases z.2 with q | ⟨q1, q2, q3⟩
      · omega
      · have := hcc0 v hv q1; omega
    · rw [if_neg e] at z
      refine ⟨?_, by omega⟩
      rcases z.2 with q | ⟨q1, q2, q3⟩
      · omega
      · have := hcc0 v hv q1; omega
  · have z := hb u u hu hu
    rw [if_pos rfl] at z
    rcases z.2 with q | ⟨q1, q2, q3⟩
    · exact q
    · exact absurd q2.symm (hcc0 u hu q1).2.1
  · have y := hcc0 c hc hcc
    rcases hw c u hc hcc hu with ⟨_, e⟩ | ⟨_, e⟩
    · exact ⟨by omega, by omega⟩
    · exact ⟨by omega, by omega⟩
  · have z := (hb u v hu hv).1
    rw [if_neg huv] at z
    exact z
  · refine ⟨hbc c hc hcc, ?_⟩
    rcases hw c c hc hcc hc with ⟨e, _⟩ | ⟨_, e⟩
    · exact absurd rfl e
    · omega
  · refine ⟨fun u v hu hv => ?_, fun c hc hcc hTc u hu => ?_⟩
    · rcases (hb u v hu hv).2 with q | ⟨q1, q2, q3⟩
      · by_cases e : u = v
        · rw [if_pos e] at q
          rw [q, e]; omega
        · rw [if_neg e] at q
          rw [q]; exact gv_lim n h L ct ac lo hi hN T hT u v hu hv e
      · rw [q3, q2]
        have := hT.2.2.1 v hv q1
        omega
    · have ta := hT.2.1 _ (hcc0 c hc hcc).1
      have tu := hT.2.1 u hu
      rcases hw c u hc hcc hu with ⟨_, e⟩ | ⟨e1, e⟩
      · omega
      · rw [e, e1]; omega

/-- what a verdict leaves behind -/
def gv_jud (acc : Int32) (b w : Nat → Int32) : Prop :=
  (acc = 1 ∧ gc_fix n L ct ac lo hi (gd_t b) (gd_t w) ∧ gs_snd n h L ct ac lo hi (gd_t b) (gd_t w)) ∨
  (acc = 0 ∧ ∀ T, ¬ gm_sp n h L ct ac lo hi T)
end gv
