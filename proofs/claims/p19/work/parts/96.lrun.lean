-- the law's own search: its turns
section lx
variable (n h : Nat) (L : Nat → Nat → Int) (ct : Nat → Bool) (ac : Nat → Nat) (lo hi : Nat → Int) (B : Nat)

theorem lx_q (hN : gm_net n h L ct ac lo hi) (hB : ls_B n B) (q : Nat) (hq : q < (h + 1) * B) :
    q < 96 ∧ q / B ≤ h ∧ q % B % n < n ∧ 3 ≤ n := by
  have h7 : h ≤ 7 := hN.2.2.1
  have hn3 : 3 ≤ n := by rcases hB with ⟨a, _⟩ | ⟨a, _⟩ | ⟨a, _⟩ | ⟨a, _⟩ <;> omega
  refine ⟨?_, ?_, Nat.mod_lt _ (by omega), hn3⟩
  · rcases hB with ⟨_, a⟩ | ⟨_, a⟩ | ⟨_, a⟩ | ⟨_, a⟩ <;> subst a <;> omega
  · rcases hB with ⟨_, a⟩ | ⟨_, a⟩ | ⟨_, a⟩ | ⟨_, a⟩ <;> subst a <;> omega

/-- a time of this very slot's event and round: its step -/
theorem lx_own (hN : gm_net n h L ct ac lo hi) (hB : ls_B n B) (q : Nat) (hq : q < (h + 1) * B) (he0 : q % B % n ≠ 0) (hc : ct (q % B % n) = true ↔ q % B < n) :
    gm_stp ct (q % B % n) ((q / B : Nat) : Int) = ((ls_s n B q : Nat) : Int) := by
  have d := ls_div n B hB q
  have m := ls_mod n B hB q
  have hf := ls_half n B hB q
  rw [← m, ← d]
  rw [← m] at hc he0
  cases hcc : ct (ls_s n B q % 6) with
  | true => exact gm_slot_t ct _ he0 hcc (hf.2 (hc.1 hcc))
  | false =>
    refine gm_slot_f ct _ he0 hcc ?_
    by_cases z : ls_s n B q % 12 < 6
    · have := hc.2 (hf.1 z)
      rw [hcc] at this
      simp at this
    · omega

theorem lx_r5 (hN : gm_net n h L ct ac lo hi) (hB : ls_B n B) (q : Nat) (hq : q < (h + 1) * B) (p : Nat → Int) (N : Nat) (x0 x : Nat → Nat) (hT : lw_T n p N x)
    (hw : gm_wf n h ct ac lo hi (ls_s n B q) p) (hcan : lw_can n ct ac lo hi B x0 x q) : x (q % B % n) ≠ q / B := by
  obtain ⟨c1, c2, c3, c4, c5⟩ := hcan
  obtain ⟨q1, q2, q3, q4⟩ := lx_q n h L ct ac lo hi B hN hB q hq
  have h7 : h ≤ 7 := hN.2.2.1
  have own := lx_own n h L ct ac lo hi B hN hB q hq c1 c3
  intro z
  rcases hT.2.2.2 _ q3 with ⟨a, b⟩ | ⟨a, b, c⟩
  · omega
  · rcases hw.2.1 _ q3 with y | ⟨_, _, y⟩
    · omega
    · rw [← c, z, own] at y
      omega

theorem lx_k0 (hN : gm_net n h L ct ac lo hi) (hB : ls_B n B) (q : Nat) (hq : q < (h + 1) * B) (p : Nat → Int) (N : Nat) (x0 x : Nat → Nat) (hT : lw_T n p N x)
    (hw : gm_wf n h ct ac lo hi (ls_s n B q) p) (hk : gm_kind n ct ac lo hi p (ls_s n B q) = 0) : ¬ lw_can n ct ac lo hi B x0 x q := by
  intro hcan
  have hne := lx_r5 n h L ct ac lo hi B hN hB q hq p N x0 x hT hw hcan
  obtain ⟨c1, c2, c3, c4, c5⟩ := hcan
  obtain ⟨q1, q2, q3, q4⟩ := lx_q n h L ct ac lo hi B hN hB q hq
  have h7 : h ≤ 7 := hN.2.2.1
  have d := ls_div n B hB q
  have m := ls_mod n B hB q
  have hf := ls_half n B hB q
  have xe : x (q % B % n) = 15 := c4.resolve_right hne
  have pe : p (q % B % n) = 100 := by
    rcases hT.2.2.2 _ q3 with ⟨a, b⟩ | ⟨a, b, c⟩
    · exact a
    · omega
  rw [← m] at c1 c3 c5 pe q3
  cases hcc : ct (ls_s n B q % 6) with
  | true =>
    have bb := hN.2.2.2.2.2.2 _ q3 hcc
    have r := c5 hcc
    rw [← d] at r
    have pa : p (ac (ls_s n B q % 6)) ≠ 100 ∧ (x (ac (ls_s n B q % 6)) : Int) = p (ac (ls_s n B q % 6)) := by
      rcases hT.2.2.2 _ bb.1 with ⟨a, b⟩ | ⟨a, b, c⟩
      · omega
      · exact ⟨by omega, c⟩
    have kr := gm_kind_run n ct ac lo hi p (ls_s n B q) c1 q3 pe hcc (hf.2 (c3.1 hcc)) pa.1
    by_cases y : ((ls_s n B q / 12 : Nat) : Int) - p (ac (ls_s n B q % 6)) = hi (ls_s n B q % 6)
    · have := kr.1 y; omega
    · have := kr.2 (by omega) (by omega); omega
  | false =>
    have z : 6 ≤ ls_s n B q % 12 := by
      by_cases z : ls_s n B q % 12 < 6
      · have := c3.2 (hf.1 z)
        rw [hcc] at this
        simp at this
      · omega
    have := gm_kind_exe n ct ac lo hi p (ls_s n B q) c1 q3 pe hcc z
    omega

theorem lx_k1 (hN : gm_net n h L ct ac lo hi) (hB : ls_B n B) (q : Nat) (hq : q < (h + 1) * B) (p0 p : Nat → Int) (N0 N N' : Nat) (x0 x x' : Nat → Nat) (hT0 : lw_T n p0 N0 x0)
    (hT : lw_T n p N x) (ha : ∀ e, e < n → p0 e ≠ 100 → p e = p0 e) (hk : gm_kind n ct ac lo hi p (ls_s n B q) ≠ 0)
    (hT' : lw_T n (gm_set p (ls_s n B q % 6) ((ls_s n B q / 12 : Nat) : Int)) N' x') :
    lw_can n ct ac lo hi B x0 x q ∧ lw_can n ct ac lo hi B x0 x' q ∧ x' (q % B % n) = q / B ∧ p (q % B % n) = 100 := by
  obtain ⟨q1, q2, q3, q4⟩ := lx_q n h L ct ac lo hi B hN hB q hq
  have h7 : h ≤ 7 := hN.2.2.1
  have d := ls_div n B hB q
  have m := ls_mod n B hB q
  have hf := ls_half n B hB q
  have hkind := gm_kind_lt n ct ac lo hi p (ls_s n B q)
  have core : q % B % n ≠ 0 ∧ p (q % B % n) = 100 ∧ (ct (q % B % n) = true ↔ q % B < n) ∧
      (ct (q % B % n) = true → p (ac (q % B % n)) ≠ 100 ∧ lo (q % B % n) ≤ ((q / B : Nat) : Int) - p (ac (q % B % n)) ∧ ((q / B : Nat) : Int) - p (ac (q % B % n)) ≤ hi (q % B % n)) := by
    rw [← m, ← d]
    rcases hkind with z | z | z | z
    · exact absurd z hk
    · obtain ⟨k1, k2, k3, k4, k5, k6⟩ := gm_kind_12 n ct ac lo hi p _ (Or.inl z)
      have dd := gm_kind_1 n ct ac lo hi p _ z
      have b := hN.2.2.2.2.2.2 _ k2 k4
      exact ⟨k1, k3, ⟨fun _ => hf.1 k5, fun _ => k4⟩, fun _ => ⟨k6, by omega, by omega⟩⟩
    · obtain ⟨k1, k2, k3, k4, k5, k6⟩ := gm_kind_12 n ct ac lo hi p _ (Or.inr z)
      have dd := gm_kind_2 n ct ac lo hi p _ z
      exact ⟨k1, k3, ⟨fun _ => hf.1 k5, fun _ => k4⟩, fun _ => ⟨k6, by omega, by omega⟩⟩
    · obtain ⟨k1, k2, k3, k4, k5⟩ := gm_kind_3 n ct ac lo hi p _ z
      refine ⟨k1, k3, ⟨fun y => by rw [k4] at y; simp at y, fun y => ?_⟩, fun y => by rw [k4] at y; simp at y⟩
      have := hf.2 y
      omega
  obtain ⟨g1, g2, g3, g4⟩ := core
  have x0e : x0 (q % B % n) = 15 := by
    rcases hT0.2.2.2 _ q3 with ⟨a, b⟩ | ⟨a, b, c⟩
    · exact b
    · have := ha _ q3 (by omega)
      omega
  have xe : x (q % B % n) = 15 := by
    rcases hT.2.2.2 _ q3 with ⟨a, b⟩ | ⟨a, b, c⟩
    · exact b
    · omega
  rw [m, d] at hT'
  have xe' : x' (q % B % n) = q / B := by
    rcases hT'.2.2.2 _ q3 with ⟨a, b⟩ | ⟨a, b, c⟩
    · rw [gm_set_s] at a; omega
    · rw [gm_set_s] at c; omega
  have xa : ct (q % B % n) = true → (x (ac (q % B % n)) : Int) = p (ac (q % B % n)) ∧ (x' (ac (q % B % n)) : Int) = p (ac (q % B % n)) := by
    intro hcc
    have bb := hN.2.2.2.2.2.2 _ q3 hcc
    have pa := (g4 hcc).1
    constructor
    · rcases hT.2.2.2 _ bb.1 with ⟨a, b⟩ | ⟨a, b, c⟩
      · exact absurd a pa
      · exact c
    · rcases hT'.2.2.2 _ bb.1 with ⟨a, b⟩ | ⟨a, b, c⟩
      · rw [gm_set_n _ _ _ _ bb.2.1] at a; exact absurd a pa
      · rw [gm_set_n _ _ _ _ bb.2.1] at c; exact c
  refine ⟨⟨g1, x0e, g3, Or.inl xe, fun hcc => ?_⟩, ⟨g1, x0e, g3, Or.inr xe', fun hcc => ?_⟩, xe', g2⟩
  · rw [(xa hcc).1]; exact (g4 hcc).2
  · rw [(xa hcc).2]; exact (g4 hcc).2

variable (l0 l1 K P : Nat) (first : Nat)

def lx_pf (post : Int32 → Prop) (p0 : Nat → Int) (upI : Int32) (x13 : Int32) (k : Nat) (v : Prop) (p : Nat → Int) : Prop :=
  ∀ (N : Nat) (x : Nat → Nat) (vI : Int32), lw_T n p N x → (∀ e, e < n → p0 e ≠ 100 → p e = p0 e) → (vI = 1 ∧ v ∨ vI = 0 ∧ ¬ v) → k ≤ 50000000 →
    wL_win_68 post (nI n) (lN l0) (lN l1) (lN K) (nI P) (nI B) (nI first) (nI ((h + 1) * B)) (k + 1) x13 (nI N) upI vI (nI (50000000 - k))

theorem lx_i (k : Nat) (hk : k + 1 ≤ 50000000) : nI (50000000 - (k + 1)) + 1 = nI (50000000 - k) := by
  rw [nI_1]
  congr 1
  omega

theorem lx_lt (k : Nat) (hk : k + 1 ≤ 50000000) : ¬ (50000000 : Int32) ≤ nI (50000000 - (k + 1)) :=
  nI_ge (b := 50000000) (by omega) (by decide)

theorem lx_nf (q : Nat) (hq : first ≤ q) (hq2 : q < 1000) : ¬ nI q < nI first := nI_nlt hq (by omega)

theorem lx_1 (hn : n ≤ 6) (post : Int32 → Prop) (p0 : Nat → Int) (k q : Nat) (v : Prop) (p : Nat → Int) (hf : first ≤ q) (hq : q < 1000) (hfull : gm_full n p)
    (H : lx_pf n h B l0 l1 K P first post p0 1 (nI q + (-1)) k True p) : lx_pf n h B l0 l1 K P first post p0 0 (nI q) (k + 1) v p := by
  intro N x vI hT ha hv hk
  have go : wL_win_103 post (wL_win_68 post (nI n) (lN l0) (lN l1) (lN K) (nI P) (nI B) (nI first) (nI ((h + 1) * B)) (k + 1)) (nI n) (lN l0) (lN l1) (lN K) (nI P) (nI B) (nI first) (nI ((h + 1) * B)) (nI q) (nI N) (nI (50000000 - (k + 1))) :=
    lw_full n hn _ p N x hT (fun _ => nm_e (nm_r (lx_i k hk) (H N x 1 hT ha (Or.inl ⟨rfl, trivial⟩) (by omega)))) (fun z => absurd hfull z)
  exact br_f (lx_lt k hk) (br_f (lx_nf first q hf hq) (br_t rfl (br_c (fun _ => go) (fun _ => lw_full n hn _ p N x hT (fun _ => br_f (by decide) go) (fun z => absurd hfull z)))))

theorem lx_2 (hn : n ≤ 6) (post : Int32 → Prop) (p0 : Nat → Int) (k q : Nat) (v : Prop) (p : Nat → Int) (hf : first ≤ q) (hq : q < 1000) (hfull : ¬ gm_full n p) (hE : q = (h + 1) * B)
    (H : lx_pf n h B l0 l1 K P first post p0 1 (nI q + (-1)) k False p) : lx_pf n h B l0 l1 K P first post p0 0 (nI q) (k + 1) v p := by
  intro N x vI hT ha hv hk
  exact br_f (lx_lt k hk) (br_f (lx_nf first q hf hq) (br_t rfl (br_t (by rw [hE]) (lw_full n hn _ p N x hT (fun z => absurd z hfull) (fun _ => nm_e (nm_r (lx_i k hk) (H N x 0 hT ha (Or.inr ⟨rfl, fun z => z⟩) (by omega))))))))

theorem lx_3 (hN : gm_net n h L ct ac lo hi) (hB : ls_B n B) (y : Nat → Nat) (hK : lw_K n ct ac lo hi K y) (post : Int32 → Prop) (p0 : Nat → Int) (x0 : Nat → Nat) (hT0 : lw_T n p0 P x0) (k q : Nat) (v : Prop) (p : Nat → Int)
    (hf : first ≤ q) (hw : gm_wf n h ct ac lo hi (ls_s n B q) p) (hfull : ¬ gm_full n p) (hq : q < (h + 1) * B) (hk0 : gm_kind n ct ac lo hi p (ls_s n B q) = 0)
    (H : lx_pf n h B l0 l1 K P first post p0 0 (nI (q + 1)) k v p) : lx_pf n h B l0 l1 K P first post p0 0 (nI q) (k + 1) v p := by
  intro N x vI hT ha hv hk
  have hn : n ≤ 6 := hN.2.1
  have h7 : h ≤ 7 := hN.2.2.1
  obtain ⟨q1, q2, q3, q4⟩ := lx_q n h L ct ac lo hi B hN hB q hq
  have hE96 : (h + 1) * B ≤ 96 := by rcases hB with ⟨_, a⟩ | ⟨_, a⟩ | ⟨_, a⟩ | ⟨_, a⟩ <;> subst a <;> omega
  have nE : ¬ nI q = nI ((h + 1) * B) := fun z => by have := (nI_eq (by omega) (by omega)).1 z; omega
  refine br_f (lx_lt k hk) (br_f (lx_nf first q hf (by omega)) (br_t rfl (br_f nE (lw_full n hn _ p N x hT (fun z => absurd z hfull) (fun _ => br_t rfl ?_)))))
  refine lw_120 n h L ct ac lo hi B hN hB post _ (lN l0) (lN l1) K y hK p0 p P N x0 x hT0 hT q hq 0 vI _ _ _ (fun can d hcan hd => ?_)
  have c0 : can = 0 := by
    rcases hcan with ⟨_, z⟩ | ⟨z, _⟩
    · exact absurd z (lx_k0 n h L ct ac lo hi B hN hB q hq p N x0 x hT hw hk0)
    · exact z
  exact br_t rfl (br_t c0 (nm_r (nI_1 q) (nm_r (lx_i k hk) (H N x vI hT ha hv (by omega)))))

theorem lx_4 (hN : gm_net n h L ct ac lo hi) (hB : ls_B n B) (y : Nat → Nat) (hK : lw_K n ct ac lo hi K y) (z : Nat → Nat) (hz : lw_L n L l0 l1 z) (hr : ∀ u v, u < n → v < n → -7 ≤ L u v ∧ L u v ≤ 7)
    (post : Int32 → Prop) (p0 : Nat → Int) (x0 : Nat → Nat) (hT0 : lw_T n p0 P x0) (k q : Nat) (v : Prop) (p : Nat → Int)
    (hf : first ≤ q) (hw : gm_wf n h ct ac lo hi (ls_s n B q) p) (hb : ¬ gm_broken n L p) (hfull : ¬ gm_full n p) (hq : q < (h + 1) * B) (hk0 : gm_kind n ct ac lo hi p (ls_s n B q) ≠ 0)
    (H1 : gm_broken n L (gm_set p (ls_s n B q % 6) ((ls_s n B q / 12 : Nat) : Int)) → lx_pf n h B l0 l1 K P first post p0 1 (nI (q + 1) + (-1)) k False (gm_set p (ls_s n B q % 6) ((ls_s n B q / 12 : Nat) : Int)))
    (H2 : ¬ gm_broken n L (gm_set p (ls_s n B q % 6) ((ls_s n B q / 12 : Nat) : Int)) → lx_pf n h B l0 l1 K P first post p0 0 (nI (q + 1)) k v (gm_set p (ls_s n B q % 6) ((ls_s n B q / 12 : Nat) : Int))) :
    lx_pf n h B l0 l1 K P first post p0 0 (nI q) (k + 1) v p := by
  intro N x vI hT ha hv hk
  have hn : n ≤ 6 := hN.2.1
  have h7 : h ≤ 7 := hN.2.2.1
  obtain ⟨q1, q2, q3, q4⟩ := lx_q n h L ct ac lo hi B hN hB q hq
  have d := ls_div n B hB q
  have m := ls_mod n B hB q
  have hE96 : (h + 1) * B ≤ 96 := by rcases hB with ⟨_, a⟩ | ⟨_, a⟩ | ⟨_, a⟩ | ⟨_, a⟩ <;> subst a <;> omega
  have nE : ¬ nI q = nI ((h + 1) * B) := fun z => by have := (nI_eq (by omega) (by omega)).1 z; omega
  have pe : p (q % B % n) = 100 := by
    rw [← m]
    rcases gm_kind_lt n ct ac lo hi p (ls_s n B q) with w | w | w | w
    · exact absurd w hk0
    · exact (gm_kind_12 n ct ac lo hi p _ (Or.inl w)).2.2.1
    · exact (gm_kind_12 n ct ac lo hi p _ (Or.inr w)).2.2.1
    · exact (gm_kind_3 n ct ac lo hi p _ w).2.2.1
  obtain ⟨N', x', hT', eN⟩ := lw_set n hn p N x hT (q % B % n) (q / B) q3 (by omega) pe
  have hT2 : lw_T n (gm_set p (ls_s n B q % 6) ((ls_s n B q / 12 : Nat) : Int)) N' x' := by rw [m, d]; exact hT'
  obtain ⟨k1, k2, k3, k4⟩ := lx_k1 n h L ct ac lo hi B hN hB q hq p0 p P N N' x0 x x' hT0 hT ha hk0 hT2
  have ha' : ∀ e, e < n → p0 e ≠ 100 → gm_set p (ls_s n B q % 6) ((ls_s n B q / 12 : Nat) : Int) e = p0 e := by
    intro e he h0
    rw [gm_set_n _ _ _ _ (fun w => ?_)]
    · exact ha e he h0
    · rw [m] at w
      rw [w] at h0 he
      have := ha _ he h0
      rw [pe] at this
      exact h0 this.symm
  refine br_f (lx_lt k hk) (br_f (lx_nf first q hf (by omega)) (br_t rfl (br_f nE (lw_full n hn _ p N x hT (fun w => absurd w hfull) (fun _ => br_t rfl ?_)))))
  refine lw_120 n h L ct ac lo hi B hN hB post _ (lN l0) (lN l1) K y hK p0 p P N x0 x hT0 hT q hq 0 vI _ _ _ (fun can dd hcan hd => ?_)
  have c1 : ¬ can = 0 := by
    rcases hcan with ⟨w, _⟩ | ⟨_, w⟩
    · rw [w]; decide
    · exact absurd k1 w
  refine br_t rfl (br_f c1 (nm_r eN (lw_fits n L hn l0 l1 z hz hr _ _ N' x' hT' (q % B % n) q3 (fun hfit => br_f (by decide) ?_) (fun hno => br_t rfl ?_))))
  · have nb : ¬ gm_broken n L (gm_set p (ls_s n B q % 6) ((ls_s n B q / 12 : Nat) : Int)) := by
      rw [m, d]
      intro ⟨u, w, hu, hw2, huw, e1, e2, e3⟩
      by_cases a : u = q % B % n
      · have := (hfit w hw2 (fun c => huw (by rw [a, c])) e2 (by rw [gm_set_s]; omega)).2
        rw [a] at e3
        omega
      · by_cases c : w = q % B % n
        · have := (hfit u hu a e1 (by rw [gm_set_s]; omega)).1
          rw [c] at e3
          omega
        · rw [gm_set_n _ _ _ _ a, gm_set_n _ _ _ _ c] at e3
          rw [gm_set_n _ _ _ _ a] at e1
          rw [gm_set_n _ _ _ _ c] at e2
          exact hb ⟨u, w, hu, hw2, huw, e1, e2, e3⟩
    exact nm_r (nI_1 q) (nm_r (lx_i k hk) (H2 nb N' x' vI hT2 ha' hv (by omega)))
  · have br : gm_broken n L (gm_set p (ls_s n B q % 6) ((ls_s n B q / 12 : Nat) : Int)) := by
      rw [m, d]
      obtain ⟨u, hu, hue, e1, e2, e3⟩ := hno
      rcases e3 with e3 | e3
      · exact ⟨u, _, hu, q3, hue, e1, e2, e3⟩
      · exact ⟨_, u, q3, hu, fun c => hue c.symm, e2, e1, e3⟩
    have yy := H1 br N' x' 0 hT2 ha' (Or.inr ⟨rfl, fun w => w⟩) (by omega)
    rw [pk_m1] at yy
    exact nm_r (lx_i k hk) yy

theorem lx_5 (hN : gm_net n h L ct ac lo hi) (hB : ls_B n B) (y : Nat → Nat) (hK : lw_K n ct ac lo hi K y) (post : Int32 → Prop) (p0 : Nat → Int) (x0 : Nat → Nat) (hT0 : lw_T n p0 P x0) (k q : Nat) (v : Prop) (p : Nat → Int)
    (hf : first ≤ q) (hw : gm_wf n h ct ac lo hi (ls_s n B q) p) (hq : q < (h + 1) * B)
    (H : lx_pf n h B l0 l1 K P first post p0 1 (nI q + (-1)) k v p) : lx_pf n h B l0 l1 K P first post p0 1 (nI (q + 1) + (-1)) (k + 1) v p := by
  intro N x vI hT ha hv hk
  obtain ⟨q1, q2, q3, q4⟩ := lx_q n h L ct ac lo hi B hN hB q hq
  have h7 : h ≤ 7 := hN.2.2.1
  rw [pk_m1]
  refine br_f (lx_lt k hk) (br_f (lx_nf first q hf (by omega)) (br_f (by decide) ?_))
  refine lw_120 n h L ct ac lo hi B hN hB post _ (lN l0) (lN l1) K y hK p0 p P N x0 x hT0 hT q hq 1 vI _ _ _ (fun can dd hcan hd => ?_)
  have go := H N x vI hT ha hv (by omega)
  refine br_f (by decide) (br_c (fun _ => nm_e (nm_r (lx_i k hk) go)) (fun c => br_f (fun w => ?_) (nm_e (nm_r (lx_i k hk) go))))
  rcases hcan with ⟨_, cc⟩ | ⟨cc, _⟩
  · have l16 := lw_lt16 n p N x hT (q % B % n)
    exact lx_r5 n h L ct ac lo hi B hN hB q hq p N x0 x hT hw cc ((nI_eq (by omega) (by omega)).1 w)
  · exact c cc

theorem lx_6 (hN : gm_net n h L ct ac lo hi) (hB : ls_B n B) (y : Nat → Nat) (hK : lw_K n ct ac lo hi K y) (post : Int32 → Prop) (p0 : Nat → Int) (x0 : Nat → Nat) (hT0 : lw_T n p0 P x0) (k q : Nat) (v : Prop) (p : Nat → Int)
    (hf : first ≤ q) (ha1 : ∀ e, e < n → p0 e ≠ 100 → p e = p0 e) (hw : gm_wf n h ct ac lo hi (ls_s n B q) p) (hq : q < (h + 1) * B) (hk0 : gm_kind n ct ac lo hi p (ls_s n B q) ≠ 0)
    (H1 : (gm_kind n ct ac lo hi p (ls_s n B q) = 2 ∧ v ∨ gm_kind n ct ac lo hi p (ls_s n B q) = 3 ∧ ¬ v) → lx_pf n h B l0 l1 K P first post p0 0 (nI (q + 1)) k v p)
    (H2 : ¬ (gm_kind n ct ac lo hi p (ls_s n B q) = 2 ∧ v ∨ gm_kind n ct ac lo hi p (ls_s n B q) = 3 ∧ ¬ v) → lx_pf n h B l0 l1 K P first post p0 1 (nI q + (-1)) k v p) :
    lx_pf n h B l0 l1 K P first post p0 1 (nI (q + 1) + (-1)) (k + 1) v (gm_set p (ls_s n B q % 6) ((ls_s n B q / 12 : Nat) : Int)) := by
  intro N x vI hT ha hv hk
  obtain ⟨q1, q2, q3, q4⟩ := lx_q n h L ct ac lo hi B hN hB q hq
  have hn : n ≤ 6 := hN.2.1
  have h7 : h ≤ 7 := hN.2.2.1
  have d := ls_div n B hB q
  have m := ls_mod n B hB q
  have hf2 := ls_half n B hB q
  have hkind := gm_kind_lt n ct ac lo hi p (ls_s n B q)
  have pe : p (ls_s n B q % 6) = 100 := by
    rcases hkind with w | w | w | w
    · exact absurd w hk0
    · exact (gm_kind_12 n ct ac lo hi p _ (Or.inl w)).2.2.1
    · exact (gm_kind_12 n ct ac lo hi p _ (Or.inr w)).2.2.1
    · exact (gm_kind_3 n ct ac lo hi p _ w).2.2.1
  have hback : gm_set (gm_set p (ls_s n B q % 6) ((ls_s n B q / 12 : Nat) : Int)) (ls_s n B q % 6) 100 = p := by
    funext e
    by_cases c : e = ls_s n B q % 6
    · rw [c, gm_set_s, pe]
    · rw [gm_set_n _ _ _ _ c, gm_set_n _ _ _ _ c]
  obtain ⟨N1, x1, hT1, e1⟩ := lw_uns n hn _ N x hT (ls_s n B q % 6) (by rw [m]; exact q3)
  rw [hback] at hT1
  rw [m] at e1
  obtain ⟨k1, k2, k3, k4⟩ := lx_k1 n h L ct ac lo hi B hN hB q hq p0 p P N1 N x0 x1 x hT0 hT1 ha1 hk0 hT
  rw [pk_m1]
  refine br_f (lx_lt k hk) (br_f (lx_nf first q hf (by omega)) (br_f (by decide) ?_))
  refine lw_120 n h L ct ac lo hi B hN hB post _ (lN l0) (lN l1) K y hK p0 _ P N x0 x hT0 hT q hq 1 vI _ _ _ (fun can dd hcan hd => ?_)
  have c1 : ¬ can = 0 := by
    rcases hcan with ⟨w, _⟩ | ⟨_, w⟩
    · rw [w]; decide
    · exact absurd k2 w
  have hv0 : vI = 0 ↔ ¬ v := by
    rcases hv with ⟨a, b⟩ | ⟨a, b⟩
    · rw [a]; exact ⟨fun w => absurd w (by decide), fun w => absurd b w⟩
    · exact ⟨fun _ => b, fun _ => a⟩
  have down := fun w => H1 w N1 x1 vI hT1 ha1 hv (by omega)
  have back := fun w => H2 w N1 x1 vI hT1 ha1 hv (by omega)
  refine br_f (by decide) (br_f c1 (br_t (by rw [k3]) (nm_r e1 ?_)))
  cases hcc : ct (q % B % n) with
  | false =>
    have hk3 : gm_kind n ct ac lo hi p (ls_s n B q) = 3 := by
      rcases hkind with w | w | w | w
      · exact absurd w hk0
      · have := (gm_kind_12 n ct ac lo hi p _ (Or.inl w)).2.2.2.1
        rw [m, hcc] at this; simp at this
      · have := (gm_kind_12 n ct ac lo hi p _ (Or.inr w)).2.2.2.1
        rw [m, hcc] at this; simp at this
      · exact w
    refine br_t rfl (br_c (fun w => nm_r (nI_1 q) (nm_r (lx_i k hk) (down (Or.inr ⟨hk3, hv0.1 w⟩)))) (fun w => nm_e (nm_r (lx_i k hk) (back (fun b => ?_)))))
    rcases b with ⟨b, _⟩ | ⟨_, b⟩
    · omega
    · exact w (hv0.2 b)
  | true =>
    have hk12 : gm_kind n ct ac lo hi p (ls_s n B q) = 1 ∨ gm_kind n ct ac lo hi p (ls_s n B q) = 2 := by
      rcases hkind with w | w | w | w
      · exact absurd w hk0
      · exact Or.inl w
      · exact Or.inr w
      · have := (gm_kind_3 n ct ac lo hi p _ w).2.2.2.1
        rw [m, hcc] at this; simp at this
    obtain ⟨y0, y1, y2⟩ := (hK.2.2.2 _ q3).2 hcc
    have r2 := gq_nI (y (3 * (q % B % n) + 2)) (by have := hK.2.2.1 (3 * (q % B % n) + 2); omega)
    have hdd := hd hcc
    have bb := hN.2.2.2.2.2.2 _ q3 hcc
    have xa : (x (ac (q % B % n)) : Int) = p (ac (q % B % n)) := by
      have pa : p (ac (q % B % n)) ≠ 100 := by
        rw [← m]
        exact (gm_kind_12 n ct ac lo hi p _ hk12).2.2.2.2.2
      rcases hT.2.2.2 _ bb.1 with ⟨a, b⟩ | ⟨a, b, c⟩
      · rw [m, gm_set_n _ _ _ _ bb.2.1] at a; exact absurd a pa
      · rw [m, gm_set_n _ _ _ _ bb.2.1] at c; exact c
    rw [xa] at hdd
    have nturn0 : ¬ v → ¬ (gm_kind n ct ac lo hi p (ls_s n B q) = 2 ∧ v ∨ gm_kind n ct ac lo hi p (ls_s n B q) = 3 ∧ ¬ v) := by
      intro w b
      rcases b with ⟨_, b⟩ | ⟨b, _⟩
      · exact w b
      · omega
    refine br_f (by decide) (br_c (fun w => nm_e (nm_r (lx_i k hk) (back (nturn0 (hv0.1 w))))) (fun w => ?_))
    have hvt : v := Classical.byContradiction (fun b => w (hv0.2 b))
    refine lc_link _ K y hK.1 hK.2.1 _ 2 (by omega) (by omega) (hK.2.2.1 _) (br_c (fun w2 => nm_e (nm_r (lx_i k hk) (back (fun b => ?_)))) (fun w2 => nm_r (nI_1 q) (nm_r (lx_i k hk) (down (Or.inl ⟨?_, hvt⟩)))))
    · have z := (gn_le _ _).1 w2
      rw [r2, hdd] at z
      rcases b with ⟨b, _⟩ | ⟨b, _⟩
      · have e2 := gm_kind_2 n ct ac lo hi p _ b
        rw [m, d] at e2
        omega
      · omega
    · have z := (gn_lt _ _).1 (Int32.not_le.1 w2)
      rw [r2, hdd] at z
      rcases hk12 with b | b
      · have e2 := gm_kind_1 n ct ac lo hi p _ b
        rw [m, d] at e2
        omega
      · exact b

/-- the search's end -/
theorem lx_end (post : Int32 → Prop) (p0 : Nat → Int) (k : Nat) (v : Prop) (p : Nat → Int) (hf : first < 1000)
    (hpost : ∀ r : Int32, (r = 1 ∧ v ∨ r = 0 ∧ ¬ v) → post r) : lx_pf n h B l0 l1 K P first post p0 1 (nI first + (-1)) (k + 1) v p := by
  intro N x vI hT ha hv hk
  have hl : nI first + (-1) < nI first := by
    have e1 := gq_nI first (by omega)
    rw [gn_lt, gn_add _ _ ⟨by omega, by omega⟩ ⟨by decide, by decide⟩, e1, gq_m1]
    omega
  refine br_f (lx_lt k hk) (br_t hl ⟨?_, hpost vI hv⟩)
  rcases hv with ⟨b, _⟩ | ⟨b, _⟩
  · rw [b]; rfl
  · rw [b]; rfl

theorem lx_win (hN : gm_net n h L ct ac lo hi) (hB : ls_B n B) (y : Nat → Nat) (hK : lw_K n ct ac lo hi K y) (z : Nat → Nat) (hz : lw_L n L l0 l1 z) (hr : ∀ u v, u < n → v < n → -7 ≤ L u v ∧ L u v ≤ 7)
    (post : Int32 → Prop) (p0 : Nat → Int) (x0 : Nat → Nat) (hT0 : lw_T n p0 P x0) (t0 m : Nat) (ht0 : t0 ≤ h) (hm : 12 * t0 + m = 12 * (h + 1)) (hw : gm_wf n h ct ac lo hi (12 * t0) p0)
    (hpost : ∀ r : Int32, (r = 1 ∧ gm_val n L ct ac lo hi m (12 * t0) p0 ∨ r = 0 ∧ ¬ gm_val n L ct ac lo hi m (12 * t0) p0) → post r) :
    wpL_win post () (nI n) (nI h) (lN l0) (lN l1) (lN K) (nI P) (nI t0) := by
  have hn : n ≤ 6 := hN.2.1
  have h7 : h ≤ 7 := hN.2.2.1
  have hn3 : 3 ≤ n := by rcases hB with ⟨a, _⟩ | ⟨a, _⟩ | ⟨a, _⟩ | ⟨a, _⟩ <;> omega
  have hB2 : B = 2 * n := by rcases hB with ⟨a, b⟩ | ⟨a, b⟩ | ⟨a, b⟩ | ⟨a, b⟩ <;> omega
  have hE96 : (h + 1) * B ≤ 96 := by rcases hB with ⟨_, a⟩ | ⟨_, a⟩ | ⟨_, a⟩ | ⟨_, a⟩ <;> subst a <;> omega
  have htE : t0 * B ≤ (h + 1) * B := Nat.mul_le_mul_right B (by omega)
  have es := ls_begin n B hB t0 (t0 * B) rfl
  refine loop_0 (fun f i (_ : Unit) => wL_win_3 post (nI n) (nI h) (lN l0) (lN l1) (lN K) (nI P) (nI t0) f (nI i))
    (fun i _ => ∀ e, e < i → ∀ u, u < n → u ≠ e → p0 u ≠ 100 → p0 e ≠ 100 → p0 e - p0 u ≤ L u e ∧ p0 u - p0 e ≤ L e u) n () (fun u hu => absurd hu (by omega)) ?_ ?_
  · intro f _ hs
    have hb : ¬ gm_broken n L p0 := by
      intro ⟨u, w, hu, hw2, huw, e1, e2, e3⟩
      have := (hs w hw2 u hu huw e1 e2).1
      omega
    have k1 : (2 : Int32) * nI n = nI B := by
      have e2 : (2 : Int32) = nI 2 := by decide
      rw [e2, pk_mul, hB2]
    have k3 : (nI h + 1) * nI B = nI ((h + 1) * B) := by rw [nI_1, pk_mul]
    refine br_t (Int32.le_refl _) (nm_r k1 (nm_r (pk_mul t0 B) (nm_r k3 ?_)))
    obtain ⟨V, hV⟩ : ∃ V : Nat, V = 50000000 := ⟨_, rfl⟩
    have e0 : (0 : Int32) = nI (50000000 - V) := by rw [hV]; rfl
    have eV : ls_V n h L ct ac lo hi B (t0 * B) p0 = gm_val n L ct ac lo hi m (12 * t0) p0 := by
      unfold ls_V
      rw [es, show 12 * (h + 1) - 12 * t0 = m by omega]
    have top : ls_bd n h ct B (t0 * B) p0 ≤ 11455506 := by
      unfold ls_bd
      exact sr_bd_top n h ct _ _ p0 h7 (by omega)
    have main : lx_pf n h B l0 l1 K P (t0 * B) post p0 0 (nI (t0 * B)) V False p0 := by
      refine ls_dfs n h L ct ac lo hi B (t0 * B) hN hB (fun p => ∀ e, e < n → p0 e ≠ 100 → p e = p0 e) ?_
        (fun k q v p => lx_pf n h B l0 l1 K P (t0 * B) post p0 0 (nI q) k v p) (fun k q v p => lx_pf n h B l0 l1 K P (t0 * B) post p0 1 (nI q + (-1)) k v p) ?_ ?_ ?_ ?_ ?_ ?_
        ((h + 1) * B - t0 * B) (t0 * B) p0 V False (Nat.le_refl _) (by omega) (fun _ _ _ => rfl) (by rw [es]; exact hw) hb (by omega) ?_
      · intro p e t he hA hp e' he' h0
        by_cases c : e' = e
        · rw [c] at h0
          have := hA e he h0
          rw [hp] at this
          exact absurd this.symm h0
        · rw [gm_set_n _ _ _ _ c]; exact hA e' he' h0
      · exact fun k q v p hf hqE hw' hfull H => lx_1 n h B l0 l1 K P (t0 * B) hn post p0 k q v p hf (by omega) hfull H
      · exact fun k q v p hf hw' hfull hE H => lx_2 n h B l0 l1 K P (t0 * B) hn post p0 k q v p hf (by omega) hfull hE H
      · exact fun k q v p hf hw' hfull hq hk0 H => lx_3 n h L ct ac lo hi B l0 l1 K P (t0 * B) hN hB y hK post p0 x0 hT0 k q v p hf hw' hfull hq hk0 H
      · exact fun k q v p hf hw' hb' hfull hq hk0 H1 H2 => lx_4 n h L ct ac lo hi B l0 l1 K P (t0 * B) hN hB y hK z hz hr post p0 x0 hT0 k q v p hf hw' hb' hfull hq hk0 H1 H2
      · exact fun k q v p hf hw' hq H => lx_5 n h L ct ac lo hi B l0 l1 K P (t0 * B) hN hB y hK post p0 x0 hT0 k q v p hf hw' hq H
      · exact fun k q v p hf hag hw' hq hk0 H1 H2 => lx_6 n h L ct ac lo hi B l0 l1 K P (t0 * B) hN hB y hK post p0 x0 hT0 k q v p hf hag hw' hq hk0 H1 H2
      · intro k' hk'
        obtain ⟨k1, rfl⟩ : ∃ k1, k' = k1 + 1 := ⟨k' - 1, by omega⟩
        rw [eV]
        exact lx_end n h B l0 l1 K P (t0 * B) post p0 k1 _ p0 (by omega) hpost
    have yy := main P x0 0 hT0 (fun _ _ _ => rfl) (Or.inr ⟨rfl, fun w => w⟩) (by omega)
    rw [← e0] at yy
    exact ⟨V + 1, yy⟩
  · intro f e _ he hs ih
    refine br_f (nI_ge he (by omega)) (lw_fits n L hn l0 l1 z hz hr _ p0 P x0 hT0 e he (fun hfit => br_f (by decide) (nm_r (nI_1 e) (ih () (fun e' he' => ?_)))) (fun hno => br_t rfl (hpost 0 (Or.inr ⟨rfl, fun w => ?_⟩))))
    · by_cases c : e' = e
      · rw [c]; exact hfit
      · exact hs e' (by omega)
    · refine gm_val_nb n L ct ac lo hi _ _ p0 w ?_
      obtain ⟨u, hu, hue, e1, e2, e3⟩ := hno
      rcases e3 with e3 | e3
      · exact ⟨u, e, hu, he, hue, e1, e2, e3⟩
      · exact ⟨e, u, he, hu, fun c => hue c.symm, e2, e1, e3⟩
end lx
