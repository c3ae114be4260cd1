-- from loop to loop of a pass
section gy
variable (n h : Nat) (L : Nat → Nat → Int) (ct : Nat → Bool) (ac : Nat → Nat) (lo hi : Nat → Int)

/-- a pass: what holds between its loops -/
def gy_in (K : Int) (b0 w0 : Nat → Int32) (Q : Prop) (f : Int32) (b w : Nat → Int32) : Prop :=
  gd_chg n ct b0 w0 f b w ∧ gd_inv n h L ct ac lo hi K b w ∧ (f = 0 → (∀ x, x < n → gd_t b0 x x = 0) → Q)

theorem gy_begin (K : Int) (b0 w0 : Nat → Int32) (hG : gd_good n h L ct ac lo hi K b0 w0) : gy_in n h L ct ac lo hi K b0 w0 True 0 b0 w0 :=
  ⟨Or.inl ⟨rfl, rfl, rfl⟩, Or.inr hG, fun _ _ => trivial⟩

theorem gy_up (K K' : Int) (hK : K ≤ K') (b0 w0 : Nat → Int32) (Q Q' : Prop) (hQ : Q → Q') (f : Int32) (b w : Nat → Int32)
    (hI : gy_in n h L ct ac lo hi K b0 w0 Q f b w) : gy_in n h L ct ac lo hi K' b0 w0 Q' f b w :=
  ⟨hI.1, gd_inv_up n h L ct ac lo hi K K' b w hK hI.2.1, fun x y => hQ (hI.2.2 x y)⟩

-- chainBounds
def gy_d1 (b0 : Nat → Int32) (j : Nat) : Prop := ∀ x, x < n → ∀ y, y < n → gd_t b0 x y ≤ gd_t b0 x j + gd_t b0 j y

theorem gy_cb0 (K : Int) (b0 w0 : Nat → Int32) (Q : Prop) (j : Nat) (f : Int32) (b w : Nat → Int32)
    (hI : gy_in n h L ct ac lo hi K b0 w0 Q f b w) : gz_cb n h L ct ac lo hi K b0 w0 Q j b 0 0 f b w := by
  refine ⟨hI.1, ?_, fun x y => ⟨hI.2.2 x y, fun a _ _ _ z => by omega⟩⟩
  rcases hI.2.1 with q | q
  · exact Or.inl q
  · exact Or.inr ⟨q, gv_via_0 n j b, fun x _ z => by omega⟩

theorem gy_cbr (K : Int) (b0 w0 : Nat → Int32) (Q : Prop) (j : Nat) (bJ : Nat → Int32) (u : Nat) (f : Int32) (b w : Nat → Int32)
    (hI : gz_cb n h L ct ac lo hi K b0 w0 Q j bJ u n f b w) : gz_cb n h L ct ac lo hi K b0 w0 Q j bJ (u + 1) 0 f b w := by
  refine ⟨hI.1, ?_, fun x y => ⟨(hI.2.2 x y).1, fun a c ha hc z => (hI.2.2 x y).2 a c ha hc (by omega)⟩⟩
  rcases hI.2.1 with q | ⟨q1, q2, q3⟩
  · exact Or.inl q
  · exact Or.inr ⟨q1, q2, fun x hx z => q3 x hx (by omega)⟩

theorem gy_cbe (hN : gm_net n h L ct ac lo hi) (K : Int) (b0 w0 : Nat → Int32) (Q : Prop) (j : Nat) (hj : j < n) (bJ : Nat → Int32) (f : Int32)
    (b w : Nat → Int32) (hI : gz_cb n h L ct ac lo hi K b0 w0 Q j bJ n 0 f b w) :
    gy_in n h L ct ac lo hi K b0 w0 (Q ∧ gy_d1 n b0 j) f b w := by
  refine ⟨hI.1, ?_, fun x y => ⟨(hI.2.2 x y).1, fun a ha c hc => (hI.2.2 x y).2 a c ha hc (Or.inl ha)⟩⟩
  rcases hI.2.1 with q | ⟨q1, q2, q3⟩
  · exact Or.inl q
  · exact gv_via_end n h L ct ac lo hi hN K j bJ b w hj q1 q2 (fun x hx => q3 x hx (Or.inl hx))

-- chainWaits
def gy_d2 (b0 w0 : Nat → Int32) (c u : Nat) : Prop := ∀ x, x < u → x < n → ∀ y, y < n → gd_t w0 c y - gd_t b0 x y ≤ gd_t w0 c x

theorem gy_cw0 (K : Int) (b0 w0 : Nat → Int32) (Q : Prop) (c u : Nat) (hc : c < n) (hcc : ct c = true) (f : Int32) (b w : Nat → Int32)
    (hI : gy_in n h L ct ac lo hi (K + 14 * (u : Int)) b0 w0 (Q ∧ gy_d2 n b0 w0 c u) f b w) :
    gz_cw n h L ct ac lo hi K b0 w0 Q c u 0 f b w := by
  refine ⟨hI.1, ?_, fun x y => ⟨(hI.2.2 x y).1, fun a d ha hd z => (hI.2.2 x y).2 a (by omega) ha d hd⟩⟩
  rcases hI.2.1 with q | q
  · exact Or.inl q
  · exact Or.inr ⟨gd_good_up n h L ct ac lo hi _ _ b w (by omega) q, fun x hx _ => (q.2.2.1 c x hc hcc hx).2⟩

theorem gy_cwr (K : Int) (b0 w0 : Nat → Int32) (Q : Prop) (c u : Nat) (f : Int32) (b w : Nat → Int32)
    (hI : gz_cw n h L ct ac lo hi K b0 w0 Q c u n f b w) :
    gy_in n h L ct ac lo hi (K + 14 * ((u + 1 : Nat) : Int)) b0 w0 (Q ∧ gy_d2 n b0 w0 c (u + 1)) f b w := by
  refine ⟨hI.1, ?_, fun x y => ⟨(hI.2.2 x y).1, fun a ha han d hd => (hI.2.2 x y).2 a d han hd (by omega)⟩⟩
  rcases hI.2.1 with q | ⟨q1, q2⟩
  · exact Or.inl q
  · exact Or.inr (gd_good_up n h L ct ac lo hi _ _ b w (by omega) q1)

-- the four looks of one contingent event
def gy_ok (b w : Nat → Int32) (c : Nat) : Prop :=
  (∀ u, u < n → ∀ v, v < n → gd_t w c v - gd_t b u v ≤ gd_t w c u) ∧
  (∀ k, k < n → ct k = true → k ≠ c → 0 < gd_t w c k → gd_t w c k - lo k ≤ gd_t w c (ac k)) ∧
  (∀ u, u < n → gd_t b u (ac c) ≤ - gd_t w c u ∨ gd_t b u (ac c) ≤ - lo c) ∧
  (∀ v, v < n → gd_t b c v < 0 → gd_t b (ac c) v ≤ lo c + gd_t b c v)

theorem gy_wa0 (K : Int) (b0 w0 : Nat → Int32) (Q : Prop) (c : Nat) (h0 : ct 0 = false) (f : Int32) (b w : Nat → Int32)
    (hI : gy_in n h L ct ac lo hi K b0 w0 Q f b w) : gz_wa n h L ct ac lo hi K b0 w0 Q c 1 f b w := by
  refine ⟨hI.1, hI.2.1, fun x y => ⟨hI.2.2 x y, fun a _ ha hac => ?_⟩⟩
  have e : a = 0 := by omega
  rw [e, h0] at hac
  simp at hac

theorem gy_wae (K : Int) (b0 w0 : Nat → Int32) (Q : Prop) (c : Nat) (f : Int32) (b w : Nat → Int32)
    (hI : gz_wa n h L ct ac lo hi K b0 w0 Q c n f b w) :
    gz_bw n h L ct ac lo hi K b0 w0 (Q ∧ ∀ k, k < n → ct k = true → k ≠ c → 0 < gd_t w0 c k → gd_t w0 c k - lo k ≤ gd_t w0 c (ac k)) c 0 f b w :=
  ⟨hI.1, hI.2.1, fun x y => ⟨⟨(hI.2.2 x y).1, fun k hk => (hI.2.2 x y).2 k hk hk⟩, fun a _ z => absurd z (by omega)⟩⟩

theorem gy_bwe (K : Int) (b0 w0 : Nat → Int32) (Q : Prop) (c : Nat) (f : Int32) (b w : Nat → Int32)
    (hI : gz_bw n h L ct ac lo hi K b0 w0 Q c n f b w) :
    gz_bs n h L ct ac lo hi K b0 w0 (Q ∧ ∀ u, u < n → gd_t b0 u (ac c) ≤ - gd_t w0 c u ∨ gd_t b0 u (ac c) ≤ - lo c) c 0 f b w :=
  ⟨hI.1, hI.2.1, fun x y => ⟨⟨(hI.2.2 x y).1, fun k hk => (hI.2.2 x y).2 k hk hk⟩, fun a _ z => absurd z (by omega)⟩⟩

theorem gy_bse (K : Int) (b0 w0 : Nat → Int32) (Q : Prop) (c : Nat) (f : Int32) (b w : Nat → Int32)
    (hI : gz_bs n h L ct ac lo hi K b0 w0 Q c n f b w) :
    gy_in n h L ct ac lo hi K b0 w0 (Q ∧ ∀ v, v < n → gd_t b0 c v < 0 → gd_t b0 (ac c) v ≤ lo c + gd_t b0 c v) f b w :=
  ⟨hI.1, hI.2.1, fun x y => ⟨(hI.2.2 x y).1, fun k hk => (hI.2.2 x y).2 k hk hk⟩⟩

/-- deduce, before event c -/
def gy_dd (K : Int) (b0 w0 : Nat → Int32) (c : Nat) (f : Int32) (b w : Nat → Int32) : Prop :=
  gy_in n h L ct ac lo hi (K + 84 * (c : Int)) b0 w0
    ((∀ j, j < n → gy_d1 n b0 j) ∧ ∀ x, x < n → x < c → ct x = true → gy_ok n ct ac lo b0 w0 x) f b w

theorem gy_dd_n (K : Int) (b0 w0 : Nat → Int32) (c : Nat) (hcc : ct c = false) (f : Int32) (b w : Nat → Int32)
    (hI : gy_dd n h L ct ac lo hi K b0 w0 c f b w) : gy_dd n h L ct ac lo hi K b0 w0 (c + 1) f b w := by
  refine gy_up n h L ct ac lo hi _ _ (by omega) b0 w0 _ _ (fun z => ⟨z.1, fun x hx hxc hxt => ?_⟩) f b w hI
  by_cases e : x = c
  · rw [e, hcc] at hxt; simp at hxt
  · exact z.2 x hx (by omega) hxt

/-- deduce: the four looks at c, put together -/
theorem gy_dd_s (hn : n ≤ 6) (K : Int) (b0 w0 : Nat → Int32) (c : Nat) (f : Int32) (b w : Nat → Int32)
    (hI : gy_in n h L ct ac lo hi (K + 84 * (c : Int) + 14 * (n : Int)) b0 w0
      ((((((∀ j, j < n → gy_d1 n b0 j) ∧ ∀ x, x < n → x < c → ct x = true → gy_ok n ct ac lo b0 w0 x) ∧ gy_d2 n b0 w0 c n) ∧
        ∀ k, k < n → ct k = true → k ≠ c → 0 < gd_t w0 c k → gd_t w0 c k - lo k ≤ gd_t w0 c (ac k)) ∧
        ∀ u, u < n → gd_t b0 u (ac c) ≤ - gd_t w0 c u ∨ gd_t b0 u (ac c) ≤ - lo c) ∧
        ∀ v, v < n → gd_t b0 c v < 0 → gd_t b0 (ac c) v ≤ lo c + gd_t b0 c v) f b w) :
    gy_dd n h L ct ac lo hi K b0 w0 (c + 1) f b w := by
  refine gy_up n h L ct ac lo hi _ _ (by omega) b0 w0 _ _ (fun z => ?_) f b w hI
  obtain ⟨⟨⟨⟨⟨z1, z2⟩, z3⟩, z4⟩, z5⟩, z6⟩ := z
  refine ⟨z1, fun x hx hxc hxt => ?_⟩
  by_cases e : x = c
  · subst e
    exact ⟨fun u hu v hv => z3 u hu hu v hv, z4, z5, z6⟩
  · exact z2 x hx (by omega) hxt

/-- a pass is over -/
theorem gy_end (hN : gm_net n h L ct ac lo hi) (K : Int) (b0 w0 : Nat → Int32) (hG0 : gd_good n h L ct ac lo hi K b0 w0) (f : Int32) (b w : Nat → Int32)
    (hI : gy_dd n h L ct ac lo hi K b0 w0 n f b w) :
    (gd_bad n h L ct ac lo hi b) ∨
    (gd_good n h L ct ac lo hi (K + 504) b w ∧
      ((f = 0 ∧ b = b0 ∧ w = w0 ∧ gc_fix n L ct ac lo hi (gd_t b0) (gd_t w0)) ∨ (f = 1 ∧ gd_phi n ct b w < gd_phi n ct b0 w0))) := by
  have hn : n ≤ 6 := hN.2.1
  obtain ⟨i1, i2, i3⟩ := hI
  rcases i2 with g | g
  · exact Or.inl g
  · refine Or.inr ⟨gd_good_up n h L ct ac lo hi _ _ b w (by omega) g, ?_⟩
    rcases i1 with ⟨e1, e2, e3⟩ | e
    · obtain ⟨d1, dc⟩ := i3 e1 hG0.2.1
      exact Or.inl ⟨e1, e2, e3, gv_fix n h L ct ac lo hi K b0 w0 hG0 (fun j hj u hu v hv => d1 j hj u hu v hv)
        (fun c hc hcc => dc c hc hc hcc)⟩
    · exact Or.inr e
end gy
