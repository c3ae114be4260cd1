-- the search that goes forward and back over the steps finds the value of a position,
-- within 2 * 97 * 9^5 turns. Pf k s won back p md stands for 'with k turns left the loop, in this state, ends as wished'.
section sr
variable (n h : Nat) (L : Nat → Nat → Int) (ct : Nat → Bool) (ac : Nat → Nat) (lo hi : Nat → Int)

def sr_pr (f : Nat → Nat) : Nat → Nat
  | 0 => 1
  | k + 1 => sr_pr f k * f (k + 1)

theorem sr_pr_c (f g : Nat → Nat) : ∀ k, (∀ e, 1 ≤ e → e ≤ k → f e = g e) → sr_pr f k = sr_pr g k := by
  intro k
  induction k with
  | zero => intro _; rfl
  | succ k ih =>
    intro hh
    unfold sr_pr
    rw [ih (fun e a b => hh e a (by omega)), hh (k + 1) (by omega) (by omega)]

theorem sr_pr_mono (f g : Nat → Nat) : ∀ k, (∀ e, 1 ≤ e → e ≤ k → f e ≤ g e) → sr_pr f k ≤ sr_pr g k := by
  intro k
  induction k with
  | zero => intro _; exact Nat.le_refl _
  | succ k ih =>
    intro hh
    unfold sr_pr
    exact Nat.mul_le_mul (ih (fun e a b => hh e a (by omega))) (hh (k + 1) (by omega) (by omega))

theorem sr_pr_pos (f : Nat → Nat) : ∀ k, (∀ e, 1 ≤ e → e ≤ k → 1 ≤ f e) → 1 ≤ sr_pr f k := by
  intro k
  induction k with
  | zero => intro _; exact Nat.le_refl _
  | succ k ih =>
    intro hh
    unfold sr_pr
    exact Nat.mul_le_mul (ih (fun e a b => hh e a (by omega))) (hh (k + 1) (by omega) (by omega))

/-- one factor taken out -/
theorem sr_pr_out (f : Nat → Nat) (e : Nat) : ∀ k, 1 ≤ e → e ≤ k →
    ∃ Y, ∀ g : Nat → Nat, (∀ x, 1 ≤ x → x ≤ k → x ≠ e → g x = f x) → sr_pr g k = Y * g e := by
  intro k
  induction k with
  | zero => intro a b; omega
  | succ k ih =>
    intro a b
    by_cases hx : e = k + 1
    · subst hx
      refine ⟨sr_pr f k, fun g hg => ?_⟩
      show sr_pr g k * g (k + 1) = sr_pr f k * g (k + 1)
      rw [sr_pr_c g f k (fun x p q => hg x p (by omega) (by omega))]
    · obtain ⟨Y, hY⟩ := ih a (by omega)
      refine ⟨Y * f (k + 1), fun g hg => ?_⟩
      show sr_pr g k * g (k + 1) = Y * f (k + 1) * g e
      rw [hY g (fun x p q r => hg x p (by omega) r), hg (k + 1) (by omega) (by omega) (fun z => hx z.symm)]
      rw [Nat.mul_assoc, Nat.mul_assoc, Nat.mul_comm (g e)]

/-- the steps of event e that are still to come -/
def sr_left (s e : Nat) : Nat := (h + 1) - (s + 11 - (if ct e = true then e else 6 + e)) / 12

def sr_fac (s : Nat) (p : Nat → Int) (e : Nat) : Nat := if e < n ∧ p e = 100 then 1 + sr_left h ct s e else 1

def sr_bd (m s : Nat) (p : Nat → Int) : Nat := 2 * (m + 1) * sr_pr (sr_fac n h ct s p) 5

theorem sr_left_mono (s e : Nat) : sr_left h ct (s + 1) e ≤ sr_left h ct s e := by
  unfold sr_left
  split <;> omega

theorem sr_left_b (s e : Nat) : sr_left h ct s e ≤ h + 1 := by
  unfold sr_left
  omega

/-- at its own step an event has one step less to come -/
theorem sr_left_own (s : Nat) (he : s % 6 ≠ 0) (hs : s < 12 * (h + 1)) (hst : gm_stp ct (s % 6) ((s / 12 : Nat) : Int) = (s : Int)) :
    sr_left h ct s (s % 6) = sr_left h ct (s + 1) (s % 6) + 1 := by
  unfold sr_left
  cases hc : ct (s % 6) with
  | true =>
    rw [gm_stp_t ct _ _ he hc] at hst
    simp only [if_pos]
    omega
  | false =>
    rw [gm_stp_f ct _ _ he hc] at hst
    simp only [Bool.false_eq_true, if_false]
    omega

theorem sr_left_oth (s e : Nat) (he : e ≠ 0) (he6 : e < 6) (hx : e ≠ s % 6) : sr_left h ct (s + 1) e = sr_left h ct s e := by
  unfold sr_left
  split <;> omega

theorem sr_fac_1 (s : Nat) (p : Nat → Int) (e : Nat) : 1 ≤ sr_fac n h ct s p e := by
  unfold sr_fac
  split <;> omega

theorem sr_bd_2 (m s : Nat) (p : Nat → Int) : 2 * (m + 1) ≤ sr_bd n h ct m s p := by
  unfold sr_bd
  have := sr_pr_pos (sr_fac n h ct s p) 5 (fun e _ _ => sr_fac_1 n h ct s p e)
  exact Nat.le_trans (by omega) (Nat.mul_le_mul_left (2 * (m + 1)) this)

/-- the slot passes -/
theorem sr_bd_pass (m s : Nat) (p : Nat → Int) : sr_bd n h ct m (s + 1) p + 2 ≤ sr_bd n h ct (m + 1) s p := by
  unfold sr_bd
  have x1 := sr_pr_pos (sr_fac n h ct s p) 5 (fun e _ _ => sr_fac_1 n h ct s p e)
  have x2 : sr_pr (sr_fac n h ct (s + 1) p) 5 ≤ sr_pr (sr_fac n h ct s p) 5 := by
    refine sr_pr_mono _ _ 5 (fun e _ _ => ?_)
    unfold sr_fac
    have := sr_left_mono h ct s e
    split <;> omega
  generalize sr_pr (sr_fac n h ct s p) 5 = X at *
  generalize sr_pr (sr_fac n h ct (s + 1) p) 5 = X' at *
  have x3 : 2 * (m + 1) * X' ≤ 2 * (m + 1) * X := Nat.mul_le_mul_left _ x2
  have x4 : 2 * (m + 1 + 1) * X = 2 * (m + 1) * X + 2 * X := by
    rw [← Nat.add_mul]
    congr 1
  omega

/-- the slot's event: both children -/
theorem sr_bd_two (m s : Nat) (p : Nat → Int) (hn : n ≤ 6) (he : s % 6 ≠ 0) (hen : s % 6 < n) (hpe : p (s % 6) = 100) (t : Int) (ht : t ≠ 100)
    (hs : s < 12 * (h + 1)) (hst : gm_stp ct (s % 6) ((s / 12 : Nat) : Int) = (s : Int)) :
    sr_bd n h ct m (s + 1) (gm_set p (s % 6) t) + sr_bd n h ct m (s + 1) p + 3 ≤ sr_bd n h ct (m + 1) s p := by
  unfold sr_bd
  obtain ⟨Y, hY⟩ := sr_pr_out (sr_fac n h ct s p) (s % 6) 5 (by omega) (by omega)
  have y1 := hY (sr_fac n h ct s p) (fun x _ _ _ => rfl)
  have y2 := hY (sr_fac n h ct (s + 1) p) (fun x a b c => by
    unfold sr_fac
    rw [sr_left_oth h ct s x (by omega) (by omega) c])
  have y3 := hY (sr_fac n h ct (s + 1) (gm_set p (s % 6) t)) (fun x a b c => by
    unfold sr_fac
    rw [sr_left_oth h ct s x (by omega) (by omega) c, gm_set_n _ _ _ _ c])
  have z1 : sr_fac n h ct s p (s % 6) = 1 + sr_left h ct s (s % 6) := by
    unfold sr_fac; rw [if_pos ⟨hen, hpe⟩]
  have z2 : sr_fac n h ct (s + 1) p (s % 6) = 1 + sr_left h ct (s + 1) (s % 6) := by
    unfold sr_fac; rw [if_pos ⟨hen, hpe⟩]
  have z3 : sr_fac n h ct (s + 1) (gm_set p (s % 6) t) (s % 6) = 1 := by
    unfold sr_fac; rw [gm_set_s, if_neg (fun z => ht z.2)]
  have z4 := sr_left_own h ct s he hs hst
  have y4 := sr_pr_pos (sr_fac n h ct (s + 1) (gm_set p (s % 6) t)) 5 (fun e _ _ => sr_fac_1 n h ct _ _ e)
  rw [y3, z3] at y4
  rw [y1, y2, y3, z1, z2, z3, z4]
  generalize sr_left h ct (s + 1) (s % 6) = r at *
  -- 2(m+1)Y + 2(m+1)Y(1+r) + 3 ≤ 2(m+2)Y(2+r)
  have hYp : 1 ≤ Y := by omega
  have w1 : 2 * (m + 1) * (Y * 1) + 2 * (m + 1) * (Y * (1 + r)) = 2 * (m + 1) * (Y * (1 + (r + 1))) := by
    rw [← Nat.mul_add, ← Nat.mul_add]
    congr 2
    omega
  have w2 : 2 * (m + 1 + 1) * (Y * (1 + (r + 1))) = 2 * (m + 1) * (Y * (1 + (r + 1))) + 2 * (Y * (1 + (r + 1))) := by
    rw [← Nat.add_mul]
    congr 1
  have w3 : 1 * 2 ≤ Y * (1 + (r + 1)) := Nat.mul_le_mul hYp (by omega)
  omega

theorem sr_bd_top (m s : Nat) (p : Nat → Int) (h7 : h ≤ 7) (hs : s + m = 12 * (h + 1)) : sr_bd n h ct m s p ≤ 11455506 := by
  unfold sr_bd
  have x : sr_pr (sr_fac n h ct s p) 5 ≤ sr_pr (fun _ => 9) 5 := by
    refine sr_pr_mono _ _ 5 (fun e _ _ => ?_)
    unfold sr_fac
    have := sr_left_b h ct s e
    split <;> omega
  have y : sr_pr (fun _ => 9) 5 = 59049 := by decide
  rw [y] at x
  have z : 2 * (m + 1) ≤ 194 := by omega
  have w := Nat.mul_le_mul z x
  omega

/-- the search -/
theorem sr_dfs (first : Nat) (hN : gm_net n h L ct ac lo hi)
    (Pf : Nat → Nat → Prop → Prop → (Nat → Int) → (Nat → Nat) → Prop)
    (r1 : ∀ k s won p md, first ≤ s → gm_full n p → Pf k s True True p md → Pf (k + 1) s won False p md)
    (r2 : ∀ k s won p md, first ≤ s → ¬ gm_full n p → s = 12 * (h + 1) → Pf k s False True p md → Pf (k + 1) s won False p md)
    (r3 : ∀ k s won p md, first ≤ s → ¬ gm_full n p → s < 12 * (h + 1) → gm_kind n ct ac lo hi p s = 0 →
      Pf k (s + 1) won False p (fun x => if x = s then 0 else md x) → Pf (k + 1) s won False p md)
    (r4 : ∀ k s won p md, first ≤ s → ¬ gm_full n p → s < 12 * (h + 1) → gm_kind n ct ac lo hi p s ≠ 0 →
      Pf k (s + 1) False (gm_broken n L (gm_set p (s % 6) ((s / 12 : Nat) : Int))) (gm_set p (s % 6) ((s / 12 : Nat) : Int))
        (fun x => if x = s then gm_kind n ct ac lo hi p s else md x) → Pf (k + 1) s won False p md)
    (r5 : ∀ k s won p md, first ≤ s → s < 12 * (h + 1) → md s = 0 → Pf k s won True p md → Pf (k + 1) (s + 1) won True p md)
    (r6 : ∀ k s (won : Prop) p md, first ≤ s → s < 12 * (h + 1) → md s ≠ 0 → ¬ (md s = 2 ∧ won ∨ md s = 3 ∧ ¬ won) →
      Pf k s won True (gm_set p (s % 6) 100) md → Pf (k + 1) (s + 1) won True p md)
    (r7 : ∀ k s (won : Prop) p md, first ≤ s → s < 12 * (h + 1) → md s ≠ 0 → (md s = 2 ∧ won ∨ md s = 3 ∧ ¬ won) →
      Pf k (s + 1) won False (gm_set p (s % 6) 100) (fun x => if x = s then 0 else md x) → Pf (k + 1) (s + 1) won True p md) :
    ∀ (m s : Nat) (p : Nat → Int) (k : Nat) (won : Prop) (md : Nat → Nat), first ≤ s → s + m = 12 * (h + 1) → ¬ gm_broken n L p →
      sr_bd n h ct m s p ≤ k →
      (∀ k' md', k ≤ k' + sr_bd n h ct m s p → (∀ x, x < s → md' x = md x) → Pf k' s (gm_val n L ct ac lo hi m s p) True p md') →
      Pf k s won False p md := by
  have hn6 : n ≤ 6 := hN.2.1
  have h7 : h ≤ 7 := hN.2.2.1
  intro m
  induction m with
  | zero =>
    intro s p k won md hf hs hb hk hc
    have b2 := sr_bd_2 n h ct 0 s p
    obtain ⟨k0, rfl⟩ : ∃ k0, k = k0 + 1 := ⟨k - 1, by omega⟩
    have e1 : gm_val n L ct ac lo hi 0 s p = gm_full n p := by
      unfold gm_val
      exact propext ⟨fun z => z.2, fun z => ⟨hb, z⟩⟩
    have c1 := hc k0 md (by omega) (fun _ _ => rfl)
    rw [e1] at c1
    by_cases hfull : gm_full n p
    · exact r1 k0 s won p md hf hfull (by
        have : gm_full n p = True := propext ⟨fun _ => trivial, fun _ => hfull⟩
        rw [this] at c1; exact c1)
    · exact r2 k0 s won p md hf hfull (by omega) (by
        have : gm_full n p = False := propext ⟨fun z => hfull z, fun z => z.elim⟩
        rw [this] at c1; exact c1)
  | succ m ih =>
    intro s p k won md hf hs hb hk hc
    have b2 := sr_bd_2 n h ct (m + 1) s p
    obtain ⟨k0, rfl⟩ : ∃ k0, k = k0 + 1 := ⟨k - 1, by omega⟩
    by_cases hfull : gm_full n p
    · have e1 : gm_val n L ct ac lo hi (m + 1) s p = True :=
        propext ⟨fun _ => trivial, fun _ => gm_val_full n L ct ac lo hi (m + 1) s p hb hfull⟩
      have c1 := hc k0 md (by omega) (fun _ _ => rfl)
      rw [e1] at c1
      exact r1 k0 s won p md hf hfull c1
    · have hslt : s < 12 * (h + 1) := by omega
      by_cases hk0 : gm_kind n ct ac lo hi p s = 0
      · have e1 : gm_val n L ct ac lo hi (m + 1) s p = gm_val n L ct ac lo hi m (s + 1) p := by
          conv => lhs; unfold gm_val
          rw [hk0]
          refine propext ⟨fun z => ?_, fun z => ⟨hb, Or.inr (Or.inl ⟨rfl, z⟩)⟩⟩
          rcases z.2 with a | ⟨_, a⟩ | ⟨a, _⟩ | ⟨a, _⟩ | ⟨a, _⟩
          · exact absurd a hfull
          · exact a
          · exact absurd a (by decide)
          · exact absurd a (by decide)
          · exact absurd a (by decide)
        rw [e1] at hc
        have bp := sr_bd_pass n h ct m s p
        refine r3 k0 s won p md hf hfull hslt hk0 (ih (s + 1) p k0 won _ (by omega) (by omega) hb (by omega) ?_)
        intro k' md' hk' hmd'
        obtain ⟨k1, rfl⟩ : ∃ k1, k' = k1 + 1 := ⟨k' - 1, by omega⟩
        refine r5 k1 s _ p md' hf hslt (by rw [hmd' s (by omega)]; simp) (hc k1 md' (by omega) ?_)
        intro x hx
        rw [hmd' x (by omega), if_neg (by omega)]
      · -- the slot's event gets the time, then perhaps not
        have hkind := gm_kind_lt n ct ac lo hi p s
        have hslot : s % 6 ≠ 0 ∧ s % 6 < n ∧ p (s % 6) = 100 ∧ gm_stp ct (s % 6) ((s / 12 : Nat) : Int) = (s : Int) := by
          rcases hkind with q | q | q | q
          · exact absurd q hk0
          · obtain ⟨k1, k2, k3, k4, k5, _⟩ := gm_kind_12 n ct ac lo hi p s (Or.inl q)
            exact ⟨k1, k2, k3, gm_slot_t ct s k1 k4 k5⟩
          · obtain ⟨k1, k2, k3, k4, k5, _⟩ := gm_kind_12 n ct ac lo hi p s (Or.inr q)
            exact ⟨k1, k2, k3, gm_slot_t ct s k1 k4 k5⟩
          · obtain ⟨k1, k2, k3, k4, k5⟩ := gm_kind_3 n ct ac lo hi p s q
            exact ⟨k1, k2, k3, gm_slot_f ct s k1 k4 k5⟩
        obtain ⟨g1, g2, g3, g4⟩ := hslot
        have hback : gm_set (gm_set p (s % 6) ((s / 12 : Nat) : Int)) (s % 6) 100 = p := by
          funext x
          by_cases hx : x = s % 6
          · subst hx; rw [gm_set_s, g3]
          · rw [gm_set_n _ _ _ _ hx, gm_set_n _ _ _ _ hx]
        have bt := sr_bd_two n h ct m s p hn6 g1 g2 g3 ((s / 12 : Nat) : Int) (by omega) hslt g4
        -- V1, V2: the values of the two children
        generalize hV1 : gm_val n L ct ac lo hi m (s + 1) (gm_set p (s % 6) ((s / 12 : Nat) : Int)) = V1 at *
        generalize hV2 : gm_val n L ct ac lo hi m (s + 1) p = V2 at *
        have e1 : gm_val n L ct ac lo hi (m + 1) s p =
            ((gm_kind n ct ac lo hi p s = 1 ∧ V1) ∨ (gm_kind n ct ac lo hi p s = 2 ∧ V1 ∧ V2) ∨ (gm_kind n ct ac lo hi p s = 3 ∧ (V1 ∨ V2))) := by
          conv => lhs; unfold gm_val
          rw [hV1, hV2]
          refine propext ⟨fun z => ?_, fun z => ⟨hb, Or.inr (Or.inr z)⟩⟩
          rcases z.2 with a | ⟨a, _⟩ | z
          · exact absurd a hfull
          · exact absurd a hk0
          · exact z
        rw [e1] at hc
        -- behind the first child
        have hpop : ∀ k1 md1, k0 ≤ k1 + sr_bd n h ct m (s + 1) (gm_set p (s % 6) ((s / 12 : Nat) : Int)) →
            (∀ x, x < s → md1 x = md x) → md1 s = gm_kind n ct ac lo hi p s →
            Pf k1 (s + 1) V1 True (gm_set p (s % 6) ((s / 12 : Nat) : Int)) md1 := by
          intro k1 md1 hk1 hm1 hm2
          have b3 := sr_bd_2 n h ct m (s + 1) p
          obtain ⟨k2, rfl⟩ : ∃ k2, k1 = k2 + 1 := ⟨k1 - 1, by omega⟩
          by_cases hturn : md1 s = 2 ∧ V1 ∨ md1 s = 3 ∧ ¬ V1
          · refine r7 k2 s V1 _ md1 hf hslt (by rw [hm2]; exact hk0) hturn ?_
            rw [hback]
            refine ih (s + 1) p k2 V1 _ (by omega) (by omega) hb (by omega) ?_
            intro k' md' hk' hmd'
            rw [hV2]
            obtain ⟨k3, rfl⟩ : ∃ k3, k' = k3 + 1 := ⟨k' - 1, by omega⟩
            refine r5 k3 s _ p md' hf hslt (by rw [hmd' s (by omega)]; simp) ?_
            have c1 := hc k3 md' (by omega) (fun x hx => by rw [hmd' x (by omega), if_neg (by omega), hm1 x hx])
            have e2 : ((gm_kind n ct ac lo hi p s = 1 ∧ V1) ∨ (gm_kind n ct ac lo hi p s = 2 ∧ V1 ∧ V2) ∨
                (gm_kind n ct ac lo hi p s = 3 ∧ (V1 ∨ V2))) = V2 := by
              rw [hm2] at hturn
              rcases hturn with ⟨a, b⟩ | ⟨a, b⟩
              · rw [a]; simp [b]
              · rw [a]; simp [b]
            rw [e2] at c1
            exact c1
          · refine r6 k2 s V1 _ md1 hf hslt (by rw [hm2]; exact hk0) hturn ?_
            rw [hback]
            have c1 := hc k2 md1 (by omega) hm1
            have e2 : ((gm_kind n ct ac lo hi p s = 1 ∧ V1) ∨ (gm_kind n ct ac lo hi p s = 2 ∧ V1 ∧ V2) ∨
                (gm_kind n ct ac lo hi p s = 3 ∧ (V1 ∨ V2))) = V1 := by
              rw [hm2] at hturn
              by_cases hv : V1
              · rcases hkind with q | q | q | q
                · exact absurd q hk0
                · rw [q]; simp [hv]
                · exact absurd (Or.inl ⟨q, hv⟩) hturn
                · rw [q]; simp [hv]
              · rcases hkind with q | q | q | q
                · exact absurd q hk0
                · rw [q]; simp [hv]
                · rw [q]; simp [hv]
                · exact absurd (Or.inr ⟨q, hv⟩) hturn
            rw [e2] at c1
            exact c1
        refine r4 k0 s won p md hf hfull hslt hk0 ?_
        by_cases hbr : gm_broken n L (gm_set p (s % 6) ((s / 12 : Nat) : Int))
        · have e3 : gm_broken n L (gm_set p (s % 6) ((s / 12 : Nat) : Int)) = True := propext ⟨fun _ => trivial, fun _ => hbr⟩
          have e4 : V1 = False := by
            rw [← hV1]
            exact propext ⟨fun z => gm_val_nb n L ct ac lo hi m (s + 1) _ z hbr, fun z => z.elim⟩
          rw [e3, ← e4]
          exact hpop k0 _ (by omega) (fun x hx => by simp [show x ≠ s by omega]) (by simp)
        · have e3 : gm_broken n L (gm_set p (s % 6) ((s / 12 : Nat) : Int)) = False := propext ⟨fun z => hbr z, fun z => z.elim⟩
          rw [e3]
          refine ih (s + 1) _ k0 False _ (by omega) (by omega) hbr (by omega) ?_
          intro k' md' hk' hmd'
          rw [hV1]
          refine hpop k' md' hk' (fun x hx => by rw [hmd' x (by omega), if_neg (by omega)]) (by rw [hmd' s (by omega)]; simp)
end sr
