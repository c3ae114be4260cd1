-- a search over 2 n steps a round
section ls
variable (n h : Nat) (L : Nat → Nat → Int) (ct : Nat → Bool) (ac : Nat → Nat) (lo hi : Nat → Int) (B : Nat)

def ls_B : Prop := (n = 3 ∧ B = 6) ∨ (n = 4 ∧ B = 8) ∨ (n = 5 ∧ B = 10) ∨ (n = 6 ∧ B = 12)

def ls_s (q : Nat) : Nat := 12 * (q / B) + (if q % B < n then q % B else 6 + (q % B - n))

theorem ls_mono (hB : ls_B n B) (q : Nat) : ls_s n B q + 1 ≤ ls_s n B (q + 1) := by
  unfold ls_s
  rcases hB with ⟨rfl, rfl⟩ | ⟨rfl, rfl⟩ | ⟨rfl, rfl⟩ | ⟨rfl, rfl⟩ <;> split <;> split <;> omega

theorem ls_gap (hB : ls_B n B) (q s : Nat) (h1 : ls_s n B q < s) (h2 : s < ls_s n B (q + 1)) : s % 6 = 0 ∨ n ≤ s % 6 := by
  unfold ls_s at h1 h2
  rcases hB with ⟨rfl, rfl⟩ | ⟨rfl, rfl⟩ | ⟨rfl, rfl⟩ | ⟨rfl, rfl⟩ <;> split at h1 <;> split at h2 <;> omega

theorem ls_div (hB : ls_B n B) (q : Nat) : ls_s n B q / 12 = q / B := by
  unfold ls_s
  rcases hB with ⟨rfl, rfl⟩ | ⟨rfl, rfl⟩ | ⟨rfl, rfl⟩ | ⟨rfl, rfl⟩ <;> split <;> omega

theorem ls_mod (hB : ls_B n B) (q : Nat) : ls_s n B q % 6 = q % B % n := by
  unfold ls_s
  rcases hB with ⟨rfl, rfl⟩ | ⟨rfl, rfl⟩ | ⟨rfl, rfl⟩ | ⟨rfl, rfl⟩ <;> split <;> omega

theorem ls_half (hB : ls_B n B) (q : Nat) : ls_s n B q % 12 < 6 ↔ q % B < n := by
  unfold ls_s
  rcases hB with ⟨rfl, rfl⟩ | ⟨rfl, rfl⟩ | ⟨rfl, rfl⟩ | ⟨rfl, rfl⟩ <;> split <;> omega

theorem ls_end (hB : ls_B n B) (q : Nat) (hq : q = (h + 1) * B) : ls_s n B q = 12 * (h + 1) := by
  unfold ls_s
  rcases hB with ⟨rfl, rfl⟩ | ⟨rfl, rfl⟩ | ⟨rfl, rfl⟩ | ⟨rfl, rfl⟩ <;> split <;> omega

theorem ls_lt (hB : ls_B n B) (q : Nat) (hq : q < (h + 1) * B) : ls_s n B q < 12 * (h + 1) := by
  unfold ls_s
  rcases hB with ⟨rfl, rfl⟩ | ⟨rfl, rfl⟩ | ⟨rfl, rfl⟩ | ⟨rfl, rfl⟩ <;> split <;> omega

theorem ls_begin (hB : ls_B n B) (t q : Nat) (hq : q = t * B) : ls_s n B q = 12 * t := by
  unfold ls_s
  rcases hB with ⟨rfl, rfl⟩ | ⟨rfl, rfl⟩ | ⟨rfl, rfl⟩ | ⟨rfl, rfl⟩ <;> split <;> omega

theorem ls_k0 (p : Nat → Int) (s : Nat) (hx : s % 6 = 0 ∨ n ≤ s % 6) : gm_kind n ct ac lo hi p s = 0 := by
  unfold gm_kind
  rw [if_pos]
  rcases hx with q | q
  · exact Or.inl q
  · exact Or.inr (Or.inl q)

theorem ls_pass (p : Nat → Int) (hb : ¬ gm_broken n L p) : ∀ (d s m : Nat), (∀ s', s ≤ s' → s' < s + d → gm_kind n ct ac lo hi p s' = 0) →
    (gm_val n L ct ac lo hi (m + d) s p ↔ gm_val n L ct ac lo hi m (s + d) p) := by
  intro d
  induction d with
  | zero => intro s m _; exact Iff.rfl
  | succ d ih =>
    intro s m hk
    have k0 := hk s (by omega) (by omega)
    have x := ih (s + 1) m (fun s' a b => hk s' (by omega) (by omega))
    rw [show s + 1 + d = s + (d + 1) by omega] at x
    rw [← x]
    show gm_val n L ct ac lo hi (m + d + 1) s p ↔ gm_val n L ct ac lo hi (m + d) (s + 1) p
    by_cases hf : gm_full n p
    · exact ⟨fun _ => gm_val_full n L ct ac lo hi _ _ p hb hf, fun _ => gm_val_full n L ct ac lo hi _ _ p hb hf⟩
    · constructor
      · intro z
        unfold gm_val at z
        rcases z.2 with a | ⟨_, a⟩ | ⟨a, _⟩ | ⟨a, _⟩ | ⟨a, _⟩
        · exact absurd a hf
        · exact a
        · omega
        · omega
        · omega
      · intro z
        unfold gm_val
        exact ⟨hb, Or.inr (Or.inl ⟨k0, z⟩)⟩

def ls_V (q : Nat) (p : Nat → Int) : Prop := gm_val n L ct ac lo hi (12 * (h + 1) - ls_s n B q) (ls_s n B q) p

/-- from the step behind q's to q + 1's -/
theorem ls_next (hB : ls_B n B) (q m : Nat) (hq : q < (h + 1) * B) (hm : ls_s n B q + (m + 1) = 12 * (h + 1)) (p : Nat → Int) :
    gm_val n L ct ac lo hi m (ls_s n B q + 1) p ↔ ls_V n h L ct ac lo hi B (q + 1) p := by
  have m1 := ls_mono n B hB q
  have m2 : ls_s n B (q + 1) ≤ 12 * (h + 1) := by
    by_cases z : q + 1 < (h + 1) * B
    · have := ls_lt n h B hB (q + 1) z; omega
    · have := ls_end n h B hB (q + 1) (by omega); omega
  by_cases hb : gm_broken n L p
  · exact ⟨fun z => absurd hb (gm_val_nb n L ct ac lo hi _ _ p z), fun z => absurd hb (gm_val_nb n L ct ac lo hi _ _ p z)⟩
  · have x := ls_pass n L ct ac lo hi p hb (ls_s n B (q + 1) - (ls_s n B q + 1)) (ls_s n B q + 1) (12 * (h + 1) - ls_s n B (q + 1))
      (fun s' a b => ls_k0 n ct ac lo hi p s' (ls_gap n B hB q s' (by omega) (by omega)))
    rw [show 12 * (h + 1) - ls_s n B (q + 1) + (ls_s n B (q + 1) - (ls_s n B q + 1)) = m by omega,
      show ls_s n B q + 1 + (ls_s n B (q + 1) - (ls_s n B q + 1)) = ls_s n B (q + 1) by omega] at x
    exact x

def ls_bd (q : Nat) (p : Nat → Int) : Nat := sr_bd n h ct (12 * (h + 1) - ls_s n B q) (ls_s n B q) p

theorem ls_bd_le (p : Nat → Int) : ∀ (d s m : Nat), sr_bd n h ct m (s + d) p ≤ sr_bd n h ct (m + d) s p := by
  intro d
  induction d with
  | zero => intro s m; exact Nat.le_refl _
  | succ d ih =>
    intro s m
    have x := ih (s + 1) m
    rw [show s + 1 + d = s + (d + 1) by omega] at x
    have y := sr_bd_pass n h ct (m + d) s p
    show sr_bd n h ct m (s + (d + 1)) p ≤ sr_bd n h ct (m + d + 1) s p
    omega

theorem ls_bd_next (hB : ls_B n B) (q m : Nat) (hq : q < (h + 1) * B) (hm : ls_s n B q + (m + 1) = 12 * (h + 1)) (p : Nat → Int) :
    ls_bd n h ct B (q + 1) p ≤ sr_bd n h ct m (ls_s n B q + 1) p := by
  have m1 := ls_mono n B hB q
  have m2 : ls_s n B (q + 1) ≤ 12 * (h + 1) := by
    by_cases z : q + 1 < (h + 1) * B
    · have := ls_lt n h B hB (q + 1) z; omega
    · have := ls_end n h B hB (q + 1) (by omega); omega
  have x := ls_bd_le n h ct p (ls_s n B (q + 1) - (ls_s n B q + 1)) (ls_s n B q + 1) (12 * (h + 1) - ls_s n B (q + 1))
  rw [show 12 * (h + 1) - ls_s n B (q + 1) + (ls_s n B (q + 1) - (ls_s n B q + 1)) = m by omega,
    show ls_s n B q + 1 + (ls_s n B (q + 1) - (ls_s n B q + 1)) = ls_s n B (q + 1) by omega] at x
  exact x

theorem ls_wf_up (s s' : Nat) (hs : s ≤ s') (p : Nat → Int) (hw : gm_wf n h ct ac lo hi s p) : gm_wf n h ct ac lo hi s' p := by
  refine ⟨hw.1, fun e he => ?_, hw.2.2⟩
  rcases hw.2.1 e he with a | ⟨a, b, c⟩
  · exact Or.inl a
  · exact Or.inr ⟨a, b, by omega⟩

theorem ls_dfs (first : Nat) (hN : gm_net n h L ct ac lo hi) (hB : ls_B n B)
    (Ag : (Nat → Int) → Prop) (hAg : ∀ p e t, e < n → Ag p → p e = 100 → Ag (gm_set p e t))
    (Dn Up : Nat → Nat → Prop → (Nat → Int) → Prop)
    (r1 : ∀ k q v p, first ≤ q → q ≤ (h + 1) * B → gm_wf n h ct ac lo hi (ls_s n B q) p → gm_full n p → Up k q True p → Dn (k + 1) q v p)
    (r2 : ∀ k q v p, first ≤ q → gm_wf n h ct ac lo hi (ls_s n B q) p → ¬ gm_full n p → q = (h + 1) * B → Up k q False p → Dn (k + 1) q v p)
    (r3 : ∀ k q v p, first ≤ q → gm_wf n h ct ac lo hi (ls_s n B q) p → ¬ gm_full n p → q < (h + 1) * B → gm_kind n ct ac lo hi p (ls_s n B q) = 0 →
      Dn k (q + 1) v p → Dn (k + 1) q v p)
    (r4 : ∀ k q v p, first ≤ q → gm_wf n h ct ac lo hi (ls_s n B q) p → ¬ gm_broken n L p → ¬ gm_full n p → q < (h + 1) * B → gm_kind n ct ac lo hi p (ls_s n B q) ≠ 0 →
      (gm_broken n L (gm_set p (ls_s n B q % 6) ((ls_s n B q / 12 : Nat) : Int)) → Up k (q + 1) False (gm_set p (ls_s n B q % 6) ((ls_s n B q / 12 : Nat) : Int))) →
      (¬ gm_broken n L (gm_set p (ls_s n B q % 6) ((ls_s n B q / 12 : Nat) : Int)) → Dn k (q + 1) v (gm_set p (ls_s n B q % 6) ((ls_s n B q / 12 : Nat) : Int))) →
      Dn (k + 1) q v p)
    (r5 : ∀ k q v p, first ≤ q → gm_wf n h ct ac lo hi (ls_s n B q) p → q < (h + 1) * B → Up k q v p → Up (k + 1) (q + 1) v p)
    (r6 : ∀ k q (v : Prop) p, first ≤ q → Ag p → gm_wf n h ct ac lo hi (ls_s n B q) p → q < (h + 1) * B → gm_kind n ct ac lo hi p (ls_s n B q) ≠ 0 →
      ((gm_kind n ct ac lo hi p (ls_s n B q) = 2 ∧ v ∨ gm_kind n ct ac lo hi p (ls_s n B q) = 3 ∧ ¬ v) → Dn k (q + 1) v p) →
      (¬ (gm_kind n ct ac lo hi p (ls_s n B q) = 2 ∧ v ∨ gm_kind n ct ac lo hi p (ls_s n B q) = 3 ∧ ¬ v) → Up k q v p) →
      Up (k + 1) (q + 1) v (gm_set p (ls_s n B q % 6) ((ls_s n B q / 12 : Nat) : Int))) :
    ∀ (M q : Nat) (p : Nat → Int) (k : Nat) (v : Prop), first ≤ q → q + M = (h + 1) * B → Ag p → gm_wf n h ct ac lo hi (ls_s n B q) p → ¬ gm_broken n L p →
      ls_bd n h ct B q p ≤ k → (∀ k', k ≤ k' + ls_bd n h ct B q p → Up k' q (ls_V n h L ct ac lo hi B q p) p) → Dn k q v p := by
  have hn6 : n ≤ 6 := hN.2.1
  have h7 : h ≤ 7 := hN.2.2.1
  intro M
  induction M with
  | zero =>
    intro q p k v hf hq hag hw hb hk hc
    have es := ls_end n h B hB q (by omega)
    have b2 := sr_bd_2 n h ct (12 * (h + 1) - ls_s n B q) (ls_s n B q) p
    have hk' : 2 ≤ k := by unfold ls_bd at hk; omega
    obtain ⟨k0, rfl⟩ : ∃ k0, k = k0 + 1 := ⟨k - 1, by omega⟩
    have hbd : 1 ≤ ls_bd n h ct B q p := by unfold ls_bd; omega
    have e1 : ls_V n h L ct ac lo hi B q p = gm_full n p := by
      unfold ls_V
      rw [show 12 * (h + 1) - ls_s n B q = 0 by omega]
      unfold gm_val
      exact propext ⟨fun z => z.2, fun z => ⟨hb, z⟩⟩
    have c1 := hc k0 (by omega)
    rw [e1] at c1
    by_cases hfull : gm_full n p
    · rw [show gm_full n p = True from propext ⟨fun _ => trivial, fun _ => hfull⟩] at c1
      exact r1 k0 q v p hf (by omega) hw hfull c1
    · rw [show gm_full n p = False from propext ⟨fun z => hfull z, fun z => z.elim⟩] at c1
      exact r2 k0 q v p hf hw hfull (by omega) c1
  | succ M ih =>
    intro q p k v hf hq hag hw hb hk hc
    have hqE : q < (h + 1) * B := by omega
    have hsl := ls_lt n h B hB q hqE
    obtain ⟨m, hm⟩ : ∃ m, ls_s n B q + (m + 1) = 12 * (h + 1) := ⟨12 * (h + 1) - ls_s n B q - 1, by omega⟩
    have em : 12 * (h + 1) - ls_s n B q = m + 1 := by omega
    have eb : ls_bd n h ct B q p = sr_bd n h ct (m + 1) (ls_s n B q) p := by unfold ls_bd; rw [em]
    have b2 := sr_bd_2 n h ct (m + 1) (ls_s n B q) p
    obtain ⟨k0, rfl⟩ : ∃ k0, k = k0 + 1 := ⟨k - 1, by omega⟩
    have eV : ls_V n h L ct ac lo hi B q p = gm_val n L ct ac lo hi (m + 1) (ls_s n B q) p := by unfold ls_V; rw [em]
    by_cases hfull : gm_full n p
    · have c1 := hc k0 (by omega)
      rw [eV, show gm_val n L ct ac lo hi (m + 1) (ls_s n B q) p = True from
        propext ⟨fun _ => trivial, fun _ => gm_val_full n L ct ac lo hi (m + 1) _ p hb hfull⟩] at c1
      exact r1 k0 q v p hf (by omega) hw hfull c1
    · have bn := ls_bd_next n h ct B hB q m hqE hm
      have nx := ls_next n h L ct ac lo hi B hB q m hqE hm
      have mono := ls_mono n B hB q
      by_cases hk0 : gm_kind n ct ac lo hi p (ls_s n B q) = 0
      · have e1 : ls_V n h L ct ac lo hi B q p = ls_V n h L ct ac lo hi B (q + 1) p := by
          rw [eV]
          refine propext ⟨fun z => ?_, fun z => ?_⟩
          · unfold gm_val at z
            rcases z.2 with a | ⟨_, a⟩ | ⟨a, _⟩ | ⟨a, _⟩ | ⟨a, _⟩
            · exact absurd a hfull
            · exact (nx p).1 a
            · omega
            · omega
            · omega
          · unfold gm_val
            exact ⟨hb, Or.inr (Or.inl ⟨hk0, (nx p).2 z⟩)⟩
        have bp := sr_bd_pass n h ct m (ls_s n B q) p
        have b1 := bn p
        refine r3 k0 q v p hf hw hfull hqE hk0 (ih (q + 1) p k0 v (by omega) (by omega) hag (ls_wf_up n h ct ac lo hi _ _ (by omega) p hw) hb (by omega) ?_)
        intro k' hk'
        obtain ⟨k1, rfl⟩ : ∃ k1, k' = k1 + 1 := ⟨k' - 1, by omega⟩
        refine r5 k1 q _ p hf hw hqE ?_
        rw [← e1]
        exact hc k1 (by omega)
      · have hkind := gm_kind_lt n ct ac lo hi p (ls_s n B q)
        have hslot : ls_s n B q % 6 ≠ 0 ∧ ls_s n B q % 6 < n ∧ p (ls_s n B q % 6) = 100 ∧ gm_stp ct (ls_s n B q % 6) ((ls_s n B q / 12 : Nat) : Int) = ((ls_s n B q : Nat) : Int) ∧
            (ct (ls_s n B q % 6) = true → p (ac (ls_s n B q % 6)) ≠ 100 ∧ p (ac (ls_s n B q % 6)) + lo (ls_s n B q % 6) ≤ ((ls_s n B q / 12 : Nat) : Int) ∧
              ((ls_s n B q / 12 : Nat) : Int) ≤ p (ac (ls_s n B q % 6)) + hi (ls_s n B q % 6)) := by
          rcases hkind with z | z | z | z
          · exact absurd z hk0
          · obtain ⟨k1, k2, k3, k4, k5, k6⟩ := gm_kind_12 n ct ac lo hi p _ (Or.inl z)
            have d := gm_kind_1 n ct ac lo hi p _ z
            have b := hN.2.2.2.2.2.2 _ k2 k4
            exact ⟨k1, k2, k3, gm_slot_t ct _ k1 k4 k5, fun _ => ⟨k6, by omega, by omega⟩⟩
          · obtain ⟨k1, k2, k3, k4, k5, k6⟩ := gm_kind_12 n ct ac lo hi p _ (Or.inr z)
            have d := gm_kind_2 n ct ac lo hi p _ z
            exact ⟨k1, k2, k3, gm_slot_t ct _ k1 k4 k5, fun _ => ⟨k6, by omega, by omega⟩⟩
          · obtain ⟨k1, k2, k3, k4, k5⟩ := gm_kind_3 n ct ac lo hi p _ z
            exact ⟨k1, k2, k3, gm_slot_f ct _ k1 k4 k5, fun y => by rw [k4] at y; simp at y⟩
        obtain ⟨g1, g2, g3, g4, g5⟩ := hslot
        have bt := sr_bd_two n h ct m (ls_s n B q) p hn6 g1 g2 g3 ((ls_s n B q / 12 : Nat) : Int) (by omega) hsl g4
        have b1 := bn p
        have b3 := bn (gm_set p (ls_s n B q % 6) ((ls_s n B q / 12 : Nat) : Int))
        have hw' := gp_wf_set n h L ct ac lo hi hN (ls_s n B q) p hsl hw g1 g2 g3 g4 g5
        have hwn := ls_wf_up n h ct ac lo hi _ (ls_s n B (q + 1)) (by omega) _ hw'
        have n1 := nx (gm_set p (ls_s n B q % 6) ((ls_s n B q / 12 : Nat) : Int))
        have n2 := nx p
        have e1 : ls_V n h L ct ac lo hi B q p = ((gm_kind n ct ac lo hi p (ls_s n B q) = 1 ∧ ls_V n h L ct ac lo hi B (q + 1) (gm_set p (ls_s n B q % 6) ((ls_s n B q / 12 : Nat) : Int))) ∨
            (gm_kind n ct ac lo hi p (ls_s n B q) = 2 ∧ ls_V n h L ct ac lo hi B (q + 1) (gm_set p (ls_s n B q % 6) ((ls_s n B q / 12 : Nat) : Int)) ∧ ls_V n h L ct ac lo hi B (q + 1) p) ∨
            (gm_kind n ct ac lo hi p (ls_s n B q) = 3 ∧ (ls_V n h L ct ac lo hi B (q + 1) (gm_set p (ls_s n B q % 6) ((ls_s n B q / 12 : Nat) : Int)) ∨ ls_V n h L ct ac lo hi B (q + 1) p))) := by
          rw [eV, ← propext n1, ← propext n2]
          conv => lhs; unfold gm_val
          refine propext ⟨fun z => ?_, fun z => ⟨hb, Or.inr (Or.inr z)⟩⟩
          rcases z.2 with a | ⟨a, _⟩ | z
          · exact absurd a hfull
          · exact absurd a hk0
          · exact z
        generalize hV1 : ls_V n h L ct ac lo hi B (q + 1) (gm_set p (ls_s n B q % 6) ((ls_s n B q / 12 : Nat) : Int)) = V1 at *
        generalize hV2 : ls_V n h L ct ac lo hi B (q + 1) p = V2 at *
        rw [e1] at hc
        have hpop : ∀ k1, k0 ≤ k1 + ls_bd n h ct B (q + 1) (gm_set p (ls_s n B q % 6) ((ls_s n B q / 12 : Nat) : Int)) →
            Up k1 (q + 1) V1 (gm_set p (ls_s n B q % 6) ((ls_s n B q / 12 : Nat) : Int)) := by
          intro k1 hk1
          have b4 := sr_bd_2 n h ct m (ls_s n B q + 1) p
          obtain ⟨k2, rfl⟩ : ∃ k2, k1 = k2 + 1 := ⟨k1 - 1, by omega⟩
          refine r6 k2 q V1 p hf hag hw hqE hk0 (fun hturn => ?_) (fun hturn => ?_)
          · refine ih (q + 1) p k2 V1 (by omega) (by omega) hag (ls_wf_up n h ct ac lo hi _ _ (by omega) p hw) hb (by omega) ?_
            intro k' hk'
            rw [hV2]
            obtain ⟨k3, rfl⟩ : ∃ k3, k' = k3 + 1 := ⟨k' - 1, by omega⟩
            refine r5 k3 q _ p hf hw hqE ?_
            have c1 := hc k3 (by omega)
            have e2 : ((gm_kind n ct ac lo hi p (ls_s n B q) = 1 ∧ V1) ∨ (gm_kind n ct ac lo hi p (ls_s n B q) = 2 ∧ V1 ∧ V2) ∨
                (gm_kind n ct ac lo hi p (ls_s n B q) = 3 ∧ (V1 ∨ V2))) = V2 := by
              rcases hturn with ⟨a, b⟩ | ⟨a, b⟩
              · rw [a]; simp [b]
              · rw [a]; simp [b]
            rw [e2] at c1
            exact c1
          · have c1 := hc k2 (by omega)
            have e2 : ((gm_kind n ct ac lo hi p (ls_s n B q) = 1 ∧ V1) ∨ (gm_kind n ct ac lo hi p (ls_s n B q) = 2 ∧ V1 ∧ V2) ∨
                (gm_kind n ct ac lo hi p (ls_s n B q) = 3 ∧ (V1 ∨ V2))) = V1 := by
              by_cases hv : V1
              · rcases hkind with z | z | z | z
                · exact absurd z hk0
                · rw [z]; simp [hv]
                · exact absurd (Or.inl ⟨z, hv⟩) hturn
                · rw [z]; simp [hv]
              · rcases hkind with z | z | z | z
                · exact absurd z hk0
                · rw [z]; simp [hv]
                · rw [z]; simp [hv]
                · exact absurd (Or.inr ⟨z, hv⟩) hturn
            rw [e2] at c1
            exact c1
        refine r4 k0 q v p hf hw hb hfull hqE hk0 (fun hbr => ?_) (fun hbr => ?_)
        · have e4 : V1 = False := by
            rw [← hV1]
            exact propext ⟨fun z => gm_val_nb n L ct ac lo hi _ _ _ z hbr, fun z => z.elim⟩
          have y := hpop k0 (by omega)
          rw [e4] at y
          exact y
        · refine ih (q + 1) _ k0 v (by omega) (by omega) (hAg p _ _ g2 hag g3) hwn hbr (by omega) ?_
          intro k' hk'
          rw [hV1]
          exact hpop k' hk'
end ls
