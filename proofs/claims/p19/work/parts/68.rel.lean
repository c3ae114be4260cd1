-- the relation of the two states
section gq
theorem gq_inj {a b : Int32} (h : a.toInt = b.toInt) : a = b := Int32.toInt_inj.1 h
theorem gq_m1 : (-1 : Int32).toInt = -1 := by decide
theorem gq_100 : (100 : Int32).toInt = 100 := by decide
theorem gq_nI (a : Nat) (h : a < 1000000) : (nI a).toInt = (a : Int) := nI_toInt (by omega)
theorem gq_nIm (a : Nat) (h : a < 1000000) : nI a ≠ -1 := by
  intro e
  have x := gq_nI a h
  rw [e, gq_m1] at x
  omega
theorem gq_nI100 (a : Nat) (h : a < 100) : nI a ≠ 100 := by
  intro e
  have x := gq_nI a (by omega)
  rw [e, gq_100] at x
  omega

def gq_ct (act : Nat → Int32) (c : Nat) : Bool := decide (act c ≠ -1)
def gq_ac (act : Nat → Int32) (c : Nat) : Nat := (act c).toNatClampNeg
def gq_i (f : Nat → Int32) (c : Nat) : Int := (f c).toInt
def gq_p (tim : Nat → Int32) (e : Nat) : Int := if tim e = -1 then 100 else (tim e).toInt

theorem gq_ct_t (act : Nat → Int32) (c : Nat) (h : gq_ct act c = true) : act c ≠ -1 := by
  unfold gq_ct at h
  exact of_decide_eq_true h
theorem gq_ct_f (act : Nat → Int32) (c : Nat) (h : gq_ct act c = false) : act c = -1 := by
  unfold gq_ct at h
  have y := of_decide_eq_false h
  exact Classical.byContradiction (fun z => y z)
theorem gq_ct_i (act : Nat → Int32) (c : Nat) (h : act c ≠ -1) : gq_ct act c = true := by
  unfold gq_ct
  exact decide_eq_true h
theorem gq_ct_n (act : Nat → Int32) (c : Nat) (h : act c = -1) : gq_ct act c = false := by
  unfold gq_ct
  exact decide_eq_false (fun z => z h)

theorem gq_p_n (tim : Nat → Int32) (e : Nat) (h : tim e = -1) : gq_p tim e = 100 := by
  unfold gq_p
  rw [if_pos h]
theorem gq_p_t (tim : Nat → Int32) (e t : Nat) (ht : t < 1000000) (h : tim e = nI t) : gq_p tim e = (t : Int) := by
  unfold gq_p
  rw [h, if_neg (gq_nIm t ht), gq_nI t ht]

/-- the two states hold the same network, policies and times -/
def gq_sh (n h : Nat) (lim act sh lg pol tim lim' fr lo' hi' pol' time : Nat → Int32) : Prop :=
  3 ≤ n ∧ n ≤ 6 ∧ 3 ≤ h ∧ h ≤ 7 ∧
  (∀ u v, u < n → v < n → lim' (u * 6 + v) = lim (u * 6 + v)) ∧
  (∀ u v, u < n → v < n → -(h : Int) ≤ gd_t lim u v ∧ gd_t lim u v ≤ (h : Int)) ∧
  (∀ u, u < n → u ≠ 0 → gd_t lim u 0 ≤ 0) ∧
  act 0 = -1 ∧
  (∀ c, c < n → fr c = act c ∧ lo' c = sh c ∧ hi' c = lg c ∧ pol' c = pol c) ∧
  (∀ c, c < n → act c = -1 ∨ ∃ a, a < n ∧ a ≠ c ∧ act c = nI a ∧ 1 ≤ (sh c).toInt ∧ (sh c).toInt ≤ (lg c).toInt ∧ (lg c).toInt ≤ (h : Int)) ∧
  (∀ e, e < n → (tim e = -1 ∧ time e = 100) ∨ ∃ t, t ≤ h ∧ tim e = nI t ∧ time e = nI t)

/-- what the states mean for the game -/
def gq_md (n h t : Nat) (ij wa ph : Int32) (lim act sh lg tim b w : Nat → Int32) : Prop :=
  (wa = 0 ∨ wa = 1) ∧ t ≤ h ∧
  ((ph = 0 ∧ t = 0 ∧ (∀ e, e < n → tim e = -1) ∧
      (ij = 0 ∨ (ij = 1 ∧ gv_jud n h (gd_t lim) (gq_ct act) (gq_ac act) (gq_i sh) (gq_i lg) wa b w))) ∨
   (ph = 1 ∧ ij = 1 ∧ wa = 1 ∧ gv_jud n h (gd_t lim) (gq_ct act) (gq_ac act) (gq_i sh) (gq_i lg) wa b w ∧
      ∃ T, gr_at n h (gd_t lim) (gq_ct act) (gq_ac act) (gq_i sh) (gq_i lg) t T (gq_p tim)) ∨
   (ph = 2 ∧ ij = 1 ∧ gv_jud n h (gd_t lim) (gq_ct act) (gq_ac act) (gq_i sh) (gq_i lg) wa b w))

theorem gq_net (n h : Nat) (lim act sh lg pol tim lim' fr lo' hi' pol' time : Nat → Int32)
    (hS : gq_sh n h lim act sh lg pol tim lim' fr lo' hi' pol' time) :
    gm_net n h (gd_t lim) (gq_ct act) (gq_ac act) (gq_i sh) (gq_i lg) := by
  obtain ⟨a1, a2, a3, a4, a5, a6, a7, a8, a9, a10, a11⟩ := hS
  refine ⟨by omega, a2, a4, gq_ct_n act 0 a8, a7, fun u v hu hv => (a6 u v hu hv).2, fun c hc hcc => ?_⟩
  rcases a10 c hc with q | ⟨a, q1, q2, q3, q4, q5, q6⟩
  · exact absurd q (gq_ct_t act c hcc)
  · have e : gq_ac act c = a := by
      unfold gq_ac
      rw [q3]
      exact nI_clamp (by omega)
    rw [e]
    exact ⟨q1, q2, q4, q5, q6⟩

/-- a contingent event's link -/
theorem gq_link (n h : Nat) (act sh lg : Nat → Int32) (hn : n ≤ 6)
    (a10 : ∀ c, c < n → act c = -1 ∨ ∃ a, a < n ∧ a ≠ c ∧ act c = nI a ∧ 1 ≤ (sh c).toInt ∧ (sh c).toInt ≤ (lg c).toInt ∧ (lg c).toInt ≤ (h : Int))
    (c : Nat) (hc : c < n) (hcc : gq_ct act c = true) : act c = nI (gq_ac act c) ∧ gq_ac act c < n := by
  rcases a10 c hc with q | ⟨a, q1, q2, q3, _⟩
  · exact absurd q (gq_ct_t act c hcc)
  · have e : gq_ac act c = a := by
      unfold gq_ac
      rw [q3]
      exact nI_clamp (by omega)
    rw [e]
    exact ⟨q3, q1⟩

/-- the index of a table's cell -/
theorem gq_ix (u v : Nat) : nI u * 6 + nI v = nI (u * 6 + v) := by
  have e : (6 : Int32) = nI 6 := by decide
  rw [e, pk_mul, nI_add]
end gq
