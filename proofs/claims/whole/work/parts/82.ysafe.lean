-- the reference's search: turn by turn
section yt
variable (n h : Nat) (ph rd : Int32) (yl fr yo yh yp ti : Nat → Int32)
variable (L : Nat → Nat → Int) (ct : Nat → Bool) (ac : Nat → Nat) (lo hi : Nat → Int)

def yt_pf (post : Int32 → SY → Prop) (first k s : Nat) (won back : Prop) (p : Nat → Int) (md : Nat → Nat) : Prop :=
  (∀ e, e < n → 0 ≤ p e ∧ p e ≤ 100) → k ≤ 12000000 → ∀ (wI bI : Int32) (pl mo : Nat → Int32),
    (wI = 1 ∧ won ∨ wI = 0 ∧ ¬ won) → (bI = 1 ∧ back ∨ bI = 0 ∧ ¬ back) → (∀ e, e < n → (pl e).toInt = p e) →
    (∀ x, first ≤ x → x < s → mo x = nI (md x) ∧ md x ≤ 3) →
    wY_safe_46 post (nI first) (nI n) (nI h) ph rd (k + 1) (nI s) wI bI (nI (12000000 - k)) yl fr yo yh yp ti pl mo

theorem yt_i (k : Nat) (hk : k + 1 ≤ 12000000) : nI (12000000 - (k + 1)) + 1 = nI (12000000 - k) := by
  rw [nI_1]
  congr 1
  omega

theorem yt_lt (k : Nat) (hk : k + 1 ≤ 12000000) : ¬ (12000000 : Int32) ≤ nI (12000000 - (k + 1)) :=
  nI_ge (b := 12000000) (by omega) (by decide)

theorem yt_c96 (s : Nat) (hs : s < 96) : (nI s).toNatClampNeg = s := nI_clamp (by omega)
theorem yt_i96 (s : Nat) (hs : s < 96) : vp_in (nI s) 96 := vp_in_nI hs (by omega)

theorem yt_top (s : Nat) (h7 : h ≤ 7) (hs : s ≤ 12 * (h + 1)) : (nI s < (nI h + 1) * 12 ↔ s < 12 * (h + 1)) := by
  have e : (nI h + 1) * 12 = nI (12 * (h + 1)) := by
    have e12 : (12 : Int32) = nI 12 := by decide
    rw [nI_1, e12, pk_mul, Nat.mul_comm]
  rw [e, nI_ltI (by omega) (by omega)]

/-- the small tables of the search -/
theorem yt_mo (mo : Nat → Int32) (md : Nat → Nat) (first s k : Nat) (hk : k ≤ 3) (hm : ∀ x, first ≤ x → x < s → mo x = nI (md x) ∧ md x ≤ 3) :
    ∀ x, first ≤ x → x < s + 1 → upd mo s (nI k) x = nI (if x = s then k else md x) ∧ (if x = s then k else md x) ≤ 3 := by
  intro x hf hx
  by_cases e : x = s
  · rw [if_pos e, e]; exact ⟨pk_us, hk⟩
  · rw [if_neg e, pk_un e]; exact hm x hf (by omega)

theorem yt_pl (pl : Nat → Int32) (p : Nat → Int) (hp : ∀ e, e < n → (pl e).toInt = p e) (j : Nat) (x : Int32) (t : Int) (hx : x.toInt = t) :
    ∀ e, e < n → (upd pl j x e).toInt = gm_set p j t e := by
  intro e he
  by_cases q : e = j
  · rw [q, gm_set_s, pk_us]; exact hx
  · rw [gm_set_n _ _ _ _ q, pk_un q]; exact hp e he

theorem yt_r (p : Nat → Int) (hr : ∀ e, e < n → 0 ≤ p e ∧ p e ≤ 100) (j : Nat) (t : Int) (ht : 0 ≤ t ∧ t ≤ 100) :
    ∀ e, e < n → 0 ≤ gm_set p j t e ∧ gm_set p j t e ≤ 100 := by
  intro e he
  by_cases q : e = j
  · rw [q, gm_set_s]; exact ht
  · rw [gm_set_n _ _ _ _ q]; exact hr e he

theorem yt_3 (k : Nat) (hk : k ≤ 3) (j : Nat) (hj : j ≤ 3) : nI k = nI j ↔ k = j := nI_eq (by omega) (by omega)

/-- behind a step back -/
theorem yt_pop (post : Int32 → SY → Prop) (J : Int32 → Int32 → Int32 → Int32 → (Nat → Int32) → (Nat → Int32) → (Nat → Int32) → (Nat → Int32) → (Nat → Int32) → (Nat → Int32) → (Nat → Int32) → (Nat → Int32) → Prop) (first s : Nat) (hs : s < 96) (wI bI i i' : Int32) (pl mo : Nat → Int32)
    (won : Prop) (k : Nat) (hk : k ≤ 3) (hw : wI = 1 ∧ won ∨ wI = 0 ∧ ¬ won) (hm : mo s = nI k) (hi : i + 1 = i')
    (ht : (k = 2 ∧ won ∨ k = 3 ∧ ¬ won) → J (nI (s + 1)) wI 0 i' yl fr yo yh yp ti pl (upd mo s 0))
    (hn : ¬ (k = 2 ∧ won ∨ k = 3 ∧ ¬ won) → J (nI s) wI bI i' yl fr yo yh yp ti pl mo) :
    wY_safe_168 post J (nI first) (nI s) wI bI i (nI n) (nI h) ph rd yl fr yo yh yp ti pl mo := by
  have hw0 : wI = 0 ↔ ¬ won := by
    rcases hw with ⟨a, b⟩ | ⟨a, b⟩
    · rw [a]; exact ⟨fun z => absurd z (by decide), fun z => absurd b z⟩
    · exact ⟨fun _ => b, fun _ => a⟩
  have h196 : (k = 2 ∧ won ∨ k = 3 ∧ ¬ won) → wY_safe_196 post J (nI first) (nI s) wI i (nI n) (nI h) ph rd yl fr yo yh yp ti pl mo := by
    intro z
    refine ⟨yt_i96 s hs, ?_⟩
    rw [yt_c96 s hs]
    exact nm_e (nm_r (nI_1 s) (nm_r hi (ht z)))
  have h182 : ¬ (k = 2 ∧ won) → wY_safe_182 post J (nI first) (nI s) wI bI i (nI n) (nI h) ph rd yl fr yo yh yp ti pl mo := by
    intro z
    refine ⟨yt_i96 s hs, ?_⟩
    rw [yt_c96 s hs, hm]
    refine br_c (fun q => br_c (fun q2 => ?_) (fun q2 => nm_r hi (hn ?_))) (fun q => nm_r hi (hn ?_))
    · exact h196 (Or.inr ⟨(yt_3 k hk 3 (by omega)).1 q, hw0.1 q2⟩)
    · intro y
      rcases y with y | y
      · exact z y
      · exact q2 (hw0.2 y.2)
    · intro y
      rcases y with y | y
      · exact z y
      · exact q ((yt_3 k hk 3 (by omega)).2 y.1)
  refine ⟨yt_i96 s hs, ?_⟩
  rw [yt_c96 s hs, hm]
  refine br_c (fun q => br_c (fun q2 => h182 (fun y => ?_)) (fun q2 => h196 (Or.inl ⟨(yt_3 k hk 2 (by omega)).1 q, ?_⟩))) (fun q => h182 (fun y => ?_))
  · exact (hw0.1 q2) y.2
  · exact Classical.byContradiction (fun y => q2 (hw0.2 y))
  · exact q ((yt_3 k hk 2 (by omega)).2 y.1)

theorem yt_1 (hn : n ≤ 6) (post : Int32 → SY → Prop) (first k s : Nat) (won : Prop) (p : Nat → Int) (md : Nat → Nat)
    (hfull : gm_full n p) (H : yt_pf n h ph rd yl fr yo yh yp ti post first k s True True p md) : yt_pf n h ph rd yl fr yo yh yp ti post first (k + 1) s won False p md := by
  intro hr hk wI bI pl mo hw hb hp hm
  have hb0 : bI = 0 := by
    rcases hb with ⟨_, b⟩ | ⟨b, _⟩
    · exact b.elim
    · exact b
  refine br_f (yt_lt k hk) (br_t hb0 (ys_com n h ph rd yl fr yo yh yp ti hn _ pl mo p hp (fun _ => ?_) (fun z => absurd hfull z)))
  exact br_f (by decide) (nm_r (yt_i k hk) (H hr (by omega) 1 1 pl mo (Or.inl ⟨rfl, trivial⟩) (Or.inl ⟨rfl, trivial⟩) hp hm))

theorem yt_2 (hn : n ≤ 6) (h7 : h ≤ 7) (post : Int32 → SY → Prop) (first k s : Nat) (won : Prop) (p : Nat → Int) (md : Nat → Nat)
    (hfull : ¬ gm_full n p) (hs : s = 12 * (h + 1)) (H : yt_pf n h ph rd yl fr yo yh yp ti post first k s False True p md) :
    yt_pf n h ph rd yl fr yo yh yp ti post first (k + 1) s won False p md := by
  intro hr hk wI bI pl mo hw hb hp hm
  have hb0 : bI = 0 := by
    rcases hb with ⟨_, b⟩ | ⟨b, _⟩
    · exact b.elim
    · exact b
  refine br_f (yt_lt k hk) (br_t hb0 (ys_com n h ph rd yl fr yo yh yp ti hn _ pl mo p hp (fun z => absurd z hfull) (fun _ => ?_)))
  refine br_t rfl (br_f (fun z => ?_) (nm_r (yt_i k hk) (H hr (by omega) 0 1 pl mo (Or.inr ⟨rfl, fun z => z⟩) (Or.inl ⟨rfl, trivial⟩) hp hm)))
  have := (yt_top h s h7 (by omega)).1 z
  omega

theorem yt_3a (hn : n ≤ 6) (h7 : h ≤ 7) (post : Int32 → SY → Prop) (first k s : Nat) (won : Prop) (p : Nat → Int) (md : Nat → Nat)
    (hF : ∀ c, c < n → (ct c = false ∧ fr c = -1) ∨ (ct c = true ∧ fr c = nI (ac c) ∧ ac c < n))
    (hlo : ∀ c, c < n → (yo c).toInt = lo c) (hhi : ∀ c, c < n → (yh c).toInt = hi c)
    (hfull : ¬ gm_full n p) (hs : s < 12 * (h + 1)) (hk0 : gm_kind n ct ac lo hi p s = 0)
    (H : yt_pf n h ph rd yl fr yo yh yp ti post first k (s + 1) won False p (fun x => if x = s then 0 else md x)) :
    yt_pf n h ph rd yl fr yo yh yp ti post first (k + 1) s won False p md := by
  intro hr hk wI bI pl mo hw hb hp hm
  have hb0 : bI = 0 := by
    rcases hb with ⟨_, b⟩ | ⟨b, _⟩
    · exact b.elim
    · exact b
  have hs96 : s < 96 := by omega
  refine br_f (yt_lt k hk) (br_t hb0 (ys_com n h ph rd yl fr yo yh yp ti hn _ pl mo p hp (fun z => absurd z hfull) (fun _ => ?_)))
  refine br_t rfl (br_t ((yt_top h s h7 (by omega)).2 hs) (ys_kind n h ph rd yl fr yo yh yp ti ct ac lo hi hn _ pl mo p hp hr hF hlo hhi s hs96 ?_))
  rw [hk0]
  refine ⟨yt_i96 s hs96, ?_⟩
  rw [yt_c96 s hs96]
  refine nm_e ⟨yt_i96 s hs96, br_t pk_us (nm_r (nI_1 s) (nm_r (yt_i k hk) ?_))⟩
  exact H hr (by omega) wI bI pl _ hw hb hp (yt_mo mo md first s 0 (by omega) hm)

theorem yt_4 (hn : n ≤ 6) (h7 : h ≤ 7) (post : Int32 → SY → Prop) (first k s : Nat) (won : Prop) (p : Nat → Int) (md : Nat → Nat)
    (hL : ∀ u v, u < n → v < n → (yl (u * 6 + v)).toInt = L u v)
    (hF : ∀ c, c < n → (ct c = false ∧ fr c = -1) ∨ (ct c = true ∧ fr c = nI (ac c) ∧ ac c < n))
    (hlo : ∀ c, c < n → (yo c).toInt = lo c) (hhi : ∀ c, c < n → (yh c).toInt = hi c)
    (hfull : ¬ gm_full n p) (hs : s < 12 * (h + 1)) (hk0 : gm_kind n ct ac lo hi p s ≠ 0)
    (H : yt_pf n h ph rd yl fr yo yh yp ti post first k (s + 1) False (gm_broken n L (gm_set p (s % 6) ((s / 12 : Nat) : Int))) (gm_set p (s % 6) ((s / 12 : Nat) : Int))
      (fun x => if x = s then gm_kind n ct ac lo hi p s else md x)) :
    yt_pf n h ph rd yl fr yo yh yp ti post first (k + 1) s won False p md := by
  intro hr hk wI bI pl mo hw hb hp hm
  have hb0 : bI = 0 := by
    rcases hb with ⟨_, b⟩ | ⟨b, _⟩
    · exact b.elim
    · exact b
  have hs96 : s < 96 := by omega
  have hk3 : gm_kind n ct ac lo hi p s ≤ 3 := by
    rcases gm_kind_lt n ct ac lo hi p s with q | q | q | q <;> omega
  have k6 : nI s - nI s / 6 * 6 = nI (s % 6) := pk_rem (d := 6) (by omega) (by omega) (by omega)
  have kd : nI s / 12 = nI (s / 12) := pk_div (d := 12) (by omega) (by omega) (by omega)
  refine br_f (yt_lt k hk) (br_t hb0 (ys_com n h ph rd yl fr yo yh yp ti hn _ pl mo p hp (fun z => absurd z hfull) (fun _ => ?_)))
  refine br_t rfl (br_t ((yt_top h s h7 (by omega)).2 hs) (ys_kind n h ph rd yl fr yo yh yp ti ct ac lo hi hn _ pl mo p hp hr hF hlo hhi s hs96 ?_))
  refine ⟨yt_i96 s hs96, ?_⟩
  rw [yt_c96 s hs96, k6, kd, xd_c1 (s % 6) (by omega)]
  have ne : ¬ upd mo s (nI (gm_kind n ct ac lo hi p s)) s = 0 := by
    rw [pk_us]
    exact fun z => hk0 ((yt_3 _ hk3 0 (by omega)).1 z)
  refine nm_e ⟨yt_i96 s hs96, br_f ne ⟨by decide, by decide, xd_i1 _ (by omega), nm_e ?_⟩⟩
  have hp' := yt_pl n pl p hp (s % 6) (nI (s / 12)) ((s / 12 : Nat) : Int) (gq_nI _ (by omega))
  have hr' := yt_r n p hr (s % 6) ((s / 12 : Nat) : Int) ⟨by omega, by omega⟩
  have fin : ∀ r : Int32, (r = 1 ∧ gm_broken n L (gm_set p (s % 6) ((s / 12 : Nat) : Int)) ∨ r = 0 ∧ ¬ gm_broken n L (gm_set p (s % 6) ((s / 12 : Nat) : Int))) →
      wY_safe_46 post (nI first) (nI n) (nI h) ph rd (k + 1) (nI (s + 1)) 0 r (nI (12000000 - k)) yl fr yo yh yp ti (upd pl (s % 6) (nI (s / 12))) (upd mo s (nI (gm_kind n ct ac lo hi p s))) :=
    fun r hb' => H hr' (by omega) 0 r _ _ (Or.inr ⟨rfl, fun z => z⟩) hb' hp' (yt_mo mo md first s _ hk3 hm)
  refine ys_bro n h ph rd yl fr yo yh yp ti L hn _ _ _ _ hp' hr' hL (fun z => ?_) (fun z => ?_)
  · exact nm_r (nI_1 s) (nm_r (yt_i k hk) (fin 1 (Or.inl ⟨rfl, z⟩)))
  · exact nm_r (nI_1 s) (nm_r (yt_i k hk) (fin 0 (Or.inr ⟨rfl, z⟩)))

theorem yt_5 (h7 : h ≤ 7) (post : Int32 → SY → Prop) (first k s : Nat) (won : Prop) (p : Nat → Int) (md : Nat → Nat)
    (hf : first ≤ s) (hs : s < 12 * (h + 1)) (hmd : md s = 0) (H : yt_pf n h ph rd yl fr yo yh yp ti post first k s won True p md) :
    yt_pf n h ph rd yl fr yo yh yp ti post first (k + 1) (s + 1) won True p md := by
  intro hr hk wI bI pl mo hw hb hp hm
  have hs96 : s < 96 := by omega
  have hb1 : bI = 1 := by
    rcases hb with ⟨b, _⟩ | ⟨_, b⟩
    · exact b
    · exact absurd trivial b
  have hms : mo s = nI 0 := by rw [(hm s hf (by omega)).1, hmd]
  have hlt : nI first < nI (s + 1) := nI_lt (by omega) (by omega)
  refine br_f (yt_lt k hk) (br_f (by rw [hb1]; decide) (br_t hlt (nm_r (pk_m1 s) ⟨yt_i96 s hs96, ?_⟩)))
  rw [yt_c96 s hs96]
  refine br_t hms ?_
  refine yt_pop n h ph rd yl fr yo yh yp ti post _ first s hs96 wI bI _ _ pl mo won 0 (by omega) hw hms (yt_i k hk) (fun z => by omega) (fun _ => ?_)
  exact H hr (by omega) wI bI pl mo hw (Or.inl ⟨hb1, trivial⟩) hp (fun x a b => hm x a (by omega))

theorem yt_67 (h7 : h ≤ 7) (post : Int32 → SY → Prop) (first k s : Nat) (won : Prop) (p : Nat → Int) (md : Nat → Nat)
    (hf : first ≤ s) (hs : s < 12 * (h + 1)) (hmd : md s ≠ 0)
    (H6 : ¬ (md s = 2 ∧ won ∨ md s = 3 ∧ ¬ won) → yt_pf n h ph rd yl fr yo yh yp ti post first k s won True (gm_set p (s % 6) 100) md)
    (H7 : (md s = 2 ∧ won ∨ md s = 3 ∧ ¬ won) → yt_pf n h ph rd yl fr yo yh yp ti post first k (s + 1) won False (gm_set p (s % 6) 100) (fun x => if x = s then 0 else md x)) :
    yt_pf n h ph rd yl fr yo yh yp ti post first (k + 1) (s + 1) won True p md := by
  intro hr hk wI bI pl mo hw hb hp hm
  have hs96 : s < 96 := by omega
  have hb1 : bI = 1 := by
    rcases hb with ⟨b, _⟩ | ⟨_, b⟩
    · exact b
    · exact absurd trivial b
  have hms : mo s = nI (md s) := (hm s hf (by omega)).1
  have h3 : md s ≤ 3 := (hm s hf (by omega)).2
  have hne : ¬ mo s = 0 := by
    rw [hms]
    exact fun z => hmd ((yt_3 _ h3 0 (by omega)).1 z)
  have hlt : nI first < nI (s + 1) := nI_lt (by omega) (by omega)
  have k6 : nI s - nI s / 6 * 6 = nI (s % 6) := pk_rem (d := 6) (by omega) (by omega) (by omega)
  refine br_f (yt_lt k hk) (br_f (by rw [hb1]; decide) (br_t hlt (nm_r (pk_m1 s) ⟨yt_i96 s hs96, ?_⟩)))
  rw [yt_c96 s hs96, k6, xd_c1 (s % 6) (by omega)]
  refine br_f hne ⟨by decide, xd_i1 _ (by omega), nm_e ?_⟩
  have hp' := yt_pl n pl p hp (s % 6) 100 100 gq_100
  have hr' := yt_r n p hr (s % 6) 100 ⟨by omega, by omega⟩
  refine yt_pop n h ph rd yl fr yo yh yp ti post _ first s hs96 wI bI _ _ _ mo won (md s) h3 hw hms (yt_i k hk) (fun z => ?_) (fun z => ?_)
  · exact H7 z hr' (by omega) wI 0 _ _ hw (Or.inr ⟨rfl, fun z => z⟩) hp' (yt_mo mo md first s 0 (by omega) (fun x a b => hm x a (by omega)))
  · exact H6 z hr' (by omega) wI bI _ mo hw (Or.inl ⟨hb1, trivial⟩) hp' (fun x a b => hm x a (by omega))

/-- the search's end -/
theorem yt_end (post : Int32 → SY → Prop) (first k : Nat) (won : Prop) (p : Nat → Int) (md : Nat → Nat) (hf : first < 2 ^ 30)
    (hpost : ∀ r pl mo, (r = 1 ∧ won ∨ r = 0 ∧ ¬ won) → post r (nI n, nI h, ph, rd, yl, fr, yo, yh, yp, ti, pl, mo)) : yt_pf n h ph rd yl fr yo yh yp ti post first (k + 1) first won True p md := by
  intro hr hk wI bI pl mo hw hb hp hm
  have hb1 : bI = 1 := by
    rcases hb with ⟨b, _⟩ | ⟨_, b⟩
    · exact b
    · exact absurd trivial b
  have hnl : ¬ nI first < nI first := nI_nlt (Nat.le_refl _) (by omega)
  refine br_f (yt_lt k hk) (br_f (by rw [hb1]; decide) (br_f hnl ⟨?_, hpost wI pl mo hw⟩))
  rcases hw with ⟨b, _⟩ | ⟨b, _⟩
  · rw [b]; rfl
  · rw [b]; rfl

theorem yt_safe (hN : gm_net n h L ct ac lo hi) (post : Int32 → SY → Prop) (first m : Nat) (hm : first + m = 12 * (h + 1)) (p : Nat → Int)
    (hL : ∀ u v, u < n → v < n → (yl (u * 6 + v)).toInt = L u v)
    (hF : ∀ c, c < n → (ct c = false ∧ fr c = -1) ∨ (ct c = true ∧ fr c = nI (ac c) ∧ ac c < n))
    (hlo : ∀ c, c < n → (yo c).toInt = lo c) (hhi : ∀ c, c < n → (yh c).toInt = hi c)
    (hp0 : p 0 = 0) (hp : ∀ e, e < n → e ≠ 0 → (ti e).toInt = p e) (hr : ∀ e, e < n → 0 ≤ p e ∧ p e ≤ 100)
    (hpost : ∀ r pl mo, (r = 1 ∧ gm_val n L ct ac lo hi m first p ∨ r = 0 ∧ ¬ gm_val n L ct ac lo hi m first p) → post r (nI n, nI h, ph, rd, yl, fr, yo, yh, yp, ti, pl, mo))
    (pl mo : Nat → Int32) : wpY_safe post (nI n, nI h, ph, rd, yl, fr, yo, yh, yp, ti, pl, mo) (nI first) := by
  have hn : n ≤ 6 := hN.2.1
  have h7 : h ≤ 7 := hN.2.2.1
  refine loop_0 (fun m i (pl : Nat → Int32) => wY_safe_2 post (nI first) (nI n) (nI h) ph rd m (nI i) yl fr yo yh yp ti pl mo)
    (fun i pl => ∀ e, e < i → pl e = ti e) 6 pl (fun e he => absurd he (by omega)) ?_ ?_
  · intro _ pl hs
    refine br_t (Int32.le_refl _) (nm_e ?_)
    have hp' : ∀ e, e < n → (upd pl 0 0 e).toInt = p e := by
      intro e he
      by_cases q : e = 0
      · rw [q, pk_us, hp0]; rfl
      · rw [pk_un q, hs e (by omega)]; exact hp e he q
    obtain ⟨V, hV⟩ : ∃ V : Nat, V = 12000000 := ⟨_, rfl⟩
    have e0 : (0 : Int32) = nI (12000000 - V) := by rw [hV]; rfl
    obtain ⟨V', hV'⟩ : ∃ V' : Nat, V = V' + 1 := ⟨11999999, hV⟩
    have main : ∀ (r : Int32) (back : Prop), (r = 1 ∧ back ∨ r = 0 ∧ ¬ back) → yt_pf n h ph rd yl fr yo yh yp ti post first V first False back p (fun _ => 0) →
        ∃ n46 : Nat, wY_safe_46 post (nI first) (nI n) (nI h) ph rd n46 (nI first) 0 r 0 yl fr yo yh yp ti (upd pl 0 0) mo := by
      intro r back hb H
      have y := H hr (by omega) 0 r (upd pl 0 0) mo (Or.inr ⟨rfl, fun z => z⟩) hb hp' (fun x a b => absurd a (by omega))
      rw [← e0] at y
      exact ⟨V + 1, y⟩
    refine ys_bro n h ph rd yl fr yo yh yp ti L hn _ _ _ p hp' hr hL (fun z => main 1 True (Or.inl ⟨rfl, trivial⟩) ?_) (fun z => main 0 False (Or.inr ⟨rfl, fun q => q⟩) ?_)
    · rw [hV']
      refine yt_end n h ph rd yl fr yo yh yp ti post first V' False p _ (by omega) (fun r pl mo hw => hpost r pl mo ?_)
      rcases hw with ⟨_, b⟩ | ⟨b, _⟩
      · exact b.elim
      · exact Or.inr ⟨b, fun q => gm_val_nb n L ct ac lo hi m first p q z⟩
    · have top := sr_bd_top n h ct m first p h7 hm
      refine sr_dfs n h L ct ac lo hi first hN (fun k s won back p md => yt_pf n h ph rd yl fr yo yh yp ti post first k s won back p md) ?_ ?_ ?_ ?_ ?_ ?_ ?_
        m first p V False (fun _ => 0) (Nat.le_refl _) hm z (by omega) ?_
      · exact fun k s won p md hf hfull H => yt_1 n h ph rd yl fr yo yh yp ti hn post first k s won p md hfull H
      · exact fun k s won p md hf hfull hs H => yt_2 n h ph rd yl fr yo yh yp ti hn h7 post first k s won p md hfull hs H
      · exact fun k s won p md hf hfull hs hk0 H => yt_3a n h ph rd yl fr yo yh yp ti ct ac lo hi hn h7 post first k s won p md hF hlo hhi hfull hs hk0 H
      · exact fun k s won p md hf hfull hs hk0 H => yt_4 n h ph rd yl fr yo yh yp ti L ct ac lo hi hn h7 post first k s won p md hL hF hlo hhi hfull hs hk0 H
      · exact fun k s won p md hf hs hmd H => yt_5 n h ph rd yl fr yo yh yp ti h7 post first k s won p md hf hs hmd H
      · exact fun k s won p md hf hs hmd hnt H => yt_67 n h ph rd yl fr yo yh yp ti h7 post first k s won p md hf hs hmd (fun _ => H) (fun q => absurd q hnt)
      · exact fun k s won p md hf hs hmd ht H => yt_67 n h ph rd yl fr yo yh yp ti h7 post first k s won p md hf hs hmd (fun q => absurd ht q) (fun _ => H)
      · intro k' md' hk' _
        obtain ⟨k1, rfl⟩ : ∃ k1, k' = k1 + 1 := ⟨k' - 1, by omega⟩
        exact yt_end n h ph rd yl fr yo yh yp ti post first k1 _ p md' (by omega) hpost
  · intro m i pl hi hs ih
    refine br_f (nI_ge (b := 6) hi (by decide)) ⟨xd_i1 i hi, xd_i1 i hi, ?_⟩
    rw [xd_c1 i hi]
    refine nm_e (nm_r (nI_1 i) (ih _ (fun e he => ?_)))
    by_cases q : e = i
    · rw [q, pk_us]
    · rw [pk_un q]; exact hs e (by omega)
end yt
