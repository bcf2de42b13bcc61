/-! calm, the means, the points on a least ring -/
theorem gr_calm {A : Nat → Nat → Int → Prop} (ok : gr_ok A) {t b : Int} (h : gr_Mean A t b) : t < 0 ↔ ∃ p, p < 7 ∧ gr_L A p p := by
  constructor
  · intro hl
    obtain ⟨s, m, n, c, hr, hc⟩ := h.2.1
    have hs : s < 7 := by
      obtain ⟨n', u, c', x, g, a, _⟩ := hr
      exact (ok _ _ _ a).2.1
    have hn := gr_Rgn (gr_oki ok) hs hr
    refine ⟨s, hs, gr_Lneg (gr_RgW hr) ?_⟩
    refine Classical.byContradiction fun z => ?_
    have k1 : 0 ≤ b * c := Int.mul_nonneg (by have := h.1; omega) (by omega)
    have k2 : t * n < 0 * n := Int.mul_lt_mul_of_pos_right hl (by omega)
    omega
  · rintro ⟨p, hp, hL⟩
    obtain ⟨y, _, _, n, u, m, c, x, g, a, hx⟩ := gr_Lring ok hp hL
    have k := h.2.2 y m (n + 1) (c + x) ⟨n, u, c, x, g, a, rfl, rfl⟩
    refine Classical.byContradiction fun z => ?_
    have k1 : 0 ≤ t * ((n + 1 : Nat) : Int) := Int.mul_nonneg (by omega) (by omega)
    have k2 : b * (c + x) < b * 0 := Int.mul_lt_mul_of_pos_left hx h.1
    omega
theorem gr_calmN {A : Nat → Nat → Int → Prop} (ok : gr_ok A) (h : ∀ s m n c, ¬ gr_Rg A s m n c) : ¬ ∃ p, p < 7 ∧ gr_L A p p := by
  rintro ⟨p, hp, hL⟩
  obtain ⟨y, _, _, n, u, m, c, x, g, a, hx⟩ := gr_Lring ok hp hL
  exact h y m (n + 1) (c + x) ⟨n, u, c, x, g, a, rfl, rfl⟩
theorem i_vc_calm {k : Nat} {u : SX} {v : SY} (I : i_Rel k u v) (hk : k + 4 ≤ 2048) : wpX_calm (fun r u' => wpY_calm (fun r' v' => r' = r ∧ i_Rel (k + 4) u' v') v) u := by
  obtain ⟨f_queueStart, f_queueLength, f_leastTop, f_leastBottom, a_arcThere, a_arcFrom, a_arcTo, a_arcWeight, a_table, a_otherTable, a_squared, a_levels, a_setCells, a_onRingBelowZero, a_queue, a_queued, a_arcsUsed⟩ := u
  obtain ⟨f_top, f_bottom, f_ringPoints, a_there, a_froms, a_tos, a_weights, a_walks, a_ways⟩ := v
  obtain ⟨rfl, rfl, rfl, rfl, ok, hq⟩ := I
  have gok := hx_grok ok
  unfold wpX_calm wpY_calm
  dsimp only
  refine hx_fill_table (e := 0) ok hq (by decide) fun st ln tb sq sc rb q qd us hqd ha => ?_
  have step : ∀ p, p < 7 → (tb (7 * p + p) = -4000 ↔ gr_L (hx_A a_arcThere a_arcFrom a_arcTo a_arcWeight) p p) := by
    intro p hp
    rw [hp_eq, hp_L]
    exact gr_AnsL gok hp (ha p p hp hp)
  by_cases c : ∃ p, p < 7 ∧ gr_L (hx_A a_arcThere a_arcFrom a_arcTo a_arcWeight) p p
  · obtain ⟨p, ⟨hp, hL⟩, hl⟩ := pk_least _ c
    refine loop_0 (fun n i (_ : Unit) => wX_calm_11 _ st ln f_leastTop f_leastBottom a_arcThere a_arcFrom a_arcTo a_arcWeight tb a_otherTable sq a_levels sc rb q qd us n (nI i)) (fun _ _ => True) p () trivial ?_ ?_
    · intro n _ _
      have ck : (nI (7 * p + p)).toNatClampNeg = 7 * p + p := nI_clamp (by omega)
      refine br_f (nI_ge (b := 7) hp (by decide)) ?_
      rw [hp_ix, ck]
      refine ⟨vp_in_nI (by omega) (by decide), br_t ((step p hp).mpr hL) ?_⟩
      refine hy_rings ok fun t b r w P hP hr => ?_
      rcases gr_rbF gok hr with ⟨_, _, _, nr⟩ | ⟨h1, _, _, _, _, hM, _⟩
      · exact absurd c (gr_calmN gok nr)
      · refine br_f ?_ (br_t ?_ ⟨rfl, rfl, rfl, rfl, rfl, ok, hqd⟩)
        · rw [hp_eq, hp_N]
          exact h1
        · rw [hp_lt, hp_0]
          exact (gr_calm gok hM).mpr c
    · intro n i _ hi _ hn
      have ck : (nI (7 * i + i)).toNatClampNeg = 7 * i + i := nI_clamp (by omega)
      refine br_f (nI_ge (b := 7) (by omega) (by decide)) ?_
      rw [hp_ix, ck, nI_1]
      refine ⟨vp_in_nI (by omega) (by decide), br_f (fun z => ?_) (nm_e (hn () trivial))⟩
      exact hl i hi ⟨by omega, (step i (by omega)).mp z⟩
  · refine loop_0 (fun n i (_ : Unit) => wX_calm_11 _ st ln f_leastTop f_leastBottom a_arcThere a_arcFrom a_arcTo a_arcWeight tb a_otherTable sq a_levels sc rb q qd us n (nI i)) (fun _ _ => True) 7 () trivial ?_ ?_
    · intro n _ _
      refine br_t (nI_le (Nat.le_refl 7) (by decide)) ?_
      refine hy_rings ok fun t b r w P hP hr => ?_
      rcases gr_rbF gok hr with ⟨h1, _, _, nr⟩ | ⟨h1, _, _, _, _, hM, _⟩
      · refine br_t ?_ ⟨rfl, rfl, rfl, rfl, rfl, ok, hqd⟩
        rw [hp_eq, hp_N]
        exact h1
      · refine br_f ?_ (br_f ?_ ⟨rfl, rfl, rfl, rfl, rfl, ok, hqd⟩)
        · rw [hp_eq, hp_N]
          exact h1
        · rw [hp_lt, hp_0]
          exact fun z => c ((gr_calm gok hM).mp z)
    · intro n i _ hi _ hn
      have ck : (nI (7 * i + i)).toNatClampNeg = 7 * i + i := nI_clamp (by omega)
      refine br_f (nI_ge (b := 7) (by omega) (by decide)) ?_
      rw [hp_ix, ck, nI_1]
      refine ⟨vp_in_nI (by omega) (by decide), br_f (fun z => ?_) (nm_e (hn () trivial))⟩
      exact c ⟨i, hi, (step i hi).mp z⟩
def hx_me (p : Int32) : Prop := ∃ e, e < 2 ∧ p = nI e
theorem hx_isMean {post : Int32 → Prop} {p : Int32} (h0 : ¬ hx_me p → post 0) (h1 : hx_me p → post 1) : wpX_isMeanEngine post p := by
  have e := hx_rng (p := p) (N := 2) (by decide)
  refine br_c (fun c => h0 fun z => ?_) (fun c => br_c (fun c2 => h0 fun z => ?_) (fun c2 => h1 (e.mpr ?_)))
  · have := e.mp z
    rw [hp_lt, hp_0] at c
    omega
  · have := e.mp z
    rw [hp_le, hp_2] at c2
    omega
  · rw [hp_lt, hp_0] at c
    rw [hp_le, hp_2] at c2
    omega
theorem hy_mean {p : Int32} {P Q : Prop} (h0 : ¬ hx_me p → P) (h1 : hx_me p → Q) : ((p < 0 → P) ∧ (¬ p < 0 → ((p ≤ 1 → Q) ∧ (¬ p ≤ 1 → P)))) := by
  have e := hx_rng (p := p) (N := 2) (by decide)
  refine br_c (fun c => h0 fun z => ?_) (fun c => br_c (fun c2 => h1 (e.mpr ?_)) (fun c2 => h0 fun z => ?_))
  · have := e.mp z
    rw [hp_lt, hp_0] at c
    omega
  · rw [hp_lt, hp_0] at c
    rw [hp_le, hp_1] at c2
    omega
  · have := e.mp z
    rw [hp_le, hp_1] at c2
    omega
theorem hx_frac {A : Nat → Nat → Int → Prop} {t b t' b' : Int} {g : Nat} (h : hx_mred A t b) (hM : gr_Mean A t' b') (hb' : 1 ≤ b' ∧ b' ≤ 7) (g1 : 1 ≤ g) (g7 : g ≤ 7) (d1 : (g : Int) ∣ t') (d2 : (g : Int) ∣ b') (hn : gr_nc (g + 1) t' b') : t = t'.tdiv g ∧ b = b'.tdiv g ∧ 1 ≤ b := by
  obtain ⟨k1, k2, k3, k4⟩ := h.2.2.2.1 t' b' hM
  obtain ⟨t1, e1⟩ := d1
  obtain ⟨b1, e2⟩ := d2
  have q1 : t'.tdiv g = t1 := by
    rw [e1]
    exact Int.mul_tdiv_cancel_left _ (by omega)
  have q2 : b'.tdiv g = b1 := by
    rw [e2]
    exact Int.mul_tdiv_cancel_left _ (by omega)
  have r := hx_dv2 (d := (g : Int)) (x := b1) (by omega) (by omega)
  have r1 : 1 ≤ b1 := by
    refine Classical.byContradiction fun z => ?_
    have z0 : b1 = 0 := by omega
    rw [z0, Int.mul_zero] at e2
    omega
  have nc : gr_nc 2 t1 b1 := by
    intro e h1 h2 h3 h4
    obtain ⟨t2, rfl⟩ := h3
    obtain ⟨b2, rfl⟩ := h4
    have p1 : 1 ≤ b2 := by
      refine Classical.byContradiction fun z => ?_
      have : e * b2 ≤ 0 := Int.mul_nonpos_of_nonneg_of_nonpos (by omega) (by omega)
      omega
    have p2 : (g : Int) * e ≤ 7 := by
      have h5 : (g : Int) * e * 1 ≤ (g : Int) * e * b2 := Int.mul_le_mul_of_nonneg_left p1 (Int.mul_nonneg (by omega) (by omega))
      rw [Int.mul_assoc (g : Int) e b2] at h5
      omega
    have p3 : (g : Int) * 2 ≤ (g : Int) * e := Int.mul_le_mul_of_nonneg_left h1 (by omega)
    refine hn ((g : Int) * e) (by omega) p2 ⟨t2, ?_⟩ ⟨b2, ?_⟩
    · rw [e1, Int.mul_assoc]
    · rw [e2, Int.mul_assoc]
  have er : t * b1 = t1 * b := by
    have k5 : (g : Int) * (t * b1) = (g : Int) * (t1 * b) := by
      rw [← Int.mul_assoc (g : Int) t1 b, ← e1, ← k3, e2, Int.mul_left_comm]
    exact Int.eq_of_mul_eq_mul_left (by omega) k5
  obtain ⟨f1, f2⟩ := gr_ncU k1 k2 r1 (by omega) k4 nc er
  rw [q1, q2]
  exact ⟨f1, f2, k1⟩
theorem i_vc_meanTop {k : Nat} {u : SX} {v : SY} (I : i_Rel k u v) (hk : k + 4 ≤ 2048) (v1 : Int32) : wpX_meanTop (fun r u' => wpY_meanTop (fun r' v' => r' = r ∧ i_Rel (k + 4) u' v') v v1) u v1 := by
  obtain ⟨f_queueStart, f_queueLength, f_leastTop, f_leastBottom, a_arcThere, a_arcFrom, a_arcTo, a_arcWeight, a_table, a_otherTable, a_squared, a_levels, a_setCells, a_onRingBelowZero, a_queue, a_queued, a_arcsUsed⟩ := u
  obtain ⟨f_top, f_bottom, f_ringPoints, a_there, a_froms, a_tos, a_weights, a_walks, a_ways⟩ := v
  obtain ⟨rfl, rfl, rfl, rfl, ok, hq⟩ := I
  have gok := hx_grok ok
  unfold wpX_meanTop wpY_meanTop
  dsimp only
  refine hx_isMean (fun n1 => br_t rfl ?_) (fun h1 => br_f (by decide) ?_)
  · exact hy_mean (fun _ => ⟨rfl, rfl, rfl, rfl, rfl, ok, hq⟩) (fun z => absurd z n1)
  have h1' := h1
  obtain ⟨e, he, rfl⟩ := h1'
  refine hx_leastMean ok he fun t b lv hm => ?_
  dsimp only
  refine br_c (fun c => ?_) (fun c => ?_)
  · refine hy_mean (fun z => absurd h1 z) (fun _ => hy_rings ok fun t' b' r w P hP hr => ?_)
    rw [hp_eq, hp_0] at c
    rcases gr_rbF gok hr with ⟨z1, _, _, nr⟩ | ⟨z1, z2, z3, z4, z5, hM, _⟩
    · refine br_t ?_ ⟨rfl, rfl, rfl, rfl, rfl, ok, hq⟩
      rw [hp_eq, hp_N]
      exact z1
    · have := (hm.2.2.2.1 _ _ hM).1
      omega
  · refine hy_mean (fun z => absurd h1 z) (fun _ => hy_rings ok fun t' b' r w P hP hr => ?_)
    rw [hp_eq, hp_0] at c
    rcases gr_rbF gok hr with ⟨z1, _, _, nr⟩ | ⟨z1, z2, z3, z4, z5, hM, _⟩
    · exact absurd (hm.2.2.1 nr) c
    · refine br_f ?_ (hy_divisor ⟨z2, z3⟩ ⟨z4, z5⟩ fun g g1 g7 d1 d2 hn => ⟨nI_ne0 (by omega) (by omega), ?_, rfl, rfl, rfl, rfl, ok, hq⟩)
      · rw [hp_eq, hp_N]
        exact z1
      · obtain ⟨f1, f2, f3⟩ := hx_frac hm hM ⟨z4, z5⟩ g1 g7 d1 d2 hn
        rw [hp_eq, hp_quo g1 g7, f1]
theorem i_vc_meanBottom {k : Nat} {u : SX} {v : SY} (I : i_Rel k u v) (hk : k + 4 ≤ 2048) (v1 : Int32) : wpX_meanBottom (fun r u' => wpY_meanBottom (fun r' v' => r' = r ∧ i_Rel (k + 4) u' v') v v1) u v1 := by
  obtain ⟨f_queueStart, f_queueLength, f_leastTop, f_leastBottom, a_arcThere, a_arcFrom, a_arcTo, a_arcWeight, a_table, a_otherTable, a_squared, a_levels, a_setCells, a_onRingBelowZero, a_queue, a_queued, a_arcsUsed⟩ := u
  obtain ⟨f_top, f_bottom, f_ringPoints, a_there, a_froms, a_tos, a_weights, a_walks, a_ways⟩ := v
  obtain ⟨rfl, rfl, rfl, rfl, ok, hq⟩ := I
  have gok := hx_grok ok
  unfold wpX_meanBottom wpY_meanBottom
  dsimp only
  refine hx_isMean (fun n1 => br_t rfl ?_) (fun h1 => br_f (by decide) ?_)
  · exact hy_mean (fun _ => ⟨rfl, rfl, rfl, rfl, rfl, ok, hq⟩) (fun z => absurd z n1)
  have h1' := h1
  obtain ⟨e, he, rfl⟩ := h1'
  refine hx_leastMean ok he fun t b lv hm => ?_
  dsimp only
  refine br_c (fun c => ?_) (fun c => ?_)
  · refine hy_mean (fun z => absurd h1 z) (fun _ => hy_rings ok fun t' b' r w P hP hr => ?_)
    rw [hp_eq, hp_0] at c
    rcases gr_rbF gok hr with ⟨z1, _, _, nr⟩ | ⟨z1, z2, z3, z4, z5, hM, _⟩
    · refine br_t ?_ ⟨rfl, rfl, rfl, rfl, rfl, ok, hq⟩
      rw [hp_eq, hp_N]
      exact z1
    · have := (hm.2.2.2.1 _ _ hM).1
      omega
  · refine hy_mean (fun z => absurd h1 z) (fun _ => hy_rings ok fun t' b' r w P hP hr => ?_)
    rw [hp_eq, hp_0] at c
    rcases gr_rbF gok hr with ⟨z1, _, _, nr⟩ | ⟨z1, z2, z3, z4, z5, hM, _⟩
    · exact absurd (hm.2.2.1 nr) c
    · refine br_f ?_ (hy_divisor ⟨z2, z3⟩ ⟨z4, z5⟩ fun g g1 g7 d1 d2 hn => ⟨nI_ne0 (by omega) (by omega), ?_, rfl, rfl, rfl, rfl, ok, hq⟩)
      · rw [hp_eq, hp_N]
        exact z1
      · obtain ⟨f1, f2, f3⟩ := hx_frac hm hM ⟨z4, z5⟩ g1 g7 d1 d2 hn
        rw [hp_eq, hp_quo g1 g7, f2]
theorem i_vc_onLeastRing {k : Nat} {u : SX} {v : SY} (I : i_Rel k u v) (hk : k + 4 ≤ 2048) : wpX_onLeastRing (fun r u' => wpY_onLeastRing (fun r' v' => r' = r ∧ i_Rel (k + 4) u' v') v) u := by
  obtain ⟨f_queueStart, f_queueLength, f_leastTop, f_leastBottom, a_arcThere, a_arcFrom, a_arcTo, a_arcWeight, a_table, a_otherTable, a_squared, a_levels, a_setCells, a_onRingBelowZero, a_queue, a_queued, a_arcsUsed⟩ := u
  obtain ⟨f_top, f_bottom, f_ringPoints, a_there, a_froms, a_tos, a_weights, a_walks, a_ways⟩ := v
  obtain ⟨rfl, rfl, rfl, rfl, ok, hq⟩ := I
  have gok := hx_grok ok
  unfold wpX_onLeastRing wpY_onLeastRing
  dsimp only
  refine hx_leastMean (e := 0) ok (by decide) fun t b lv hm => ?_
  dsimp only
  refine br_c (fun c => ?_) (fun c => ?_)
  · refine hy_rings ok fun t' b' r w P hP hr => ?_
    rw [hp_eq, hp_0] at c
    rcases gr_rbF gok hr with ⟨z1, _, z3, nr⟩ | ⟨z1, z2, z3, z4, z5, hM, _⟩
    · subst z3
      exact ⟨hP, rfl, rfl, rfl, rfl, ok, hq⟩
    · have := (hm.2.2.2.1 _ _ hM).1
      omega
  · rw [hp_eq, hp_0] at c
    refine loop_0 (fun n i (z : Int32 × (Nat → Int32)) => wX_onLeastRing_18 _ n z.1 (nI i) f_queueStart f_queueLength t b a_arcThere a_arcFrom a_arcTo a_arcWeight a_table a_otherTable a_squared z.2 a_setCells a_onRingBelowZero a_queue a_queued a_arcsUsed) (fun i z => hx_set (fun p => ∃ n c, 1 ≤ n ∧ n ≤ 7 ∧ gr_W (hx_A a_arcThere a_arcFrom a_arcTo a_arcWeight) n p p c ∧ (∀ d, gr_W (hx_A a_arcThere a_arcFrom a_arcTo a_arcWeight) n p p d → c ≤ d) ∧ c * b.toInt = t.toInt * (n : Int)) i z.1) 7 (0, lv) (hx_set0 _) ?_ ?_
    · rintro n ⟨r, lv'⟩ hr
      dsimp only at hr
      refine br_t (nI_le (Nat.le_refl 7) (by decide)) (hy_rings ok fun t' b' r' w P hP hr' => ?_)
      rcases gr_rbF gok hr' with ⟨z1, _, z3, nr⟩ | ⟨z1, z2, z3, z4, z5, hM, p1, p2⟩
      · exact absurd (hm.2.2.1 nr) c
      · obtain ⟨k1, k2, k3, _⟩ := hm.2.2.2.1 _ _ hM
        have hs' : hx_set (fun p => ∃ m n c, gr_Rg (hx_A a_arcThere a_arcFrom a_arcTo a_arcWeight) p m n c ∧ b'.toInt * c = t'.toInt * n) 7 r' := by
          refine ⟨P, hP, p1, fun i => ?_⟩
          refine ⟨fun z => ⟨?_, (p2 i).mp z⟩, fun z => (p2 i).mpr z.2⟩
          refine Classical.byContradiction fun hn => ?_
          have le : 2 ^ 7 ≤ 2 ^ i := Nat.pow_le_pow_right (by decide) (by omega)
          rw [Nat.testBit_lt_two_pow (by omega)] at z
          exact absurd z (by decide)
        refine ⟨hx_setU hs' hr fun p hp => ⟨?_, ?_⟩, rfl, rfl, rfl, rfl, ok, hq⟩
        · rintro ⟨m, n, c, g1, g2⟩
          exact ⟨n, c, gr_onr' gok hM k1 k3 hp g1 g2⟩
        · intro z
          exact gr_onr hM k1 k3 z
    · rintro n p ⟨r, lv'⟩ hp hr hn
      dsimp only at hr
      refine br_f (nI_ge (b := 7) hp (by decide)) ?_
      refine hx_levelsFrom ok hp fun lv2 hlv => ?_
      dsimp only
      rw [nI_1]
      exact hx_closesM ok hp hlv ⟨hm.1, hm.2.1⟩ hm.2.2.2.2 (fun z => br_f (by decide) (nm_e (nm_e (hn (_, lv2) (hx_setT hr (by omega) z))))) (fun z => br_t rfl (nm_e (hn (r, lv2) (hx_setF hr z))))
