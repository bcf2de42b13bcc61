/-! the component: the least mean -/
theorem hx_lvall {A : Nat → Nat → Int → Prop} (ok : gr_ok A) {b : Nat → Int32} (h : hx_lv A (fun s => s < 7) b) {v : Nat} (hv : v < 7) (h7 : (b (7 * 7 + v)).toInt ≠ 1000000) : ∀ k, k ≤ 7 → (b (7 * k + v)).toInt ≠ 1000000 ∧ -140 ≤ (b (7 * k + v)).toInt ∧ (b (7 * k + v)).toInt ≤ 140 := by
  intro k hk
  rcases h 7 v (by decide) hv with ⟨z, _⟩ | ⟨_, ⟨s, hs, g⟩, _⟩
  · exact absurd z h7
  · have w2 : (7 - k) + k = 7 := by omega
    rw [← w2] at g
    obtain ⟨y, c1, c2, g1, g2, _⟩ := gr_cut g
    have hy := gr_Wv (gr_oki ok) hs g1
    rcases h k v (by omega) hv with ⟨_, z⟩ | ⟨z, z2, _⟩
    · exact absurd ⟨y, hy, g2⟩ (z c2)
    · have := gr_Vb ok z2
      exact ⟨z, by omega, by omega⟩
theorem hx_growth {post : SX → Prop} {f_queueStart f_queueLength f_leastTop f_leastBottom : Int32} {a_arcThere a_arcFrom a_arcTo a_arcWeight a_table a_otherTable a_squared a_levels a_setCells a_onRingBelowZero a_queue a_queued a_arcsUsed : Nat → Int32} (ok : hx_ok a_arcThere a_arcFrom a_arcTo a_arcWeight) {p : Nat} (hp : p < 7) (hlv : hx_lv (hx_A a_arcThere a_arcFrom a_arcTo a_arcWeight) (fun s => s < 7) a_levels) (h7 : (a_levels (7 * 7 + p)).toInt ≠ 1000000) {Of : Int → Int → Prop} (hr : hx_or Of) (hb : gr_bst Of f_leastTop.toInt f_leastBottom.toInt) (h : ∀ (t1 b1 : Int) (t b : Int32), (∃ k : Nat, k ≤ 6 ∧ t1 = (a_levels (7 * 7 + p)).toInt - (a_levels (7 * k + p)).toInt ∧ b1 = 7 - k) → (∀ k : Nat, k ≤ 6 → ((a_levels (7 * 7 + p)).toInt - (a_levels (7 * k + p)).toInt) * b1 ≤ t1 * (7 - k)) → gr_bst (fun t b => Of t b ∨ (t = t1 ∧ b = b1)) t.toInt b.toInt → post (f_queueStart, f_queueLength, t, b, a_arcThere, a_arcFrom, a_arcTo, a_arcWeight, a_table, a_otherTable, a_squared, a_levels, a_setCells, a_onRingBelowZero, a_queue, a_queued, a_arcsUsed)) : wpX_offerGreatestGrowth post (f_queueStart, f_queueLength, f_leastTop, f_leastBottom, a_arcThere, a_arcFrom, a_arcTo, a_arcWeight, a_table, a_otherTable, a_squared, a_levels, a_setCells, a_onRingBelowZero, a_queue, a_queued, a_arcsUsed) (nI p) (a_levels (7 * 7 + p)) := by
  have gok := hx_grok ok
  have all := hx_lvall gok hlv hp h7
  have a7 := all 7 (by decide)
  have ck : (nI p).toNatClampNeg = p := nI_clamp (by omega)
  have z0 : 7 * 0 + p = p := by omega
  have sub : ∀ k, k ≤ 7 → (a_levels (7 * 7 + p) - a_levels (7 * k + p)).toInt = (a_levels (7 * 7 + p)).toInt - (a_levels (7 * k + p)).toInt := by
    intro k hk
    have := all k hk
    exact hp_sub rfl rfl (by omega) (by omega)
  have e7 : ∀ i, i ≤ 7 → (7 : Int32) - nI i = nI (7 - i) := fun i hi => pk_sub (a := 7) hi
  unfold wpX_offerGreatestGrowth
  dsimp only
  rw [ck]
  refine ⟨vp_in_nI (by omega) (by decide), nm_e ?_⟩
  refine pk_loop (fun n i (z : Int32 × Int32) => wX_offerGreatestGrowth_16 post (nI p) (a_levels (7 * 7 + p)) f_queueStart f_queueLength f_leastTop f_leastBottom a_arcThere a_arcFrom a_arcTo a_arcWeight a_table a_otherTable a_squared a_levels a_setCells a_onRingBelowZero a_queue a_queued a_arcsUsed n z.1 z.2 (nI i)) (fun i z => 1 ≤ i ∧ (∃ k : Nat, k ≤ 6 ∧ z.1.toInt = (a_levels (7 * 7 + p)).toInt - (a_levels (7 * k + p)).toInt ∧ z.2.toInt = 7 - k) ∧ ∀ k : Nat, k < i → ((a_levels (7 * 7 + p)).toInt - (a_levels (7 * k + p)).toInt) * z.2.toInt ≤ z.1.toInt * (7 - k)) 7 1 (a_levels (7 * 7 + p) - a_levels p, 7) (by decide) ?_ ?_ ?_
  · have s0 := sub 0 (by decide)
    rw [z0] at s0
    refine ⟨Nat.le_refl 1, ⟨0, by decide, by dsimp only; rw [s0, z0], ?_⟩, fun k hk => ?_⟩
    · dsimp only
      rw [hp_7]
      rfl
    · have k0 : k = 0 := by omega
      subst k0
      dsimp only
      rw [s0, z0, hp_7]
      exact Int.le_refl _
  · rintro n ⟨t, b⟩ ⟨_, g1, g2⟩
    dsimp only at g1 g2
    have g1' := g1
    obtain ⟨k, hk, e1, e2⟩ := g1'
    have ak := all k (by omega)
    refine br_t (nI_le (Nat.le_refl 7) (by decide)) ?_
    exact hx_offer (t1 := t) (b1 := b) hr hb (by omega) (by omega) fun t' b' hb' => h _ _ t' b' g1 (fun k hk => g2 k (by omega)) hb'
  · rintro n i ⟨t, b⟩ hi ⟨i1, g1, g2⟩ hn
    dsimp only at g1 g2
    have g1' := g1
    obtain ⟨k, hk, e1, e2⟩ := g1'
    have ak := all k (by omega)
    have ai := all i (by omega)
    have ci : (nI (7 * i + p)).toNatClampNeg = 7 * i + p := nI_clamp (by omega)
    have si := sub i (by omega)
    have n7 : (nI (7 - i)).toInt = 7 - (i : Int) := by
      rw [nI_toInt (by omega)]
      omega
    have q1 : ((a_levels (7 * 7 + p) - a_levels (7 * i + p)) * b).toInt = ((a_levels (7 * 7 + p)).toInt - (a_levels (7 * i + p)).toInt) * b.toInt := hx_mul si rfl (by omega) (by omega)
    have q2 : (t * nI (7 - i)).toInt = t.toInt * (7 - (i : Int)) := hx_mul rfl n7 (by omega) (by omega)
    refine br_f (nI_ge (b := 7) hi (by decide)) ?_
    dsimp only
    rw [hp_ix, ci, e7 i (by omega), nI_1]
    refine ⟨vp_in_nI (by omega) (by decide), nm_e (br_c (fun c => nm_e (hn (t, b) ⟨by omega, g1, fun k' hk' => ?_⟩)) (fun c => nm_e (nm_e (hn (a_levels (7 * 7 + p) - a_levels (7 * i + p), nI (7 - i)) ⟨by omega, ⟨i, by omega, si, n7⟩, fun k' hk' => ?_⟩))))⟩
    · rw [hp_le, q1, q2] at c
      by_cases e : k' = i
      · subst e
        exact c
      · exact g2 k' (by omega)
    · rw [hp_le, q1, q2] at c
      dsimp only
      rw [si, n7]
      by_cases e : k' = i
      · subst e
        exact Int.le_refl _
      · exact gr_crl (b2 := b.toInt) (by omega) (by omega) (by omega) (g2 k' (by omega)) (Int.le_of_lt (by omega))
/-- what both mean engines leave -/
def hx_mres (A : Nat → Nat → Int → Prop) (t b : Int) : Prop := -1000 ≤ t ∧ t ≤ 1000 ∧ ((∀ s m n c, ¬ gr_Rg A s m n c) → t = 0 ∧ b = 0) ∧ (∀ p q, gr_Mean A p q → 1 ≤ b ∧ b ≤ 7 ∧ t * q = p * b) ∧ 0 ≤ b ∧ b ≤ 7
theorem hx_byLevels {post : SX → Prop} {f_queueStart f_queueLength : Int32} {a_arcThere a_arcFrom a_arcTo a_arcWeight a_table a_otherTable a_squared a_levels a_setCells a_onRingBelowZero a_queue a_queued a_arcsUsed : Nat → Int32} (ok : hx_ok a_arcThere a_arcFrom a_arcTo a_arcWeight) (h : ∀ (t b : Int32) (lv : Nat → Int32), hx_mres (hx_A a_arcThere a_arcFrom a_arcTo a_arcWeight) t.toInt b.toInt → post (f_queueStart, f_queueLength, t, b, a_arcThere, a_arcFrom, a_arcTo, a_arcWeight, a_table, a_otherTable, a_squared, lv, a_setCells, a_onRingBelowZero, a_queue, a_queued, a_arcsUsed)) : wpX_findMeanByLevels post (f_queueStart, f_queueLength, 0, 0, a_arcThere, a_arcFrom, a_arcTo, a_arcWeight, a_table, a_otherTable, a_squared, a_levels, a_setCells, a_onRingBelowZero, a_queue, a_queued, a_arcsUsed) := by
  have gok := hx_grok ok
  unfold wpX_findMeanByLevels
  refine hx_levelsAny ok fun lv hlv => ?_
  refine loop_0 (fun n i (z : Int32 × Int32) => wX_findMeanByLevels_6 post n (nI i) f_queueStart f_queueLength z.1 z.2 a_arcThere a_arcFrom a_arcTo a_arcWeight a_table a_otherTable a_squared lv a_setCells a_onRingBelowZero a_queue a_queued a_arcsUsed) (fun i z => ∃ Of, hx_or Of ∧ gr_bst Of z.1.toInt z.2.toInt ∧ (∀ t b, Of t b → gr_O0 (fun l v => (lv (7 * l + v)).toInt) t b) ∧ ∀ v, v < i → (lv (7 * 7 + v)).toInt ≠ 1000000 → ∃ t b, Of t b ∧ ∃ k : Nat, k ≤ 6 ∧ t = (lv (7 * 7 + v)).toInt - (lv (7 * k + v)).toInt ∧ b = 7 - k) 7 (0, 0) ?_ ?_ ?_
  · exact ⟨fun _ _ => False, fun _ _ z => z.elim, Or.inl ⟨hp_0, hp_0, fun _ _ z => z⟩, fun _ _ z => z.elim, fun v hv => absurd hv (by omega)⟩
  · rintro n ⟨t, b⟩ ⟨Of, o1, o2, o3, o4⟩
    dsimp only at o2
    refine br_t (nI_le (Nat.le_refl 7) (by decide)) (h t b lv ⟨?_, ?_, fun nr => ?_, fun p q hm => ?_, (hx_bstr o1 o2).2.2.1, (hx_bstr o1 o2).2.2.2⟩)
    · exact (hx_bstr o1 o2).1
    · exact (hx_bstr o1 o2).2.1
    · rcases o2 with ⟨z1, z2, _⟩ | ⟨_, z, _⟩
      · exact ⟨z2, z1⟩
      · obtain ⟨v, hv, hf, _⟩ := o3 _ _ z
        rcases hlv 7 v (by decide) hv with ⟨z, _⟩ | ⟨_, ⟨s, hs, g⟩, _⟩
        · exact absurd z hf
        · exact absurd g (gr_no7 gok nr hs)
    · exact gr_O0m gok hm (D := fun l v => (lv (7 * l + v)).toInt) hlv o2 o3 (fun v hv h7 => o4 v hv h7)
  · rintro n p ⟨t, b⟩ hp ⟨Of, o1, o2, o3, o4⟩ hn
    dsimp only at o2
    have e49 : (49 : Int32) + nI p = nI (49 + p) := by rw [show (49 : Int32) = nI 49 from rfl, nI_add]
    have ck : (nI (49 + p)).toNatClampNeg = 7 * 7 + p := nI_clamp (by omega)
    refine br_f (nI_ge (b := 7) hp (by decide)) ?_
    dsimp only
    rw [e49, ck, nI_1]
    refine ⟨vp_in_nI (by omega) (by decide), nm_e (br_c (fun c => nm_e (hn (t, b) ⟨Of, o1, o2, o3, fun v hv h7 => ?_⟩)) (fun c => ?_))⟩
    · rw [hp_eq, hp_F] at c
      by_cases e : v = p
      · subst e
        exact absurd c h7
      · exact o4 v (by omega) h7
    · rw [hp_eq, hp_F] at c
      have all := hx_lvall gok hlv hp c
      have a7 := all 7 (by decide)
      refine hx_growth ok hp hlv c o1 o2 fun t1 b1 t' b' g1 g2 g3 => ?_
      dsimp only
      refine nm_e (hn (t', b') ⟨_, fun t b o => ?_, g3, fun t b o => ?_, fun v hv h7 => ?_⟩)
      · rcases o with o | ⟨rfl, rfl⟩
        · exact o1 t b o
        · obtain ⟨k, hk, e1, e2⟩ := g1
          have ak := all k (by omega)
          omega
      · rcases o with o | ⟨rfl, rfl⟩
        · exact o3 t b o
        · exact ⟨p, hp, c, g1, g2⟩
      · by_cases e : v = p
        · subst e
          exact ⟨t1, b1, Or.inr ⟨rfl, rfl⟩, g1⟩
        · obtain ⟨t2, b2, q1, q2⟩ := o4 v (by omega) h7
          exact ⟨t2, b2, Or.inl q1, q2⟩
theorem hx_byClosed {post : SX → Prop} {f_queueStart f_queueLength : Int32} {a_arcThere a_arcFrom a_arcTo a_arcWeight a_table a_otherTable a_squared a_levels a_setCells a_onRingBelowZero a_queue a_queued a_arcsUsed : Nat → Int32} (ok : hx_ok a_arcThere a_arcFrom a_arcTo a_arcWeight) (h : ∀ (t b : Int32) (lv : Nat → Int32), hx_mres (hx_A a_arcThere a_arcFrom a_arcTo a_arcWeight) t.toInt b.toInt → post (f_queueStart, f_queueLength, t, b, a_arcThere, a_arcFrom, a_arcTo, a_arcWeight, a_table, a_otherTable, a_squared, lv, a_setCells, a_onRingBelowZero, a_queue, a_queued, a_arcsUsed)) : wpX_findMeanByClosedWalks post (f_queueStart, f_queueLength, 0, 0, a_arcThere, a_arcFrom, a_arcTo, a_arcWeight, a_table, a_otherTable, a_squared, a_levels, a_setCells, a_onRingBelowZero, a_queue, a_queued, a_arcsUsed) := by
  have gok := hx_grok ok
  refine loop_0 (fun n i (z : Int32 × Int32 × (Nat → Int32)) => wX_findMeanByClosedWalks_2 post n (nI i) f_queueStart f_queueLength z.1 z.2.1 a_arcThere a_arcFrom a_arcTo a_arcWeight a_table a_otherTable a_squared z.2.2 a_setCells a_onRingBelowZero a_queue a_queued a_arcsUsed) (fun i z => ∃ Of, hx_or Of ∧ gr_bst Of z.1.toInt z.2.1.toInt ∧ (∀ t b, Of t b → gr_O1 (hx_A a_arcThere a_arcFrom a_arcTo a_arcWeight) t b) ∧ ∀ v m c, v < i → 1 ≤ m → m ≤ 7 → gr_W (hx_A a_arcThere a_arcFrom a_arcTo a_arcWeight) m v v c → ∃ d, Of d (m : Int) ∧ d ≤ c) 7 (0, 0, a_levels) ?_ ?_ ?_
  · exact ⟨fun _ _ => False, fun _ _ z => z.elim, Or.inl ⟨hp_0, hp_0, fun _ _ z => z⟩, fun _ _ z => z.elim, fun v m c hv => absurd hv (by omega)⟩
  · rintro n ⟨t, b, lv⟩ ⟨Of, o1, o2, o3, o4⟩
    dsimp only at o2
    refine br_t (nI_le (Nat.le_refl 7) (by decide)) (h t b lv ⟨?_, ?_, fun nr => ?_, fun p q hm => ?_, (hx_bstr o1 o2).2.2.1, (hx_bstr o1 o2).2.2.2⟩)
    · exact (hx_bstr o1 o2).1
    · exact (hx_bstr o1 o2).2.1
    · rcases o2 with ⟨z1, z2, _⟩ | ⟨_, z, _⟩
      · exact ⟨z2, z1⟩
      · obtain ⟨v, m, hv, m1, m7, _, g, _⟩ := o3 _ _ z
        exact absurd g (gr_noc nr m1)
    · exact gr_O1m gok hm o2 o3 (fun v m c hv m1 m7 g => o4 v m c hv m1 m7 g)
  · rintro n p ⟨t, b, lv0⟩ hp ⟨Of, o1, o2, o3, o4⟩ hn
    dsimp only at o2
    refine br_f (nI_ge (b := 7) hp (by decide)) ?_
    refine hx_levelsFrom ok hp fun lv hlv => ?_
    refine pk_loop (fun n' i (z : Int32 × Int32) => wX_findMeanByClosedWalks_15 post (wX_findMeanByClosedWalks_2 post n) (nI p) n' (nI i) f_queueStart f_queueLength z.1 z.2 a_arcThere a_arcFrom a_arcTo a_arcWeight a_table a_otherTable a_squared lv a_setCells a_onRingBelowZero a_queue a_queued a_arcsUsed) (fun i z => 1 ≤ i ∧ ∃ Of, hx_or Of ∧ gr_bst Of z.1.toInt z.2.toInt ∧ (∀ t b, Of t b → gr_O1 (hx_A a_arcThere a_arcFrom a_arcTo a_arcWeight) t b) ∧ ∀ v m c, (v < p ∨ (v = p ∧ m < i)) → 1 ≤ m → m ≤ 7 → gr_W (hx_A a_arcThere a_arcFrom a_arcTo a_arcWeight) m v v c → ∃ d, Of d (m : Int) ∧ d ≤ c) 8 1 (t, b) (by decide) ⟨Nat.le_refl 1, Of, o1, o2, o3, fun v m c hv m1 m7 g => o4 v m c (by omega) m1 m7 g⟩ ?_ ?_
    · rintro n' ⟨t, b⟩ ⟨_, Of, o1, o2, o3, o4⟩
      refine br_t (nI_lt (a := 7) (b := 8) (by decide) (by decide)) ?_
      rw [nI_1]
      exact nm_e (hn (t, b, lv) ⟨Of, o1, o2, o3, fun v m c hv m1 m7 g => o4 v m c (by omega) m1 m7 g⟩)
    · rintro n' m ⟨t, b⟩ hm ⟨m1, Of, o1, o2, o3, o4⟩ hn'
      dsimp only at o2
      have ck : (nI (7 * m + p)).toNatClampNeg = 7 * m + p := nI_clamp (by omega)
      have hz : gr_mn 1000000 (gr_W (hx_A a_arcThere a_arcFrom a_arcTo a_arcWeight) m p p) (lv (7 * m + p)).toInt := gr_mnC (fun c => gr_V1.symm) (hlv m p (by omega) hp)
      refine br_f (nI_nlt (a := 7) (b := m) (by omega) (by decide)) ?_
      dsimp only
      rw [hp_ix, ck, nI_1]
      refine ⟨vp_in_nI (by omega) (by decide), nm_e (br_c (fun c => nm_e (hn' (t, b) ⟨by omega, Of, o1, o2, o3, fun v k d hv k1 k7 g => ?_⟩)) (fun c => ?_))⟩
      · rw [hp_eq, hp_F] at c
        by_cases e : v = p ∧ k = m
        · obtain ⟨rfl, rfl⟩ := e
          rcases hz with ⟨_, z⟩ | ⟨z, _⟩
          · exact absurd g (z d)
          · exact absurd c z
        · exact o4 v k d (by omega) k1 k7 g
      · rw [hp_eq, hp_F] at c
        have hz' : gr_W (hx_A a_arcThere a_arcFrom a_arcTo a_arcWeight) m p p (lv (7 * m + p)).toInt ∧ ∀ d, gr_W (hx_A a_arcThere a_arcFrom a_arcTo a_arcWeight) m p p d → (lv (7 * m + p)).toInt ≤ d := by
          rcases hz with ⟨z, _⟩ | ⟨_, z⟩
          · exact absurd z c
          · exact z
        have bz := gr_Wb gok hz'.1
        have nm : (nI m).toInt = (m : Int) := nI_toInt (by omega)
        refine hx_offer o1 o2 (by omega) (by omega) fun t' b' hb' => ?_
        dsimp only
        rw [nm] at hb'
        refine nm_e (hn' (t', b') ⟨by omega, _, fun t b o => ?_, hb', fun t b o => ?_, fun v k d hv k1 k7 g => ?_⟩)
        · rcases o with o | ⟨rfl, rfl⟩
          · exact o1 t b o
          · omega
        · rcases o with o | ⟨rfl, rfl⟩
          · exact o3 t b o
          · exact ⟨p, m, hp, m1, by omega, rfl, hz'.1, hz'.2⟩
        · by_cases e : v = p ∧ k = m
          · obtain ⟨rfl, rfl⟩ := e
            exact ⟨_, Or.inr ⟨rfl, rfl⟩, hz'.2 d g⟩
          · obtain ⟨d', q1, q2⟩ := o4 v k d (by omega) k1 k7 g
            exact ⟨d', Or.inl q1, q2⟩
theorem hx_dv {d x : Int} (hd : 1 ≤ d) (h : -1000 ≤ d * x ∧ d * x ≤ 1000) : -1000 ≤ x ∧ x ≤ 1000 := by
  by_cases c : 0 ≤ x
  · have := Int.mul_le_mul_of_nonneg_right hd c
    omega
  · have := Int.mul_le_mul_of_nonneg_right hd (by omega : 0 ≤ -x)
    rw [Int.mul_neg, Int.mul_neg] at this
    omega
theorem hx_dv2 {d x : Int} (hd : 1 ≤ d) (h : 0 ≤ d * x ∧ d * x ≤ 7) : 0 ≤ x ∧ x ≤ 7 := by
  by_cases c : 0 ≤ x
  · have := Int.mul_le_mul_of_nonneg_right hd c
    omega
  · have := Int.mul_le_mul_of_nonneg_right hd (by omega : 0 ≤ -x)
    rw [Int.mul_neg, Int.mul_neg] at this
    omega
/-- the fraction made coprime -/
def hx_mred (A : Nat → Nat → Int → Prop) (t b : Int) : Prop := -1000 ≤ t ∧ t ≤ 1000 ∧ ((∀ s m n c, ¬ gr_Rg A s m n c) → b = 0) ∧ (∀ p q, gr_Mean A p q → 1 ≤ b ∧ b ≤ 7 ∧ t * q = p * b ∧ gr_nc 2 t b) ∧ 0 ≤ b ∧ b ≤ 7
theorem hx_reduce {post : SX → Prop} {f_queueStart f_queueLength f_leastTop f_leastBottom : Int32} {a_arcThere a_arcFrom a_arcTo a_arcWeight a_table a_otherTable a_squared a_levels a_setCells a_onRingBelowZero a_queue a_queued a_arcsUsed : Nat → Int32} {A : Nat → Nat → Int → Prop} (hm : hx_mres A f_leastTop.toInt f_leastBottom.toInt) (h : ∀ t b : Int32, hx_mred A t.toInt b.toInt → post (f_queueStart, f_queueLength, t, b, a_arcThere, a_arcFrom, a_arcTo, a_arcWeight, a_table, a_otherTable, a_squared, a_levels, a_setCells, a_onRingBelowZero, a_queue, a_queued, a_arcsUsed)) : ∃ n, wX_findLeastMean_28 post f_queueStart f_queueLength a_arcThere a_arcFrom a_arcTo a_arcWeight a_table a_otherTable a_squared a_levels a_setCells a_onRingBelowZero a_queue a_queued a_arcsUsed n 7 f_leastTop f_leastBottom := by
  refine ⟨7, pk_loopD (fun n i (z : Int32 × Int32) => wX_findLeastMean_28 post f_queueStart f_queueLength a_arcThere a_arcFrom a_arcTo a_arcWeight a_table a_otherTable a_squared a_levels a_setCells a_onRingBelowZero a_queue a_queued a_arcsUsed n (nI (i + 1)) z.1 z.2) (fun i z => i ≤ 6 ∧ (-1000 ≤ z.1.toInt ∧ z.1.toInt ≤ 1000 ∧ 0 ≤ z.2.toInt ∧ z.2.toInt ≤ 7) ∧ (f_leastTop.toInt = 0 → f_leastBottom.toInt = 0 → z.1.toInt = 0 ∧ z.2.toInt = 0) ∧ (1 ≤ f_leastBottom.toInt → 1 ≤ z.2.toInt ∧ z.1.toInt * f_leastBottom.toInt = f_leastTop.toInt * z.2.toInt ∧ gr_nc (i + 2) z.1.toInt z.2.toInt)) ?_ ?_ 6 (f_leastTop, f_leastBottom) ?_⟩
  · rintro n ⟨t, b⟩ ⟨_, r1, r2, r3⟩
    dsimp only at r1 r2 r3
    refine br_t (by decide : nI (0 + 1) ≤ 1) (h t b ⟨r1.1, r1.2.1, fun nr => ?_, fun p q hM => ?_, r1.2.2⟩)
    · have := hm.2.2.1 nr
      exact (r2 this.1 this.2).2
    · obtain ⟨k1, k2, k3⟩ := hm.2.2.2.1 p q hM
      obtain ⟨g1, g2, g3⟩ := r3 k1
      have q0 := hM.1
      refine ⟨g1, r1.2.2.2, ?_, g3⟩
      have e1 : t.toInt * q ≤ p * b.toInt := gr_crl (b2 := f_leastBottom.toInt) (by omega) (by omega) (by omega) (Int.le_of_eq g2) (Int.le_of_eq k3)
      have e2 : p * b.toInt ≤ t.toInt * q := gr_crl (b2 := f_leastBottom.toInt) (by omega) (by omega) (by omega) (Int.le_of_eq k3.symm) (Int.le_of_eq g2.symm)
      omega
  · rintro n i ⟨t, b⟩ ⟨i6, r1, r2, r3⟩ hn
    dsimp only at r1 r2 r3
    have n0 : ¬ nI (i + 1 + 1) = 0 := nI_ne0 (by omega) (by omega)
    have ed : ((i + 1 + 1 : Nat) : Int) = (i : Int) + 2 := by omega
    have en : ((i + 1 : Nat) : Int) + 2 = ((i : Int) + 2) + 1 := by omega
    rw [en] at r3
    have keep : ¬ (((i : Int) + 2) ∣ t.toInt ∧ ((i : Int) + 2) ∣ b.toInt) → wX_findLeastMean_28 post f_queueStart f_queueLength a_arcThere a_arcFrom a_arcTo a_arcWeight a_table a_otherTable a_squared a_levels a_setCells a_onRingBelowZero a_queue a_queued a_arcsUsed n (nI (i + 1)) t b := by
      intro hh
      exact hn (t, b) ⟨by omega, r1, r2, fun h1 => ⟨(r3 h1).1, (r3 h1).2.1, gr_nc2 (r3 h1).2.2 hh⟩⟩
    refine br_f (nI_ge (a := 1) (b := i + 1 + 1) (by omega) (by omega)) ?_
    dsimp only
    rw [hp_rem0 (by omega) (by omega) (by omega), hp_rem0 (by omega) (by omega) (by omega), pk_m1, ed]
    refine ⟨n0, br_c (fun c1 => ⟨n0, br_c (fun c2 => ⟨n0, nm_e ⟨n0, nm_e (nm_e ?_)⟩⟩) (fun c2 => nm_e (keep fun z => c2 z.2))⟩) (fun c1 => nm_e (keep fun z => c1 z.1))⟩
    obtain ⟨t1, et⟩ := c1
    obtain ⟨b1, eb⟩ := c2
    have qt : (t / nI (i + 1 + 1)).toInt = t1 := by
      rw [hp_quo (by omega) (by omega), ed, et]
      exact Int.mul_tdiv_cancel_left _ (by omega)
    have qb : (b / nI (i + 1 + 1)).toInt = b1 := by
      rw [hp_quo (by omega) (by omega), ed, eb]
      exact Int.mul_tdiv_cancel_left _ (by omega)
    have d1 := hx_dv (d := (i : Int) + 2) (x := t1) (by omega) (by omega)
    have d2 := hx_dv2 (d := (i : Int) + 2) (x := b1) (by omega) (by omega)
    refine hn (t / nI (i + 1 + 1), b / nI (i + 1 + 1)) ⟨by omega, ?_, fun h1 h2 => ?_, fun h1 => ?_⟩
    · dsimp only
      rw [qt, qb]
      exact ⟨d1.1, d1.2, d2.1, d2.2⟩
    · have := r2 h1 h2
      dsimp only
      rw [qt, qb]
      rw [et, eb] at this
      have k1 := Int.mul_eq_zero.mp this.1
      have k2 := Int.mul_eq_zero.mp this.2
      omega
    · obtain ⟨g1, g2, g3⟩ := r3 h1
      dsimp only
      rw [qt, qb]
      refine ⟨?_, ?_, gr_nc1 (by omega) g1 (by omega) g3 et eb⟩
      · refine Classical.byContradiction fun hn' => ?_
        have b0 : b1 = 0 := by omega
        rw [b0, Int.mul_zero] at eb
        omega
      · rw [et, eb, Int.mul_assoc, Int.mul_left_comm f_leastTop.toInt] at g2
        exact Int.eq_of_mul_eq_mul_left (by omega) g2
  · refine ⟨by omega, ⟨hm.1, hm.2.1, hm.2.2.2.2.1, hm.2.2.2.2.2⟩, fun h1 h2 => ⟨h1, h2⟩, fun h1 => ⟨h1, rfl, fun e h1 h2 => ?_⟩⟩
    omega
