/-! the reference: arc, lowest, ones, through, rings, divisor -/
theorem hy_arc {post : Int32 → Prop} {f_top f_bottom f_ringPoints : Int32} {a_there a_froms a_tos a_weights a_walks a_ways : Nat → Int32} (ok : hx_ok a_there a_froms a_tos a_weights) {a b : Nat} (ha : a < 7) (hb : b < 7) (h : ∀ r : Int32, gr_mn (-3000) (fun x => (hx_A a_there a_froms a_tos a_weights) a b x) r.toInt → post r) : wpY_arc post (f_top, f_bottom, f_ringPoints, a_there, a_froms, a_tos, a_weights, a_walks, a_ways) (nI a) (nI b) := by
  refine loop_0 (fun n i (r : Int32) => wY_arc_7 post (nI a) (nI b) f_top f_bottom f_ringPoints a_there a_froms a_tos a_weights a_walks a_ways n r (nI i)) (fun i r => gr_mn (-3000) (fun x => ∃ j, j < i ∧ (hx_K a_there a_froms a_tos a_weights) j a b x) r.toInt) 20 (-3000) (Or.inl ⟨hp_N, fun c ⟨j, hj, _⟩ => absurd hj (by omega)⟩) ?_ ?_
  · intro n r hr
    exact br_t (nI_le (Nat.le_refl 20) (by decide)) (h r hr)
  · intro n i r hi hr hn
    obtain ⟨u, v, x, hu, hv, eu, ev, ew, hx1, hx2, hk0, hk1⟩ := hx_arc ok hi
    have ck : (nI i).toNatClampNeg = i := nI_clamp (by omega)
    have vi : vp_in (nI i) 20 := vp_in_nI hi (by decide)
    have ee : ∀ c, (∃ j, j < i + 1 ∧ (hx_K a_there a_froms a_tos a_weights) j a b c) ↔ (∃ j, j < i ∧ (hx_K a_there a_froms a_tos a_weights) j a b c) ∨ (hx_K a_there a_froms a_tos a_weights) i a b c := by
      intro c
      constructor
      · rintro ⟨j, hj, g⟩
        by_cases e : j = i
        · subst e
          exact Or.inr g
        · exact Or.inl ⟨j, by omega, g⟩
      · rintro (⟨j, hj, g⟩ | g)
        · exact ⟨j, by omega, g⟩
        · exact ⟨i, by omega, g⟩
    have keep : (∀ c, ¬ (hx_K a_there a_froms a_tos a_weights) i a b c) → wY_arc_50 post (wY_arc_7 post (nI a) (nI b) f_top f_bottom f_ringPoints a_there a_froms a_tos a_weights a_walks a_ways n) (nI a) (nI b) r (nI i) f_top f_bottom f_ringPoints a_there a_froms a_tos a_weights a_walks a_ways := by
      intro hh
      unfold wY_arc_50 wY_arc_51
      refine br_t rfl ?_
      rw [nI_1]
      exact nm_e (hn r (gr_mnN ee hr hh))
    refine br_f (nI_ge (b := 20) hi (by decide)) ?_
    simp only [ck, eu, ev]
    refine ⟨vi, br_c (fun t0 => keep fun c hk => hk0 t0 _ _ _ hk) (fun t0 => ⟨vi, ?_⟩)⟩
    obtain ⟨kk, _⟩ := hk1 t0
    refine br_c (fun c1 => ⟨vi, br_c (fun c2 => ?_) (fun c2 => keep fun c hk => ?_)⟩) (fun c1 => keep fun c hk => ?_)
    · rw [nI_eq (by omega) (by omega)] at c1 c2
      subst c1 c2
      have one : gr_mn (-3000) (fun c => (hx_K a_there a_froms a_tos a_weights) i u v c) x := by
        refine Or.inr ⟨by omega, (kk _ _ _).mpr ⟨rfl, rfl, rfl⟩, fun c hk => ?_⟩
        obtain ⟨_, _, rfl⟩ := (kk _ _ _).mp hk
        exact Int.le_refl _
      have take : (r.toInt = -3000 ∨ x ≤ r.toInt) → wY_arc_76 post (wY_arc_7 post (nI u) (nI v) f_top f_bottom f_ringPoints a_there a_froms a_tos a_weights a_walks a_ways n) (nI u) (nI v) (nI i) f_top f_bottom f_ringPoints a_there a_froms a_tos a_weights a_walks a_ways := by
        intro hh
        unfold wY_arc_76
        rw [ck, nI_1]
        refine ⟨vi, nm_e (nm_e (hn _ ?_))⟩
        rw [ew]
        exact gr_mnT ee hr one (by omega) hh
      unfold wY_arc_51
      rw [ck, nI_1]
      refine br_f (by decide) (br_c (fun c3 => take (Or.inl ?_)) (fun c3 => ⟨vi, br_c (fun c4 => nm_e (hn r (gr_mnK ee hr one (Or.inr ?_)))) (fun c4 => take (Or.inr ?_))⟩))
      · rw [hp_eq, hp_N] at c3
        exact c3
      · rw [hp_eq, hp_N] at c3
        rw [hp_le, ew] at c4
        exact ⟨c3, c4⟩
      · rw [hp_le, ew] at c4
        omega
    · obtain ⟨_, e, _⟩ := (kk _ _ _).mp hk
      exact c2 (by rw [e])
    · obtain ⟨e, _, _⟩ := (kk _ _ _).mp hk
      exact c1 (by rw [e])
theorem hy_lowest {post : Int32 → Prop} {f_top f_bottom f_ringPoints : Int32} {a_there a_froms a_tos a_weights a_walks a_ways : Nat → Int32} {m s : Nat} (hm : m < 128) (hs : s < 7) (hl : gr_lo m s) (h : post (nI s)) : wpY_lowest post (f_top, f_bottom, f_ringPoints, a_there, a_froms, a_tos, a_weights, a_walks, a_ways) (nI m) := by
  refine loop_0 (fun n i (_ : Unit) => wY_lowest_2 post (nI m) f_top f_bottom f_ringPoints a_there a_froms a_tos a_weights a_walks a_ways n (nI i)) (fun _ _ => True) s () trivial ?_ ?_
  · intro n _ _
    refine br_f ?_ h
    rw [hp_bit0 (by omega) (by omega), hl.1]
    decide
  · intro n i _ hi _ hn
    refine br_t ?_ ?_
    · rw [hp_bit0 (by omega) (by omega)]
      exact hl.2 i hi
    · rw [nI_1]
      exact nm_e (hn () trivial)
def hy_pcp (m : Nat) : Nat → Nat
  | 0 => 0
  | i + 1 => hy_pcp m i + (m.testBit i).toNat
theorem hy_pcp7 (m : Nat) : hy_pcp m 7 = gr_pc m := by
  unfold gr_pc
  simp only [hy_pcp]
  omega
theorem hy_ones {post : Int32 → Prop} {f_top f_bottom f_ringPoints : Int32} {a_there a_froms a_tos a_weights a_walks a_ways : Nat → Int32} {m : Nat} (hm : m < 128) (h : post (nI (gr_pc m))) : wpY_ones post (f_top, f_bottom, f_ringPoints, a_there, a_froms, a_tos, a_weights, a_walks, a_ways) (nI m) := by
  refine loop_0 (fun n i (r : Int32) => wY_ones_4 post (nI m) f_top f_bottom f_ringPoints a_there a_froms a_tos a_weights a_walks a_ways n r (nI i)) (fun i r => r = nI (hy_pcp m i)) 7 0 rfl ?_ ?_
  · rintro n r rfl
    rw [hy_pcp7]
    exact br_t (nI_le (Nat.le_refl 7) (by decide)) h
  · rintro n i r hi rfl hn
    refine br_f (nI_ge (b := 7) hi (by decide)) ?_
    rw [hp_bit (by omega) (by omega), nI_add, nI_1]
    exact nm_e (nm_e (hn _ rfl))
theorem hy_wo : ∀ M, M < 128 → ∀ v, v < 7 → nI M &&& (((1 : Int32) <<< (nI v &&& 31)) ^^^ (-1)) = nI (gr_wo M v) := by decide +kernel
theorem hy_lo7 {M : Nat} (hM : M < 128) (h1 : 1 ≤ M) : ∃ s, s < 7 ∧ gr_lo M s := by
  obtain ⟨p, hp⟩ := Nat.exists_testBit_of_ne_zero (x := M) (by omega)
  obtain ⟨s, hs, hl⟩ := gr_loE hp
  refine ⟨s, ?_, hl⟩
  refine Classical.byContradiction fun hn => ?_
  have le : 2 ^ 7 ≤ 2 ^ s := Nat.pow_le_pow_right (by decide) (by omega)
  have := hl.1
  rw [Nat.testBit_lt_two_pow (by omega)] at this
  exact absurd this (by decide)
theorem hy_loW {M s v : Nat} (hl : gr_lo M s) (hv : v ≠ s) : gr_lo (gr_wo M v) s := by
  refine ⟨?_, fun i hi => ?_⟩
  · rw [gr_wob, hl.1, decide_eq_false hv]
    rfl
  · rw [gr_wob, hl.2 i hi]
    rfl
theorem hy_through {post : SY → Prop} {f_top f_bottom f_ringPoints : Int32} {a_there a_froms a_tos a_weights a_walks a_ways : Nat → Int32} (ok : hx_ok a_there a_froms a_tos a_weights) {M : Nat} (hM : M < 128) (h1 : 1 ≤ M) (h5 : gr_E5 (hx_A a_there a_froms a_tos a_weights) M (fun m v => (a_ways (7 * m + v)).toInt)) (h : ∀ w : Nat → Int32, gr_E5 (hx_A a_there a_froms a_tos a_weights) (M + 1) (fun m v => (w (7 * m + v)).toInt) → post (f_top, f_bottom, f_ringPoints, a_there, a_froms, a_tos, a_weights, a_walks, w)) : wpY_through post (f_top, f_bottom, f_ringPoints, a_there, a_froms, a_tos, a_weights, a_walks, a_ways) (nI M) := by
  have gok := hx_grok ok
  obtain ⟨s, hs, hl⟩ := hy_lo7 hM h1
  unfold wpY_through
  refine hy_lowest hM hs hl ?_
  refine loop_0 (fun n i (w : Nat → Int32) => wY_through_8 post (nI M) (nI s) f_top f_bottom f_ringPoints n (nI i) a_there a_froms a_tos a_weights a_walks w) (fun c w => (∀ m y, m ≠ M → y < 7 → w (7 * m + y) = a_ways (7 * m + y)) ∧ ∀ y, y < 7 → gr_mn (-3000) (gr_PT (hx_A a_there a_froms a_tos a_weights) M s c y) (w (7 * M + y)).toInt) 49 a_ways ?_ ?_ ?_
  · refine ⟨fun m y _ _ => rfl, fun y hy => ?_⟩
    have k := (h5 M y hM hy).2 (Nat.le_refl M)
    dsimp only at k
    rw [k]
    by_cases e : M = 2 ^ y
    · rw [if_pos e]
      exact Or.inr ⟨by decide, gr_PT0.mpr ⟨e, rfl⟩, fun c hc => by have := (gr_PT0.mp hc).2; omega⟩
    · rw [if_neg e]
      exact Or.inl ⟨rfl, fun c hc => e (gr_PT0.mp hc).1⟩
  · rintro n w ⟨r1, r2⟩
    refine br_t (nI_le (Nat.le_refl 49) (by decide)) (h w fun m v hm hv => ⟨fun hlt s' hl' => ?_, fun hge => ?_⟩)
    · by_cases e : m = M
      · subst e
        have e2 := gr_loU hl' hl
        subst e2
        exact gr_mnC (fun c => gr_PTf (gr_oki gok) hl hv) (r2 v hv)
      · dsimp only
        rw [r1 m v e hv]
        exact (h5 m v hm hv).1 (by omega) s' hl'
    · dsimp only
      rw [r1 m v (by omega) hv]
      exact (h5 m v hm hv).2 (by omega)
  · rintro n c w hc ⟨r1, r2⟩ hn
    obtain ⟨v, u, rfl, hu, hv⟩ : ∃ v u, c = 7 * v + u ∧ u < 7 ∧ v < 7 := ⟨c / 7, c % 7, by omega, by omega, by omega⟩
    obtain ⟨e1, e2⟩ := hp_c7 (i := v) hu (by omega)
    have n7 : ¬ (7 : Int32) = 0 := by decide
    have vM : vp_in (nI (7 * M + v)) 896 := vp_in_nI (by omega) (by decide)
    have cM : (nI (7 * M + v)).toNatClampNeg = 7 * M + v := nI_clamp (by omega)
    have w128 : gr_wo M v ≤ M := by
      unfold gr_wo
      by_cases b : M.testBit v = true
      · rw [if_pos b]
        have := gr_wol b
        unfold gr_wo at this
        rw [if_pos b] at this
        omega
      · rw [if_neg b]
        exact Nat.le_refl M
    have k177 : (∀ y, y < 7 → gr_mn (-3000) (gr_PT (hx_A a_there a_froms a_tos a_weights) M s (7 * v + u + 1) y) (w (7 * M + y)).toInt) → ∀ x8 x9, wY_through_177 post (wY_through_8 post (nI M) (nI s) f_top f_bottom f_ringPoints n) (nI M) (nI s) (nI (7 * v + u)) (nI v) x8 x9 f_top f_bottom f_ringPoints a_there a_froms a_tos a_weights a_walks w := by
      intro hh x8 x9
      unfold wY_through_177 wY_through_178
      refine br_t rfl ?_
      rw [hp_ix', cM, hx_upds, nI_1]
      exact ⟨vM, vM, nm_e (nm_e (hn w ⟨r1, hh⟩))⟩
    have same : ¬ (v ≠ s ∧ v ≠ u ∧ M.testBit v = true ∧ (gr_wo M v).testBit u = true ∧ ∃ d x, (∃ n, gr_S (hx_A a_there a_froms a_tos a_weights) gr_T s n u (gr_wo M v) d) ∧ (hx_A a_there a_froms a_tos a_weights) u v x) → ∀ y, y < 7 → gr_mn (-3000) (gr_PT (hx_A a_there a_froms a_tos a_weights) M s (7 * v + u + 1) y) (w (7 * M + y)).toInt := by
      intro hh y hy
      refine gr_mnN (fun c => gr_PTs hu) (r2 y hy) ?_
      rintro c ⟨_, g1, g2, g3, g4, d, x, g5, g6, _⟩
      exact hh ⟨g1, g2, g3, g4, d, x, g5, g6⟩
    have k74 : ¬ (v ≠ s ∧ v ≠ u ∧ M.testBit v = true ∧ (gr_wo M v).testBit u = true ∧ ∃ d x, (∃ n, gr_S (hx_A a_there a_froms a_tos a_weights) gr_T s n u (gr_wo M v) d) ∧ (hx_A a_there a_froms a_tos a_weights) u v x) → ∀ x6, wY_through_74 post (wY_through_8 post (nI M) (nI s) f_top f_bottom f_ringPoints n) (nI M) (nI s) (nI (7 * v + u)) (nI v) (nI u) x6 f_top f_bottom f_ringPoints a_there a_froms a_tos a_weights a_walks w := by
      intro hh x6
      unfold wY_through_74 wY_through_75
      refine br_t rfl ?_
      unfold wY_through_101
      refine br_t rfl ?_
      unfold wY_through_125
      exact br_t rfl (k177 (same hh) _ _)
    refine br_f (nI_ge (b := 49) hc (by decide)) ?_
    rw [e2, e1]
    refine ⟨n7, nm_e ⟨n7, nm_e ?_⟩⟩
    rw [hy_wo M hM v hv]
    refine nm_e ?_
    rw [nI_eq (by omega) (by omega), nI_eq (by omega) (by omega), hp_bit1 (by omega) (by omega), hp_bit1 (by omega) (by omega)]
    refine br_c (fun c1 => k74 (fun z => z.1 c1) _) (fun c1 => br_c (fun c2 => k74 (fun z => z.2.1 c2) _) (fun c2 => br_c (fun c3 => br_c (fun c4 => ?_) (fun c4 => k74 (fun z => c4 z.2.2.2.1) _)) (fun c3 => k74 (fun z => c3 z.2.2.1) _)))
    have wl := gr_wol c3
    have cB : (nI (7 * gr_wo M v + u)).toNatClampNeg = 7 * gr_wo M v + u := nI_clamp (by omega)
    have hB := (h5 (gr_wo M v) u (by omega) hu).1 wl s (hy_loW hl c1)
    dsimp only at hB
    rw [← r1 (gr_wo M v) u (by omega) hu] at hB
    unfold wY_through_75
    refine br_f (by decide) ?_
    rw [hp_ix', cB]
    refine ⟨vp_in_nI (by omega) (by decide), ?_⟩
    unfold wY_through_101
    refine br_c (fun z1 => ?_) (fun z1 => hy_arc ok hu hv fun r hr => ?_)
    · rw [hp_eq, hp_N] at z1
      unfold wY_through_125
      refine br_t rfl (k177 (same ?_) _ _)
      rintro ⟨_, _, _, _, d, x, g, _⟩
      rcases hB with ⟨_, z⟩ | ⟨z, _⟩
      · exact z d g
      · exact z z1
    · rw [hp_eq, hp_N] at z1
      have gB : ∃ n, gr_S (hx_A a_there a_froms a_tos a_weights) gr_T s n u (gr_wo M v) (w (7 * gr_wo M v + u)).toInt := by
        rcases hB with ⟨z, _⟩ | ⟨_, z, _⟩
        · exact absurd z z1
        · exact z
      obtain ⟨nn, gB⟩ := gB
      have n6 := gr_Sn6 (gr_oki gok) hs gB
      have bB := gr_Wb gok (gr_SW gB)
      unfold wY_through_125
      refine br_c (fun z2 => ?_) (fun z2 => ?_)
      · rw [hp_eq, hp_N] at z2
        refine k177 (same ?_) _ _
        rintro ⟨_, _, _, _, d, x, _, g⟩
        rcases hr with ⟨_, z⟩ | ⟨z, _⟩
        · exact z x g
        · exact z z2
      · rw [hp_eq, hp_N] at z2
        have gr : (hx_A a_there a_froms a_tos a_weights) u v r.toInt := by
          rcases hr with ⟨z, _⟩ | ⟨_, z, _⟩
          · exact absurd z z2
          · exact z
        have br := gok _ _ _ gr
        have es : (w (7 * gr_wo M v + u) + r).toInt = (w (7 * gr_wo M v + u)).toInt + r.toInt := hp_add rfl rfl (by omega) (by omega)
        have hsum := gr_mn2 hB hr z1 z2 (by omega)
        have ee : ∀ c, gr_PT (hx_A a_there a_froms a_tos a_weights) M s (7 * v + u + 1) v c ↔ gr_PT (hx_A a_there a_froms a_tos a_weights) M s (7 * v + u) v c ∨ (∃ d x, (∃ n, gr_S (hx_A a_there a_froms a_tos a_weights) gr_T s n u (gr_wo M v) d) ∧ (hx_A a_there a_froms a_tos a_weights) u v x ∧ c = d + x) := by
          intro c
          rw [gr_PTs hu]
          constructor
          · rintro (g | ⟨_, _, _, _, _, g⟩)
            · exact Or.inl g
            · exact Or.inr g
          · rintro (g | g)
            · exact Or.inl g
            · exact Or.inr ⟨rfl, c1, c2, c3, c4, g⟩
        have oth : ∀ y, y < 7 → y ≠ v → gr_mn (-3000) (gr_PT (hx_A a_there a_froms a_tos a_weights) M s (7 * v + u + 1) y) (w (7 * M + y)).toInt := by
          intro y hy hne
          refine gr_mnN (fun c => gr_PTs hu) (r2 y hy) ?_
          rintro c ⟨z, _⟩
          exact hne z
        have k173 : ((w (7 * M + v)).toInt = -3000 ∨ (w (7 * gr_wo M v + u)).toInt + r.toInt ≤ (w (7 * M + v)).toInt) → wY_through_173 post (wY_through_8 post (nI M) (nI s) f_top f_bottom f_ringPoints n) (nI M) (nI s) (nI (7 * v + u)) (nI v) (w (7 * gr_wo M v + u)) r f_top f_bottom f_ringPoints a_there a_froms a_tos a_weights a_walks w := by
          intro hh
          unfold wY_through_173 wY_through_178
          refine br_f (by decide) ?_
          rw [hp_ix', cM, nI_1]
          refine ⟨vM, nm_e (nm_e (hn _ ⟨fun m y hm hy => ?_, fun y hy => ?_⟩))⟩
          · rw [pk_un (by omega)]
            exact r1 m y hm hy
          · by_cases e : y = v
            · subst e
              rw [pk_us, es]
              exact gr_mnT ee (r2 y hy) hsum (by omega) hh
            · rw [pk_un (by omega)]
              exact oth y hy e
        rw [hp_ix', cM]
        refine ⟨vM, br_c (fun z3 => k173 (Or.inl ?_)) (fun z3 => ⟨vM, br_c (fun z4 => k177 (fun y hy => ?_) _ _) (fun z4 => k173 (Or.inr ?_))⟩)⟩
        · rw [hp_eq, hp_N] at z3
          exact z3
        · rw [hp_eq, hp_N] at z3
          rw [hp_le, es] at z4
          by_cases e : y = v
          · subst e
            exact gr_mnK ee (r2 y hy) hsum (Or.inr ⟨z3, z4⟩)
          · exact oth y hy e
        · rw [hp_le, es] at z4
          omega
