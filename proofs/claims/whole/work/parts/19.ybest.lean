/-! the reference: rings and divisor -/
theorem hx_mb {x y : Int} (hx : -1000 ≤ x ∧ x ≤ 1000) (hy : 0 ≤ y ∧ y ≤ 10) : -10000 ≤ x * y ∧ x * y ≤ 10000 := by
  have h1 : x * y ≤ 1000 * y := Int.mul_le_mul_of_nonneg_right hx.2 hy.1
  have h2 : -1000 * y ≤ x * y := Int.mul_le_mul_of_nonneg_right hx.1 hy.1
  omega
theorem hx_mul {a b : Int32} {x y : Int} (ha : a.toInt = x) (hb : b.toInt = y) (hx : -1000 ≤ x ∧ x ≤ 1000) (hy : 0 ≤ y ∧ y ≤ 10) : (a * b).toInt = x * y := by
  have := hx_mb hx hy
  exact hp_mul ha hb (by omega) (by omega)
section
variable {post : SY → Prop} {J60 : Int32 → Int32 → Int32 → Int32 → (Nat → Int32) → (Nat → Int32) → (Nat → Int32) → (Nat → Int32) → (Nat → Int32) → (Nat → Int32) → Prop} {J80 : Int32 → Int32 → Int32 → Int32 → Prop} {x1 x2 x6 : Int32} {v : Nat}
theorem hy_r0 {f_top f_bottom f_ringPoints : Int32} {a_there a_froms a_tos a_weights a_walks a_ways : Nat → Int32} (h : J80 (nI (v + 1)) f_top f_bottom f_ringPoints) : wY_rings_211 post J60 J80 x1 x2 (nI v) x6 0 f_top f_bottom f_ringPoints a_there a_froms a_tos a_weights a_walks a_ways := by
  unfold wY_rings_211 wY_rings_212
  refine br_t rfl (br_t rfl ?_)
  unfold wY_rings_242
  refine br_t rfl ?_
  unfold wY_rings_260
  refine br_t rfl ?_
  rw [nI_1]
  exact nm_e h
theorem hy_r1 {f_top f_bottom f_ringPoints : Int32} {a_there a_froms a_tos a_weights a_walks a_ways : Nat → Int32} (h : J80 (nI (v + 1)) f_top f_bottom (f_ringPoints ||| x1)) : wY_rings_212 post J60 J80 x1 x2 (nI v) x6 0 1 f_top f_bottom f_ringPoints a_there a_froms a_tos a_weights a_walks a_ways := by
  unfold wY_rings_212
  refine br_t rfl (br_f (by decide) ?_)
  unfold wY_rings_242
  refine br_t rfl ?_
  unfold wY_rings_260
  refine br_t rfl ?_
  rw [nI_1]
  exact nm_e h
theorem hy_rb {f_top f_bottom f_ringPoints : Int32} {a_there a_froms a_tos a_weights a_walks a_ways : Nat → Int32} {z0 : Int32} (h : J80 (nI (v + 1)) x6 x2 x1) : wY_rings_212 post J60 J80 x1 x2 (nI v) x6 1 z0 f_top f_bottom f_ringPoints a_there a_froms a_tos a_weights a_walks a_ways := by
  unfold wY_rings_212
  refine br_f (by decide) ?_
  unfold wY_rings_242
  refine br_f (by decide) ?_
  unfold wY_rings_260
  refine br_f (by decide) ?_
  rw [nI_1]
  exact nm_e h
end
theorem hy_rings {post : SY → Prop} {f_top f_bottom f_ringPoints : Int32} {a_there a_froms a_tos a_weights a_walks a_ways : Nat → Int32} (ok : hx_ok a_there a_froms a_tos a_weights) (h : ∀ (t b p : Int32) (w : Nat → Int32) (P : Nat), p = nI P → gr_rb (hx_A a_there a_froms a_tos a_weights) (7 * 128) t.toInt b.toInt P → post (t, b, p, a_there, a_froms, a_tos, a_weights, a_walks, w)) : wpY_rings post (f_top, f_bottom, f_ringPoints, a_there, a_froms, a_tos, a_weights, a_walks, a_ways) := by
  have gok := hx_grok ok
  have second : ∀ w0 : Nat → Int32, (∀ m v, m < 128 → v < 7 → (w0 (7 * m + v)).toInt = if m = 2 ^ v then 0 else -3000) → ∃ n, wY_rings_60 post n 1 (-3000) 1 0 a_there a_froms a_tos a_weights a_walks w0 := by
    intro w0 h0
    refine pk_loop (fun n i (z : Int32 × Int32 × Int32 × (Nat → Int32)) => wY_rings_60 post n (nI i) z.1 z.2.1 z.2.2.1 a_there a_froms a_tos a_weights a_walks z.2.2.2) (fun i z => 1 ≤ i ∧ gr_E5 (hx_A a_there a_froms a_tos a_weights) i (fun m v => (z.2.2.2 (7 * m + v)).toInt) ∧ ∃ P, z.2.2.1 = nI P ∧ gr_rb (hx_A a_there a_froms a_tos a_weights) (7 * i) z.1.toInt z.2.1.toInt P) 128 1 (-3000, 1, 0, w0) (by decide) ?_ ?_ ?_
    · refine ⟨Nat.le_refl 1, fun m v hm hv => ⟨fun hlt s hl => ?_, fun _ => h0 m v hm hv⟩, 0, rfl, Or.inl ⟨hp_N, hp_1, rfl, fun m v c hv hi g => ?_⟩⟩
      · have m0 : m = 0 := by omega
        subst m0
        have := hl.1
        rw [Nat.zero_testBit] at this
        exact absurd this (by decide)
      · have m0 : m = 0 := by omega
        subst m0
        obtain ⟨s, hl, _⟩ := g
        have := hl.1
        rw [Nat.zero_testBit] at this
        exact absurd this (by decide)
    · rintro n ⟨t, b, p, w⟩ ⟨_, _, P, hP, hr⟩
      exact br_t (nI_le (Nat.le_refl 128) (by decide)) (h t b p w P hP hr)
    · rintro n M ⟨t, b, p, w⟩ hM ⟨h1, h5, P, hP, hr⟩ hn
      dsimp only at h5 hP hr
      obtain ⟨s, hs, hl⟩ := hy_lo7 hM h1
      refine br_f (nI_ge (b := 128) hM (by decide)) ?_
      refine hy_through ok hM h1 h5 fun w' h5' => ?_
      dsimp only
      refine hy_ones hM ?_
      refine loop_0 (fun n' i (z : Int32 × Int32 × Int32) => wY_rings_80 post (wY_rings_60 post n) (nI M) (nI (gr_pc M)) a_there a_froms a_tos a_weights a_walks w' n' (nI i) z.1 z.2.1 z.2.2) (fun i z => ∃ P, z.2.2 = nI P ∧ gr_rb (hx_A a_there a_froms a_tos a_weights) (7 * M + i) z.1.toInt z.2.1.toInt P) 7 (t, b, p) ⟨P, hP, hr⟩ ?_ ?_
      · rintro n' ⟨t, b, p⟩ ⟨P, hP, hr⟩
        refine br_t (nI_le (Nat.le_refl 7) (by decide)) ?_
        rw [nI_1]
        exact nm_e (hn (t, b, p, w') ⟨by omega, h5', P, hP, hr⟩)
      · rintro n' v ⟨t, b, p⟩ hv ⟨P, hP, hr⟩ hn'
        dsimp only at hP hr
        subst hP
        have pc7 := gr_pc_le M
        have cM : (nI (7 * M + v)).toNatClampNeg = 7 * M + v := nI_clamp (by omega)
        have hw := (h5' M v hM hv).1 (by omega) s hl
        dsimp only at hw
        have eRC : ∀ c, gr_RC (hx_A a_there a_froms a_tos a_weights) M v c ↔ ∃ d x, (∃ n, gr_S (hx_A a_there a_froms a_tos a_weights) gr_T s n v M d) ∧ (hx_A a_there a_froms a_tos a_weights) v s x ∧ c = d + x := by
          intro c
          constructor
          · rintro ⟨s', hl', g⟩
            have e := gr_loU hl' hl
            subst e
            exact g
          · intro g
            exact ⟨s, hl, g⟩
        have none : (∀ c, ¬ gr_RC (hx_A a_there a_froms a_tos a_weights) M v c) → ∀ x6, wY_rings_170 post (wY_rings_60 post n) (wY_rings_80 post (wY_rings_60 post n) (nI M) (nI (gr_pc M)) a_there a_froms a_tos a_weights a_walks w' n') (nI M) (nI (gr_pc M)) (nI v) (-3000) x6 t b (nI P) a_there a_froms a_tos a_weights a_walks w' := by
          intro hh x6
          unfold wY_rings_170 wY_rings_171
          exact br_t rfl (hy_r0 (hn' (t, b, nI P) ⟨P, rfl, gr_rbN hv hr hh⟩))
        refine br_f (nI_ge (b := 7) hv (by decide)) ?_
        dsimp only
        rw [hp_ix', cM]
        refine ⟨vp_in_nI (by omega) (by decide), nm_e (br_c (fun z1 => ?_) (fun z1 => hy_lowest hM hs hl (hy_arc ok hv hs fun r hr2 => ?_)))⟩
        · rw [hp_eq, hp_N] at z1
          unfold wY_rings_123
          refine nm_e (br_t rfl (none (fun c g => ?_) _))
          obtain ⟨d, x, g, _⟩ := (eRC c).mp g
          rcases hw with ⟨_, z⟩ | ⟨z, _⟩
          · exact z d g
          · exact z z1
        · rw [hp_eq, hp_N] at z1
          have gB : ∃ n, gr_S (hx_A a_there a_froms a_tos a_weights) gr_T s n v M (w' (7 * M + v)).toInt := by
            rcases hw with ⟨z, _⟩ | ⟨_, z, _⟩
            · exact absurd z z1
            · exact z
          obtain ⟨nn, gB⟩ := gB
          have n6 := gr_Sn6 (gr_oki gok) hs gB
          have bB := gr_Wb gok (gr_SW gB)
          unfold wY_rings_123
          refine nm_e (br_c (fun z2 => ?_) (fun z2 => ?_))
          · subst z2
            refine none (fun c g => ?_) _
            obtain ⟨d, x, _, g, _⟩ := (eRC c).mp g
            rcases hr2 with ⟨_, z⟩ | ⟨z, _⟩
            · exact z x g
            · exact z hp_N
          · have z2' := z2
            rw [hp_eq, hp_N] at z2'
            have ga : (hx_A a_there a_froms a_tos a_weights) v s r.toInt := by
              rcases hr2 with ⟨z, _⟩ | ⟨_, z, _⟩
              · exact absurd z z2'
              · exact z
            have ba := gok _ _ _ ga
            have es : (w' (7 * M + v) + r).toInt = (w' (7 * M + v)).toInt + r.toInt := hp_add rfl rfl (by omega) (by omega)
            have hsum : gr_mn (-3000) (gr_RC (hx_A a_there a_froms a_tos a_weights) M v) (w' (7 * M + v) + r).toInt := by
              rw [es]
              exact gr_mnC eRC (gr_mn2 hw hr2 z1 z2' (by omega))
            have hRC : gr_RC (hx_A a_there a_froms a_tos a_weights) M v (w' (7 * M + v) + r).toInt ∧ ∀ c, gr_RC (hx_A a_there a_froms a_tos a_weights) M v c → (w' (7 * M + v) + r).toInt ≤ c := by
              rcases hsum with ⟨z, _⟩ | ⟨_, z⟩
              · rw [es] at z
                omega
              · exact z
            have better : (t.toInt = -3000 ∨ (w' (7 * M + v) + r).toInt * b.toInt < t.toInt * gr_pc M) → wY_rings_166 post (wY_rings_60 post n) (wY_rings_80 post (wY_rings_60 post n) (nI M) (nI (gr_pc M)) a_there a_froms a_tos a_weights a_walks w' n') (nI M) (nI (gr_pc M)) (nI v) r (w' (7 * M + v) + r) t b (nI P) a_there a_froms a_tos a_weights a_walks w' := by
              intro hh
              have go : wY_rings_80 post (wY_rings_60 post n) (nI M) (nI (gr_pc M)) a_there a_froms a_tos a_weights a_walks w' n' (nI (v + 1)) (w' (7 * M + v) + r) (nI (gr_pc M)) (nI M) := by
                refine hn' (w' (7 * M + v) + r, nI (gr_pc M), nI M) ⟨M, rfl, ?_⟩
                dsimp only
                rw [nI_toInt (by omega : gr_pc M < 2 ^ 31)]
                exact gr_rbB gok hv hr hRC.1 hRC.2 hh
              unfold wY_rings_166 wY_rings_171
              refine br_f z2 (br_c (fun _ => ?_) (fun _ => br_c (fun _ => hy_rb go) (fun _ => ?_)))
              · unfold wY_rings_211
                exact hy_rb go
              · unfold wY_rings_211
                exact hy_rb go
            refine br_c (fun z3 => better (Or.inl ?_)) (fun z3 => ?_)
            · rw [hp_eq, hp_N] at z3
              exact z3
            · have z3' := z3
              rw [hp_eq, hp_N] at z3'
              have rb : -140 ≤ t.toInt ∧ t.toInt ≤ 140 ∧ 1 ≤ b.toInt ∧ b.toInt ≤ 7 := by
                rcases hr with ⟨z, _⟩ | ⟨_, g1, g2, g3, g4, _⟩
                · exact absurd z z3'
                · exact ⟨g1, g2, g3, g4⟩
              have m1 : (w' (7 * M + v) + r).toInt = (w' (7 * M + v)).toInt + r.toInt := es
              have q1 : ((w' (7 * M + v) + r) * b).toInt = (w' (7 * M + v) + r).toInt * b.toInt := hx_mul rfl rfl (by omega) (by omega)
              have q2 : (t * nI (gr_pc M)).toInt = t.toInt * gr_pc M := hx_mul rfl (nI_toInt (by omega)) (by omega) (by omega)
              refine br_c (fun z4 => ?_) (fun z4 => better (Or.inr ?_))
              · rw [hp_le, q1, q2] at z4
                have z4' : ¬ (w' (7 * M + v) + r).toInt * b.toInt < t.toInt * gr_pc M := by omega
                unfold wY_rings_170 wY_rings_171
                refine br_f z2 (br_f z3 (br_c (fun z5 => ?_) (fun z5 => ?_)))
                · rw [hp_eq, q1, q2] at z5
                  refine hy_r1 ?_
                  rw [hp_or]
                  exact hn' (t, b, nI (P ||| M)) ⟨P ||| M, rfl, gr_rbK gok hv hr hRC.1 hRC.2 z3' z4' (Or.inl ⟨z5, rfl⟩)⟩
                · rw [hp_eq, q1, q2] at z5
                  exact hy_r0 (hn' (t, b, nI P) ⟨P, rfl, gr_rbK gok hv hr hRC.1 hRC.2 z3' z4' (Or.inr ⟨z5, rfl⟩)⟩)
              · rw [hp_le, q1, q2] at z4
                omega
  refine loop_0 (fun n i (w : Nat → Int32) => wY_rings_19 post (-3000) 1 0 n (nI i) a_there a_froms a_tos a_weights a_walks w) (fun i w => ∀ m v, v < 7 → 7 * m + v < i → (w (7 * m + v)).toInt = if m = 2 ^ v then 0 else -3000) 896 a_ways (fun m v _ hi => absurd hi (by omega)) ?_ ?_
  · intro n w hw
    exact br_t (nI_le (Nat.le_refl 896) (by decide)) (second w fun m v hm hv => hw m v hv (by omega))
  · intro n c w hc hw hn
    obtain ⟨m, v, rfl, hv, hm⟩ : ∃ m v, c = 7 * m + v ∧ v < 7 ∧ m < 128 := ⟨c / 7, c % 7, by omega, by omega, by omega⟩
    obtain ⟨e1, e2⟩ := hp_c7 (i := m) hv (by omega)
    have ck : (nI (7 * m + v)).toNatClampNeg = 7 * m + v := nI_clamp (by omega)
    have n7 : ¬ (7 : Int32) = 0 := by decide
    have vc : vp_in (nI (7 * m + v)) 896 := vp_in_nI (by omega) (by decide)
    have p128 := (gr_pc_pow v hv).2
    refine br_f (nI_ge (b := 896) hc (by decide)) ?_
    rw [e2, e1, hp_shl v (by omega), ck, nI_eq (by omega) (by omega), nI_1]
    refine ⟨n7, n7, br_c (fun z => ⟨vc, nm_e (nm_e (hn _ fun m' v' hv' hi => ?_))⟩) (fun z => ⟨vc, nm_e (nm_e (hn _ fun m' v' hv' hi => ?_))⟩)⟩
    · rw [hx_ut, hp_0]
      by_cases e : 7 * m' + v' = 7 * m + v
      · have f1 : m' = m := by omega
        have f2 : v' = v := by omega
        subst f1 f2
        rw [if_pos rfl, if_pos z]
      · rw [if_neg e]
        exact hw m' v' hv' (by omega)
    · rw [hx_ut, hp_N]
      by_cases e : 7 * m' + v' = 7 * m + v
      · have f1 : m' = m := by omega
        have f2 : v' = v := by omega
        subst f1 f2
        rw [if_pos rfl, if_neg z]
      · rw [if_neg e]
        exact hw m' v' hv' (by omega)
theorem hp_quo {a : Int32} {d : Nat} (hd : 1 ≤ d) (hd7 : d ≤ 7) : (a / nI d).toInt = a.toInt.tdiv d := by
  have e : nI d ≠ -1 := by
    intro z
    have := nI_toInt (n := d) (by omega)
    rw [z] at this
    have e1 : (-1 : Int32).toInt = -1 := by decide +kernel
    omega
  rw [Int32.toInt_div_of_ne_right _ _ e, nI_toInt (by omega)]
theorem hp_rem0 {a : Int32} {d : Nat} (hd : 1 ≤ d) (hd7 : d ≤ 7) (ha : -1000 ≤ a.toInt ∧ a.toInt ≤ 1000) : (a - a / nI d * nI d) = 0 ↔ (d : Int) ∣ a.toInt := by
  have k1 := Int.tdiv_mul_self a.toInt d
  have k2 := Int.tmod_lt_of_pos a.toInt (b := d) (by omega)
  have k3 := Int.lt_tmod_of_pos a.toInt (b := d) (by omega)
  have e1 : (a / nI d * nI d).toInt = a.toInt.tdiv d * d := hp_mul (hp_quo hd hd7) (nI_toInt (by omega)) (by omega) (by omega)
  have e2 : (a - a / nI d * nI d).toInt = a.toInt - a.toInt.tdiv d * d := hp_sub rfl e1 (by omega) (by omega)
  rw [hp_eq, e2, hp_0, Int.dvd_iff_tmod_eq_zero]
  omega
theorem hy_divisor {post : Int32 → Prop} {f_top f_bottom f_ringPoints : Int32} {a_there a_froms a_tos a_weights a_walks a_ways : Nat → Int32} (ht : -140 ≤ f_top.toInt ∧ f_top.toInt ≤ 140) (hb : 1 ≤ f_bottom.toInt ∧ f_bottom.toInt ≤ 7) (h : ∀ g : Nat, 1 ≤ g → g ≤ 7 → (g : Int) ∣ f_top.toInt → (g : Int) ∣ f_bottom.toInt → gr_nc (g + 1) f_top.toInt f_bottom.toInt → post (nI g)) : wpY_divisor post (f_top, f_bottom, f_ringPoints, a_there, a_froms, a_tos, a_weights, a_walks, a_ways) := by
  refine pk_loop (fun n i (r : Int32) => wY_divisor_4 post f_top f_bottom f_ringPoints a_there a_froms a_tos a_weights a_walks a_ways n r (nI i)) (fun i r => 2 ≤ i ∧ ∃ g : Nat, r = nI g ∧ 1 ≤ g ∧ g < i ∧ (g : Int) ∣ f_top.toInt ∧ (g : Int) ∣ f_bottom.toInt ∧ ∀ e : Nat, g < e → e < i → (e : Int) ∣ f_top.toInt → (e : Int) ∣ f_bottom.toInt → False) 8 2 1 (by decide) ⟨Nat.le_refl 2, 1, rfl, by decide, by decide, Int.one_dvd _, Int.one_dvd _, fun e h1 h2 => absurd h2 (by omega)⟩ ?_ ?_
  · rintro n r ⟨_, g, rfl, g1, g2, g3, g4, g5⟩
    refine br_t (nI_le (Nat.le_refl 8) (by decide)) (h g g1 (by omega) g3 g4 fun e e1 e2 e3 e4 => ?_)
    have ee : ((e.toNat : Nat) : Int) = e := by omega
    exact g5 e.toNat (by omega) (by omega) (by rw [ee]; exact e3) (by rw [ee]; exact e4)
  · rintro n i r hi ⟨i2, g, rfl, g1, g2, g3, g4, g5⟩ hn
    have n0 : ¬ nI i = 0 := nI_ne0 (by omega) (by omega)
    have keep : ¬ ((i : Int) ∣ f_top.toInt ∧ (i : Int) ∣ f_bottom.toInt) → wY_divisor_4 post f_top f_bottom f_ringPoints a_there a_froms a_tos a_weights a_walks a_ways n (nI g) (nI (i + 1)) := by
      intro hh
      refine hn _ ⟨by omega, g, rfl, g1, by omega, g3, g4, fun e h1 h2 h3 h4 => ?_⟩
      by_cases ei : e = i
      · subst ei
        exact hh ⟨h3, h4⟩
      · exact g5 e h1 (by omega) h3 h4
    refine br_f (nI_ge (b := 8) hi (by decide)) ?_
    rw [hp_rem0 (by omega) (by omega) (by omega), hp_rem0 (by omega) (by omega) (by omega), nI_1]
    refine ⟨n0, br_c (fun c1 => ⟨n0, br_c (fun c2 => br_c (fun c3 => ?_) (fun c3 => nm_e (hn _ ⟨by omega, i, rfl, by omega, by omega, c2, c1, fun e h1 h2 => absurd h2 (by omega)⟩))) (fun c2 => nm_e (keep fun z => c2 z.1))⟩) (fun c1 => nm_e (keep fun z => c1 z.2))⟩
    rw [nI_leI (by omega) (by omega)] at c3
    omega
