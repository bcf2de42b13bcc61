def hy_falls (A : Nat → Nat → Int → Prop) (s v : Nat) : Prop := ∃ c, gr_W A 7 s v c ∧ ∀ k d, k ≤ 6 → gr_W A k s v d → c < d
theorem hx_setlt {P : Nat → Prop} {r : Int32} (h : hx_set P 7 r) : ∃ m, r = nI m ∧ m < 128 ∧ ∀ i, m.testBit i = true ↔ i < 7 ∧ P i := h
theorem hy_low {post : Int32 → SY → Prop} {f_top f_bottom f_ringPoints : Int32} {a_there a_froms a_tos a_weights a_walks a_ways : Nat → Int32} (ok : hx_ok a_there a_froms a_tos a_weights) {s : Nat} (hs : s < 7) (h : ∀ (r : Int32) (b : Nat → Int32), hx_set (gr_L (hx_A a_there a_froms a_tos a_weights) s) 7 r → hy_lv (hx_A a_there a_froms a_tos a_weights) s b → post r (f_top, f_bottom, f_ringPoints, a_there, a_froms, a_tos, a_weights, b, a_ways)) : wpY_low post (f_top, f_bottom, f_ringPoints, a_there, a_froms, a_tos, a_weights, a_walks, a_ways) (nI s) := by
  have gok := hx_grok ok
  unfold wpY_low
  refine hy_point (fun z => absurd ⟨s, hs, rfl⟩ z) fun _ => br_f (by decide) ?_
  refine hy_walk ok hs fun b hb => ?_
  refine loop_0 (fun n i (r : Int32) => wY_low_21 post f_top f_bottom f_ringPoints a_there a_froms a_tos a_weights b a_ways n r (nI i)) (fun i r => ∃ m, r = nI m ∧ m < 128 ∧ ∀ t, m.testBit t = true ↔ t < 7 ∧ ∃ v, v < i ∧ hy_falls (hx_A a_there a_froms a_tos a_weights) s v ∧ gr_R (hx_A a_there a_froms a_tos a_weights) v t) 7 0 ?_ ?_ ?_
  · refine ⟨0, rfl, by decide, fun t => ?_⟩
    rw [Nat.zero_testBit]
    exact ⟨fun z => absurd z (by decide), fun ⟨_, v, hv, _⟩ => absurd hv (by omega)⟩
  · rintro n r ⟨m, rfl, hm, hb2⟩
    refine br_t (nI_le (Nat.le_refl 7) (by decide)) (h _ b ⟨m, rfl, hm, fun t => ?_⟩ hb)
    rw [hb2 t, gr_lowY gok hs]
    constructor
    · rintro ⟨ht, v, hv, g1, g2⟩
      exact ⟨ht, v, g2, g1⟩
    · rintro ⟨ht, v, g2, c, g1, g3⟩
      exact ⟨ht, v, gr_Wv (gr_oki gok) hs g1, ⟨c, g1, g3⟩, g2⟩
  · rintro n i r hi ⟨m, rfl, hm, hb2⟩ hn
    have e49 : (49 : Int32) + nI i = nI (49 + i) := by rw [show (49 : Int32) = nI 49 from rfl, nI_add]
    have ck : (nI (49 + i)).toNatClampNeg = 49 + i := nI_clamp (by omega)
    have vi : vp_in (nI (49 + i)) 56 := vp_in_nI (by omega) (by decide)
    have hz : gr_mn (-3000) (gr_W (hx_A a_there a_froms a_tos a_weights) 7 s i) (b (49 + i)).toInt := hb 7 i (by decide) hi
    have keep : ¬ hy_falls (hx_A a_there a_froms a_tos a_weights) s i → wY_low_63 post (wY_low_21 post f_top f_bottom f_ringPoints a_there a_froms a_tos a_weights b a_ways n) (nI m) (nI i) f_top f_bottom f_ringPoints a_there a_froms a_tos a_weights b a_ways := by
      intro nf
      unfold wY_low_63 wY_low_64
      refine br_t rfl ?_
      rw [nI_1]
      refine nm_e (hn _ ⟨m, rfl, hm, fun t => ?_⟩)
      rw [hb2 t]
      constructor
      · rintro ⟨ht, v, hv, g⟩
        exact ⟨ht, v, by omega, g⟩
      · rintro ⟨ht, v, hv, g⟩
        by_cases e : v = i
        · subst e
          exact absurd g.1 nf
        · exact ⟨ht, v, by omega, g⟩
    refine br_f (nI_ge (b := 7) hi (by decide)) ?_
    rw [e49, ck]
    refine ⟨vi, br_c (fun c => keep ?_) (fun c => ⟨vi, ?_⟩)⟩
    · rintro ⟨d, g, _⟩
      rw [hp_eq, hp_N] at c
      rcases hz with ⟨_, z⟩ | ⟨z, _⟩
      · exact z d g
      · exact z c
    rw [hp_eq, hp_N] at c
    have hz' : gr_W (hx_A a_there a_froms a_tos a_weights) 7 s i (b (49 + i)).toInt ∧ ∀ d, gr_W (hx_A a_there a_froms a_tos a_weights) 7 s i d → (b (49 + i)).toInt ≤ d := by
      rcases hz with ⟨z, _⟩ | ⟨_, z⟩
      · exact absurd z c
      · exact z
    have bz := gr_Wb gok hz'.1
    refine hy_shortest hi hb fun r hr => ?_
    have hr' : r.toInt ≠ -3000 ∧ (∃ l, l < 7 ∧ gr_W (hx_A a_there a_froms a_tos a_weights) l s i r.toInt) ∧ ∀ d, (∃ l, l < 7 ∧ gr_W (hx_A a_there a_froms a_tos a_weights) l s i d) → r.toInt ≤ d := by
      rcases hr with ⟨_, z⟩ | z
      · obtain ⟨k, d, hk, g⟩ := gr_R6 (gr_oki gok) hs ⟨_, _, hz'.1⟩
        exact absurd ⟨k, by omega, g⟩ (z d)
      · exact z
    refine br_c (fun c2 => keep ?_) (fun c2 => ?_)
    · rintro ⟨d, g1, g2⟩
      rw [hp_le] at c2
      obtain ⟨l, hl, gl⟩ := hr'.2.1
      have := g2 l _ (by omega) gl
      have := hz'.2 d g1
      omega
    · rw [hp_le] at c2
      have fl : hy_falls (hx_A a_there a_froms a_tos a_weights) s i := by
        refine ⟨_, hz'.1, fun k d hk g => ?_⟩
        have := hr'.2.2 d ⟨k, by omega, g⟩
        omega
      unfold wY_low_64
      refine br_f (by decide) (hy_reached ok hi fun r2 hr2 => ?_)
      obtain ⟨m2, rfl, hm2, h2⟩ := hx_setlt hr2
      rw [hp_or, nI_1]
      refine nm_e (nm_e (hn _ ⟨m ||| m2, rfl, Nat.or_lt_two_pow (n := 7) hm hm2, fun t => ?_⟩))
      rw [Nat.testBit_or, Bool.or_eq_true, hb2 t, h2 t]
      constructor
      · rintro (⟨ht, v, hv, g⟩ | ⟨ht, g⟩)
        · exact ⟨ht, v, by omega, g⟩
        · exact ⟨ht, i, by omega, fl, g⟩
      · rintro ⟨ht, v, hv, g⟩
        by_cases e : v = i
        · subst e
          exact Or.inr ⟨ht, g.2⟩
        · exact Or.inl ⟨ht, v, by omega, g⟩
theorem hy_way {post : Int32 → SY → Prop} {f_top f_bottom f_ringPoints : Int32} {a_there a_froms a_tos a_weights a_walks a_ways : Nat → Int32} (ok : hx_ok a_there a_froms a_tos a_weights) {s t : Nat} (hs : s < 7) (ht : t < 7) (h : ∀ (r : Int32) (b : Nat → Int32), gr_Ans (hx_A a_there a_froms a_tos a_weights) s t r.toInt → hy_lv (hx_A a_there a_froms a_tos a_weights) s b → post r (f_top, f_bottom, f_ringPoints, a_there, a_froms, a_tos, a_weights, b, a_ways)) : wpY_way post (f_top, f_bottom, f_ringPoints, a_there, a_froms, a_tos, a_weights, a_walks, a_ways) (nI s) (nI t) := by
  have gok := hx_grok ok
  unfold wpY_way
  refine hy_low ok hs fun r b hr hb => ?_
  obtain ⟨m, rfl, hm, h2⟩ := hx_setlt hr
  dsimp only
  rw [hp_bit1 (by omega) (by omega)]
  refine br_c (fun c => h _ b (Or.inr (Or.inl ⟨hp_L, ((h2 t).mp c).2⟩)) hb) (fun c => hy_shortest ht hb fun r hr => h r b ?_ hb)
  have nl : ¬ gr_L (hx_A a_there a_froms a_tos a_weights) s t := fun z => c ((h2 t).mpr ⟨ht, z⟩)
  rcases hr with ⟨e, z⟩ | ⟨_, ⟨l, hl, g⟩, z⟩
  · refine Or.inl ⟨e, fun hR => ?_⟩
    obtain ⟨k, d, hk, g⟩ := gr_R6 (gr_oki gok) hs hR
    exact z d ⟨k, by omega, g⟩
  · refine Or.inr (Or.inr ⟨⟨l, g⟩, fun n d g => ?_⟩)
    obtain ⟨n', c', g1, g2, g3⟩ := gr_small gok hs g nl
    have := z c' ⟨n', by omega, g2⟩
    omega
