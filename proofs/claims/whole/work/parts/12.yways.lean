/-! the reference: points, levels, reach, low, way -/
theorem hp_7 : (7 : Int32).toInt = 7 := by decide +kernel
theorem hp_6 : (6 : Int32).toInt = 6 := by decide +kernel
theorem hp_5 : (5 : Int32).toInt = 5 := by decide +kernel
theorem hp_4 : (4 : Int32).toInt = 4 := by decide +kernel
theorem hp_3 : (3 : Int32).toInt = 3 := by decide +kernel
theorem hp_2 : (2 : Int32).toInt = 2 := by decide +kernel
theorem hx_rng {p : Int32} {N : Nat} (hN : N < 2 ^ 31) : (∃ i, i < N ∧ p = nI i) ↔ 0 ≤ p.toInt ∧ p.toInt < N := by
  constructor
  · rintro ⟨i, hi, rfl⟩
    rw [nI_toInt (by omega)]
    omega
  · rintro ⟨h1, h2⟩
    have h0 : ¬ p < 0 := by
      rw [hp_lt, hp_0]
      omega
    obtain ⟨j, hj, rfl⟩ := nI_of h0
    rw [nI_toInt hj] at h2
    exact ⟨j, by omega, rfl⟩
def hx_pt (p : Int32) : Prop := ∃ i, i < 7 ∧ p = nI i
theorem hx_isPoint {post : Int32 → Prop} {p : Int32} (h0 : ¬ hx_pt p → post 0) (h1 : hx_pt p → post 1) : wpX_isPoint post p := by
  have e := hx_rng (p := p) (N := 7) (by decide)
  refine br_c (fun c => h0 fun z => ?_) (fun c => br_c (fun c2 => h0 fun z => ?_) (fun c2 => h1 (e.mpr ?_)))
  · have := e.mp z
    rw [hp_lt, hp_0] at c
    omega
  · have := e.mp z
    rw [hp_le, hp_7] at c2
    omega
  · rw [hp_lt, hp_0] at c
    rw [hp_le, hp_7] at c2
    omega
theorem hy_point {post : Int32 → Prop} {f_top f_bottom f_ringPoints : Int32} {a_there a_froms a_tos a_weights a_walks a_ways : Nat → Int32} {p : Int32} (h0 : ¬ hx_pt p → post 0) (h1 : hx_pt p → post 1) : wpY_point post (f_top, f_bottom, f_ringPoints, a_there, a_froms, a_tos, a_weights, a_walks, a_ways) p := by
  have e := hx_rng (p := p) (N := 7) (by decide)
  refine br_c (fun c => h0 fun z => ?_) (fun c => br_c (fun c2 => h0 fun z => ?_) (fun c2 => h1 (e.mpr ?_)))
  · have := e.mp z
    rw [hp_lt, hp_0] at c
    omega
  · have := e.mp z
    rw [hp_lt, hp_6] at c2
    omega
  · rw [hp_lt, hp_0] at c
    rw [hp_lt, hp_6] at c2
    omega
theorem hx_upds (b : Nat → Int32) (k : Nat) : upd b k (b k) = b := by
  funext j
  unfold upd
  by_cases e : j = k
  · rw [if_pos e, e]
  · rw [if_neg e]
theorem hp_c20 {i j : Nat} (hj : j < 20) (hi : i < 1000) : nI (20 * i + j) / 20 = nI i ∧ nI (20 * i + j) - nI (20 * i + j) / 20 * 20 = nI j := by
  have e : (20 : Int32) = nI 20 := rfl
  rw [e, pk_rem (by omega) (by decide) (by decide), pk_div (by omega) (by decide) (by decide)]
  exact ⟨congrArg nI (by omega), congrArg nI (by omega)⟩
theorem hp_c7 {i j : Nat} (hj : j < 7) (hi : i < 1000) : nI (7 * i + j) / 7 = nI i ∧ nI (7 * i + j) - nI (7 * i + j) / 7 * 7 = nI j := by
  have e : (7 : Int32) = nI 7 := rfl
  rw [e, pk_rem (by omega) (by decide) (by decide), pk_div (by omega) (by decide) (by decide)]
  exact ⟨congrArg nI (by omega), congrArg nI (by omega)⟩
def hy_lv (A : Nat → Nat → Int → Prop) (s : Nat) (b : Nat → Int32) : Prop := ∀ l v, l < 8 → v < 7 → gr_mn (-3000) (gr_W A l s v) (b (7 * l + v)).toInt
theorem hy_walk {post : SY → Prop} {f_top f_bottom f_ringPoints : Int32} {a_there a_froms a_tos a_weights a_walks a_ways : Nat → Int32} (ok : hx_ok a_there a_froms a_tos a_weights) {s : Nat} (hs : s < 7) (h : ∀ b : Nat → Int32, hy_lv (hx_A a_there a_froms a_tos a_weights) s b → post (f_top, f_bottom, f_ringPoints, a_there, a_froms, a_tos, a_weights, b, a_ways)) : wpY_walk post (f_top, f_bottom, f_ringPoints, a_there, a_froms, a_tos, a_weights, a_walks, a_ways) (nI s) := by
  have gok := hx_grok ok
  have second : ∀ b0 : Nat → Int32, (∀ j, j < 56 → (b0 j).toInt = if j = s then 0 else -3000) → ∃ n, wY_walk_34 post f_top f_bottom f_ringPoints n 0 a_there a_froms a_tos a_weights b0 a_ways := by
    intro b0 hb0
    refine loop_0 (fun n i (b : Nat → Int32) => wY_walk_34 post f_top f_bottom f_ringPoints n (nI i) a_there a_froms a_tos a_weights b a_ways) (fun c b => ∀ l v, l < 8 → v < 7 → gr_mn (-3000) (gr_PL (hx_K a_there a_froms a_tos a_weights) (fun s' => s' = s) c l v) (b (7 * l + v)).toInt) 140 b0 ?_ ?_ ?_
    · intro l v hl hv
      rw [hb0 _ (by omega)]
      cases l with
      | zero =>
        by_cases e : v = s
        · subst e
          rw [if_pos (by omega)]
          exact Or.inr ⟨by decide, ⟨rfl, rfl⟩, fun c hc => by have := hc.2; omega⟩
        · rw [if_neg (by omega)]
          exact Or.inl ⟨rfl, fun c hc => e hc.1⟩
      | succ l =>
        rw [if_neg (by omega)]
        exact Or.inl ⟨rfl, fun c hc => gr_PL0 (by omega) hc⟩
    · intro n b hb
      refine br_t (nI_le (Nat.le_refl 140) (by decide)) (h b fun l v hl hv => ?_)
      exact gr_mnC (fun c => ((gr_PLf (by omega)).trans gr_V1).symm) (hb l v hl hv)
    · intro n c b hc hb hn
      obtain ⟨i, j, rfl, hj, hi⟩ : ∃ i j, c = 20 * i + j ∧ j < 20 ∧ i < 7 := ⟨c / 20, c % 20, by omega, by omega, by omega⟩
      obtain ⟨u, v, x, hu, hv, eu, ev, ew, hx1, hx2, hk0, hk1⟩ := hx_arc ok hj
      obtain ⟨e1, e2⟩ := hp_c20 (i := i) hj (by omega)
      have ck : (nI j).toNatClampNeg = j := nI_clamp (by omega)
      have cu : (nI (7 * i + u)).toNatClampNeg = 7 * i + u := nI_clamp (by omega)
      have cv : (nI (7 * (i + 1) + v)).toNatClampNeg = 7 * (i + 1) + v := nI_clamp (by omega)
      have vj : vp_in (nI j) 20 := vp_in_nI hj (by decide)
      have vu : vp_in (nI (7 * i + u)) 56 := vp_in_nI (by omega) (by decide)
      have vv : vp_in (nI (7 * (i + 1) + v)) 56 := vp_in_nI (by omega) (by decide)
      have n20 : ¬ (20 : Int32) = 0 := by decide
      have ex4 : 7 * nI i + nI u = nI (7 * i + u) := hp_ix' i u
      have ex5 : 7 * nI i + 7 + nI v = nI (7 * (i + 1) + v) := by
        rw [show (7 : Int32) = nI 7 from rfl, pk_mul, nI_add, nI_add]
        exact congrArg nI (by omega)
      refine br_f (nI_ge (b := 140) hc (by decide)) ?_
      rw [e2, e1]
      refine ⟨n20, nm_e ⟨n20, vj, ?_⟩⟩
      rw [ck, eu, ex4, ev, ex5]
      refine nm_e ⟨n20, vj, nm_e ⟨vu, vj, ?_⟩⟩
      rw [cu]
      refine nm_e ⟨vj, ?_⟩
      have hV := hb i u (by omega) hu
      have hT := hb (i + 1) v (by omega) hv
      have rV := gr_lvr gok (by omega) hV
      have rT := gr_lvr gok (by omega) hT
      have keep : (∀ l v, l < 8 → v < 7 → gr_mn (-3000) (gr_PL (hx_K a_there a_froms a_tos a_weights) (fun s' => s' = s) (20 * i + j + 1) l v) (b (7 * l + v)).toInt) → ∀ x6, wY_walk_148 post (wY_walk_34 post f_top f_bottom f_ringPoints n) (nI (20 * i + j)) (nI (7 * (i + 1) + v)) x6 f_top f_bottom f_ringPoints a_there a_froms a_tos a_weights b a_ways := by
        intro hh x6
        unfold wY_walk_148 wY_walk_149
        refine br_t rfl ⟨vv, vv, ?_⟩
        rw [cv, hx_upds, nI_1]
        exact nm_e (nm_e (hn b hh))
      refine br_c (fun t0 => keep (gr_lev0 hj (hk0 t0) (z := fun l v => (b (7 * l + v)).toInt) hb) _) (fun t0 => ⟨vu, ?_⟩)
      obtain ⟨kk, ha⟩ := hk1 t0
      have nop : ((b (7 * i + u)).toInt = -3000 ∨ ((b (7 * (i + 1) + v)).toInt ≠ -3000 ∧ (b (7 * (i + 1) + v)).toInt ≤ (b (7 * i + u)).toInt + x)) → ∀ x6, wY_walk_148 post (wY_walk_34 post f_top f_bottom f_ringPoints n) (nI (20 * i + j)) (nI (7 * (i + 1) + v)) x6 f_top f_bottom f_ringPoints a_there a_froms a_tos a_weights b a_ways := by
        intro hh x6
        exact keep (gr_lev1 hj hi kk hu hv (z := fun l v => (b (7 * l + v)).toInt) (z' := fun l v => (b (7 * l + v)).toInt) hb (fun _ _ _ _ _ => rfl) (fun hne => by omega) (Or.inr ⟨hh, rfl⟩)) x6
      refine br_c (fun c1 => nop (Or.inl (by rw [hp_eq, hp_N] at c1; exact c1)) _) (fun c1 => ⟨vv, ?_⟩)
      rw [hp_eq, hp_N] at c1
      have es : (b (7 * i + u) + a_weights j).toInt = (b (7 * i + u)).toInt + x := hp_add rfl ew (by omega) (by omega)
      have yes : ((b (7 * (i + 1) + v)).toInt = -3000 ∨ (b (7 * i + u)).toInt + x < (b (7 * (i + 1) + v)).toInt) → wY_walk_144 post (wY_walk_34 post f_top f_bottom f_ringPoints n) (nI (20 * i + j)) (nI (7 * (i + 1) + v)) (b (7 * i + u) + a_weights j) f_top f_bottom f_ringPoints a_there a_froms a_tos a_weights b a_ways := by
        intro hh
        unfold wY_walk_144 wY_walk_149
        refine br_f (by decide) ⟨vv, ?_⟩
        rw [cv, nI_1]
        refine nm_e (nm_e (hn _ (gr_lev1 hj hi kk hu hv (z := fun l v => (b (7 * l + v)).toInt) (z' := fun l y => (upd b (7 * (i + 1) + v) (b (7 * i + u) + a_weights j) (7 * l + y)).toInt) hb (fun l y hl hy hne => ?_) (fun hne => by omega) (Or.inl ⟨c1, hh, ?_⟩))))
        · rw [pk_un (by omega)]
        · rw [pk_us, es]
      rw [cv]
      refine br_c (fun c2 => yes (Or.inl (by rw [hp_eq, hp_N] at c2; exact c2))) (fun c2 => ⟨vv, ?_⟩)
      rw [hp_eq, hp_N] at c2
      refine br_c (fun c3 => nop (Or.inr ⟨c2, ?_⟩) _) (fun c3 => yes (Or.inr ?_))
      · rw [hp_le, es] at c3
        exact c3
      · rw [hp_le, es] at c3
        omega
  refine loop_0 (fun n i (b : Nat → Int32) => wY_walk_2 post (nI s) f_top f_bottom f_ringPoints n (nI i) a_there a_froms a_tos a_weights b a_ways) (fun i b => ∀ j, j < i → (b j).toInt = if j = s then 0 else -3000) 56 a_walks (fun j hj => absurd hj (by omega)) ?_ ?_
  · intro n b hb
    exact br_t (nI_le (Nat.le_refl 56) (by decide)) (second b hb)
  · intro n i b hi hb hn
    have ck : (nI i).toNatClampNeg = i := nI_clamp (by omega)
    refine br_f (nI_ge (b := 56) hi (by decide)) ?_
    rw [ck, nI_1]
    refine br_c (fun e => ⟨vp_in_nI hi (by decide), nm_e (nm_e (hn _ fun j hj => ?_))⟩) (fun e => ⟨vp_in_nI hi (by decide), nm_e (nm_e (hn _ fun j hj => ?_))⟩)
    · rw [nI_eq (by omega) (by omega)] at e
      rw [hx_ut, hp_0]
      by_cases ej : j = i
      · rw [if_pos ej, if_pos (by omega)]
      · rw [if_neg ej]
        exact hb j (by omega)
    · rw [nI_eq (by omega) (by omega)] at e
      rw [hx_ut, hp_N]
      by_cases ej : j = i
      · rw [if_pos ej, if_neg (by omega)]
      · rw [if_neg ej]
        exact hb j (by omega)
theorem hy_shortest {post : Int32 → Prop} {f_top f_bottom f_ringPoints : Int32} {a_there a_froms a_tos a_weights a_walks a_ways : Nat → Int32} {A : Nat → Nat → Int → Prop} {s t : Nat} (ht : t < 7) (hw : hy_lv A s a_walks) (h : ∀ r : Int32, gr_mn (-3000) (fun c => ∃ l, l < 7 ∧ gr_W A l s t c) r.toInt → post r) : wpY_shortest post (f_top, f_bottom, f_ringPoints, a_there, a_froms, a_tos, a_weights, a_walks, a_ways) (nI t) := by
  refine loop_0 (fun n i (r : Int32) => wY_shortest_6 post (nI t) f_top f_bottom f_ringPoints a_there a_froms a_tos a_weights a_walks a_ways n r (nI i)) (fun i r => gr_mn (-3000) (fun c => ∃ l, l < i ∧ gr_W A l s t c) r.toInt) 7 (-3000) (Or.inl ⟨hp_N, fun c ⟨l, hl, _⟩ => absurd hl (by omega)⟩) ?_ ?_
  · intro n r hr
    exact br_t (nI_le (Nat.le_refl 7) (by decide)) (h r hr)
  · intro n i r hi hr hn
    have ck : (nI (7 * i + t)).toNatClampNeg = 7 * i + t := nI_clamp (by omega)
    have hz := hw i t (by omega) ht
    have ee : ∀ c, (∃ l, l < i + 1 ∧ gr_W A l s t c) ↔ (∃ l, l < i ∧ gr_W A l s t c) ∨ gr_W A i s t c := by
      intro c
      constructor
      · rintro ⟨l, hl, g⟩
        by_cases e : l = i
        · subst e
          exact Or.inr g
        · exact Or.inl ⟨l, by omega, g⟩
      · rintro (⟨l, hl, g⟩ | g)
        · exact ⟨l, by omega, g⟩
        · exact ⟨i, by omega, g⟩
    refine br_f (nI_ge (b := 7) hi (by decide)) ?_
    rw [hp_ix', ck, nI_1]
    refine ⟨vp_in_nI (by omega) (by decide), nm_e (br_c (fun c1 => nm_e (hn r ?_)) (fun c1 => br_c (fun c2 => nm_e (hn _ ?_)) (fun c2 => br_c (fun c3 => nm_e (hn r ?_)) (fun c3 => nm_e (hn _ ?_)))))⟩
    · rw [hp_eq, hp_N] at c1
      exact gr_mnK ee hr hz (Or.inl c1)
    · rw [hp_eq, hp_N] at c1 c2
      exact gr_mnT ee hr hz c1 (Or.inl c2)
    · rw [hp_eq, hp_N] at c1 c2
      rw [hp_le] at c3
      exact gr_mnK ee hr hz (Or.inr ⟨c2, c3⟩)
    · rw [hp_eq, hp_N] at c1 c2
      rw [hp_le] at c3
      exact gr_mnT ee hr hz c1 (Or.inr (by omega))
theorem hy_reached {post : Int32 → Prop} {f_top f_bottom f_ringPoints : Int32} {a_there a_froms a_tos a_weights a_walks a_ways : Nat → Int32} (ok : hx_ok a_there a_froms a_tos a_weights) {s : Nat} (hs : s < 7) (h : ∀ r : Int32, hx_set (gr_R (hx_A a_there a_froms a_tos a_weights) s) 7 r → post r) : wpY_reached post (f_top, f_bottom, f_ringPoints, a_there, a_froms, a_tos, a_weights, a_walks, a_ways) (nI s) := by
  have gok := hx_grok ok
  unfold wpY_reached
  refine hy_point (fun z => absurd ⟨s, hs, rfl⟩ z) fun _ => br_f (by decide) ?_
  rw [hp_shl s (by omega)]
  refine nm_e ?_
  refine loop_0 (fun n i (r : Int32) => wY_reached_18 post f_top f_bottom f_ringPoints a_there a_froms a_tos a_weights a_walks a_ways n r (nI i)) (fun c r => ∃ i j m, c = 20 * i + j ∧ j < 20 ∧ r = nI m ∧ m < 128 ∧ (∀ t, m.testBit t = true → gr_R (hx_A a_there a_froms a_tos a_weights) s t) ∧ (∀ n v x, n ≤ i → gr_W (hx_A a_there a_froms a_tos a_weights) n s v x → m.testBit v = true) ∧ ∀ j' u v x n y, j' < j → (hx_K a_there a_froms a_tos a_weights) j' u v x → n ≤ i → gr_W (hx_A a_there a_froms a_tos a_weights) n s u y → m.testBit v = true) 140 (nI (2 ^ s)) ?_ ?_ ?_
  · refine ⟨0, 0, 2 ^ s, rfl, by decide, rfl, (gr_pc_pow s hs).2, fun t ht => ?_, fun n v x hn g => ?_, fun j' u v x n y hj => absurd hj (by omega)⟩
    · rw [Nat.testBit_two_pow] at ht
      have e : s = t := of_decide_eq_true ht
      subst e
      exact gr_Rr s
    · have n0 : n = 0 := by omega
      subst n0
      obtain ⟨rfl, _⟩ := g
      exact Nat.testBit_two_pow_self
  · rintro n r ⟨i, j, m, e, hj, rfl, hm, h1, h2, h3⟩
    refine br_t (nI_le (Nat.le_refl 140) (by decide)) (h _ ⟨m, rfl, hm, fun t => ⟨fun ht => ?_, fun ht => ?_⟩⟩)
    · refine ⟨?_, h1 t ht⟩
      refine Classical.byContradiction fun hn => ?_
      have lt : m < 2 ^ t := by
        have le : 2 ^ 7 ≤ 2 ^ t := Nat.pow_le_pow_right (by decide) (by omega)
        omega
      rw [Nat.testBit_lt_two_pow lt] at ht
      exact absurd ht (by decide)
    · obtain ⟨k, c, hk, g⟩ := gr_R6 (gr_oki gok) hs ht.2
      exact h2 k t c (by omega) g
  · rintro n c r hc ⟨i, j, m, rfl, hj, rfl, hm, h1, h2, h3⟩ hn
    obtain ⟨u, v, x, hu, hv, eu, ev, ew, hx1, hx2, hk0, hk1⟩ := hx_arc ok hj
    obtain ⟨_, e2⟩ := hp_c20 (i := i) hj (by omega)
    have ck : (nI j).toNatClampNeg = j := nI_clamp (by omega)
    have vj : vp_in (nI j) 20 := vp_in_nI hj (by decide)
    have n20 : ¬ (20 : Int32) = 0 := by decide
    have go : ∀ m' : Nat, m' < 128 → (∀ t, m.testBit t = true → m'.testBit t = true) → (∀ t, m'.testBit t = true → gr_R (hx_A a_there a_froms a_tos a_weights) s t) → (∀ u v x n y, (hx_K a_there a_froms a_tos a_weights) j u v x → n ≤ i → gr_W (hx_A a_there a_froms a_tos a_weights) n s u y → m'.testBit v = true) → wY_reached_18 post f_top f_bottom f_ringPoints a_there a_froms a_tos a_weights a_walks a_ways n (nI m') (nI (20 * i + j + 1)) := by
      intro m' g1 g2 g3 g4
      have part : ∀ j' u v x n y, j' < j + 1 → (hx_K a_there a_froms a_tos a_weights) j' u v x → n ≤ i → gr_W (hx_A a_there a_froms a_tos a_weights) n s u y → m'.testBit v = true := by
        intro j' u v x n y hj' hk hn' g
        by_cases e : j' = j
        · subst e
          exact g4 u v x n y hk hn' g
        · exact g2 _ (h3 j' u v x n y (by omega) hk hn' g)
      by_cases e : j + 1 < 20
      · exact hn _ ⟨i, j + 1, m', by omega, e, rfl, g1, g3, fun n v x hn' g => g2 _ (h2 n v x hn' g), part⟩
      · refine hn _ ⟨i + 1, 0, m', by omega, by decide, rfl, g1, g3, fun n v x hn' g => ?_, fun j' u v x n y hj' => absurd hj' (by omega)⟩
        by_cases e2 : n ≤ i
        · exact g2 _ (h2 n v x e2 g)
        · have e3 : n = i + 1 := by omega
          subst e3
          obtain ⟨u', c', x', g, ⟨j', hj', hk⟩, _⟩ := g
          exact part j' u' v x' i c' (by omega) hk (Nat.le_refl i) g
    refine br_f (nI_ge (b := 140) hc (by decide)) ?_
    rw [e2, nI_1]
    refine ⟨n20, nm_e ⟨vj, ?_⟩⟩
    rw [ck, eu, ev]
    refine br_c (fun t0 => nm_e (go m hm (fun _ h => h) h1 fun u v x n y hk => absurd hk (hk0 t0 _ _ _))) (fun t0 => ⟨vj, ?_⟩)
    obtain ⟨kk, ha⟩ := hk1 t0
    rw [hp_bit1 (by omega) (by omega), hp_shl v (by omega), hp_or]
    refine br_c (fun b => ⟨vj, nm_e (nm_e (go (m ||| 2 ^ v) (Nat.or_lt_two_pow (n := 7) hm (gr_pc_pow v hv).2) (fun t ht => ?_) (fun t ht => ?_) (fun u' v' x' n y hk _ _ => ?_)))⟩) (fun b => nm_e (go m hm (fun _ h => h) h1 fun u' v' x' n y hk hn' g => ?_))
    · rw [Nat.testBit_or, ht, Bool.true_or]
    · rw [Nat.testBit_or, Bool.or_eq_true, Nat.testBit_two_pow, decide_eq_true_eq] at ht
      rcases ht with ht | rfl
      · exact h1 t ht
      · exact gr_Rs (h1 u b) ha
    · obtain ⟨_, rfl, _⟩ := (kk _ _ _).mp hk
      rw [Nat.testBit_or, Nat.testBit_two_pow_self, Bool.or_true]
    · obtain ⟨rfl, rfl, _⟩ := (kk _ _ _).mp hk
      exact absurd (h2 n u' y hn' g) b
