/-! the component: engine 4, and fill -/
theorem hx_orb {M v : Nat} : M ||| 2 ^ v = M ↔ M.testBit v = true := by
  constructor
  · intro e
    rw [← e, Nat.testBit_or, Nat.testBit_two_pow_self, Bool.or_true]
  · intro h
    apply Nat.eq_of_testBit_eq
    intro i
    rw [Nat.testBit_or, Nat.testBit_two_pow]
    by_cases e : v = i
    · subst e
      rw [h, Bool.true_or]
    · rw [decide_eq_false e, Bool.or_false]
theorem hx_growSet {post : SX → Prop} {f_queueStart f_queueLength f_leastTop f_leastBottom : Int32} {a_arcThere a_arcFrom a_arcTo a_arcWeight a_table a_otherTable a_squared a_levels a_setCells a_onRingBelowZero a_queue a_queued a_arcsUsed : Nat → Int32} (ok : hx_ok a_arcThere a_arcFrom a_arcTo a_arcWeight) {s M : Nat} (hs : s < 7) (hM : M < 128) (h4 : gr_E4 (hx_A a_arcThere a_arcFrom a_arcTo a_arcWeight) s M (fun m v => (a_setCells (7 * m + v)).toInt)) (h : ∀ c : Nat → Int32, gr_E4 (hx_A a_arcThere a_arcFrom a_arcTo a_arcWeight) s (M + 1) (fun m v => (c (7 * m + v)).toInt) → post (f_queueStart, f_queueLength, f_leastTop, f_leastBottom, a_arcThere, a_arcFrom, a_arcTo, a_arcWeight, a_table, a_otherTable, a_squared, a_levels, c, a_onRingBelowZero, a_queue, a_queued, a_arcsUsed)) : wpX_growSet post (f_queueStart, f_queueLength, f_leastTop, f_leastBottom, a_arcThere, a_arcFrom, a_arcTo, a_arcWeight, a_table, a_otherTable, a_squared, a_levels, a_setCells, a_onRingBelowZero, a_queue, a_queued, a_arcsUsed) (nI M) := by
  have gok := hx_grok ok
  refine loop_0 (fun n i (c : Nat → Int32) => wX_growSet_2 post (nI M) f_queueStart f_queueLength f_leastTop f_leastBottom n (nI i) a_arcThere a_arcFrom a_arcTo a_arcWeight a_table a_otherTable a_squared a_levels c a_onRingBelowZero a_queue a_queued a_arcsUsed) (fun i c => (∀ m v, m < 128 → v < 7 → (c (7 * m + v)).toInt = 1000000 ∨ ∃ n, gr_S (hx_A a_arcThere a_arcFrom a_arcTo a_arcWeight) gr_T s n v m (c (7 * m + v)).toInt) ∧ (∀ m v, v < 7 → (c (7 * m + v)).toInt ≤ (a_setCells (7 * m + v)).toInt) ∧ (∀ v, v < 7 → c (7 * M + v) = a_setCells (7 * M + v)) ∧ ∀ j u v x, j < i → (hx_K a_arcThere a_arcFrom a_arcTo a_arcWeight) j u v x → M.testBit v = false → (a_setCells (7 * M + u)).toInt ≠ 1000000 → (c (7 * (M ||| 2 ^ v) + v)).toInt ≤ (a_setCells (7 * M + u)).toInt + x) 20 a_setCells ?_ ?_ ?_
  · exact ⟨h4.1, fun m v _ => Int.le_refl _, fun v _ => rfl, fun j u v x hj => absurd hj (by omega)⟩
  · rintro n c ⟨r1, r2, r3, r4⟩
    refine br_t (nI_le (Nat.le_refl 20) (by decide)) (h c ⟨r1, Int.le_trans (r2 _ s hs) h4.2.1, fun n' u m d v x g a b hm => ?_⟩)
    have hv := (gok _ _ _ a).2.1
    by_cases e : m = M
    · subst e
      have k1 := gr_E4le h4 g (Nat.le_refl m)
      have k2 := gr_Sn6 (gr_oki gok) hs g
      have k3 := gr_Wb gok (gr_SW g)
      obtain ⟨j, hj, hk⟩ := a
      have k4 := r4 j u v x hj hk b (by omega)
      dsimp only
      omega
    · have k1 := h4.2.2 n' u m d v x g a b (by omega)
      exact Int.le_trans (r2 _ v hv) k1
  · rintro n i c hi ⟨r1, r2, r3, r4⟩ hn
    obtain ⟨u, v, x, hu, hv, eu, ev, ew, hx1, hx2, hk0, hk1⟩ := hx_arc ok hi
    have G128 : M ||| 2 ^ v < 128 := Nat.or_lt_two_pow (n := 7) hM (gr_pc_pow v hv).2
    have ck : (nI i).toNatClampNeg = i := nI_clamp (by omega)
    have vi : vp_in (nI i) 20 := vp_in_nI hi (by decide)
    have cu : (nI (7 * M + u)).toNatClampNeg = 7 * M + u := nI_clamp (by omega)
    have cv : (nI (7 * (M ||| 2 ^ v) + v)).toNatClampNeg = 7 * (M ||| 2 ^ v) + v := nI_clamp (by omega)
    have vu : vp_in (nI (7 * M + u)) 896 := vp_in_nI (by omega) (by decide)
    have vv : vp_in (nI (7 * (M ||| 2 ^ v) + v)) 896 := vp_in_nI (by omega) (by decide)
    have keep : (∀ u v x, (hx_K a_arcThere a_arcFrom a_arcTo a_arcWeight) i u v x → M.testBit v = false → (a_setCells (7 * M + u)).toInt ≠ 1000000 → (c (7 * (M ||| 2 ^ v) + v)).toInt ≤ (a_setCells (7 * M + u)).toInt + x) → wX_growSet_2 post (nI M) f_queueStart f_queueLength f_leastTop f_leastBottom n (nI (i + 1)) a_arcThere a_arcFrom a_arcTo a_arcWeight a_table a_otherTable a_squared a_levels c a_onRingBelowZero a_queue a_queued a_arcsUsed := by
      intro hh
      refine hn c ⟨r1, r2, r3, fun j u' v' x' hj hk => ?_⟩
      by_cases e : j = i
      · subst e
        exact hh u' v' x' hk
      · exact r4 j u' v' x' (by omega) hk
    refine br_f (nI_ge (b := 20) hi (by decide)) ?_
    simp only [ck, eu, ev, hp_shl v (by omega), hp_or, nI_1]
    refine ⟨vi, nm_e ⟨vi, br_c (fun t0 => nm_e (keep fun u' v' x' hk => absurd hk (hk0 t0 _ _ _))) (fun t0 => ?_)⟩⟩
    obtain ⟨kk, ha⟩ := hk1 t0
    refine br_c (fun c1 => nm_e (keep fun u' v' x' hk b => ?_)) (fun c1 => ⟨vi, ?_⟩)
    · obtain ⟨_, rfl, _⟩ := (kk _ _ _).mp hk
      rw [nI_eq (by omega) (by omega), hx_orb, b] at c1
      exact absurd c1 (by decide)
    have hb : M.testBit v = false := by
      rw [nI_eq (by omega) (by omega), hx_orb] at c1
      cases z : M.testBit v with
      | false => rfl
      | true => exact absurd z c1
    have hne : M ||| 2 ^ v ≠ M := by
      rw [Ne, hx_orb, hb]
      decide
    simp only [hp_ix, cu, r3 u hu]
    refine ⟨vu, nm_e ⟨vi, nm_e ?_⟩⟩
    simp only [cv]
    refine br_c (fun c2 => nm_e (keep fun u' v' x' hk b hF => ?_)) (fun c2 => ⟨vi, vv, ?_⟩)
    · obtain ⟨rfl, _, _⟩ := (kk _ _ _).mp hk
      rw [hp_eq, hp_F] at c2
      exact absurd c2 hF
    rw [hp_eq, hp_F] at c2
    have hS : ∃ n, gr_S (hx_A a_arcThere a_arcFrom a_arcTo a_arcWeight) gr_T s n u M (a_setCells (7 * M + u)).toInt := (h4.1 M u hM hu).resolve_left c2
    obtain ⟨nn, hS⟩ := hS
    have n6 := gr_Sn6 (gr_oki gok) hs hS
    have bS := gr_Wb gok (gr_SW hS)
    have es : (a_setCells (7 * M + u) + a_arcWeight i).toInt = (a_setCells (7 * M + u)).toInt + x := hp_add rfl ew (by omega) (by omega)
    refine br_c (fun c3 => nm_e (keep fun u' v' x' hk b hF => ?_)) (fun c3 => ⟨vi, vv, nm_e (nm_e (hn _ ⟨fun m y hm hy => ?_, fun m y hy => ?_, fun y hy => ?_, fun j u' v' x' hj hk b hF => ?_⟩))⟩)
    · obtain ⟨rfl, rfl, rfl⟩ := (kk _ _ _).mp hk
      rw [hp_le, es] at c3
      exact c3
    · rw [hp_le, es] at c3
      rw [hx_ut]
      by_cases e : 7 * m + y = 7 * (M ||| 2 ^ v) + v
      · have e1 : m = M ||| 2 ^ v := by omega
        have e2 : y = v := by omega
        rw [if_pos e, es, e1, e2]
        exact Or.inr ⟨nn + 1, u, M, _, x, hS, ha, rfl, hb, rfl, trivial⟩
      · rw [if_neg e]
        exact r1 m y hm hy
    · rw [hp_le, es] at c3
      rw [hx_ut]
      by_cases e : 7 * m + y = 7 * (M ||| 2 ^ v) + v
      · have e1 : m = M ||| 2 ^ v := by omega
        have e2 : y = v := by omega
        have := r2 m y hy
        rw [if_pos e, es]
        rw [e1, e2] at this ⊢
        omega
      · rw [if_neg e]
        exact r2 m y hy
    · rw [pk_un (by omega)]
      exact r3 y hy
    · rw [hp_le, es] at c3
      rw [hx_ut]
      by_cases e : j = i
      · subst e
        obtain ⟨rfl, rfl, rfl⟩ := (kk _ _ _).mp hk
        rw [if_pos rfl, es]
        omega
      · have := r4 j u' v' x' (by omega) hk b hF
        by_cases e2 : 7 * (M ||| 2 ^ v') + v' = 7 * (M ||| 2 ^ v) + v
        · rw [if_pos e2, es]
          rw [e2] at this
          omega
        · rw [if_neg e2]
          exact this
theorem hx_fillSetsFrom {post : SX → Prop} {f_queueStart f_queueLength f_leastTop f_leastBottom : Int32} {a_arcThere a_arcFrom a_arcTo a_arcWeight a_table a_otherTable a_squared a_levels a_setCells a_onRingBelowZero a_queue a_queued a_arcsUsed : Nat → Int32} (ok : hx_ok a_arcThere a_arcFrom a_arcTo a_arcWeight) {s : Nat} (hs : s < 7) (h : ∀ c : Nat → Int32, gr_E4 (hx_A a_arcThere a_arcFrom a_arcTo a_arcWeight) s 128 (fun m v => (c (7 * m + v)).toInt) → post (f_queueStart, f_queueLength, f_leastTop, f_leastBottom, a_arcThere, a_arcFrom, a_arcTo, a_arcWeight, a_table, a_otherTable, a_squared, a_levels, c, a_onRingBelowZero, a_queue, a_queued, a_arcsUsed)) : wpX_fillSetsFrom post (f_queueStart, f_queueLength, f_leastTop, f_leastBottom, a_arcThere, a_arcFrom, a_arcTo, a_arcWeight, a_table, a_otherTable, a_squared, a_levels, a_setCells, a_onRingBelowZero, a_queue, a_queued, a_arcsUsed) (nI s) := by
  have gok := hx_grok ok
  have p128 := (gr_pc_pow s hs).2
  have second : ∀ c0 : Nat → Int32, gr_E4 (hx_A a_arcThere a_arcFrom a_arcTo a_arcWeight) s 1 (fun m v => (c0 (7 * m + v)).toInt) → ∃ n, wX_fillSetsFrom_39 post n 1 f_queueStart f_queueLength f_leastTop f_leastBottom a_arcThere a_arcFrom a_arcTo a_arcWeight a_table a_otherTable a_squared a_levels c0 a_onRingBelowZero a_queue a_queued a_arcsUsed := by
    intro c0 h0
    refine pk_loop (fun n i (c : Nat → Int32) => wX_fillSetsFrom_39 post n (nI i) f_queueStart f_queueLength f_leastTop f_leastBottom a_arcThere a_arcFrom a_arcTo a_arcWeight a_table a_otherTable a_squared a_levels c a_onRingBelowZero a_queue a_queued a_arcsUsed) (fun i c => gr_E4 (hx_A a_arcThere a_arcFrom a_arcTo a_arcWeight) s i (fun m v => (c (7 * m + v)).toInt)) 128 1 c0 (by decide) h0 ?_ ?_
    · intro n c hc
      exact br_t (nI_le (Nat.le_refl 128) (by decide)) (h c hc)
    · intro n i c hi hc hn
      refine br_f (nI_ge (b := 128) hi (by decide)) ?_
      refine hx_growSet ok hs hi hc fun c' hc' => ?_
      dsimp only
      rw [nI_1]
      exact nm_e (hn c' hc')
  refine loop_0 (fun n i (c : Nat → Int32) => wX_fillSetsFrom_2 post (nI s) f_queueStart f_queueLength f_leastTop f_leastBottom n (nI i) a_arcThere a_arcFrom a_arcTo a_arcWeight a_table a_otherTable a_squared a_levels c a_onRingBelowZero a_queue a_queued a_arcsUsed) (fun i c => ∀ j, j < i → (c j).toInt = 1000000) 896 a_setCells (fun j hj => absurd hj (by omega)) ?_ ?_
  · intro n c hc
    have cs : (nI (7 * 2 ^ s + s)).toNatClampNeg = 7 * 2 ^ s + s := nI_clamp (by omega)
    refine br_t (nI_le (Nat.le_refl 896) (by decide)) ?_
    rw [hp_shl s (by omega), hp_ix, cs]
    refine ⟨vp_in_nI (by omega) (by decide), nm_e (second _ ⟨fun m v hm hv => ?_, ?_, fun n' u m d v x g a b hm => ?_⟩)⟩
    · dsimp only
      rw [hx_ut, hp_0]
      by_cases e : 7 * m + v = 7 * 2 ^ s + s
      · have e1 : m = 2 ^ s := by omega
        have e2 : v = s := by omega
        rw [if_pos e]
        exact Or.inr ⟨0, e2, e1, rfl, trivial⟩
      · rw [if_neg e]
        exact Or.inl (hc _ (by omega))
    · show (upd c (7 * 2 ^ s + s) 0 (7 * 2 ^ s + s)).toInt ≤ 0
      rw [pk_us, hp_0]
      omega
    · have m0 : m = 0 := by omega
      subst m0
      have := gr_Sv g
      rw [Nat.zero_testBit] at this
      exact absurd this (by decide)
  · intro n i c hi hc hn
    have ck : (nI i).toNatClampNeg = i := nI_clamp (by omega)
    refine br_f (nI_ge (b := 896) hi (by decide)) ?_
    rw [ck, nI_1]
    refine ⟨vp_in_nI hi (by decide), nm_e (nm_e (hn _ fun j hj => ?_))⟩
    rw [hx_ut, hp_F]
    by_cases e : j = i
    · rw [if_pos e]
    · rw [if_neg e]
      exact hc j (by omega)
/-- a cell of least simple walks -/
def hx_sm (A : Nat → Nat → Int → Prop) (s t : Nat) (z : Int) : Prop := (z = 1000000 ∨ ∃ n m, gr_S A gr_T s n t m z) ∧ ∀ n m c, gr_S A gr_T s n t m c → z ≤ c
theorem hx_smallest {post : Int32 → Prop} {f_queueStart f_queueLength f_leastTop f_leastBottom : Int32} {a_arcThere a_arcFrom a_arcTo a_arcWeight a_table a_otherTable a_squared a_levels a_setCells a_onRingBelowZero a_queue a_queued a_arcsUsed : Nat → Int32} (ok : hx_ok a_arcThere a_arcFrom a_arcTo a_arcWeight) {s t : Nat} (hs : s < 7) (ht : t < 7) (h4 : gr_E4 (hx_A a_arcThere a_arcFrom a_arcTo a_arcWeight) s 128 (fun m v => (a_setCells (7 * m + v)).toInt)) (h : ∀ r : Int32, hx_sm (hx_A a_arcThere a_arcFrom a_arcTo a_arcWeight) s t r.toInt → post r) : wpX_smallestOfSets post (f_queueStart, f_queueLength, f_leastTop, f_leastBottom, a_arcThere, a_arcFrom, a_arcTo, a_arcWeight, a_table, a_otherTable, a_squared, a_levels, a_setCells, a_onRingBelowZero, a_queue, a_queued, a_arcsUsed) (nI t) := by
  have gok := hx_grok ok
  refine pk_loop (fun n i (r : Int32) => wX_smallestOfSets_5 post (nI t) f_queueStart f_queueLength f_leastTop f_leastBottom a_arcThere a_arcFrom a_arcTo a_arcWeight a_table a_otherTable a_squared a_levels a_setCells a_onRingBelowZero a_queue a_queued a_arcsUsed n r (nI i)) (fun i r => (r.toInt = 1000000 ∨ ∃ n m, gr_S (hx_A a_arcThere a_arcFrom a_arcTo a_arcWeight) gr_T s n t m r.toInt) ∧ ∀ m, 1 ≤ m → m < i → r.toInt ≤ (a_setCells (7 * m + t)).toInt) 128 1 1000000 (by decide) ⟨Or.inl hp_F, fun m h1 h2 => absurd h2 (by omega)⟩ ?_ ?_
  · rintro n r ⟨r1, r2⟩
    refine br_t (nI_le (Nat.le_refl 128) (by decide)) (h r ⟨r1, fun n' m c g => ?_⟩)
    have k1 := gr_Spc (gr_oki gok) hs g
    have k2 := gr_E4le h4 g (by omega)
    have k3 : 1 ≤ m := by
      refine Classical.byContradiction fun hn => ?_
      have m0 : m = 0 := by omega
      subst m0
      have := gr_Sv g
      rw [Nat.zero_testBit] at this
      exact absurd this (by decide)
    exact Int.le_trans (r2 m k3 k1.1) k2
  · rintro n i r hi ⟨r1, r2⟩ hn
    have ck : (nI (7 * i + t)).toNatClampNeg = 7 * i + t := nI_clamp (by omega)
    have vi : vp_in (nI (7 * i + t)) 896 := vp_in_nI (by omega) (by decide)
    refine br_f (nI_ge (b := 128) hi (by decide)) ?_
    rw [hp_ix, ck, nI_1]
    refine ⟨vi, br_c (fun c => nm_e (hn r ⟨r1, fun m h1 h2 => ?_⟩)) (fun c => ⟨vi, nm_e (nm_e (hn _ ⟨?_, fun m h1 h2 => ?_⟩))⟩)⟩
    · rw [hp_le] at c
      by_cases e : m = i
      · subst e
        exact c
      · exact r2 m h1 (by omega)
    · rcases h4.1 i t hi ht with e | ⟨k, g⟩
      · exact Or.inl e
      · exact Or.inr ⟨k, i, g⟩
    · rw [hp_le] at c
      by_cases e : m = i
      · subst e
        exact Int.le_refl _
      · have := r2 m h1 (by omega)
        omega
theorem hx_smC {A : Nat → Nat → Int → Prop} (ok : gr_ok A) {s t : Nat} {z : Int} (hs : s < 7) (h : hx_sm A s t z) : gr_C A 6 s t z ∧ (z = 1000000 ↔ ¬ gr_R A s t) := by
  rcases h with ⟨e | ⟨n, m, g⟩, h2⟩
  · refine ⟨Or.inl e, fun _ hR => ?_, fun _ => e⟩
    obtain ⟨n, m, c, g⟩ := gr_RS hR
    have k1 := h2 n m c g
    have k2 := gr_Sn6 (gr_oki ok) hs g
    have k3 := gr_Wb ok (gr_SW g)
    omega
  · have k2 := gr_Sn6 (gr_oki ok) hs g
    have k3 := gr_Wb ok (gr_SW g)
    refine ⟨Or.inr (Or.inr ⟨n, k2, gr_SW g⟩), fun e => ?_, fun hR => absurd ⟨n, z, gr_SW g⟩ hR⟩
    omega
theorem hx_closes_table {post : Int32 → Prop} {f_queueStart f_queueLength f_leastTop f_leastBottom : Int32} {a_arcThere a_arcFrom a_arcTo a_arcWeight a_table a_otherTable a_squared a_levels a_setCells a_onRingBelowZero a_queue a_queued a_arcsUsed : Nat → Int32} (ok : hx_ok a_arcThere a_arcFrom a_arcTo a_arcWeight) {s : Nat} (hs : s < 7) (hb : ∀ t, t < 7 → hx_sm (hx_A a_arcThere a_arcFrom a_arcTo a_arcWeight) s t (a_table (7 * s + t)).toInt) (h1 : gr_L (hx_A a_arcThere a_arcFrom a_arcTo a_arcWeight) s s → post 1) (h0 : ¬ gr_NR (hx_A a_arcThere a_arcFrom a_arcTo a_arcWeight) s → post 0) : wpX_closesBelowZero__table post (f_queueStart, f_queueLength, f_leastTop, f_leastBottom, a_arcThere, a_arcFrom, a_arcTo, a_arcWeight, a_table, a_otherTable, a_squared, a_levels, a_setCells, a_onRingBelowZero, a_queue, a_queued, a_arcsUsed) (nI s) := by
  have gok := hx_grok ok
  refine loop_0 (fun n i (_ : Unit) => wX_closesBelowZero__table_2 post (nI s) f_queueStart f_queueLength f_leastTop f_leastBottom a_arcThere a_arcFrom a_arcTo a_arcWeight a_table a_otherTable a_squared a_levels a_setCells a_onRingBelowZero a_queue a_queued a_arcsUsed n (nI i)) (fun i _ => ∀ j u x, j < i → (hx_K a_arcThere a_arcFrom a_arcTo a_arcWeight) j u s x → 0 ≤ gr_j (a_table (7 * s + u)).toInt x) 20 () (fun j u x hj => absurd hj (by omega)) ?_ ?_
  · intro n _ hI
    refine br_t (nI_le (Nat.le_refl 20) (by decide)) (h0 ?_)
    rintro ⟨n', u, m, c, x, g, ⟨j, hj, hk⟩, hl⟩
    have k1 := hI j u x hj hk
    have k0 := hk
    have hu : u < 7 := hk.2.2.2.1
    have k2 := (hb u hu).2 n' m c g
    have k3 := gr_Sn6 (gr_oki gok) hs g
    have k4 := gr_Wb gok (gr_SW g)
    have k5 := @gr_jc (a_table (7 * s + u)).toInt x
    have k6 := gok _ _ _ ⟨j, hj, hk⟩
    omega
  · intro n i _ hi hI hn
    obtain ⟨u, v, x, hu, hv, eu, ev, ew, hx1, hx2, hk0, hk1⟩ := hx_arc ok hi
    have ck : (nI i).toNatClampNeg = i := nI_clamp (by omega)
    have cu : (nI (7 * s + u)).toNatClampNeg = 7 * s + u := nI_clamp (by omega)
    have vi : vp_in (nI i) 20 := vp_in_nI hi (by decide)
    have keep : (∀ u x, (hx_K a_arcThere a_arcFrom a_arcTo a_arcWeight) i u s x → 0 ≤ gr_j (a_table (7 * s + u)).toInt x) → wX_closesBelowZero__table_2 post (nI s) f_queueStart f_queueLength f_leastTop f_leastBottom a_arcThere a_arcFrom a_arcTo a_arcWeight a_table a_otherTable a_squared a_levels a_setCells a_onRingBelowZero a_queue a_queued a_arcsUsed n (nI (i + 1)) := by
      intro hh
      refine hn () fun j u' x' hj hk => ?_
      by_cases e : j = i
      · subst e
        exact hh u' x' hk
      · exact hI j u' x' (by omega) hk
    refine br_f (nI_ge (b := 20) hi (by decide)) ?_
    simp only [ck, eu, ev, hp_ix, cu, nI_1]
    refine ⟨vi, br_c (fun t0 => nm_e (keep fun u' x' hk => absurd hk (hk0 t0 _ _ _))) (fun t0 => ⟨vi, ?_⟩)⟩
    obtain ⟨kk, ha⟩ := hk1 t0
    refine br_c (fun c => ⟨vi, vp_in_nI (by omega) (by decide), vi, ?_⟩) (fun c => nm_e (keep fun u' x' hk => ?_))
    · rw [nI_eq (by omega) (by omega)] at c
      subst c
      have gC := (hx_smC gok hs (hb u hu)).1
      have rC := gr_Cr gok (by decide) gC
      refine hx_jE rfl ew (gr_rgr rC) (by omega) fun r hr => br_c (fun c2 => nm_e (keep fun u' x' hk => ?_)) (fun c2 => h1 ?_)
      · obtain ⟨rfl, _, rfl⟩ := (kk _ _ _).mp hk
        rw [hp_le, hp_0, hr] at c2
        exact c2
      · rw [hp_le, hp_0, hr] at c2
        exact gr_CLn (gr_jC gok (by decide) gC ha) (by omega)
    · obtain ⟨_, e, _⟩ := (kk _ _ _).mp hk
      exact absurd (by rw [e]) c
theorem hx_fillBySets_table {post : SX → Prop} {f_queueStart f_queueLength f_leastTop f_leastBottom : Int32} {a_arcThere a_arcFrom a_arcTo a_arcWeight a_table a_otherTable a_squared a_levels a_setCells a_onRingBelowZero a_queue a_queued a_arcsUsed : Nat → Int32} (ok : hx_ok a_arcThere a_arcFrom a_arcTo a_arcWeight) (h : ∀ b sc rb : Nat → Int32, (∀ s t, s < 7 → t < 7 → gr_Ans (hx_A a_arcThere a_arcFrom a_arcTo a_arcWeight) s t (gr_cv (b (7 * s + t)).toInt)) → post (f_queueStart, f_queueLength, f_leastTop, f_leastBottom, a_arcThere, a_arcFrom, a_arcTo, a_arcWeight, b, a_otherTable, a_squared, a_levels, sc, rb, a_queue, a_queued, a_arcsUsed)) : wpX_fillBySets__table post (f_queueStart, f_queueLength, f_leastTop, f_leastBottom, a_arcThere, a_arcFrom, a_arcTo, a_arcWeight, a_table, a_otherTable, a_squared, a_levels, a_setCells, a_onRingBelowZero, a_queue, a_queued, a_arcsUsed) := by
  have gok := hx_grok ok
  have second : ∀ b0 sc rb : Nat → Int32, (∀ s t, s < 7 → t < 7 → hx_sm (hx_A a_arcThere a_arcFrom a_arcTo a_arcWeight) s t (b0 (7 * s + t)).toInt) → (∀ p, p < 7 → (¬ rb p = 0 → gr_L (hx_A a_arcThere a_arcFrom a_arcTo a_arcWeight) p p) ∧ (rb p = 0 → ¬ gr_NR (hx_A a_arcThere a_arcFrom a_arcTo a_arcWeight) p)) → ∃ n, wX_fillBySets__table_60 post n 0 f_queueStart f_queueLength f_leastTop f_leastBottom a_arcThere a_arcFrom a_arcTo a_arcWeight b0 a_otherTable a_squared a_levels sc rb a_queue a_queued a_arcsUsed := by
    intro b0 sc rb h0 hrb
    refine loop_0 (fun n i (b : Nat → Int32) => wX_fillBySets__table_60 post n (nI i) f_queueStart f_queueLength f_leastTop f_leastBottom a_arcThere a_arcFrom a_arcTo a_arcWeight b a_otherTable a_squared a_levels sc rb a_queue a_queued a_arcsUsed) (fun i b => (∀ s t, s < 7 → t < 7 → gr_C (hx_A a_arcThere a_arcFrom a_arcTo a_arcWeight) 6 s t (b (7 * s + t)).toInt ∧ ((b (7 * s + t)).toInt = 1000000 ↔ ¬ gr_R (hx_A a_arcThere a_arcFrom a_arcTo a_arcWeight) s t) ∧ (∀ n m c, gr_S (hx_A a_arcThere a_arcFrom a_arcTo a_arcWeight) gr_T s n t m c → (b (7 * s + t)).toInt ≤ c)) ∧ ∀ s t p, s < 7 → t < 7 → p < i → gr_NR (hx_A a_arcThere a_arcFrom a_arcTo a_arcWeight) p → gr_R (hx_A a_arcThere a_arcFrom a_arcTo a_arcWeight) s p → gr_R (hx_A a_arcThere a_arcFrom a_arcTo a_arcWeight) p t → (b (7 * s + t)).toInt = -1000000) 7 b0 ?_ ?_ ?_
    · exact ⟨fun s t hs ht => ⟨(hx_smC gok hs (h0 s t hs ht)).1, (hx_smC gok hs (h0 s t hs ht)).2, (h0 s t hs ht).2⟩, fun s t p _ _ hp => absurd hp (by omega)⟩
    · rintro n b ⟨r1, r2⟩
      exact br_t (nI_le (Nat.le_refl 7) (by decide)) (h b sc rb (gr_E4f gok (Z' := fun s t => (b (7 * s + t)).toInt) (fun s t hs ht => (r1 s t hs ht).1) (fun s t n m c hs ht g => (r1 s t hs ht).2.2 n m c g) (fun s t p hs ht hp => r2 s t p hs ht hp)))
    · rintro n i b hi ⟨r1, r2⟩ hn
      have ck : (nI i).toNatClampNeg = i := nI_clamp (by omega)
      refine br_f (nI_ge (b := 7) hi (by decide)) ?_
      rw [ck, nI_1]
      refine ⟨vp_in_nI hi (by decide), br_c (fun c => nm_e (hn b ⟨r1, fun s t p hs ht hp hN => ?_⟩)) (fun c => ?_)⟩
      · by_cases e : p = i
        · subst e
          exact absurd hN ((hrb p hi).2 c)
        · exact r2 s t p hs ht (by omega) hN
      · have hl := (hrb i hi).1 c
        refine hx_pass_table hi (fun s t hs ht => gr_Cr gok (by decide) (r1 s t hs ht).1) (Or.inl hp_D) fun b' hb' => ?_
        dsimp only
        refine nm_e (hn b' ?_)
        have val : ∀ s t, s < 7 → t < 7 → ((b' (7 * s + t)).toInt = (b (7 * s + t)).toInt ∧ ¬ (gr_R (hx_A a_arcThere a_arcFrom a_arcTo a_arcWeight) s i ∧ gr_R (hx_A a_arcThere a_arcFrom a_arcTo a_arcWeight) i t)) ∨ ((b' (7 * s + t)).toInt = -1000000 ∧ gr_R (hx_A a_arcThere a_arcFrom a_arcTo a_arcWeight) s i ∧ gr_R (hx_A a_arcThere a_arcFrom a_arcTo a_arcWeight) i t) := by
          intro s t hs ht
          have k1 := (r1 s i hs hi).2.1
          have k2 := (r1 i t hi ht).2.1
          have g1 := gr_Cr gok (by decide) (r1 s i hs hi).1
          have g2 := gr_Cr gok (by decide) (r1 i t hi ht).1
          have g3 := gr_Cr gok (by decide) (r1 s t hs ht).1
          have p1 := @gr_psle (fun s t => (b (7 * s + t)).toInt) i s t (-1000000)
          rw [hb' s t hs ht, hp_D]
          by_cases e1 : (b (7 * s + i)).toInt = 1000000
          · rw [e1, gr_j_F, gr_j_F] at p1
            refine Or.inl ⟨?_, fun z => (k1.mp e1) z.1⟩
            unfold gr_rg at g3
            omega
          · by_cases e2 : (b (7 * i + t)).toInt = 1000000
            · rw [e2, gr_j_F'] at p1
              refine Or.inl ⟨?_, fun z => (k2.mp e2) z.2⟩
              unfold gr_rg at g3
              omega
            · rw [gr_j_D' e1, gr_j_D e2] at p1
              refine Or.inr ⟨?_, Classical.byContradiction fun z => e1 (k1.mpr z), Classical.byContradiction fun z => e2 (k2.mpr z)⟩
              unfold gr_rg at g3
              omega
        refine ⟨fun s t hs ht => ?_, fun s t p hs ht hp hN hR1 hR2 => ?_⟩
        · have k := r1 s t hs ht
          rcases val s t hs ht with ⟨e, _⟩ | ⟨e, q1, q2⟩
          · rw [e]
            exact k
          · rw [e]
            refine ⟨gr_CL (gr_LR (gr_RL q1 hl) q2), ⟨fun z => absurd z (by decide), fun z => absurd (gr_Rt q1 q2) z⟩, fun n m c g => ?_⟩
            have := gr_Sn6 (gr_oki gok) hs g
            have := gr_Wb gok (gr_SW g)
            omega
        · rcases val s t hs ht with ⟨e, q⟩ | ⟨e, _⟩
          · by_cases ep : p = i
            · subst ep
              exact absurd ⟨hR1, hR2⟩ q
            · rw [e]
              exact r2 s t p hs ht (by omega) hN hR1 hR2
          · exact e
  refine loop_0 (fun n i (z : (Nat → Int32) × (Nat → Int32) × (Nat → Int32)) => wX_fillBySets__table_2 post n (nI i) f_queueStart f_queueLength f_leastTop f_leastBottom a_arcThere a_arcFrom a_arcTo a_arcWeight z.1 a_otherTable a_squared a_levels z.2.1 z.2.2 a_queue a_queued a_arcsUsed) (fun i z => (∀ s t, s < i → t < 7 → hx_sm (hx_A a_arcThere a_arcFrom a_arcTo a_arcWeight) s t (z.1 (7 * s + t)).toInt) ∧ ∀ p, p < i → (¬ z.2.2 p = 0 → gr_L (hx_A a_arcThere a_arcFrom a_arcTo a_arcWeight) p p) ∧ (z.2.2 p = 0 → ¬ gr_NR (hx_A a_arcThere a_arcFrom a_arcTo a_arcWeight) p)) 7 (a_table, a_setCells, a_onRingBelowZero) ⟨fun s t hs => absurd hs (by omega), fun p hp => absurd hp (by omega)⟩ ?_ ?_
  · rintro n ⟨b, sc, rb⟩ ⟨r1, r2⟩
    exact br_t (nI_le (Nat.le_refl 7) (by decide)) (second b sc rb (fun s t hs ht => r1 s t hs ht) r2)
  · rintro n s ⟨b, sc, rb⟩ hs ⟨r1, r2⟩ hn
    dsimp only at r1 r2
    refine br_f (nI_ge (b := 7) hs (by decide)) ?_
    refine hx_fillSetsFrom ok hs fun c hc => ?_
    refine loop_0 (fun n' i (b' : Nat → Int32) => wX_fillBySets__table_15 post (wX_fillBySets__table_2 post n) (nI s) f_queueStart f_queueLength f_leastTop f_leastBottom n' (nI i) a_arcThere a_arcFrom a_arcTo a_arcWeight b' a_otherTable a_squared a_levels c rb a_queue a_queued a_arcsUsed) (fun i b' => ∀ s' t, (s' < s ∨ (s' = s ∧ t < i)) → t < 7 → hx_sm (hx_A a_arcThere a_arcFrom a_arcTo a_arcWeight) s' t (b' (7 * s' + t)).toInt) 7 b (fun s' t hs' ht => r1 s' t (by omega) ht) ?_ ?_
    · intro n' b' hb'
      have ck : (nI s).toNatClampNeg = s := nI_clamp (by omega)
      have vs : vp_in (nI s) 7 := vp_in_nI hs (by decide)
      refine br_t (nI_le (Nat.le_refl 7) (by decide)) ?_
      rw [ck, nI_1]
      refine hx_closes_table ok hs (fun t ht => hb' s t (by omega) ht) (fun hl => ⟨vs, ?_⟩) (fun hl => ⟨vs, ?_⟩)
      · rw [hp_nb1]
        refine nm_e (nm_e (hn (b', c, upd rb s 1) ⟨fun s' t hs' ht => hb' s' t (by omega) ht, fun p hp => ?_⟩))
        dsimp only
        by_cases e : p = s
        · subst e
          rw [pk_us]
          exact ⟨fun _ => hl, fun z => absurd z (by decide)⟩
        · rw [pk_un e]
          exact r2 p (by omega)
      · rw [hp_nb0]
        refine nm_e (nm_e (hn (b', c, upd rb s 0) ⟨fun s' t hs' ht => hb' s' t (by omega) ht, fun p hp => ?_⟩))
        dsimp only
        by_cases e : p = s
        · subst e
          rw [pk_us]
          exact ⟨fun z => absurd rfl z, fun _ => hl⟩
        · rw [pk_un e]
          exact r2 p (by omega)
    · intro n' t b' ht hb' hn'
      have ck : (nI (7 * s + t)).toNatClampNeg = 7 * s + t := nI_clamp (by omega)
      refine br_f (nI_ge (b := 7) ht (by decide)) ?_
      rw [hp_ix, ck, nI_1]
      refine hx_smallest ok hs ht hc fun r hr => ⟨vp_in_nI (by omega) (by decide), nm_e (nm_e (hn' _ fun s' t' hs' ht' => ?_))⟩
      by_cases e : 7 * s' + t' = 7 * s + t
      · have e1 : s' = s := by omega
        have e2 : t' = t := by omega
        subst e1 e2
        rw [pk_us]
        exact hr
      · rw [pk_un e]
        exact hb' s' t' (by omega) ht'
theorem hx_conv_table {post : SX → Prop} {f_queueStart f_queueLength f_leastTop f_leastBottom : Int32} {a_arcThere a_arcFrom a_arcTo a_arcWeight a_table a_otherTable a_squared a_levels a_setCells a_onRingBelowZero a_queue a_queued a_arcsUsed : Nat → Int32} {A : Nat → Nat → Int → Prop} (ha : ∀ s t, s < 7 → t < 7 → gr_Ans A s t (gr_cv (a_table (7 * s + t)).toInt)) (h : ∀ b : Nat → Int32, (∀ s t, s < 7 → t < 7 → gr_Ans A s t (b (7 * s + t)).toInt) → post (f_queueStart, f_queueLength, f_leastTop, f_leastBottom, a_arcThere, a_arcFrom, a_arcTo, a_arcWeight, b, a_otherTable, a_squared, a_levels, a_setCells, a_onRingBelowZero, a_queue, a_queued, a_arcsUsed)) : ∃ n, wX_fill__table_71 post f_queueStart f_queueLength f_leastTop f_leastBottom n 0 a_arcThere a_arcFrom a_arcTo a_arcWeight a_table a_otherTable a_squared a_levels a_setCells a_onRingBelowZero a_queue a_queued a_arcsUsed := by
  refine loop_0 (fun n i (b : Nat → Int32) => wX_fill__table_71 post f_queueStart f_queueLength f_leastTop f_leastBottom n (nI i) a_arcThere a_arcFrom a_arcTo a_arcWeight b a_otherTable a_squared a_levels a_setCells a_onRingBelowZero a_queue a_queued a_arcsUsed) (fun i b => ∀ j, j < 49 → (b j).toInt = if j < i then gr_cv (a_table j).toInt else (a_table j).toInt) 49 a_table (fun j _ => by rw [if_neg (by omega)]) ?_ ?_
  · intro n b hb
    refine br_t (nI_le (Nat.le_refl 49) (by decide)) (h b fun s t hs ht => ?_)
    rw [hb _ (by omega), if_pos (by omega)]
    exact ha s t hs ht
  · intro n i b hi hb hn
    have ck : (nI i).toNatClampNeg = i := nI_clamp (by omega)
    have vi : vp_in (nI i) 49 := vp_in_nI hi (by decide)
    have ei : (b i).toInt = (a_table i).toInt := by rw [hb i hi, if_neg (by omega)]
    have put : ∀ z : Int32, z.toInt = gr_cv (a_table i).toInt → wX_fill__table_71 post f_queueStart f_queueLength f_leastTop f_leastBottom n (nI (i + 1)) a_arcThere a_arcFrom a_arcTo a_arcWeight (upd b i z) a_otherTable a_squared a_levels a_setCells a_onRingBelowZero a_queue a_queued a_arcsUsed := by
      intro z hz
      refine hn _ fun j hj => ?_
      rw [hx_ut]
      by_cases e : j = i
      · subst e
        rw [if_pos rfl, if_pos (by omega), hz]
      · rw [if_neg e, hb j hj]
        split <;> split <;> first | rfl | omega
    refine br_f (nI_ge (b := 49) hi (by decide)) ?_
    rw [ck, nI_1]
    refine ⟨vi, br_c (fun c => ⟨vi, nm_e (nm_e (put _ ?_))⟩) (fun c => ⟨vi, br_c (fun c2 => ⟨vi, nm_e (nm_e (put _ ?_))⟩) (fun c2 => nm_e ?_)⟩)⟩
    · rw [hp_eq, hp_F, ei] at c
      rw [c]
      exact hp_N
    · rw [hp_eq, hp_D, ei] at c2
      rw [c2]
      exact hp_L
    · rw [hp_eq, hp_F, ei] at c
      rw [hp_eq, hp_D, ei] at c2
      have := put (b i) (by
        unfold gr_cv
        rw [if_neg c, if_neg c2, ei])
      rw [hx_upds] at this
      exact this
theorem hx_fill_table {post : SX → Prop} {f_queueStart f_queueLength f_leastTop f_leastBottom : Int32} {a_arcThere a_arcFrom a_arcTo a_arcWeight a_table a_otherTable a_squared a_levels a_setCells a_onRingBelowZero a_queue a_queued a_arcsUsed : Nat → Int32} (ok : hx_ok a_arcThere a_arcFrom a_arcTo a_arcWeight) (hq0 : ∀ v, v < 7 → a_queued v = 0) {e : Nat} (he : e < 5) (h : ∀ (st ln : Int32) (tb sq sc rb q qd us : Nat → Int32), (∀ v, v < 7 → qd v = 0) → (∀ s t, s < 7 → t < 7 → gr_Ans (hx_A a_arcThere a_arcFrom a_arcTo a_arcWeight) s t (tb (7 * s + t)).toInt) → post (st, ln, f_leastTop, f_leastBottom, a_arcThere, a_arcFrom, a_arcTo, a_arcWeight, tb, a_otherTable, sq, a_levels, sc, rb, q, qd, us)) : wpX_fill__table post (f_queueStart, f_queueLength, f_leastTop, f_leastBottom, a_arcThere, a_arcFrom, a_arcTo, a_arcWeight, a_table, a_otherTable, a_squared, a_levels, a_setCells, a_onRingBelowZero, a_queue, a_queued, a_arcsUsed) (nI e) := by
  have e5 : e = 0 ∨ e = 1 ∨ e = 2 ∨ e = 3 ∨ e = 4 := by omega
  unfold wpX_fill__table
  dsimp only
  rcases e5 with rfl | rfl | rfl | rfl | rfl
  · refine br_f (by decide) (br_f (by decide) (br_t (by decide) ?_))
    refine hx_fillByRounds_table ok fun b hb => ?_
    exact hx_conv_table hb fun b' hb' => h _ _ b' _ _ _ _ _ _ hq0 hb'
  · refine br_f (by decide) (br_f (by decide) (br_f (by decide) (br_t (by decide) ?_)))
    refine hx_fillByMiddle_table ok fun b hb => ?_
    exact hx_conv_table hb fun b' hb' => h _ _ b' _ _ _ _ _ _ hq0 hb'
  · refine br_f (by decide) (br_f (by decide) (br_f (by decide) (br_f (by decide) (br_t (by decide) ?_))))
    refine hx_fillBySquaring_table ok fun b sq hb => ?_
    exact hx_conv_table hb fun b' hb' => h _ _ b' _ _ _ _ _ _ hq0 hb'
  · refine br_f (by decide) (br_f (by decide) (br_f (by decide) (br_f (by decide) (br_f (by decide) (br_t (by decide) ?_)))))
    refine hx_fillByQueue_table ok hq0 fun st ln b q qd us hq hb => ?_
    exact hx_conv_table hb fun b' hb' => h _ _ b' _ _ _ _ _ _ hq hb'
  · refine br_f (by decide) (br_t (by decide) ?_)
    refine hx_fillBySets_table ok fun b sc rb hb => ?_
    exact hx_conv_table hb fun b' hb' => h _ _ b' _ _ _ _ _ _ hq0 hb'
theorem hx_closes_otherTable {post : Int32 → Prop} {f_queueStart f_queueLength f_leastTop f_leastBottom : Int32} {a_arcThere a_arcFrom a_arcTo a_arcWeight a_table a_otherTable a_squared a_levels a_setCells a_onRingBelowZero a_queue a_queued a_arcsUsed : Nat → Int32} (ok : hx_ok a_arcThere a_arcFrom a_arcTo a_arcWeight) {s : Nat} (hs : s < 7) (hb : ∀ t, t < 7 → hx_sm (hx_A a_arcThere a_arcFrom a_arcTo a_arcWeight) s t (a_otherTable (7 * s + t)).toInt) (h1 : gr_L (hx_A a_arcThere a_arcFrom a_arcTo a_arcWeight) s s → post 1) (h0 : ¬ gr_NR (hx_A a_arcThere a_arcFrom a_arcTo a_arcWeight) s → post 0) : wpX_closesBelowZero__otherTable post (f_queueStart, f_queueLength, f_leastTop, f_leastBottom, a_arcThere, a_arcFrom, a_arcTo, a_arcWeight, a_table, a_otherTable, a_squared, a_levels, a_setCells, a_onRingBelowZero, a_queue, a_queued, a_arcsUsed) (nI s) := by
  have gok := hx_grok ok
  refine loop_0 (fun n i (_ : Unit) => wX_closesBelowZero__otherTable_2 post (nI s) f_queueStart f_queueLength f_leastTop f_leastBottom a_arcThere a_arcFrom a_arcTo a_arcWeight a_table a_otherTable a_squared a_levels a_setCells a_onRingBelowZero a_queue a_queued a_arcsUsed n (nI i)) (fun i _ => ∀ j u x, j < i → (hx_K a_arcThere a_arcFrom a_arcTo a_arcWeight) j u s x → 0 ≤ gr_j (a_otherTable (7 * s + u)).toInt x) 20 () (fun j u x hj => absurd hj (by omega)) ?_ ?_
  · intro n _ hI
    refine br_t (nI_le (Nat.le_refl 20) (by decide)) (h0 ?_)
    rintro ⟨n', u, m, c, x, g, ⟨j, hj, hk⟩, hl⟩
    have k1 := hI j u x hj hk
    have k0 := hk
    have hu : u < 7 := hk.2.2.2.1
    have k2 := (hb u hu).2 n' m c g
    have k3 := gr_Sn6 (gr_oki gok) hs g
    have k4 := gr_Wb gok (gr_SW g)
    have k5 := @gr_jc (a_otherTable (7 * s + u)).toInt x
    have k6 := gok _ _ _ ⟨j, hj, hk⟩
    omega
  · intro n i _ hi hI hn
    obtain ⟨u, v, x, hu, hv, eu, ev, ew, hx1, hx2, hk0, hk1⟩ := hx_arc ok hi
    have ck : (nI i).toNatClampNeg = i := nI_clamp (by omega)
    have cu : (nI (7 * s + u)).toNatClampNeg = 7 * s + u := nI_clamp (by omega)
    have vi : vp_in (nI i) 20 := vp_in_nI hi (by decide)
    have keep : (∀ u x, (hx_K a_arcThere a_arcFrom a_arcTo a_arcWeight) i u s x → 0 ≤ gr_j (a_otherTable (7 * s + u)).toInt x) → wX_closesBelowZero__otherTable_2 post (nI s) f_queueStart f_queueLength f_leastTop f_leastBottom a_arcThere a_arcFrom a_arcTo a_arcWeight a_table a_otherTable a_squared a_levels a_setCells a_onRingBelowZero a_queue a_queued a_arcsUsed n (nI (i + 1)) := by
      intro hh
      refine hn () fun j u' x' hj hk => ?_
      by_cases e : j = i
      · subst e
        exact hh u' x' hk
      · exact hI j u' x' (by omega) hk
    refine br_f (nI_ge (b := 20) hi (by decide)) ?_
    simp only [ck, eu, ev, hp_ix, cu, nI_1]
    refine ⟨vi, br_c (fun t0 => nm_e (keep fun u' x' hk => absurd hk (hk0 t0 _ _ _))) (fun t0 => ⟨vi, ?_⟩)⟩
    obtain ⟨kk, ha⟩ := hk1 t0
    refine br_c (fun c => ⟨vi, vp_in_nI (by omega) (by decide), vi, ?_⟩) (fun c => nm_e (keep fun u' x' hk => ?_))
    · rw [nI_eq (by omega) (by omega)] at c
      subst c
      have gC := (hx_smC gok hs (hb u hu)).1
      have rC := gr_Cr gok (by decide) gC
      refine hx_jE rfl ew (gr_rgr rC) (by omega) fun r hr => br_c (fun c2 => nm_e (keep fun u' x' hk => ?_)) (fun c2 => h1 ?_)
      · obtain ⟨rfl, _, rfl⟩ := (kk _ _ _).mp hk
        rw [hp_le, hp_0, hr] at c2
        exact c2
      · rw [hp_le, hp_0, hr] at c2
        exact gr_CLn (gr_jC gok (by decide) gC ha) (by omega)
    · obtain ⟨_, e, _⟩ := (kk _ _ _).mp hk
      exact absurd (by rw [e]) c
theorem hx_fillBySets_otherTable {post : SX → Prop} {f_queueStart f_queueLength f_leastTop f_leastBottom : Int32} {a_arcThere a_arcFrom a_arcTo a_arcWeight a_table a_otherTable a_squared a_levels a_setCells a_onRingBelowZero a_queue a_queued a_arcsUsed : Nat → Int32} (ok : hx_ok a_arcThere a_arcFrom a_arcTo a_arcWeight) (h : ∀ b sc rb : Nat → Int32, (∀ s t, s < 7 → t < 7 → gr_Ans (hx_A a_arcThere a_arcFrom a_arcTo a_arcWeight) s t (gr_cv (b (7 * s + t)).toInt)) → post (f_queueStart, f_queueLength, f_leastTop, f_leastBottom, a_arcThere, a_arcFrom, a_arcTo, a_arcWeight, a_table, b, a_squared, a_levels, sc, rb, a_queue, a_queued, a_arcsUsed)) : wpX_fillBySets__otherTable post (f_queueStart, f_queueLength, f_leastTop, f_leastBottom, a_arcThere, a_arcFrom, a_arcTo, a_arcWeight, a_table, a_otherTable, a_squared, a_levels, a_setCells, a_onRingBelowZero, a_queue, a_queued, a_arcsUsed) := by
  have gok := hx_grok ok
  have second : ∀ b0 sc rb : Nat → Int32, (∀ s t, s < 7 → t < 7 → hx_sm (hx_A a_arcThere a_arcFrom a_arcTo a_arcWeight) s t (b0 (7 * s + t)).toInt) → (∀ p, p < 7 → (¬ rb p = 0 → gr_L (hx_A a_arcThere a_arcFrom a_arcTo a_arcWeight) p p) ∧ (rb p = 0 → ¬ gr_NR (hx_A a_arcThere a_arcFrom a_arcTo a_arcWeight) p)) → ∃ n, wX_fillBySets__otherTable_60 post n 0 f_queueStart f_queueLength f_leastTop f_leastBottom a_arcThere a_arcFrom a_arcTo a_arcWeight a_table b0 a_squared a_levels sc rb a_queue a_queued a_arcsUsed := by
    intro b0 sc rb h0 hrb
    refine loop_0 (fun n i (b : Nat → Int32) => wX_fillBySets__otherTable_60 post n (nI i) f_queueStart f_queueLength f_leastTop f_leastBottom a_arcThere a_arcFrom a_arcTo a_arcWeight a_table b a_squared a_levels sc rb a_queue a_queued a_arcsUsed) (fun i b => (∀ s t, s < 7 → t < 7 → gr_C (hx_A a_arcThere a_arcFrom a_arcTo a_arcWeight) 6 s t (b (7 * s + t)).toInt ∧ ((b (7 * s + t)).toInt = 1000000 ↔ ¬ gr_R (hx_A a_arcThere a_arcFrom a_arcTo a_arcWeight) s t) ∧ (∀ n m c, gr_S (hx_A a_arcThere a_arcFrom a_arcTo a_arcWeight) gr_T s n t m c → (b (7 * s + t)).toInt ≤ c)) ∧ ∀ s t p, s < 7 → t < 7 → p < i → gr_NR (hx_A a_arcThere a_arcFrom a_arcTo a_arcWeight) p → gr_R (hx_A a_arcThere a_arcFrom a_arcTo a_arcWeight) s p → gr_R (hx_A a_arcThere a_arcFrom a_arcTo a_arcWeight) p t → (b (7 * s + t)).toInt = -1000000) 7 b0 ?_ ?_ ?_
    · exact ⟨fun s t hs ht => ⟨(hx_smC gok hs (h0 s t hs ht)).1, (hx_smC gok hs (h0 s t hs ht)).2, (h0 s t hs ht).2⟩, fun s t p _ _ hp => absurd hp (by omega)⟩
    · rintro n b ⟨r1, r2⟩
      exact br_t (nI_le (Nat.le_refl 7) (by decide)) (h b sc rb (gr_E4f gok (Z' := fun s t => (b (7 * s + t)).toInt) (fun s t hs ht => (r1 s t hs ht).1) (fun s t n m c hs ht g => (r1 s t hs ht).2.2 n m c g) (fun s t p hs ht hp => r2 s t p hs ht hp)))
    · rintro n i b hi ⟨r1, r2⟩ hn
      have ck : (nI i).toNatClampNeg = i := nI_clamp (by omega)
      refine br_f (nI_ge (b := 7) hi (by decide)) ?_
      rw [ck, nI_1]
      refine ⟨vp_in_nI hi (by decide), br_c (fun c => nm_e (hn b ⟨r1, fun s t p hs ht hp hN => ?_⟩)) (fun c => ?_)⟩
      · by_cases e : p = i
        · subst e
          exact absurd hN ((hrb p hi).2 c)
        · exact r2 s t p hs ht (by omega) hN
      · have hl := (hrb i hi).1 c
        refine hx_pass_otherTable hi (fun s t hs ht => gr_Cr gok (by decide) (r1 s t hs ht).1) (Or.inl hp_D) fun b' hb' => ?_
        dsimp only
        refine nm_e (hn b' ?_)
        have val : ∀ s t, s < 7 → t < 7 → ((b' (7 * s + t)).toInt = (b (7 * s + t)).toInt ∧ ¬ (gr_R (hx_A a_arcThere a_arcFrom a_arcTo a_arcWeight) s i ∧ gr_R (hx_A a_arcThere a_arcFrom a_arcTo a_arcWeight) i t)) ∨ ((b' (7 * s + t)).toInt = -1000000 ∧ gr_R (hx_A a_arcThere a_arcFrom a_arcTo a_arcWeight) s i ∧ gr_R (hx_A a_arcThere a_arcFrom a_arcTo a_arcWeight) i t) := by
          intro s t hs ht
          have k1 := (r1 s i hs hi).2.1
          have k2 := (r1 i t hi ht).2.1
          have g1 := gr_Cr gok (by decide) (r1 s i hs hi).1
          have g2 := gr_Cr gok (by decide) (r1 i t hi ht).1
          have g3 := gr_Cr gok (by decide) (r1 s t hs ht).1
          have p1 := @gr_psle (fun s t => (b (7 * s + t)).toInt) i s t (-1000000)
          rw [hb' s t hs ht, hp_D]
          by_cases e1 : (b (7 * s + i)).toInt = 1000000
          · rw [e1, gr_j_F, gr_j_F] at p1
            refine Or.inl ⟨?_, fun z => (k1.mp e1) z.1⟩
            unfold gr_rg at g3
            omega
          · by_cases e2 : (b (7 * i + t)).toInt = 1000000
            · rw [e2, gr_j_F'] at p1
              refine Or.inl ⟨?_, fun z => (k2.mp e2) z.2⟩
              unfold gr_rg at g3
              omega
            · rw [gr_j_D' e1, gr_j_D e2] at p1
              refine Or.inr ⟨?_, Classical.byContradiction fun z => e1 (k1.mpr z), Classical.byContradiction fun z => e2 (k2.mpr z)⟩
              unfold gr_rg at g3
              omega
        refine ⟨fun s t hs ht => ?_, fun s t p hs ht hp hN hR1 hR2 => ?_⟩
        · have k := r1 s t hs ht
          rcases val s t hs ht with ⟨e, _⟩ | ⟨e, q1, q2⟩
          · rw [e]
            exact k
          · rw [e]
            refine ⟨gr_CL (gr_LR (gr_RL q1 hl) q2), ⟨fun z => absurd z (by decide), fun z => absurd (gr_Rt q1 q2) z⟩, fun n m c g => ?_⟩
            have := gr_Sn6 (gr_oki gok) hs g
            have := gr_Wb gok (gr_SW g)
            omega
        · rcases val s t hs ht with ⟨e, q⟩ | ⟨e, _⟩
          · by_cases ep : p = i
            · subst ep
              exact absurd ⟨hR1, hR2⟩ q
            · rw [e]
              exact r2 s t p hs ht (by omega) hN hR1 hR2
          · exact e
  refine loop_0 (fun n i (z : (Nat → Int32) × (Nat → Int32) × (Nat → Int32)) => wX_fillBySets__otherTable_2 post n (nI i) f_queueStart f_queueLength f_leastTop f_leastBottom a_arcThere a_arcFrom a_arcTo a_arcWeight a_table z.1 a_squared a_levels z.2.1 z.2.2 a_queue a_queued a_arcsUsed) (fun i z => (∀ s t, s < i → t < 7 → hx_sm (hx_A a_arcThere a_arcFrom a_arcTo a_arcWeight) s t (z.1 (7 * s + t)).toInt) ∧ ∀ p, p < i → (¬ z.2.2 p = 0 → gr_L (hx_A a_arcThere a_arcFrom a_arcTo a_arcWeight) p p) ∧ (z.2.2 p = 0 → ¬ gr_NR (hx_A a_arcThere a_arcFrom a_arcTo a_arcWeight) p)) 7 (a_otherTable, a_setCells, a_onRingBelowZero) ⟨fun s t hs => absurd hs (by omega), fun p hp => absurd hp (by omega)⟩ ?_ ?_
  · rintro n ⟨b, sc, rb⟩ ⟨r1, r2⟩
    exact br_t (nI_le (Nat.le_refl 7) (by decide)) (second b sc rb (fun s t hs ht => r1 s t hs ht) r2)
  · rintro n s ⟨b, sc, rb⟩ hs ⟨r1, r2⟩ hn
    dsimp only at r1 r2
    refine br_f (nI_ge (b := 7) hs (by decide)) ?_
    refine hx_fillSetsFrom ok hs fun c hc => ?_
    refine loop_0 (fun n' i (b' : Nat → Int32) => wX_fillBySets__otherTable_15 post (wX_fillBySets__otherTable_2 post n) (nI s) f_queueStart f_queueLength f_leastTop f_leastBottom n' (nI i) a_arcThere a_arcFrom a_arcTo a_arcWeight a_table b' a_squared a_levels c rb a_queue a_queued a_arcsUsed) (fun i b' => ∀ s' t, (s' < s ∨ (s' = s ∧ t < i)) → t < 7 → hx_sm (hx_A a_arcThere a_arcFrom a_arcTo a_arcWeight) s' t (b' (7 * s' + t)).toInt) 7 b (fun s' t hs' ht => r1 s' t (by omega) ht) ?_ ?_
    · intro n' b' hb'
      have ck : (nI s).toNatClampNeg = s := nI_clamp (by omega)
      have vs : vp_in (nI s) 7 := vp_in_nI hs (by decide)
      refine br_t (nI_le (Nat.le_refl 7) (by decide)) ?_
      rw [ck, nI_1]
      refine hx_closes_otherTable ok hs (fun t ht => hb' s t (by omega) ht) (fun hl => ⟨vs, ?_⟩) (fun hl => ⟨vs, ?_⟩)
      · rw [hp_nb1]
        refine nm_e (nm_e (hn (b', c, upd rb s 1) ⟨fun s' t hs' ht => hb' s' t (by omega) ht, fun p hp => ?_⟩))
        dsimp only
        by_cases e : p = s
        · subst e
          rw [pk_us]
          exact ⟨fun _ => hl, fun z => absurd z (by decide)⟩
        · rw [pk_un e]
          exact r2 p (by omega)
      · rw [hp_nb0]
        refine nm_e (nm_e (hn (b', c, upd rb s 0) ⟨fun s' t hs' ht => hb' s' t (by omega) ht, fun p hp => ?_⟩))
        dsimp only
        by_cases e : p = s
        · subst e
          rw [pk_us]
          exact ⟨fun z => absurd rfl z, fun _ => hl⟩
        · rw [pk_un e]
          exact r2 p (by omega)
    · intro n' t b' ht hb' hn'
      have ck : (nI (7 * s + t)).toNatClampNeg = 7 * s + t := nI_clamp (by omega)
      refine br_f (nI_ge (b := 7) ht (by decide)) ?_
      rw [hp_ix, ck, nI_1]
      refine hx_smallest ok hs ht hc fun r hr => ⟨vp_in_nI (by omega) (by decide), nm_e (nm_e (hn' _ fun s' t' hs' ht' => ?_))⟩
      by_cases e : 7 * s' + t' = 7 * s + t
      · have e1 : s' = s := by omega
        have e2 : t' = t := by omega
        subst e1 e2
        rw [pk_us]
        exact hr
      · rw [pk_un e]
        exact hb' s' t' (by omega) ht'
theorem hx_conv_otherTable {post : SX → Prop} {f_queueStart f_queueLength f_leastTop f_leastBottom : Int32} {a_arcThere a_arcFrom a_arcTo a_arcWeight a_table a_otherTable a_squared a_levels a_setCells a_onRingBelowZero a_queue a_queued a_arcsUsed : Nat → Int32} {A : Nat → Nat → Int → Prop} (ha : ∀ s t, s < 7 → t < 7 → gr_Ans A s t (gr_cv (a_otherTable (7 * s + t)).toInt)) (h : ∀ b : Nat → Int32, (∀ s t, s < 7 → t < 7 → gr_Ans A s t (b (7 * s + t)).toInt) → post (f_queueStart, f_queueLength, f_leastTop, f_leastBottom, a_arcThere, a_arcFrom, a_arcTo, a_arcWeight, a_table, b, a_squared, a_levels, a_setCells, a_onRingBelowZero, a_queue, a_queued, a_arcsUsed)) : ∃ n, wX_fill__otherTable_71 post f_queueStart f_queueLength f_leastTop f_leastBottom n 0 a_arcThere a_arcFrom a_arcTo a_arcWeight a_table a_otherTable a_squared a_levels a_setCells a_onRingBelowZero a_queue a_queued a_arcsUsed := by
  refine loop_0 (fun n i (b : Nat → Int32) => wX_fill__otherTable_71 post f_queueStart f_queueLength f_leastTop f_leastBottom n (nI i) a_arcThere a_arcFrom a_arcTo a_arcWeight a_table b a_squared a_levels a_setCells a_onRingBelowZero a_queue a_queued a_arcsUsed) (fun i b => ∀ j, j < 49 → (b j).toInt = if j < i then gr_cv (a_otherTable j).toInt else (a_otherTable j).toInt) 49 a_otherTable (fun j _ => by rw [if_neg (by omega)]) ?_ ?_
  · intro n b hb
    refine br_t (nI_le (Nat.le_refl 49) (by decide)) (h b fun s t hs ht => ?_)
    rw [hb _ (by omega), if_pos (by omega)]
    exact ha s t hs ht
  · intro n i b hi hb hn
    have ck : (nI i).toNatClampNeg = i := nI_clamp (by omega)
    have vi : vp_in (nI i) 49 := vp_in_nI hi (by decide)
    have ei : (b i).toInt = (a_otherTable i).toInt := by rw [hb i hi, if_neg (by omega)]
    have put : ∀ z : Int32, z.toInt = gr_cv (a_otherTable i).toInt → wX_fill__otherTable_71 post f_queueStart f_queueLength f_leastTop f_leastBottom n (nI (i + 1)) a_arcThere a_arcFrom a_arcTo a_arcWeight a_table (upd b i z) a_squared a_levels a_setCells a_onRingBelowZero a_queue a_queued a_arcsUsed := by
      intro z hz
      refine hn _ fun j hj => ?_
      rw [hx_ut]
      by_cases e : j = i
      · subst e
        rw [if_pos rfl, if_pos (by omega), hz]
      · rw [if_neg e, hb j hj]
        split <;> split <;> first | rfl | omega
    refine br_f (nI_ge (b := 49) hi (by decide)) ?_
    rw [ck, nI_1]
    refine ⟨vi, br_c (fun c => ⟨vi, nm_e (nm_e (put _ ?_))⟩) (fun c => ⟨vi, br_c (fun c2 => ⟨vi, nm_e (nm_e (put _ ?_))⟩) (fun c2 => nm_e ?_)⟩)⟩
    · rw [hp_eq, hp_F, ei] at c
      rw [c]
      exact hp_N
    · rw [hp_eq, hp_D, ei] at c2
      rw [c2]
      exact hp_L
    · rw [hp_eq, hp_F, ei] at c
      rw [hp_eq, hp_D, ei] at c2
      have := put (b i) (by
        unfold gr_cv
        rw [if_neg c, if_neg c2, ei])
      rw [hx_upds] at this
      exact this
theorem hx_fill_otherTable {post : SX → Prop} {f_queueStart f_queueLength f_leastTop f_leastBottom : Int32} {a_arcThere a_arcFrom a_arcTo a_arcWeight a_table a_otherTable a_squared a_levels a_setCells a_onRingBelowZero a_queue a_queued a_arcsUsed : Nat → Int32} (ok : hx_ok a_arcThere a_arcFrom a_arcTo a_arcWeight) (hq0 : ∀ v, v < 7 → a_queued v = 0) {e : Nat} (he : e < 5) (h : ∀ (st ln : Int32) (tb sq sc rb q qd us : Nat → Int32), (∀ v, v < 7 → qd v = 0) → (∀ s t, s < 7 → t < 7 → gr_Ans (hx_A a_arcThere a_arcFrom a_arcTo a_arcWeight) s t (tb (7 * s + t)).toInt) → post (st, ln, f_leastTop, f_leastBottom, a_arcThere, a_arcFrom, a_arcTo, a_arcWeight, a_table, tb, sq, a_levels, sc, rb, q, qd, us)) : wpX_fill__otherTable post (f_queueStart, f_queueLength, f_leastTop, f_leastBottom, a_arcThere, a_arcFrom, a_arcTo, a_arcWeight, a_table, a_otherTable, a_squared, a_levels, a_setCells, a_onRingBelowZero, a_queue, a_queued, a_arcsUsed) (nI e) := by
  have e5 : e = 0 ∨ e = 1 ∨ e = 2 ∨ e = 3 ∨ e = 4 := by omega
  unfold wpX_fill__otherTable
  dsimp only
  rcases e5 with rfl | rfl | rfl | rfl | rfl
  · refine br_f (by decide) (br_f (by decide) (br_t (by decide) ?_))
    refine hx_fillByRounds_otherTable ok fun b hb => ?_
    exact hx_conv_otherTable hb fun b' hb' => h _ _ b' _ _ _ _ _ _ hq0 hb'
  · refine br_f (by decide) (br_f (by decide) (br_f (by decide) (br_t (by decide) ?_)))
    refine hx_fillByMiddle_otherTable ok fun b hb => ?_
    exact hx_conv_otherTable hb fun b' hb' => h _ _ b' _ _ _ _ _ _ hq0 hb'
  · refine br_f (by decide) (br_f (by decide) (br_f (by decide) (br_f (by decide) (br_t (by decide) ?_))))
    refine hx_fillBySquaring_otherTable ok fun b sq hb => ?_
    exact hx_conv_otherTable hb fun b' hb' => h _ _ b' _ _ _ _ _ _ hq0 hb'
  · refine br_f (by decide) (br_f (by decide) (br_f (by decide) (br_f (by decide) (br_f (by decide) (br_t (by decide) ?_)))))
    refine hx_fillByQueue_otherTable ok hq0 fun st ln b q qd us hq hb => ?_
    exact hx_conv_otherTable hb fun b' hb' => h _ _ b' _ _ _ _ _ _ hq hb'
  · refine br_f (by decide) (br_t (by decide) ?_)
    refine hx_fillBySets_otherTable ok fun b sc rb hb => ?_
    exact hx_conv_otherTable hb fun b' hb' => h _ _ b' _ _ _ _ _ _ hq0 hb'
