/-! the component: joined, empty tables, engine 0 -/
def hx_j (a b : Int32) : Int32 := if a = 1000000 then 1000000 else if b = 1000000 then 1000000 else if a = (-1000000) then (-1000000) else if b = (-1000000) then (-1000000) else a + b
theorem hx_jw {post : Int32 → Prop} {a b : Int32} (h : post (hx_j a b)) : wpX_joined post a b := by
  unfold hx_j at h
  refine br_c (fun e => ?_) (fun e => br_c (fun e2 => ?_) (fun e2 => br_c (fun e3 => ?_) (fun e3 => br_c (fun e4 => ?_) (fun e4 => ?_))))
  · rwa [if_pos e] at h
  · rwa [if_neg e, if_pos e2] at h
  · rwa [if_neg e, if_neg e2, if_pos e3] at h
  · rwa [if_neg e, if_neg e2, if_neg e3, if_pos e4] at h
  · rwa [if_neg e, if_neg e2, if_neg e3, if_neg e4] at h
theorem hx_jt {a b : Int32} (ha : -1000000 ≤ a.toInt ∧ a.toInt ≤ 1000000) (hb : -1000000 ≤ b.toInt ∧ b.toInt ≤ 1000000) : (hx_j a b).toInt = gr_j a.toInt b.toInt := by
  unfold hx_j
  by_cases e : a = 1000000
  · rw [if_pos e, e, hp_F, gr_j_F]
  · rw [if_neg e]
    rw [hp_eq, hp_F] at e
    by_cases e2 : b = 1000000
    · rw [if_pos e2, e2, hp_F, gr_j_F']
    · rw [if_neg e2]
      rw [hp_eq, hp_F] at e2
      by_cases e3 : a = (-1000000)
      · rw [if_pos e3, e3, hp_D, gr_j_D e2]
      · rw [if_neg e3]
        rw [hp_eq, hp_D] at e3
        by_cases e4 : b = (-1000000)
        · rw [if_pos e4, e4, hp_D, gr_j_D' e]
        · rw [if_neg e4]
          rw [hp_eq, hp_D] at e4
          rw [gr_j_n e e3 e2 e4]
          exact hp_add rfl rfl (by omega) (by omega)
theorem hx_jE {post : Int32 → Prop} {a b : Int32} {x y : Int} (ha : a.toInt = x) (hb : b.toInt = y) (hx : -1000000 ≤ x ∧ x ≤ 1000000) (hy : -1000000 ≤ y ∧ y ≤ 1000000) (h : ∀ r : Int32, r.toInt = gr_j x y → post r) : wpX_joined post a b := by
  subst ha hb
  exact hx_jw (h _ (hx_jt hx hy))
theorem hx_ut {b : Nat → Int32} {k j : Nat} {x : Int32} : (upd b k x j).toInt = if j = k then x.toInt else (b j).toInt := by
  unfold upd
  split <;> rfl
theorem gr_rgr {z : Int} (h : gr_rg z) : -1000000 ≤ z ∧ z ≤ 1000000 := by
  unfold gr_rg at h
  omega
theorem gr_Cr {A : Nat → Nat → Int → Prop} (ok : gr_ok A) {b s v : Nat} {z : Int} (hb : b ≤ 10000) (h : gr_C A b s v z) : gr_rg z := (gr_Crg ok hb h).1
theorem gr_settle {A : Nat → Nat → Int → Prop} (ok : gr_ok A) {b s v : Nat} {r z : Int} (hs : s < 7) (hr : gr_C A b s v r) (hz : z ≤ 1000000) (hl : r < z) (h6 : ∀ n c, n ≤ 6 → gr_W A n s v c → z ≤ c) : gr_L A s v := by
  rcases hr with e | ⟨_, h⟩ | ⟨n, hn, h⟩
  · omega
  · exact h
  · refine Classical.byContradiction fun nl => ?_
    obtain ⟨n', c', h1, h2, h3⟩ := gr_small ok hs h nl
    have := h6 n' c' h1 h2
    omega
theorem hx_startEmpty_table {post : SX → Prop} {f_queueStart f_queueLength f_leastTop f_leastBottom : Int32} {a_arcThere a_arcFrom a_arcTo a_arcWeight a_table a_otherTable a_squared a_levels a_setCells a_onRingBelowZero a_queue a_queued a_arcsUsed : Nat → Int32} (h : ∀ b : Nat → Int32, (∀ s t, s < 7 → t < 7 → (b (7 * s + t)).toInt = if s = t then 0 else 1000000) → post (f_queueStart, f_queueLength, f_leastTop, f_leastBottom, a_arcThere, a_arcFrom, a_arcTo, a_arcWeight, b, a_otherTable, a_squared, a_levels, a_setCells, a_onRingBelowZero, a_queue, a_queued, a_arcsUsed)) : wpX_startEmpty__table post (f_queueStart, f_queueLength, f_leastTop, f_leastBottom, a_arcThere, a_arcFrom, a_arcTo, a_arcWeight, a_table, a_otherTable, a_squared, a_levels, a_setCells, a_onRingBelowZero, a_queue, a_queued, a_arcsUsed) := by
  have second : ∀ b0 : Nat → Int32, (∀ j, j < 49 → (b0 j).toInt = 1000000) → ∃ n, wX_startEmpty__table_21 post f_queueStart f_queueLength f_leastTop f_leastBottom n 0 a_arcThere a_arcFrom a_arcTo a_arcWeight b0 a_otherTable a_squared a_levels a_setCells a_onRingBelowZero a_queue a_queued a_arcsUsed := by
    intro b0 hb0
    refine loop_0 (fun n i (b : Nat → Int32) => wX_startEmpty__table_21 post f_queueStart f_queueLength f_leastTop f_leastBottom n (nI i) a_arcThere a_arcFrom a_arcTo a_arcWeight b a_otherTable a_squared a_levels a_setCells a_onRingBelowZero a_queue a_queued a_arcsUsed) (fun i b => ∀ s t, s < 7 → t < 7 → (b (7 * s + t)).toInt = if s = t ∧ s < i then 0 else 1000000) 7 b0 ?_ ?_ ?_
    · intro s t hs ht
      rw [if_neg (by omega)]
      exact hb0 _ (by omega)
    · intro n b hb
      refine br_t (nI_le (Nat.le_refl 7) (by decide)) (h b fun s t hs ht => ?_)
      rw [hb s t hs ht]
      split <;> split <;> omega
    · intro n i b hi hb hn
      have ck : (nI (7 * i + i)).toNatClampNeg = 7 * i + i := nI_clamp (by omega)
      refine br_f (nI_ge (b := 7) hi (by decide)) ?_
      rw [hp_ix, ck, nI_1]
      refine ⟨vp_in_nI (by omega) (by decide), nm_e (nm_e (hn _ fun s t hs ht => ?_))⟩
      rw [hx_ut, hb s t hs ht, hp_0]
      split <;> split <;> (try split) <;> omega
  refine loop_0 (fun n i (b : Nat → Int32) => wX_startEmpty__table_2 post f_queueStart f_queueLength f_leastTop f_leastBottom n (nI i) a_arcThere a_arcFrom a_arcTo a_arcWeight b a_otherTable a_squared a_levels a_setCells a_onRingBelowZero a_queue a_queued a_arcsUsed) (fun i b => ∀ j, j < i → (b j).toInt = 1000000) 49 a_table (fun j hj => absurd hj (by omega)) ?_ ?_
  · intro n b hb
    exact br_t (nI_le (Nat.le_refl 49) (by decide)) (second b hb)
  · intro n i b hi hb hn
    have ck : (nI i).toNatClampNeg = i := nI_clamp (by omega)
    refine br_f (nI_ge (b := 49) hi (by decide)) ?_
    rw [ck, nI_1]
    refine ⟨vp_in_nI hi (by decide), nm_e (nm_e (hn _ fun j hj => ?_))⟩
    rw [hx_ut, hp_F]
    by_cases e : j = i
    · rw [if_pos e]
    · rw [if_neg e]
      exact hb j (by omega)
theorem hx_startWithArcs_table {post : SX → Prop} {f_queueStart f_queueLength f_leastTop f_leastBottom : Int32} {a_arcThere a_arcFrom a_arcTo a_arcWeight a_table a_otherTable a_squared a_levels a_setCells a_onRingBelowZero a_queue a_queued a_arcsUsed : Nat → Int32} (ok : hx_ok a_arcThere a_arcFrom a_arcTo a_arcWeight) (h : ∀ b : Nat → Int32, (∀ s t, s < 7 → t < 7 → gr_C (hx_A a_arcThere a_arcFrom a_arcTo a_arcWeight) 1 s t (b (7 * s + t)).toInt) → (∀ p, p < 7 → (b (7 * p + p)).toInt ≤ 0) → (∀ u v x, (hx_A a_arcThere a_arcFrom a_arcTo a_arcWeight) u v x → (b (7 * u + v)).toInt ≤ x) → post (f_queueStart, f_queueLength, f_leastTop, f_leastBottom, a_arcThere, a_arcFrom, a_arcTo, a_arcWeight, b, a_otherTable, a_squared, a_levels, a_setCells, a_onRingBelowZero, a_queue, a_queued, a_arcsUsed)) : wpX_startWithArcs__table post (f_queueStart, f_queueLength, f_leastTop, f_leastBottom, a_arcThere, a_arcFrom, a_arcTo, a_arcWeight, a_table, a_otherTable, a_squared, a_levels, a_setCells, a_onRingBelowZero, a_queue, a_queued, a_arcsUsed) := by
  unfold wpX_startWithArcs__table
  refine hx_startEmpty_table fun b0 h0 => ?_
  refine loop_0 (fun n i (b : Nat → Int32) => wX_startWithArcs__table_6 post f_queueStart f_queueLength f_leastTop f_leastBottom n (nI i) a_arcThere a_arcFrom a_arcTo a_arcWeight b a_otherTable a_squared a_levels a_setCells a_onRingBelowZero a_queue a_queued a_arcsUsed) (fun i b => (∀ s t, s < 7 → t < 7 → gr_C (hx_A a_arcThere a_arcFrom a_arcTo a_arcWeight) 1 s t (b (7 * s + t)).toInt) ∧ (∀ p, p < 7 → (b (7 * p + p)).toInt ≤ 0) ∧ ∀ j u v x, j < i → (hx_K a_arcThere a_arcFrom a_arcTo a_arcWeight) j u v x → (b (7 * u + v)).toInt ≤ x) 20 b0 ?_ ?_ ?_
  · refine ⟨fun s t hs ht => ?_, fun p hp => ?_, fun j u v x hj => absurd hj (by omega)⟩
    · rw [h0 s t hs ht]
      by_cases e : s = t
      · subst e
        rw [if_pos rfl]
        exact Or.inr (Or.inr ⟨0, by omega, gr_W0 s⟩)
      · rw [if_neg e]
        exact Or.inl rfl
    · rw [h0 p p hp hp, if_pos rfl]
      omega
  · intro n b hb
    refine br_t (nI_le (Nat.le_refl 20) (by decide)) (h b hb.1 hb.2.1 ?_)
    rintro u v x ⟨j, hj, hk⟩
    exact hb.2.2 j u v x hj hk
  · intro n i b hi hb hn
    obtain ⟨u, v, x, hu, hv, eu, ev, ew, hx1, hx2, hk0, hk1⟩ := hx_arc ok hi
    have ck : (nI i).toNatClampNeg = i := nI_clamp (by omega)
    have cu : (nI (7 * u + v)).toNatClampNeg = 7 * u + v := nI_clamp (by omega)
    have vi : vp_in (nI i) 20 := vp_in_nI hi (by decide)
    have vu : vp_in (nI (7 * u + v)) 49 := vp_in_nI (by omega) (by decide)
    refine br_f (nI_ge (b := 20) hi (by decide)) ?_
    simp only [ck, eu, ev, hp_ix, nI_1]
    refine ⟨vi, vi, nm_e ⟨vi, ?_⟩⟩
    simp only [cu]
    have keep : (∀ u' v' x', (hx_K a_arcThere a_arcFrom a_arcTo a_arcWeight) i u' v' x' → (b (7 * u' + v')).toInt ≤ x') → wX_startWithArcs__table_6 post f_queueStart f_queueLength f_leastTop f_leastBottom n (nI (i + 1)) a_arcThere a_arcFrom a_arcTo a_arcWeight b a_otherTable a_squared a_levels a_setCells a_onRingBelowZero a_queue a_queued a_arcsUsed := by
      intro hh
      refine hn b ⟨hb.1, hb.2.1, fun j u' v' x' hj hk => ?_⟩
      by_cases e : j = i
      · subst e
        exact hh u' v' x' hk
      · exact hb.2.2 j u' v' x' (by omega) hk
    refine br_c (fun t0 => nm_e (keep fun u' v' x' hk => absurd hk (hk0 t0 _ _ _))) (fun t0 => ⟨vi, vu, ?_⟩)
    obtain ⟨kk, ha⟩ := hk1 t0
    refine br_c (fun c => nm_e (keep fun u' v' x' hk => ?_)) (fun c => ⟨vi, vu, nm_e (nm_e (hn _ ⟨fun s t hs ht => ?_, fun p hp => ?_, fun j u' v' x' hj hk => ?_⟩))⟩)
    · obtain ⟨rfl, rfl, rfl⟩ := (kk _ _ _).mp hk
      rw [hp_le, ew] at c
      exact c
    · rw [hx_ut]
      by_cases e : 7 * s + t = 7 * u + v
      · have e1 : s = u := by omega
        have e2 : t = v := by omega
        subst e1 e2
        rw [if_pos e, ew]
        exact Or.inr (Or.inr ⟨1, by omega, gr_W1 ha⟩)
      · rw [if_neg e]
        exact hb.1 s t hs ht
    · rw [hx_ut]
      rw [hp_le, ew] at c
      by_cases e : 7 * p + p = 7 * u + v
      · rw [if_pos e, ew]
        have := hb.2.1 p hp
        rw [e] at this
        omega
      · rw [if_neg e]
        exact hb.2.1 p hp
    · rw [hx_ut]
      rw [hp_le, ew] at c
      by_cases e : j = i
      · subst e
        obtain ⟨rfl, rfl, rfl⟩ := (kk _ _ _).mp hk
        rw [if_pos rfl, ew]
        omega
      · have := hb.2.2 j u' v' x' (by omega) hk
        by_cases e2 : 7 * u' + v' = 7 * u + v
        · rw [if_pos e2, ew]
          rw [e2] at this
          omega
        · rw [if_neg e2]
          exact this
theorem hx_useEveryArc_table {post : SX → Prop} {f_queueStart f_queueLength f_leastTop f_leastBottom : Int32} {a_arcThere a_arcFrom a_arcTo a_arcWeight a_table a_otherTable a_squared a_levels a_setCells a_onRingBelowZero a_queue a_queued a_arcsUsed : Nat → Int32} (ok : hx_ok a_arcThere a_arcFrom a_arcTo a_arcWeight) {s b : Nat} (hs : s < 7) (hb : b + 20 ≤ 10000) (x3 : Int32) (hC : ∀ v, v < 7 → gr_C (hx_A a_arcThere a_arcFrom a_arcTo a_arcWeight) b s v (a_table (7 * s + v)).toInt) (h6 : ¬ x3 = 0 → ∀ n v c, n ≤ 6 → gr_W (hx_A a_arcThere a_arcFrom a_arcTo a_arcWeight) n s v c → (a_table (7 * s + v)).toInt ≤ c) (h : ∀ b' : Nat → Int32, (∀ j, (∀ v, v < 7 → j ≠ 7 * s + v) → b' j = a_table j) → (∀ v, v < 7 → gr_C (hx_A a_arcThere a_arcFrom a_arcTo a_arcWeight) (b + 20) s v (b' (7 * s + v)).toInt) → (∀ v, v < 7 → (b' (7 * s + v)).toInt ≤ (a_table (7 * s + v)).toInt) → (∀ u v x, (hx_A a_arcThere a_arcFrom a_arcTo a_arcWeight) u v x → (b' (7 * s + v)).toInt ≤ gr_j (a_table (7 * s + u)).toInt x) → (¬ x3 = 0 → ∀ v, v < 7 → (b' (7 * s + v)).toInt = (a_table (7 * s + v)).toInt ∨ (b' (7 * s + v)).toInt = -1000000) → post (f_queueStart, f_queueLength, f_leastTop, f_leastBottom, a_arcThere, a_arcFrom, a_arcTo, a_arcWeight, b', a_otherTable, a_squared, a_levels, a_setCells, a_onRingBelowZero, a_queue, a_queued, a_arcsUsed)) : wpX_useEveryArc__table post (f_queueStart, f_queueLength, f_leastTop, f_leastBottom, a_arcThere, a_arcFrom, a_arcTo, a_arcWeight, a_table, a_otherTable, a_squared, a_levels, a_setCells, a_onRingBelowZero, a_queue, a_queued, a_arcsUsed) (nI (7 * s)) x3 := by
  have gok := hx_grok ok
  refine loop_0 (fun n i (b' : Nat → Int32) => wX_useEveryArc__table_3 post (nI (7 * s)) x3 f_queueStart f_queueLength f_leastTop f_leastBottom n (nI i) a_arcThere a_arcFrom a_arcTo a_arcWeight b' a_otherTable a_squared a_levels a_setCells a_onRingBelowZero a_queue a_queued a_arcsUsed) (fun i b' => (∀ j, (∀ v, v < 7 → j ≠ 7 * s + v) → b' j = a_table j) ∧ (∀ v, v < 7 → gr_C (hx_A a_arcThere a_arcFrom a_arcTo a_arcWeight) (b + i) s v (b' (7 * s + v)).toInt) ∧ (∀ v, v < 7 → (b' (7 * s + v)).toInt ≤ (a_table (7 * s + v)).toInt) ∧ (∀ j u v x, j < i → (hx_K a_arcThere a_arcFrom a_arcTo a_arcWeight) j u v x → (b' (7 * s + v)).toInt ≤ gr_j (a_table (7 * s + u)).toInt x) ∧ (¬ x3 = 0 → ∀ v, v < 7 → (b' (7 * s + v)).toInt = (a_table (7 * s + v)).toInt ∨ (b' (7 * s + v)).toInt = -1000000)) 20 a_table ?_ ?_ ?_
  · exact ⟨fun j _ => rfl, hC, fun v _ => Int.le_refl _, fun j u v x hj => absurd hj (by omega), fun _ v _ => Or.inl rfl⟩
  · intro n b' ⟨p1, p2, p3, p4, p5⟩
    refine br_t (nI_le (Nat.le_refl 20) (by decide)) (h b' p1 p2 p3 ?_ p5)
    rintro u v x ⟨j, hj, hk⟩
    exact p4 j u v x hj hk
  · intro n i b' hi ⟨p1, p2, p3, p4, p5⟩ hn
    obtain ⟨u, v, x, hu, hv, eu, ev, ew, hx1, hx2, hk0, hk1⟩ := hx_arc ok hi
    have ck : (nI i).toNatClampNeg = i := nI_clamp (by omega)
    have cu : (nI (7 * s + u)).toNatClampNeg = 7 * s + u := nI_clamp (by omega)
    have cv : (nI (7 * s + v)).toNatClampNeg = 7 * s + v := nI_clamp (by omega)
    have vi : vp_in (nI i) 20 := vp_in_nI hi (by decide)
    have vu : vp_in (nI (7 * s + u)) 49 := vp_in_nI (by omega) (by decide)
    have vv : vp_in (nI (7 * s + v)) 49 := vp_in_nI (by omega) (by decide)
    have ru := gr_Cr gok (by omega) (p2 u hu)
    have rv := gr_Cr gok (by omega) (p2 v hv)
    have ru0 := gr_Cr gok (by omega) (hC u hu)
    refine br_f (nI_ge (b := 20) hi (by decide)) ?_
    simp only [ck, eu, ev, nI_add, nI_1, cu, cv]
    refine ⟨vi, br_c (fun t0 => nm_e (hn b' ⟨p1, fun v hv => gr_Cm (by omega) (p2 v hv), p3, fun j u' v' x' hj hk => ?_, p5⟩)) (fun t0 => ⟨vi, vu, vi, ?_⟩)⟩
    · by_cases e : j = i
      · subst e
        exact absurd hk (hk0 t0 _ _ _)
      · exact p4 j u' v' x' (by omega) hk
    obtain ⟨kk, ha⟩ := hk1 t0
    refine hx_jE rfl ew (gr_rgr ru) (by omega) fun r hr => ?_
    have jm := gr_jm ru ru0 (p3 u hu) ⟨hx1, hx2⟩
    have jC := gr_jC gok (by omega) (p2 u hu) ha
    have jlow : -1000000 ≤ gr_j (a_table (7 * s + u)).toInt x := by
      have := @gr_jc (a_table (7 * s + u)).toInt x
      unfold gr_rg at ru0
      omega
    refine ⟨vi, vv, br_c (fun c => nm_e (hn b' ⟨p1, fun v hv => gr_Cm (by omega) (p2 v hv), p3, fun j u' v' x' hj hk => ?_, p5⟩)) (fun c => ⟨vi, ?_⟩)⟩
    · rw [hp_le, hr] at c
      by_cases e : j = i
      · subst e
        obtain ⟨rfl, rfl, rfl⟩ := (kk _ _ _).mp hk
        omega
      · exact p4 j u' v' x' (by omega) hk
    rw [hp_le, hr] at c
    have step : ∀ q : Int32, q.toInt ≤ gr_j (b' (7 * s + u)).toInt x → -1000000 ≤ q.toInt → gr_C (hx_A a_arcThere a_arcFrom a_arcTo a_arcWeight) (b + i + 1) s v q.toInt → (¬ x3 = 0 → q.toInt = -1000000) → wX_useEveryArc__table_3 post (nI (7 * s)) x3 f_queueStart f_queueLength f_leastTop f_leastBottom n (nI (i + 1)) a_arcThere a_arcFrom a_arcTo a_arcWeight (upd b' (7 * s + v) q) a_otherTable a_squared a_levels a_setCells a_onRingBelowZero a_queue a_queued a_arcsUsed := by
      intro q q1 q2 q3 q4
      refine hn _ ⟨fun j hj => ?_, fun y hy => ?_, fun y hy => ?_, fun j u' v' x' hj hk => ?_, fun n3 y hy => ?_⟩
      · show upd b' (7 * s + v) q j = _
        rw [pk_un (hj v hv)]
        exact p1 j hj
      · rw [hx_ut]
        by_cases e : 7 * s + y = 7 * s + v
        · have e1 : y = v := by omega
          subst e1
          rw [if_pos rfl]
          exact q3
        · rw [if_neg e]
          exact gr_Cm (by omega) (p2 y hy)
      · rw [hx_ut]
        have := p3 y hy
        by_cases e : 7 * s + y = 7 * s + v
        · have e1 : y = v := by omega
          subst e1
          rw [if_pos rfl]
          omega
        · rw [if_neg e]
          exact this
      · rw [hx_ut]
        by_cases e : j = i
        · subst e
          obtain ⟨rfl, rfl, rfl⟩ := (kk _ _ _).mp hk
          rw [if_pos rfl]
          omega
        · have := p4 j u' v' x' (by omega) hk
          by_cases e2 : 7 * s + v' = 7 * s + v
          · rw [if_pos e2]
            rw [e2] at this
            omega
          · rw [if_neg e2]
            exact this
      · rw [hx_ut]
        by_cases e : 7 * s + y = 7 * s + v
        · rw [if_pos e]
          exact Or.inr (q4 n3)
        · rw [if_neg e]
          exact p5 n3 y hy
    refine br_c (fun z => ⟨vv, nm_e (nm_e (step r (by omega) ?_ ?_ (fun n3 => absurd z n3)))⟩) (fun z => ⟨vv, nm_e (nm_e (step (-1000000) ?_ ?_ ?_ (fun _ => hp_D)))⟩)
    · rw [hr]
      have := @gr_jc (b' (7 * s + u)).toInt x
      unfold gr_rg at ru
      omega
    · rw [hr]
      exact jC
    · rw [hp_D]
      have := @gr_jc (b' (7 * s + u)).toInt x
      unfold gr_rg at ru
      omega
    · rw [hp_D]
      omega
    · rw [hp_D]
      refine gr_CL (gr_settle gok hs jC (gr_rgr rv).2 (by omega) fun m c' hm g => ?_)
      exact Int.le_trans (p3 v hv) (h6 z m v c' hm g)
theorem hx_fillByRounds_table {post : SX → Prop} {f_queueStart f_queueLength f_leastTop f_leastBottom : Int32} {a_arcThere a_arcFrom a_arcTo a_arcWeight a_table a_otherTable a_squared a_levels a_setCells a_onRingBelowZero a_queue a_queued a_arcsUsed : Nat → Int32} (ok : hx_ok a_arcThere a_arcFrom a_arcTo a_arcWeight) (h : ∀ b : Nat → Int32, (∀ s t, s < 7 → t < 7 → gr_Ans (hx_A a_arcThere a_arcFrom a_arcTo a_arcWeight) s t (gr_cv (b (7 * s + t)).toInt)) → post (f_queueStart, f_queueLength, f_leastTop, f_leastBottom, a_arcThere, a_arcFrom, a_arcTo, a_arcWeight, b, a_otherTable, a_squared, a_levels, a_setCells, a_onRingBelowZero, a_queue, a_queued, a_arcsUsed)) : wpX_fillByRounds__table post (f_queueStart, f_queueLength, f_leastTop, f_leastBottom, a_arcThere, a_arcFrom, a_arcTo, a_arcWeight, a_table, a_otherTable, a_squared, a_levels, a_setCells, a_onRingBelowZero, a_queue, a_queued, a_arcsUsed) := by
  have gok := hx_grok ok
  unfold wpX_fillByRounds__table
  refine hx_startEmpty_table fun b0 h0 => ?_
  refine loop_0 (fun n i (b : Nat → Int32) => wX_fillByRounds__table_6 post n (nI i) f_queueStart f_queueLength f_leastTop f_leastBottom a_arcThere a_arcFrom a_arcTo a_arcWeight b a_otherTable a_squared a_levels a_setCells a_onRingBelowZero a_queue a_queued a_arcsUsed) (fun i b => (∀ s t, s < i → t < 7 → gr_Ans (hx_A a_arcThere a_arcFrom a_arcTo a_arcWeight) s t (gr_cv (b (7 * s + t)).toInt)) ∧ ∀ s t, i ≤ s → s < 7 → t < 7 → (b (7 * s + t)).toInt = if s = t then 0 else 1000000) 7 b0 ?_ ?_ ?_
  · exact ⟨fun s t hs => absurd hs (by omega), fun s t _ hs ht => h0 s t hs ht⟩
  · intro n b hb
    exact br_t (nI_le (Nat.le_refl 7) (by decide)) (h b fun s t hs ht => hb.1 s t hs ht)
  · intro n s b hs hb hn
    refine br_f (nI_ge (b := 7) hs (by decide)) ?_
    refine pk_loop (fun n' i (b' : Nat → Int32) => wX_fillByRounds__table_14 post (wX_fillByRounds__table_6 post n) (nI s) n' (nI i) f_queueStart f_queueLength f_leastTop f_leastBottom a_arcThere a_arcFrom a_arcTo a_arcWeight b' a_otherTable a_squared a_levels a_setCells a_onRingBelowZero a_queue a_queued a_arcsUsed) (fun i b' => 1 ≤ i ∧ (∀ j, (∀ v, v < 7 → j ≠ 7 * s + v) → b' j = b j) ∧ (∀ v, v < 7 → gr_C (hx_A a_arcThere a_arcFrom a_arcTo a_arcWeight) (20 * (i - 1)) s v (b' (7 * s + v)).toInt) ∧ (∀ m v c, m ≤ i - 1 → m ≤ 6 → gr_W (hx_A a_arcThere a_arcFrom a_arcTo a_arcWeight) m s v c → (b' (7 * s + v)).toInt ≤ c) ∧ (8 ≤ i → ∀ t, t < 7 → gr_L (hx_A a_arcThere a_arcFrom a_arcTo a_arcWeight) s t → ∃ v m c, (b' (7 * s + v)).toInt = -1000000 ∧ m ≤ 14 - i ∧ gr_W (hx_A a_arcThere a_arcFrom a_arcTo a_arcWeight) m v t c)) 14 1 b (by decide) ?_ ?_ ?_
    · refine ⟨Nat.le_refl 1, fun j _ => rfl, fun v hv => ?_, fun m v c hm _ g => ?_, fun h8 => absurd h8 (by decide)⟩
      · rw [hb.2 s v (Nat.le_refl s) hs hv]
        by_cases e : s = v
        · subst e
          rw [if_pos rfl]
          exact Or.inr (Or.inr ⟨0, by omega, gr_W0 s⟩)
        · rw [if_neg e]
          exact Or.inl rfl
      · have m0 : m = 0 := by omega
        subst m0
        obtain ⟨rfl, rfl⟩ := g
        rw [hb.2 s s (Nat.le_refl s) hs hs, if_pos rfl]
        omega
    · intro n' b' ⟨_, q1, q2, q3, q4⟩
      refine br_t (nI_le (Nat.le_refl 14) (by decide)) ?_
      rw [nI_1]
      refine nm_e (hn b' ⟨fun s' t hs' ht => ?_, fun s' t h1 h2 h3 => ?_⟩)
      · by_cases e : s' = s
        · subst e
          refine gr_fin gok hs (by decide : 20 * (14 - 1) ≤ 10000) (q2 t ht) (fun hl => ?_) (fun m c hm g => q3 m t c (by omega) hm g)
          obtain ⟨v, m, c, g1, g2, g3⟩ := q4 (by decide) t ht hl
          have m0 : m = 0 := by omega
          subst m0
          obtain ⟨rfl, _⟩ := g3
          exact g1
        · rw [q1 _ (fun v hv => by omega)]
          exact hb.1 s' t (by omega) ht
      · rw [q1 _ (fun v hv => by omega)]
        exact hb.2 s' t (by omega) h2 h3
    · intro n' i b' hi ⟨i1, q1, q2, q3, q4⟩ hn'
      refine br_f (nI_ge (b := 14) hi (by decide)) ?_
      have go : ∀ x3 : Int32, (¬ x3 = 0 ↔ 7 ≤ i) → wX_fillByRounds__table_37 post (wX_fillByRounds__table_6 post n) (wX_fillByRounds__table_14 post (wX_fillByRounds__table_6 post n) (nI s) n') (nI s) (nI i) x3 (nI (7 * s)) f_queueStart f_queueLength f_leastTop f_leastBottom a_arcThere a_arcFrom a_arcTo a_arcWeight b' a_otherTable a_squared a_levels a_setCells a_onRingBelowZero a_queue a_queued a_arcsUsed := by
        intro x3 h3
        unfold wX_fillByRounds__table_37
        refine hx_useEveryArc_table ok (b := 20 * (i - 1)) hs (by omega) x3 q2 (fun z m v c hm g => q3 m v c (by have := h3.mp z; omega) hm g) fun b2 r1 r2 r3 r4 r5 => ?_
        dsimp only
        rw [nI_1]
        refine nm_e (hn' b2 ⟨by omega, fun j hj => (r1 j hj).trans (q1 j hj), fun v hv => ?_, fun m v c hm h6 g => ?_, fun h8 t ht hl => ?_⟩)
        · have e : 20 * (i + 1 - 1) = 20 * (i - 1) + 20 := by omega
          rw [e]
          exact r2 v hv
        · by_cases c6 : i ≤ 6
          · exact gr_rowD gok (r := i - 1) (by omega) (z := fun v => (b' (7 * s + v)).toInt) (z' := fun v => (b2 (7 * s + v)).toInt) r3 r4 hs (fun m v c hm g => q3 m v c hm (by omega) g) m v c (by omega) g
          · exact Int.le_trans (r3 v (gr_Wv (gr_oki gok) hs g)) (q3 m v c (by omega) h6 g)
        · by_cases c7 : i = 7
          · have := gr_rowL gok (s := s) (t := t) (z := fun v => (b' (7 * s + v)).toInt) (z' := fun v => (b2 (7 * s + v)).toInt) hs r3 r4 (r5 (h3.mpr (by omega))) (fun m v c hm g => q3 m v c (by omega) hm g) hl
            obtain ⟨v, m, c, g1, g2, g3⟩ := this
            exact ⟨v, m, c, g1, by omega, g3⟩
          · have := gr_rowS gok (t := t) (k := 13 - i) (z := fun v => (b' (7 * s + v)).toInt) (z' := fun v => (b2 (7 * s + v)).toInt) ht (fun v hv => gr_Cr gok (by omega) (r2 v hv)) r3 r4 (by
              obtain ⟨v, m, c, g1, g2, g3⟩ := q4 (by omega) t ht hl
              exact ⟨v, m, c, g1, by omega, g3⟩)
            obtain ⟨v, m, c, g1, g2, g3⟩ := this
            exact ⟨v, m, c, g1, by omega, g3⟩
      rw [hp_m7]
      refine br_c (fun c => go 0 ⟨fun z => absurd rfl z, fun z => ?_⟩) (fun c => go 1 ⟨fun _ => ?_, fun _ => by decide⟩)
      · rw [show (7 : Int32) = nI 7 from rfl, nI_ltI (by omega) (by decide)] at c
        omega
      · rw [show (7 : Int32) = nI 7 from rfl, nI_ltI (by omega) (by decide)] at c
        omega
theorem hx_startEmpty_otherTable {post : SX → Prop} {f_queueStart f_queueLength f_leastTop f_leastBottom : Int32} {a_arcThere a_arcFrom a_arcTo a_arcWeight a_table a_otherTable a_squared a_levels a_setCells a_onRingBelowZero a_queue a_queued a_arcsUsed : Nat → Int32} (h : ∀ b : Nat → Int32, (∀ s t, s < 7 → t < 7 → (b (7 * s + t)).toInt = if s = t then 0 else 1000000) → post (f_queueStart, f_queueLength, f_leastTop, f_leastBottom, a_arcThere, a_arcFrom, a_arcTo, a_arcWeight, a_table, b, a_squared, a_levels, a_setCells, a_onRingBelowZero, a_queue, a_queued, a_arcsUsed)) : wpX_startEmpty__otherTable post (f_queueStart, f_queueLength, f_leastTop, f_leastBottom, a_arcThere, a_arcFrom, a_arcTo, a_arcWeight, a_table, a_otherTable, a_squared, a_levels, a_setCells, a_onRingBelowZero, a_queue, a_queued, a_arcsUsed) := by
  have second : ∀ b0 : Nat → Int32, (∀ j, j < 49 → (b0 j).toInt = 1000000) → ∃ n, wX_startEmpty__otherTable_21 post f_queueStart f_queueLength f_leastTop f_leastBottom n 0 a_arcThere a_arcFrom a_arcTo a_arcWeight a_table b0 a_squared a_levels a_setCells a_onRingBelowZero a_queue a_queued a_arcsUsed := by
    intro b0 hb0
    refine loop_0 (fun n i (b : Nat → Int32) => wX_startEmpty__otherTable_21 post f_queueStart f_queueLength f_leastTop f_leastBottom n (nI i) a_arcThere a_arcFrom a_arcTo a_arcWeight a_table b a_squared a_levels a_setCells a_onRingBelowZero a_queue a_queued a_arcsUsed) (fun i b => ∀ s t, s < 7 → t < 7 → (b (7 * s + t)).toInt = if s = t ∧ s < i then 0 else 1000000) 7 b0 ?_ ?_ ?_
    · intro s t hs ht
      rw [if_neg (by omega)]
      exact hb0 _ (by omega)
    · intro n b hb
      refine br_t (nI_le (Nat.le_refl 7) (by decide)) (h b fun s t hs ht => ?_)
      rw [hb s t hs ht]
      split <;> split <;> omega
    · intro n i b hi hb hn
      have ck : (nI (7 * i + i)).toNatClampNeg = 7 * i + i := nI_clamp (by omega)
      refine br_f (nI_ge (b := 7) hi (by decide)) ?_
      rw [hp_ix, ck, nI_1]
      refine ⟨vp_in_nI (by omega) (by decide), nm_e (nm_e (hn _ fun s t hs ht => ?_))⟩
      rw [hx_ut, hb s t hs ht, hp_0]
      split <;> split <;> (try split) <;> omega
  refine loop_0 (fun n i (b : Nat → Int32) => wX_startEmpty__otherTable_2 post f_queueStart f_queueLength f_leastTop f_leastBottom n (nI i) a_arcThere a_arcFrom a_arcTo a_arcWeight a_table b a_squared a_levels a_setCells a_onRingBelowZero a_queue a_queued a_arcsUsed) (fun i b => ∀ j, j < i → (b j).toInt = 1000000) 49 a_otherTable (fun j hj => absurd hj (by omega)) ?_ ?_
  · intro n b hb
    exact br_t (nI_le (Nat.le_refl 49) (by decide)) (second b hb)
  · intro n i b hi hb hn
    have ck : (nI i).toNatClampNeg = i := nI_clamp (by omega)
    refine br_f (nI_ge (b := 49) hi (by decide)) ?_
    rw [ck, nI_1]
    refine ⟨vp_in_nI hi (by decide), nm_e (nm_e (hn _ fun j hj => ?_))⟩
    rw [hx_ut, hp_F]
    by_cases e : j = i
    · rw [if_pos e]
    · rw [if_neg e]
      exact hb j (by omega)
theorem hx_startWithArcs_otherTable {post : SX → Prop} {f_queueStart f_queueLength f_leastTop f_leastBottom : Int32} {a_arcThere a_arcFrom a_arcTo a_arcWeight a_table a_otherTable a_squared a_levels a_setCells a_onRingBelowZero a_queue a_queued a_arcsUsed : Nat → Int32} (ok : hx_ok a_arcThere a_arcFrom a_arcTo a_arcWeight) (h : ∀ b : Nat → Int32, (∀ s t, s < 7 → t < 7 → gr_C (hx_A a_arcThere a_arcFrom a_arcTo a_arcWeight) 1 s t (b (7 * s + t)).toInt) → (∀ p, p < 7 → (b (7 * p + p)).toInt ≤ 0) → (∀ u v x, (hx_A a_arcThere a_arcFrom a_arcTo a_arcWeight) u v x → (b (7 * u + v)).toInt ≤ x) → post (f_queueStart, f_queueLength, f_leastTop, f_leastBottom, a_arcThere, a_arcFrom, a_arcTo, a_arcWeight, a_table, b, a_squared, a_levels, a_setCells, a_onRingBelowZero, a_queue, a_queued, a_arcsUsed)) : wpX_startWithArcs__otherTable post (f_queueStart, f_queueLength, f_leastTop, f_leastBottom, a_arcThere, a_arcFrom, a_arcTo, a_arcWeight, a_table, a_otherTable, a_squared, a_levels, a_setCells, a_onRingBelowZero, a_queue, a_queued, a_arcsUsed) := by
  unfold wpX_startWithArcs__otherTable
  refine hx_startEmpty_otherTable fun b0 h0 => ?_
  refine loop_0 (fun n i (b : Nat → Int32) => wX_startWithArcs__otherTable_6 post f_queueStart f_queueLength f_leastTop f_leastBottom n (nI i) a_arcThere a_arcFrom a_arcTo a_arcWeight a_table b a_squared a_levels a_setCells a_onRingBelowZero a_queue a_queued a_arcsUsed) (fun i b => (∀ s t, s < 7 → t < 7 → gr_C (hx_A a_arcThere a_arcFrom a_arcTo a_arcWeight) 1 s t (b (7 * s + t)).toInt) ∧ (∀ p, p < 7 → (b (7 * p + p)).toInt ≤ 0) ∧ ∀ j u v x, j < i → (hx_K a_arcThere a_arcFrom a_arcTo a_arcWeight) j u v x → (b (7 * u + v)).toInt ≤ x) 20 b0 ?_ ?_ ?_
  · refine ⟨fun s t hs ht => ?_, fun p hp => ?_, fun j u v x hj => absurd hj (by omega)⟩
    · rw [h0 s t hs ht]
      by_cases e : s = t
      · subst e
        rw [if_pos rfl]
        exact Or.inr (Or.inr ⟨0, by omega, gr_W0 s⟩)
      · rw [if_neg e]
        exact Or.inl rfl
    · rw [h0 p p hp hp, if_pos rfl]
      omega
  · intro n b hb
    refine br_t (nI_le (Nat.le_refl 20) (by decide)) (h b hb.1 hb.2.1 ?_)
    rintro u v x ⟨j, hj, hk⟩
    exact hb.2.2 j u v x hj hk
  · intro n i b hi hb hn
    obtain ⟨u, v, x, hu, hv, eu, ev, ew, hx1, hx2, hk0, hk1⟩ := hx_arc ok hi
    have ck : (nI i).toNatClampNeg = i := nI_clamp (by omega)
    have cu : (nI (7 * u + v)).toNatClampNeg = 7 * u + v := nI_clamp (by omega)
    have vi : vp_in (nI i) 20 := vp_in_nI hi (by decide)
    have vu : vp_in (nI (7 * u + v)) 49 := vp_in_nI (by omega) (by decide)
    refine br_f (nI_ge (b := 20) hi (by decide)) ?_
    simp only [ck, eu, ev, hp_ix, nI_1]
    refine ⟨vi, vi, nm_e ⟨vi, ?_⟩⟩
    simp only [cu]
    have keep : (∀ u' v' x', (hx_K a_arcThere a_arcFrom a_arcTo a_arcWeight) i u' v' x' → (b (7 * u' + v')).toInt ≤ x') → wX_startWithArcs__otherTable_6 post f_queueStart f_queueLength f_leastTop f_leastBottom n (nI (i + 1)) a_arcThere a_arcFrom a_arcTo a_arcWeight a_table b a_squared a_levels a_setCells a_onRingBelowZero a_queue a_queued a_arcsUsed := by
      intro hh
      refine hn b ⟨hb.1, hb.2.1, fun j u' v' x' hj hk => ?_⟩
      by_cases e : j = i
      · subst e
        exact hh u' v' x' hk
      · exact hb.2.2 j u' v' x' (by omega) hk
    refine br_c (fun t0 => nm_e (keep fun u' v' x' hk => absurd hk (hk0 t0 _ _ _))) (fun t0 => ⟨vi, vu, ?_⟩)
    obtain ⟨kk, ha⟩ := hk1 t0
    refine br_c (fun c => nm_e (keep fun u' v' x' hk => ?_)) (fun c => ⟨vi, vu, nm_e (nm_e (hn _ ⟨fun s t hs ht => ?_, fun p hp => ?_, fun j u' v' x' hj hk => ?_⟩))⟩)
    · obtain ⟨rfl, rfl, rfl⟩ := (kk _ _ _).mp hk
      rw [hp_le, ew] at c
      exact c
    · rw [hx_ut]
      by_cases e : 7 * s + t = 7 * u + v
      · have e1 : s = u := by omega
        have e2 : t = v := by omega
        subst e1 e2
        rw [if_pos e, ew]
        exact Or.inr (Or.inr ⟨1, by omega, gr_W1 ha⟩)
      · rw [if_neg e]
        exact hb.1 s t hs ht
    · rw [hx_ut]
      rw [hp_le, ew] at c
      by_cases e : 7 * p + p = 7 * u + v
      · rw [if_pos e, ew]
        have := hb.2.1 p hp
        rw [e] at this
        omega
      · rw [if_neg e]
        exact hb.2.1 p hp
    · rw [hx_ut]
      rw [hp_le, ew] at c
      by_cases e : j = i
      · subst e
        obtain ⟨rfl, rfl, rfl⟩ := (kk _ _ _).mp hk
        rw [if_pos rfl, ew]
        omega
      · have := hb.2.2 j u' v' x' (by omega) hk
        by_cases e2 : 7 * u' + v' = 7 * u + v
        · rw [if_pos e2, ew]
          rw [e2] at this
          omega
        · rw [if_neg e2]
          exact this
theorem hx_useEveryArc_otherTable {post : SX → Prop} {f_queueStart f_queueLength f_leastTop f_leastBottom : Int32} {a_arcThere a_arcFrom a_arcTo a_arcWeight a_table a_otherTable a_squared a_levels a_setCells a_onRingBelowZero a_queue a_queued a_arcsUsed : Nat → Int32} (ok : hx_ok a_arcThere a_arcFrom a_arcTo a_arcWeight) {s b : Nat} (hs : s < 7) (hb : b + 20 ≤ 10000) (x3 : Int32) (hC : ∀ v, v < 7 → gr_C (hx_A a_arcThere a_arcFrom a_arcTo a_arcWeight) b s v (a_otherTable (7 * s + v)).toInt) (h6 : ¬ x3 = 0 → ∀ n v c, n ≤ 6 → gr_W (hx_A a_arcThere a_arcFrom a_arcTo a_arcWeight) n s v c → (a_otherTable (7 * s + v)).toInt ≤ c) (h : ∀ b' : Nat → Int32, (∀ j, (∀ v, v < 7 → j ≠ 7 * s + v) → b' j = a_otherTable j) → (∀ v, v < 7 → gr_C (hx_A a_arcThere a_arcFrom a_arcTo a_arcWeight) (b + 20) s v (b' (7 * s + v)).toInt) → (∀ v, v < 7 → (b' (7 * s + v)).toInt ≤ (a_otherTable (7 * s + v)).toInt) → (∀ u v x, (hx_A a_arcThere a_arcFrom a_arcTo a_arcWeight) u v x → (b' (7 * s + v)).toInt ≤ gr_j (a_otherTable (7 * s + u)).toInt x) → (¬ x3 = 0 → ∀ v, v < 7 → (b' (7 * s + v)).toInt = (a_otherTable (7 * s + v)).toInt ∨ (b' (7 * s + v)).toInt = -1000000) → post (f_queueStart, f_queueLength, f_leastTop, f_leastBottom, a_arcThere, a_arcFrom, a_arcTo, a_arcWeight, a_table, b', a_squared, a_levels, a_setCells, a_onRingBelowZero, a_queue, a_queued, a_arcsUsed)) : wpX_useEveryArc__otherTable post (f_queueStart, f_queueLength, f_leastTop, f_leastBottom, a_arcThere, a_arcFrom, a_arcTo, a_arcWeight, a_table, a_otherTable, a_squared, a_levels, a_setCells, a_onRingBelowZero, a_queue, a_queued, a_arcsUsed) (nI (7 * s)) x3 := by
  have gok := hx_grok ok
  refine loop_0 (fun n i (b' : Nat → Int32) => wX_useEveryArc__otherTable_3 post (nI (7 * s)) x3 f_queueStart f_queueLength f_leastTop f_leastBottom n (nI i) a_arcThere a_arcFrom a_arcTo a_arcWeight a_table b' a_squared a_levels a_setCells a_onRingBelowZero a_queue a_queued a_arcsUsed) (fun i b' => (∀ j, (∀ v, v < 7 → j ≠ 7 * s + v) → b' j = a_otherTable j) ∧ (∀ v, v < 7 → gr_C (hx_A a_arcThere a_arcFrom a_arcTo a_arcWeight) (b + i) s v (b' (7 * s + v)).toInt) ∧ (∀ v, v < 7 → (b' (7 * s + v)).toInt ≤ (a_otherTable (7 * s + v)).toInt) ∧ (∀ j u v x, j < i → (hx_K a_arcThere a_arcFrom a_arcTo a_arcWeight) j u v x → (b' (7 * s + v)).toInt ≤ gr_j (a_otherTable (7 * s + u)).toInt x) ∧ (¬ x3 = 0 → ∀ v, v < 7 → (b' (7 * s + v)).toInt = (a_otherTable (7 * s + v)).toInt ∨ (b' (7 * s + v)).toInt = -1000000)) 20 a_otherTable ?_ ?_ ?_
  · exact ⟨fun j _ => rfl, hC, fun v _ => Int.le_refl _, fun j u v x hj => absurd hj (by omega), fun _ v _ => Or.inl rfl⟩
  · intro n b' ⟨p1, p2, p3, p4, p5⟩
    refine br_t (nI_le (Nat.le_refl 20) (by decide)) (h b' p1 p2 p3 ?_ p5)
    rintro u v x ⟨j, hj, hk⟩
    exact p4 j u v x hj hk
  · intro n i b' hi ⟨p1, p2, p3, p4, p5⟩ hn
    obtain ⟨u, v, x, hu, hv, eu, ev, ew, hx1, hx2, hk0, hk1⟩ := hx_arc ok hi
    have ck : (nI i).toNatClampNeg = i := nI_clamp (by omega)
    have cu : (nI (7 * s + u)).toNatClampNeg = 7 * s + u := nI_clamp (by omega)
    have cv : (nI (7 * s + v)).toNatClampNeg = 7 * s + v := nI_clamp (by omega)
    have vi : vp_in (nI i) 20 := vp_in_nI hi (by decide)
    have vu : vp_in (nI (7 * s + u)) 49 := vp_in_nI (by omega) (by decide)
    have vv : vp_in (nI (7 * s + v)) 49 := vp_in_nI (by omega) (by decide)
    have ru := gr_Cr gok (by omega) (p2 u hu)
    have rv := gr_Cr gok (by omega) (p2 v hv)
    have ru0 := gr_Cr gok (by omega) (hC u hu)
    refine br_f (nI_ge (b := 20) hi (by decide)) ?_
    simp only [ck, eu, ev, nI_add, nI_1, cu, cv]
    refine ⟨vi, br_c (fun t0 => nm_e (hn b' ⟨p1, fun v hv => gr_Cm (by omega) (p2 v hv), p3, fun j u' v' x' hj hk => ?_, p5⟩)) (fun t0 => ⟨vi, vu, vi, ?_⟩)⟩
    · by_cases e : j = i
      · subst e
        exact absurd hk (hk0 t0 _ _ _)
      · exact p4 j u' v' x' (by omega) hk
    obtain ⟨kk, ha⟩ := hk1 t0
    refine hx_jE rfl ew (gr_rgr ru) (by omega) fun r hr => ?_
    have jm := gr_jm ru ru0 (p3 u hu) ⟨hx1, hx2⟩
    have jC := gr_jC gok (by omega) (p2 u hu) ha
    have jlow : -1000000 ≤ gr_j (a_otherTable (7 * s + u)).toInt x := by
      have := @gr_jc (a_otherTable (7 * s + u)).toInt x
      unfold gr_rg at ru0
      omega
    refine ⟨vi, vv, br_c (fun c => nm_e (hn b' ⟨p1, fun v hv => gr_Cm (by omega) (p2 v hv), p3, fun j u' v' x' hj hk => ?_, p5⟩)) (fun c => ⟨vi, ?_⟩)⟩
    · rw [hp_le, hr] at c
      by_cases e : j = i
      · subst e
        obtain ⟨rfl, rfl, rfl⟩ := (kk _ _ _).mp hk
        omega
      · exact p4 j u' v' x' (by omega) hk
    rw [hp_le, hr] at c
    have step : ∀ q : Int32, q.toInt ≤ gr_j (b' (7 * s + u)).toInt x → -1000000 ≤ q.toInt → gr_C (hx_A a_arcThere a_arcFrom a_arcTo a_arcWeight) (b + i + 1) s v q.toInt → (¬ x3 = 0 → q.toInt = -1000000) → wX_useEveryArc__otherTable_3 post (nI (7 * s)) x3 f_queueStart f_queueLength f_leastTop f_leastBottom n (nI (i + 1)) a_arcThere a_arcFrom a_arcTo a_arcWeight a_table (upd b' (7 * s + v) q) a_squared a_levels a_setCells a_onRingBelowZero a_queue a_queued a_arcsUsed := by
      intro q q1 q2 q3 q4
      refine hn _ ⟨fun j hj => ?_, fun y hy => ?_, fun y hy => ?_, fun j u' v' x' hj hk => ?_, fun n3 y hy => ?_⟩
      · show upd b' (7 * s + v) q j = _
        rw [pk_un (hj v hv)]
        exact p1 j hj
      · rw [hx_ut]
        by_cases e : 7 * s + y = 7 * s + v
        · have e1 : y = v := by omega
          subst e1
          rw [if_pos rfl]
          exact q3
        · rw [if_neg e]
          exact gr_Cm (by omega) (p2 y hy)
      · rw [hx_ut]
        have := p3 y hy
        by_cases e : 7 * s + y = 7 * s + v
        · have e1 : y = v := by omega
          subst e1
          rw [if_pos rfl]
          omega
        · rw [if_neg e]
          exact this
      · rw [hx_ut]
        by_cases e : j = i
        · subst e
          obtain ⟨rfl, rfl, rfl⟩ := (kk _ _ _).mp hk
          rw [if_pos rfl]
          omega
        · have := p4 j u' v' x' (by omega) hk
          by_cases e2 : 7 * s + v' = 7 * s + v
          · rw [if_pos e2]
            rw [e2] at this
            omega
          · rw [if_neg e2]
            exact this
      · rw [hx_ut]
        by_cases e : 7 * s + y = 7 * s + v
        · rw [if_pos e]
          exact Or.inr (q4 n3)
        · rw [if_neg e]
          exact p5 n3 y hy
    refine br_c (fun z => ⟨vv, nm_e (nm_e (step r (by omega) ?_ ?_ (fun n3 => absurd z n3)))⟩) (fun z => ⟨vv, nm_e (nm_e (step (-1000000) ?_ ?_ ?_ (fun _ => hp_D)))⟩)
    · rw [hr]
      have := @gr_jc (b' (7 * s + u)).toInt x
      unfold gr_rg at ru
      omega
    · rw [hr]
      exact jC
    · rw [hp_D]
      have := @gr_jc (b' (7 * s + u)).toInt x
      unfold gr_rg at ru
      omega
    · rw [hp_D]
      omega
    · rw [hp_D]
      refine gr_CL (gr_settle gok hs jC (gr_rgr rv).2 (by omega) fun m c' hm g => ?_)
      exact Int.le_trans (p3 v hv) (h6 z m v c' hm g)
theorem hx_fillByRounds_otherTable {post : SX → Prop} {f_queueStart f_queueLength f_leastTop f_leastBottom : Int32} {a_arcThere a_arcFrom a_arcTo a_arcWeight a_table a_otherTable a_squared a_levels a_setCells a_onRingBelowZero a_queue a_queued a_arcsUsed : Nat → Int32} (ok : hx_ok a_arcThere a_arcFrom a_arcTo a_arcWeight) (h : ∀ b : Nat → Int32, (∀ s t, s < 7 → t < 7 → gr_Ans (hx_A a_arcThere a_arcFrom a_arcTo a_arcWeight) s t (gr_cv (b (7 * s + t)).toInt)) → post (f_queueStart, f_queueLength, f_leastTop, f_leastBottom, a_arcThere, a_arcFrom, a_arcTo, a_arcWeight, a_table, b, a_squared, a_levels, a_setCells, a_onRingBelowZero, a_queue, a_queued, a_arcsUsed)) : wpX_fillByRounds__otherTable post (f_queueStart, f_queueLength, f_leastTop, f_leastBottom, a_arcThere, a_arcFrom, a_arcTo, a_arcWeight, a_table, a_otherTable, a_squared, a_levels, a_setCells, a_onRingBelowZero, a_queue, a_queued, a_arcsUsed) := by
  have gok := hx_grok ok
  unfold wpX_fillByRounds__otherTable
  refine hx_startEmpty_otherTable fun b0 h0 => ?_
  refine loop_0 (fun n i (b : Nat → Int32) => wX_fillByRounds__otherTable_6 post n (nI i) f_queueStart f_queueLength f_leastTop f_leastBottom a_arcThere a_arcFrom a_arcTo a_arcWeight a_table b a_squared a_levels a_setCells a_onRingBelowZero a_queue a_queued a_arcsUsed) (fun i b => (∀ s t, s < i → t < 7 → gr_Ans (hx_A a_arcThere a_arcFrom a_arcTo a_arcWeight) s t (gr_cv (b (7 * s + t)).toInt)) ∧ ∀ s t, i ≤ s → s < 7 → t < 7 → (b (7 * s + t)).toInt = if s = t then 0 else 1000000) 7 b0 ?_ ?_ ?_
  · exact ⟨fun s t hs => absurd hs (by omega), fun s t _ hs ht => h0 s t hs ht⟩
  · intro n b hb
    exact br_t (nI_le (Nat.le_refl 7) (by decide)) (h b fun s t hs ht => hb.1 s t hs ht)
  · intro n s b hs hb hn
    refine br_f (nI_ge (b := 7) hs (by decide)) ?_
    refine pk_loop (fun n' i (b' : Nat → Int32) => wX_fillByRounds__otherTable_14 post (wX_fillByRounds__otherTable_6 post n) (nI s) n' (nI i) f_queueStart f_queueLength f_leastTop f_leastBottom a_arcThere a_arcFrom a_arcTo a_arcWeight a_table b' a_squared a_levels a_setCells a_onRingBelowZero a_queue a_queued a_arcsUsed) (fun i b' => 1 ≤ i ∧ (∀ j, (∀ v, v < 7 → j ≠ 7 * s + v) → b' j = b j) ∧ (∀ v, v < 7 → gr_C (hx_A a_arcThere a_arcFrom a_arcTo a_arcWeight) (20 * (i - 1)) s v (b' (7 * s + v)).toInt) ∧ (∀ m v c, m ≤ i - 1 → m ≤ 6 → gr_W (hx_A a_arcThere a_arcFrom a_arcTo a_arcWeight) m s v c → (b' (7 * s + v)).toInt ≤ c) ∧ (8 ≤ i → ∀ t, t < 7 → gr_L (hx_A a_arcThere a_arcFrom a_arcTo a_arcWeight) s t → ∃ v m c, (b' (7 * s + v)).toInt = -1000000 ∧ m ≤ 14 - i ∧ gr_W (hx_A a_arcThere a_arcFrom a_arcTo a_arcWeight) m v t c)) 14 1 b (by decide) ?_ ?_ ?_
    · refine ⟨Nat.le_refl 1, fun j _ => rfl, fun v hv => ?_, fun m v c hm _ g => ?_, fun h8 => absurd h8 (by decide)⟩
      · rw [hb.2 s v (Nat.le_refl s) hs hv]
        by_cases e : s = v
        · subst e
          rw [if_pos rfl]
          exact Or.inr (Or.inr ⟨0, by omega, gr_W0 s⟩)
        · rw [if_neg e]
          exact Or.inl rfl
      · have m0 : m = 0 := by omega
        subst m0
        obtain ⟨rfl, rfl⟩ := g
        rw [hb.2 s s (Nat.le_refl s) hs hs, if_pos rfl]
        omega
    · intro n' b' ⟨_, q1, q2, q3, q4⟩
      refine br_t (nI_le (Nat.le_refl 14) (by decide)) ?_
      rw [nI_1]
      refine nm_e (hn b' ⟨fun s' t hs' ht => ?_, fun s' t h1 h2 h3 => ?_⟩)
      · by_cases e : s' = s
        · subst e
          refine gr_fin gok hs (by decide : 20 * (14 - 1) ≤ 10000) (q2 t ht) (fun hl => ?_) (fun m c hm g => q3 m t c (by omega) hm g)
          obtain ⟨v, m, c, g1, g2, g3⟩ := q4 (by decide) t ht hl
          have m0 : m = 0 := by omega
          subst m0
          obtain ⟨rfl, _⟩ := g3
          exact g1
        · rw [q1 _ (fun v hv => by omega)]
          exact hb.1 s' t (by omega) ht
      · rw [q1 _ (fun v hv => by omega)]
        exact hb.2 s' t (by omega) h2 h3
    · intro n' i b' hi ⟨i1, q1, q2, q3, q4⟩ hn'
      refine br_f (nI_ge (b := 14) hi (by decide)) ?_
      have go : ∀ x3 : Int32, (¬ x3 = 0 ↔ 7 ≤ i) → wX_fillByRounds__otherTable_37 post (wX_fillByRounds__otherTable_6 post n) (wX_fillByRounds__otherTable_14 post (wX_fillByRounds__otherTable_6 post n) (nI s) n') (nI s) (nI i) x3 (nI (7 * s)) f_queueStart f_queueLength f_leastTop f_leastBottom a_arcThere a_arcFrom a_arcTo a_arcWeight a_table b' a_squared a_levels a_setCells a_onRingBelowZero a_queue a_queued a_arcsUsed := by
        intro x3 h3
        unfold wX_fillByRounds__otherTable_37
        refine hx_useEveryArc_otherTable ok (b := 20 * (i - 1)) hs (by omega) x3 q2 (fun z m v c hm g => q3 m v c (by have := h3.mp z; omega) hm g) fun b2 r1 r2 r3 r4 r5 => ?_
        dsimp only
        rw [nI_1]
        refine nm_e (hn' b2 ⟨by omega, fun j hj => (r1 j hj).trans (q1 j hj), fun v hv => ?_, fun m v c hm h6 g => ?_, fun h8 t ht hl => ?_⟩)
        · have e : 20 * (i + 1 - 1) = 20 * (i - 1) + 20 := by omega
          rw [e]
          exact r2 v hv
        · by_cases c6 : i ≤ 6
          · exact gr_rowD gok (r := i - 1) (by omega) (z := fun v => (b' (7 * s + v)).toInt) (z' := fun v => (b2 (7 * s + v)).toInt) r3 r4 hs (fun m v c hm g => q3 m v c hm (by omega) g) m v c (by omega) g
          · exact Int.le_trans (r3 v (gr_Wv (gr_oki gok) hs g)) (q3 m v c (by omega) h6 g)
        · by_cases c7 : i = 7
          · have := gr_rowL gok (s := s) (t := t) (z := fun v => (b' (7 * s + v)).toInt) (z' := fun v => (b2 (7 * s + v)).toInt) hs r3 r4 (r5 (h3.mpr (by omega))) (fun m v c hm g => q3 m v c (by omega) hm g) hl
            obtain ⟨v, m, c, g1, g2, g3⟩ := this
            exact ⟨v, m, c, g1, by omega, g3⟩
          · have := gr_rowS gok (t := t) (k := 13 - i) (z := fun v => (b' (7 * s + v)).toInt) (z' := fun v => (b2 (7 * s + v)).toInt) ht (fun v hv => gr_Cr gok (by omega) (r2 v hv)) r3 r4 (by
              obtain ⟨v, m, c, g1, g2, g3⟩ := q4 (by omega) t ht hl
              exact ⟨v, m, c, g1, by omega, g3⟩)
            obtain ⟨v, m, c, g1, g2, g3⟩ := this
            exact ⟨v, m, c, g1, by omega, g3⟩
      rw [hp_m7]
      refine br_c (fun c => go 0 ⟨fun z => absurd rfl z, fun z => ?_⟩) (fun c => go 1 ⟨fun _ => ?_, fun _ => by decide⟩)
      · rw [show (7 : Int32) = nI 7 from rfl, nI_ltI (by omega) (by decide)] at c
        omega
      · rw [show (7 : Int32) = nI 7 from rfl, nI_ltI (by omega) (by decide)] at c
        omega
