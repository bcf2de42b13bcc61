/-! the component: engines 1 and 2 -/
theorem gr_jrg {a x : Int} (ha : gr_rg a) (hx : x = -1000000 ∨ x = 0) : -1000000 ≤ gr_j a x ∧ gr_j a x ≤ 1000000 := by
  have := @gr_jc a x
  unfold gr_rg at ha
  omega
theorem gr_psrg {Z : Nat → Nat → Int} {m t : Nat} {y : Int} (hm : gr_rg (Z m m)) (ht : gr_rg (Z m t)) (hy : y = -1000000 ∨ y = 0 ∧ Z m m = 0) : -1000000 ≤ gr_ps Z m y m t ∧ gr_ps Z m y m t ≤ 1000000 := by
  have h1 := @gr_psle Z m m t y
  have j1 := @gr_jc (Z m m) y
  have j2 := @gr_jc (gr_j (Z m m) y) (Z m t)
  unfold gr_rg at hm ht
  omega
theorem hx_pass_table {post : SX → Prop} {f_queueStart f_queueLength f_leastTop f_leastBottom : Int32} {a_arcThere a_arcFrom a_arcTo a_arcWeight a_table a_otherTable a_squared a_levels a_setCells a_onRingBelowZero a_queue a_queued a_arcsUsed : Nat → Int32} {m : Nat} {y : Int32} (hm : m < 7) (hr : ∀ s t, s < 7 → t < 7 → gr_rg (a_table (7 * s + t)).toInt) (hy : y.toInt = -1000000 ∨ (y.toInt = 0 ∧ (a_table (7 * m + m)).toInt = 0)) (h : ∀ b : Nat → Int32, (∀ s t, s < 7 → t < 7 → (b (7 * s + t)).toInt = gr_ps (fun s t => (a_table (7 * s + t)).toInt) m y.toInt s t) → post (f_queueStart, f_queueLength, f_leastTop, f_leastBottom, a_arcThere, a_arcFrom, a_arcTo, a_arcWeight, b, a_otherTable, a_squared, a_levels, a_setCells, a_onRingBelowZero, a_queue, a_queued, a_arcsUsed)) : wpX_passThrough__table post (f_queueStart, f_queueLength, f_leastTop, f_leastBottom, a_arcThere, a_arcFrom, a_arcTo, a_arcWeight, a_table, a_otherTable, a_squared, a_levels, a_setCells, a_onRingBelowZero, a_queue, a_queued, a_arcsUsed) (nI m) y := by
  generalize hZ : (fun s t : Nat => (a_table (7 * s + t)).toInt) = Z at *
  have eZ : ∀ s t, (a_table (7 * s + t)).toInt = Z s t := fun s t => by rw [← hZ]
  have hrZ : ∀ s t, s < 7 → t < 7 → gr_rg (Z s t) := fun s t hs ht => by
    rw [← eZ]
    exact hr s t hs ht
  have hy' : y.toInt = -1000000 ∨ (y.toInt = 0 ∧ Z m m = 0) := by rwa [eZ] at hy
  have ry : y.toInt = -1000000 ∨ y.toInt = 0 := by omega
  refine loop_0 (fun n i (b : Nat → Int32) => wX_passThrough__table_2 post (nI m) y f_queueStart f_queueLength f_leastTop f_leastBottom n (nI i) a_arcThere a_arcFrom a_arcTo a_arcWeight b a_otherTable a_squared a_levels a_setCells a_onRingBelowZero a_queue a_queued a_arcsUsed) (fun i b => ∀ s t, s < 7 → t < 7 → (b (7 * s + t)).toInt = if s < i then gr_ps Z m y.toInt s t else Z s t) 7 a_table ?_ ?_ ?_
  · intro s t hs ht
    rw [if_neg (by omega), eZ]
  · intro n b hb
    refine br_t (nI_le (Nat.le_refl 7) (by decide)) (h b fun s t hs ht => ?_)
    rw [hb s t hs ht, if_pos hs]
  · intro n s b hs hb hn
    have cm : (nI (7 * s + m)).toNatClampNeg = 7 * s + m := nI_clamp (by omega)
    refine br_f (nI_ge (b := 7) hs (by decide)) ?_
    rw [hp_ix, cm]
    have e1 : (b (7 * s + m)).toInt = Z s m := by rw [hb s m hs hm, if_neg (by omega)]
    refine ⟨vp_in_nI (by omega) (by decide), hx_jE e1 rfl (gr_rgr (hrZ s m hs hm)) (by omega) fun r hr1 => ?_⟩
    refine loop_0 (fun n' i (b' : Nat → Int32) => wX_passThrough__table_25 post (wX_passThrough__table_2 post (nI m) y f_queueStart f_queueLength f_leastTop f_leastBottom n) (nI m) y (nI s) r f_queueStart f_queueLength f_leastTop f_leastBottom n' (nI i) a_arcThere a_arcFrom a_arcTo a_arcWeight b' a_otherTable a_squared a_levels a_setCells a_onRingBelowZero a_queue a_queued a_arcsUsed) (fun i b' => ∀ s' t', s' < 7 → t' < 7 → (b' (7 * s' + t')).toInt = if s' < s ∨ (s' = s ∧ t' < i) then gr_ps Z m y.toInt s' t' else Z s' t') 7 b ?_ ?_ ?_
    · intro s' t' hs' ht'
      rw [hb s' t' hs' ht']
      split <;> split <;> first | rfl | omega
    · intro n' b' hb'
      refine br_t (nI_le (Nat.le_refl 7) (by decide)) ?_
      rw [nI_1]
      refine nm_e (hn b' fun s' t' hs' ht' => ?_)
      rw [hb' s' t' hs' ht']
      split <;> split <;> first | rfl | omega
    · intro n' t b' ht hb' hn'
      have ct : (nI (7 * m + t)).toNatClampNeg = 7 * m + t := nI_clamp (by omega)
      have cs : (nI (7 * s + t)).toNatClampNeg = 7 * s + t := nI_clamp (by omega)
      have vs : vp_in (nI (7 * s + t)) 49 := vp_in_nI (by omega) (by decide)
      have e3 : (b' (7 * s + t)).toInt = Z s t := by rw [hb' s t hs ht, if_neg (by omega)]
      have e2 : gr_j r.toInt (b' (7 * m + t)).toInt = gr_j (gr_j (Z s m) y.toInt) (Z m t) ∧ -1000000 ≤ (b' (7 * m + t)).toInt ∧ (b' (7 * m + t)).toInt ≤ 1000000 := by
        rw [hr1, hb' m t hm ht]
        split
        · exact ⟨gr_psr hrZ hm hs ht hy', gr_psrg (hrZ m m hm hm) (hrZ m t hm ht) hy'⟩
        · exact ⟨rfl, gr_rgr (hrZ m t hm ht)⟩
      refine br_f (nI_ge (b := 7) ht (by decide)) ?_
      simp only [hp_ix, ct, cs, nI_1]
      refine ⟨vp_in_nI (by omega) (by decide), hx_jE rfl rfl (by rw [hr1]; exact gr_jrg (hrZ s m hs hm) ry) e2.2 fun q hq => ⟨vs, ?_⟩⟩
      rw [e2.1] at hq
      refine br_c (fun c => nm_e (hn' b' fun s' t' hs' ht' => ?_)) (fun c => ⟨vs, nm_e (nm_e (hn' _ fun s' t' hs' ht' => ?_))⟩)
      · rw [hp_le, hq, e3] at c
        rw [hb' s' t' hs' ht']
        by_cases e : s' = s ∧ t' = t
        · obtain ⟨rfl, rfl⟩ := e
          rw [if_neg (by omega), if_pos (by omega)]
          unfold gr_ps
          rw [if_neg (by omega)]
        · split <;> split <;> first | rfl | omega
      · rw [hp_le, hq, e3] at c
        rw [hx_ut, hb' s' t' hs' ht']
        by_cases e : s' = s ∧ t' = t
        · obtain ⟨rfl, rfl⟩ := e
          rw [if_pos rfl, if_pos (by omega), hq]
          unfold gr_ps
          rw [if_pos (by omega)]
        · rw [if_neg (by omega)]
          split <;> split <;> first | rfl | omega
theorem hx_fillByMiddle_table {post : SX → Prop} {f_queueStart f_queueLength f_leastTop f_leastBottom : Int32} {a_arcThere a_arcFrom a_arcTo a_arcWeight a_table a_otherTable a_squared a_levels a_setCells a_onRingBelowZero a_queue a_queued a_arcsUsed : Nat → Int32} (ok : hx_ok a_arcThere a_arcFrom a_arcTo a_arcWeight) (h : ∀ b : Nat → Int32, (∀ s t, s < 7 → t < 7 → gr_Ans (hx_A a_arcThere a_arcFrom a_arcTo a_arcWeight) s t (gr_cv (b (7 * s + t)).toInt)) → post (f_queueStart, f_queueLength, f_leastTop, f_leastBottom, a_arcThere, a_arcFrom, a_arcTo, a_arcWeight, b, a_otherTable, a_squared, a_levels, a_setCells, a_onRingBelowZero, a_queue, a_queued, a_arcsUsed)) : wpX_fillByMiddlePoints__table post (f_queueStart, f_queueLength, f_leastTop, f_leastBottom, a_arcThere, a_arcFrom, a_arcTo, a_arcWeight, a_table, a_otherTable, a_squared, a_levels, a_setCells, a_onRingBelowZero, a_queue, a_queued, a_arcsUsed) := by
  have gok := hx_grok ok
  unfold wpX_fillByMiddlePoints__table
  refine hx_startWithArcs_table ok fun b0 h1 h2 h3 => ?_
  refine loop_0 (fun n i (b : Nat → Int32) => wX_fillByMiddlePoints__table_7 post n (nI i) f_queueStart f_queueLength f_leastTop f_leastBottom a_arcThere a_arcFrom a_arcTo a_arcWeight b a_otherTable a_squared a_levels a_setCells a_onRingBelowZero a_queue a_queued a_arcsUsed) (fun i b => gr_E1 (hx_A a_arcThere a_arcFrom a_arcTo a_arcWeight) i (2 ^ i) (fun s t => (b (7 * s + t)).toInt)) 7 b0 ?_ ?_ ?_
  · exact gr_E10 h1 h2 h3 gok
  · intro n b hb
    exact br_t (nI_le (Nat.le_refl 7) (by decide)) (h b (gr_E1f gok (by decide) hb))
  · intro n i b hi hb hn
    have ck : (nI (7 * i + i)).toNatClampNeg = 7 * i + i := nI_clamp (by omega)
    have p2 : 2 ^ i ≤ 2 ^ 6 := Nat.pow_le_pow_right (by decide) (by omega)
    have es : 2 ^ (i + 1) = 2 ^ i + 2 ^ i := by
      rw [Nat.pow_succ]
      omega
    have rg : ∀ s t, s < 7 → t < 7 → gr_rg (b (7 * s + t)).toInt := fun s t hs ht => gr_Cr gok (by omega) (hb.1 s t hs ht)
    have go : ∀ y : Int32, y.toInt = (if (b (7 * i + i)).toInt < 0 then -1000000 else 0) → wX_fillByMiddlePoints__table_30 post (wX_fillByMiddlePoints__table_7 post n) (nI i) y f_queueStart f_queueLength f_leastTop f_leastBottom a_arcThere a_arcFrom a_arcTo a_arcWeight b a_otherTable a_squared a_levels a_setCells a_onRingBelowZero a_queue a_queued a_arcsUsed := by
      intro y hy
      have d0 : (b (7 * i + i)).toInt ≤ 0 := hb.2.1 i hi
      unfold wX_fillByMiddlePoints__table_30
      refine hx_pass_table hi rg ?_ fun b' hb' => ?_
      · by_cases c : (b (7 * i + i)).toInt < 0
        · rw [if_pos c] at hy
          exact Or.inl hy
        · rw [if_neg c] at hy
          exact Or.inr ⟨hy, by omega⟩
      · dsimp only
        rw [nI_1]
        refine nm_e (hn b' ?_)
        show gr_E1 _ (i + 1) (2 ^ (i + 1)) _
        rw [es]
        exact gr_E1s gok hi (by omega) hb y.toInt hy hb'
    refine br_f (nI_ge (b := 7) hi (by decide)) ?_
    rw [hp_ix, ck]
    refine ⟨vp_in_nI (by omega) (by decide), br_c (fun c => go 0 ?_) (fun c => go (-1000000) ?_)⟩
    · rw [hp_le, hp_0] at c
      rw [if_neg (by omega), hp_0]
    · rw [hp_le, hp_0] at c
      rw [if_pos (by omega), hp_D]
theorem hx_join_table {post : SX → Prop} {f_queueStart f_queueLength f_leastTop f_leastBottom : Int32} {a_arcThere a_arcFrom a_arcTo a_arcWeight a_table a_otherTable a_squared a_levels a_setCells a_onRingBelowZero a_queue a_queued a_arcsUsed : Nat → Int32} (hr : ∀ s t, s < 7 → t < 7 → gr_rg (a_table (7 * s + t)).toInt) (h : ∀ b sq : Nat → Int32, (∀ s t, s < 7 → t < 7 → (∀ m, m < 7 → (b (7 * s + t)).toInt ≤ gr_j (a_table (7 * s + m)).toInt (a_table (7 * m + t)).toInt) ∧ ((b (7 * s + t)).toInt = 1000000 ∨ ∃ m, m < 7 ∧ (b (7 * s + t)).toInt = gr_j (a_table (7 * s + m)).toInt (a_table (7 * m + t)).toInt)) → post (f_queueStart, f_queueLength, f_leastTop, f_leastBottom, a_arcThere, a_arcFrom, a_arcTo, a_arcWeight, b, a_otherTable, sq, a_levels, a_setCells, a_onRingBelowZero, a_queue, a_queued, a_arcsUsed)) : wpX_joinWithItself__table post (f_queueStart, f_queueLength, f_leastTop, f_leastBottom, a_arcThere, a_arcFrom, a_arcTo, a_arcWeight, a_table, a_otherTable, a_squared, a_levels, a_setCells, a_onRingBelowZero, a_queue, a_queued, a_arcsUsed) := by
  have last : ∀ sq : Nat → Int32, (∀ s t, s < 7 → t < 7 → (∀ m, m < 7 → (sq (7 * s + t)).toInt ≤ gr_j (a_table (7 * s + m)).toInt (a_table (7 * m + t)).toInt) ∧ ((sq (7 * s + t)).toInt = 1000000 ∨ ∃ m, m < 7 ∧ (sq (7 * s + t)).toInt = gr_j (a_table (7 * s + m)).toInt (a_table (7 * m + t)).toInt)) → ∃ n, wX_joinWithItself__table_97 post f_queueStart f_queueLength f_leastTop f_leastBottom n 0 a_arcThere a_arcFrom a_arcTo a_arcWeight a_table a_otherTable sq a_levels a_setCells a_onRingBelowZero a_queue a_queued a_arcsUsed := by
    intro sq hsq
    refine loop_0 (fun n i (b : Nat → Int32) => wX_joinWithItself__table_97 post f_queueStart f_queueLength f_leastTop f_leastBottom n (nI i) a_arcThere a_arcFrom a_arcTo a_arcWeight b a_otherTable sq a_levels a_setCells a_onRingBelowZero a_queue a_queued a_arcsUsed) (fun i b => ∀ j, j < i → b j = sq j) 49 a_table (fun j hj => absurd hj (by omega)) ?_ ?_
    · intro n b hb
      refine br_t (nI_le (Nat.le_refl 49) (by decide)) (h b sq fun s t hs ht => ?_)
      rw [hb _ (by omega)]
      exact hsq s t hs ht
    · intro n i b hi hb hn
      have ck : (nI i).toNatClampNeg = i := nI_clamp (by omega)
      have vi : vp_in (nI i) 49 := vp_in_nI hi (by decide)
      refine br_f (nI_ge (b := 49) hi (by decide)) ?_
      rw [ck, nI_1]
      refine ⟨vi, vi, nm_e (nm_e (hn _ fun j hj => ?_))⟩
      by_cases e : j = i
      · subst e
        exact pk_us
      · rw [pk_un e]
        exact hb j (by omega)
  refine loop_0 (fun n i (sq : Nat → Int32) => wX_joinWithItself__table_2 post f_queueStart f_queueLength f_leastTop f_leastBottom n (nI i) a_arcThere a_arcFrom a_arcTo a_arcWeight a_table a_otherTable sq a_levels a_setCells a_onRingBelowZero a_queue a_queued a_arcsUsed) (fun i sq => ∀ s t, s < i → t < 7 → (∀ m, m < 7 → (sq (7 * s + t)).toInt ≤ gr_j (a_table (7 * s + m)).toInt (a_table (7 * m + t)).toInt) ∧ ((sq (7 * s + t)).toInt = 1000000 ∨ ∃ m, m < 7 ∧ (sq (7 * s + t)).toInt = gr_j (a_table (7 * s + m)).toInt (a_table (7 * m + t)).toInt)) 7 a_squared (fun s t hs => absurd hs (by omega)) ?_ ?_
  · intro n sq hsq
    exact br_t (nI_le (Nat.le_refl 7) (by decide)) (last sq fun s t hs ht => hsq s t hs ht)
  · intro n s sq hs hsq hn
    refine br_f (nI_ge (b := 7) hs (by decide)) ?_
    refine loop_0 (fun n' i (sq' : Nat → Int32) => wX_joinWithItself__table_10 post (wX_joinWithItself__table_2 post f_queueStart f_queueLength f_leastTop f_leastBottom n) (nI s) f_queueStart f_queueLength f_leastTop f_leastBottom n' (nI i) a_arcThere a_arcFrom a_arcTo a_arcWeight a_table a_otherTable sq' a_levels a_setCells a_onRingBelowZero a_queue a_queued a_arcsUsed) (fun i sq' => ∀ s' t, (s' < s ∨ (s' = s ∧ t < i)) → t < 7 → (∀ m, m < 7 → (sq' (7 * s' + t)).toInt ≤ gr_j (a_table (7 * s' + m)).toInt (a_table (7 * m + t)).toInt) ∧ ((sq' (7 * s' + t)).toInt = 1000000 ∨ ∃ m, m < 7 ∧ (sq' (7 * s' + t)).toInt = gr_j (a_table (7 * s' + m)).toInt (a_table (7 * m + t)).toInt)) 7 sq (fun s' t hs' ht => hsq s' t (by omega) ht) ?_ ?_
    · intro n' sq' hsq'
      refine br_t (nI_le (Nat.le_refl 7) (by decide)) ?_
      rw [nI_1]
      exact nm_e (hn sq' fun s' t hs' ht => hsq' s' t (by omega) ht)
    · intro n' t sq' ht hsq' hn'
      refine br_f (nI_ge (b := 7) ht (by decide)) ?_
      refine loop_0 (fun n2 i (r : Int32) => wX_joinWithItself__table_23 post (wX_joinWithItself__table_2 post f_queueStart f_queueLength f_leastTop f_leastBottom n) (wX_joinWithItself__table_10 post (wX_joinWithItself__table_2 post f_queueStart f_queueLength f_leastTop f_leastBottom n) (nI s) f_queueStart f_queueLength f_leastTop f_leastBottom n') (nI s) (nI t) f_queueStart f_queueLength f_leastTop f_leastBottom a_arcThere a_arcFrom a_arcTo a_arcWeight a_table a_otherTable sq' a_levels a_setCells a_onRingBelowZero a_queue a_queued a_arcsUsed n2 r (nI i)) (fun i r => (∀ m, m < i → r.toInt ≤ gr_j (a_table (7 * s + m)).toInt (a_table (7 * m + t)).toInt) ∧ (r.toInt = 1000000 ∨ ∃ m, m < 7 ∧ r.toInt = gr_j (a_table (7 * s + m)).toInt (a_table (7 * m + t)).toInt)) 7 1000000 ⟨fun m hm => absurd hm (by omega), Or.inl hp_F⟩ ?_ ?_
      · intro n2 r hr2
        have cs : (nI (7 * s + t)).toNatClampNeg = 7 * s + t := nI_clamp (by omega)
        refine br_t (nI_le (Nat.le_refl 7) (by decide)) ?_
        rw [hp_ix, cs, nI_1]
        refine ⟨vp_in_nI (by omega) (by decide), nm_e (nm_e (hn' _ fun s' t' hs' ht' => ?_))⟩
        by_cases e : s' = s ∧ t' = t
        · obtain ⟨rfl, rfl⟩ := e
          rw [pk_us]
          exact hr2
        · rw [pk_un (by omega)]
          exact hsq' s' t' (by omega) ht'
      · intro n2 i r hi hr2 hn2
        have c1 : (nI (7 * s + i)).toNatClampNeg = 7 * s + i := nI_clamp (by omega)
        have c2 : (nI (7 * i + t)).toNatClampNeg = 7 * i + t := nI_clamp (by omega)
        refine br_f (nI_ge (b := 7) hi (by decide)) ?_
        simp only [hp_ix, c1, c2, nI_1]
        refine ⟨vp_in_nI (by omega) (by decide), vp_in_nI (by omega) (by decide), hx_jE rfl rfl (gr_rgr (hr s i hs hi)) (gr_rgr (hr i t hi ht)) fun q hq => br_c (fun c => nm_e (hn2 r ⟨fun m hm => ?_, hr2.2⟩)) (fun c => nm_e (hn2 q ⟨fun m hm => ?_, Or.inr ⟨i, hi, hq⟩⟩))⟩
        · rw [hp_le, hq] at c
          by_cases e : m = i
          · subst e
            exact c
          · exact hr2.1 m (by omega)
        · rw [hp_le, hq] at c
          rw [hq]
          by_cases e : m = i
          · subst e
            exact Int.le_refl _
          · have := hr2.1 m (by omega)
            omega
theorem hx_fillBySquaring_table {post : SX → Prop} {f_queueStart f_queueLength f_leastTop f_leastBottom : Int32} {a_arcThere a_arcFrom a_arcTo a_arcWeight a_table a_otherTable a_squared a_levels a_setCells a_onRingBelowZero a_queue a_queued a_arcsUsed : Nat → Int32} (ok : hx_ok a_arcThere a_arcFrom a_arcTo a_arcWeight) (h : ∀ b sq : Nat → Int32, (∀ s t, s < 7 → t < 7 → gr_Ans (hx_A a_arcThere a_arcFrom a_arcTo a_arcWeight) s t (gr_cv (b (7 * s + t)).toInt)) → post (f_queueStart, f_queueLength, f_leastTop, f_leastBottom, a_arcThere, a_arcFrom, a_arcTo, a_arcWeight, b, a_otherTable, sq, a_levels, a_setCells, a_onRingBelowZero, a_queue, a_queued, a_arcsUsed)) : wpX_fillBySquaring__table post (f_queueStart, f_queueLength, f_leastTop, f_leastBottom, a_arcThere, a_arcFrom, a_arcTo, a_arcWeight, a_table, a_otherTable, a_squared, a_levels, a_setCells, a_onRingBelowZero, a_queue, a_queued, a_arcsUsed) := by
  have gok := hx_grok ok
  unfold wpX_fillBySquaring__table
  refine hx_startWithArcs_table ok fun b0 h1 h2 h3 => ?_
  refine loop_0 (fun n i (b : (Nat → Int32) × (Nat → Int32)) => wX_fillBySquaring__table_7 post n (nI i) f_queueStart f_queueLength f_leastTop f_leastBottom a_arcThere a_arcFrom a_arcTo a_arcWeight b.1 a_otherTable b.2 a_levels a_setCells a_onRingBelowZero a_queue a_queued a_arcsUsed) (fun i b => gr_E2 (hx_A a_arcThere a_arcFrom a_arcTo a_arcWeight) (2 ^ i) (2 ^ i) (fun s t => (b.1 (7 * s + t)).toInt) ∧ (1 ≤ i → ∀ p, p < 7 → (b.1 (7 * p + p)).toInt < 0 → (b.1 (7 * p + p)).toInt = -1000000) ∧ (i = 4 → ∃ Z3, gr_E2 (hx_A a_arcThere a_arcFrom a_arcTo a_arcWeight) 8 8 Z3 ∧ (∀ p, p < 7 → Z3 p p < 0 → Z3 p p = -1000000) ∧ ∀ s t, s < 7 → t < 7 → ∀ m, m < 7 → (b.1 (7 * s + t)).toInt ≤ gr_j (Z3 s m) (Z3 m t)) ∧ (i = 5 → ∃ Z3 Z4, gr_E2 (hx_A a_arcThere a_arcFrom a_arcTo a_arcWeight) 8 8 Z3 ∧ (∀ p, p < 7 → Z3 p p < 0 → Z3 p p = -1000000) ∧ gr_E2 (hx_A a_arcThere a_arcFrom a_arcTo a_arcWeight) 16 16 Z4 ∧ (∀ s t, s < 7 → t < 7 → ∀ m, m < 7 → Z4 s t ≤ gr_j (Z3 s m) (Z3 m t)) ∧ ∀ s t, s < 7 → t < 7 → ∀ m, m < 7 → (b.1 (7 * s + t)).toInt ≤ gr_j (Z4 s m) (Z4 m t))) 5 (b0, a_squared) ?_ ?_ ?_
  · refine ⟨⟨h1, fun s t n c hs hn g => ?_⟩, fun z => absurd z (by decide), fun z => absurd z (by decide), fun z => absurd z (by decide)⟩
    cases n with
    | zero =>
      obtain ⟨rfl, rfl⟩ := g
      exact h2 s hs
    | succ n =>
      have n0 : n = 0 := by
        have : 2 ^ 0 = 1 := rfl
        omega
      subst n0
      obtain ⟨u, c', x, ⟨rfl, rfl⟩, a, rfl⟩ := g
      have := h3 _ _ _ a
      show (b0 (7 * s + t)).toInt ≤ 0 + x
      omega
  · intro n b hb
    obtain ⟨Z3, Z4, g1, g2, g3, g4, g5⟩ := hb.2.2.2 rfl
    exact br_t (nI_le (Nat.le_refl 5) (by decide)) (h b.1 b.2 (gr_E2f gok g1 g2 g3 hb.1 g4 g5))
  · intro n i b hi hb hn
    have p2 : 2 ^ i ≤ 2 ^ 4 := Nat.pow_le_pow_right (by decide) (by omega)
    have es : 2 ^ (i + 1) = 2 ^ i + 2 ^ i := by
      rw [Nat.pow_succ]
      omega
    have rg : ∀ s t, s < 7 → t < 7 → gr_rg (b.1 (7 * s + t)).toInt := fun s t hs ht => gr_Cr gok (by omega) (hb.1.1 s t hs ht)
    refine br_f (nI_ge (b := 5) hi (by decide)) ?_
    refine hx_join_table rg fun b1 sq hb1 => ?_
    refine loop_0 (fun n' j (b2 : Nat → Int32) => wX_fillBySquaring__table_19 post (wX_fillBySquaring__table_7 post n) (nI i) f_queueStart f_queueLength f_leastTop f_leastBottom n' (nI j) a_arcThere a_arcFrom a_arcTo a_arcWeight b2 a_otherTable sq a_levels a_setCells a_onRingBelowZero a_queue a_queued a_arcsUsed) (fun j b2 => ∀ s t, s < 7 → t < 7 → (b2 (7 * s + t)).toInt = if s = t ∧ s < j ∧ (b1 (7 * s + t)).toInt < 0 then -1000000 else (b1 (7 * s + t)).toInt) 7 b1 ?_ ?_ ?_
    · intro s t hs ht
      rw [if_neg (by omega)]
    · intro n' b2 hb2
      refine br_t (nI_le (Nat.le_refl 7) (by decide)) ?_
      rw [nI_1]
      have low : ∀ s t, s < 7 → t < 7 → ∀ m, m < 7 → (b2 (7 * s + t)).toInt ≤ gr_j (b.1 (7 * s + m)).toInt (b.1 (7 * m + t)).toInt := by
        intro s t hs ht m hm
        have k1 := (hb1 s t hs ht).1 m hm
        have k2 := @gr_jc (b.1 (7 * s + m)).toInt (b.1 (7 * m + t)).toInt
        have k3 := rg s m hs hm
        have k4 := rg m t hm ht
        unfold gr_rg at k3 k4
        rw [hb2 s t hs ht]
        split <;> omega
      refine nm_e (hn (b2, sq) ⟨?_, fun _ p hp hl => ?_, fun e => ⟨fun s t => (b.1 (7 * s + t)).toInt, ?_, hb.2.1 (by omega), low⟩, fun e => ?_⟩)
      · rw [es]
        refine gr_E2s gok (by omega) (by omega) hb.1 fun s t hs ht => ⟨low s t hs ht, ?_⟩
        show (b2 (7 * s + t)).toInt = _ ∨ (_ ∧ (b2 (7 * s + t)).toInt = _ ∧ _) ∨ ∃ m, m < 7 ∧ (b2 (7 * s + t)).toInt = _
        rw [hb2 s t hs ht]
        by_cases c : s = t ∧ s < 7 ∧ (b1 (7 * s + t)).toInt < 0
        · rw [if_pos c]
          refine Or.inr (Or.inl ⟨c.1, rfl, ?_⟩)
          rcases (hb1 s t hs ht).2 with e | ⟨m, hm, e⟩
          · omega
          · exact ⟨m, hm, by omega⟩
        · rw [if_neg c]
          rcases (hb1 s t hs ht).2 with e | e
          · exact Or.inl e
          · exact Or.inr (Or.inr e)
      · have := hb2 p p hp hp
        dsimp only at hl ⊢
        rw [this] at hl ⊢
        by_cases c : p = p ∧ p < 7 ∧ (b1 (7 * p + p)).toInt < 0
        · rw [if_pos c]
        · rw [if_neg c] at hl
          exact absurd ⟨rfl, hp, hl⟩ c
      · have e3 : i = 3 := by omega
        have := hb.1
        rw [e3] at this
        exact this
      · have e4 : i = 4 := by omega
        obtain ⟨Z3, g1, g2, g3⟩ := hb.2.2.1 e4
        have := hb.1
        rw [e4] at this
        exact ⟨Z3, _, g1, g2, this, g3, low⟩
    · intro n' j b2 hj hb2 hn'
      have ck : (nI (7 * j + j)).toNatClampNeg = 7 * j + j := nI_clamp (by omega)
      have vj : vp_in (nI (7 * j + j)) 49 := vp_in_nI (by omega) (by decide)
      have ej : (b2 (7 * j + j)).toInt = (b1 (7 * j + j)).toInt := by rw [hb2 j j hj hj, if_neg (by omega)]
      refine br_f (nI_ge (b := 7) hj (by decide)) ?_
      rw [hp_ix, ck, nI_1]
      refine ⟨vj, br_c (fun c => nm_e (hn' b2 fun s t hs ht => ?_)) (fun c => ⟨vj, nm_e (nm_e (hn' _ fun s t hs ht => ?_))⟩)⟩
      · rw [hp_le, hp_0, ej] at c
        rw [hb2 s t hs ht]
        by_cases e : s = t ∧ s = j
        · obtain ⟨rfl, rfl⟩ := e
          rw [if_neg (by omega), if_neg (by omega)]
        · by_cases e2 : s = t ∧ s < j ∧ (b1 (7 * s + t)).toInt < 0
          · rw [if_pos e2, if_pos (by omega)]
          · rw [if_neg e2, if_neg (by omega)]
      · rw [hp_le, hp_0, ej] at c
        rw [hx_ut, hb2 s t hs ht, hp_D]
        by_cases e : s = t ∧ s = j
        · obtain ⟨rfl, rfl⟩ := e
          rw [if_pos rfl, if_pos (by omega)]
        · rw [if_neg (by omega)]
          by_cases e2 : s = t ∧ s < j ∧ (b1 (7 * s + t)).toInt < 0
          · rw [if_pos e2, if_pos (by omega)]
          · rw [if_neg e2, if_neg (by omega)]
theorem hx_pass_otherTable {post : SX → Prop} {f_queueStart f_queueLength f_leastTop f_leastBottom : Int32} {a_arcThere a_arcFrom a_arcTo a_arcWeight a_table a_otherTable a_squared a_levels a_setCells a_onRingBelowZero a_queue a_queued a_arcsUsed : Nat → Int32} {m : Nat} {y : Int32} (hm : m < 7) (hr : ∀ s t, s < 7 → t < 7 → gr_rg (a_otherTable (7 * s + t)).toInt) (hy : y.toInt = -1000000 ∨ (y.toInt = 0 ∧ (a_otherTable (7 * m + m)).toInt = 0)) (h : ∀ b : Nat → Int32, (∀ s t, s < 7 → t < 7 → (b (7 * s + t)).toInt = gr_ps (fun s t => (a_otherTable (7 * s + t)).toInt) m y.toInt s t) → post (f_queueStart, f_queueLength, f_leastTop, f_leastBottom, a_arcThere, a_arcFrom, a_arcTo, a_arcWeight, a_table, b, a_squared, a_levels, a_setCells, a_onRingBelowZero, a_queue, a_queued, a_arcsUsed)) : wpX_passThrough__otherTable post (f_queueStart, f_queueLength, f_leastTop, f_leastBottom, a_arcThere, a_arcFrom, a_arcTo, a_arcWeight, a_table, a_otherTable, a_squared, a_levels, a_setCells, a_onRingBelowZero, a_queue, a_queued, a_arcsUsed) (nI m) y := by
  generalize hZ : (fun s t : Nat => (a_otherTable (7 * s + t)).toInt) = Z at *
  have eZ : ∀ s t, (a_otherTable (7 * s + t)).toInt = Z s t := fun s t => by rw [← hZ]
  have hrZ : ∀ s t, s < 7 → t < 7 → gr_rg (Z s t) := fun s t hs ht => by
    rw [← eZ]
    exact hr s t hs ht
  have hy' : y.toInt = -1000000 ∨ (y.toInt = 0 ∧ Z m m = 0) := by rwa [eZ] at hy
  have ry : y.toInt = -1000000 ∨ y.toInt = 0 := by omega
  refine loop_0 (fun n i (b : Nat → Int32) => wX_passThrough__otherTable_2 post (nI m) y f_queueStart f_queueLength f_leastTop f_leastBottom n (nI i) a_arcThere a_arcFrom a_arcTo a_arcWeight a_table b a_squared a_levels a_setCells a_onRingBelowZero a_queue a_queued a_arcsUsed) (fun i b => ∀ s t, s < 7 → t < 7 → (b (7 * s + t)).toInt = if s < i then gr_ps Z m y.toInt s t else Z s t) 7 a_otherTable ?_ ?_ ?_
  · intro s t hs ht
    rw [if_neg (by omega), eZ]
  · intro n b hb
    refine br_t (nI_le (Nat.le_refl 7) (by decide)) (h b fun s t hs ht => ?_)
    rw [hb s t hs ht, if_pos hs]
  · intro n s b hs hb hn
    have cm : (nI (7 * s + m)).toNatClampNeg = 7 * s + m := nI_clamp (by omega)
    refine br_f (nI_ge (b := 7) hs (by decide)) ?_
    rw [hp_ix, cm]
    have e1 : (b (7 * s + m)).toInt = Z s m := by rw [hb s m hs hm, if_neg (by omega)]
    refine ⟨vp_in_nI (by omega) (by decide), hx_jE e1 rfl (gr_rgr (hrZ s m hs hm)) (by omega) fun r hr1 => ?_⟩
    refine loop_0 (fun n' i (b' : Nat → Int32) => wX_passThrough__otherTable_25 post (wX_passThrough__otherTable_2 post (nI m) y f_queueStart f_queueLength f_leastTop f_leastBottom n) (nI m) y (nI s) r f_queueStart f_queueLength f_leastTop f_leastBottom n' (nI i) a_arcThere a_arcFrom a_arcTo a_arcWeight a_table b' a_squared a_levels a_setCells a_onRingBelowZero a_queue a_queued a_arcsUsed) (fun i b' => ∀ s' t', s' < 7 → t' < 7 → (b' (7 * s' + t')).toInt = if s' < s ∨ (s' = s ∧ t' < i) then gr_ps Z m y.toInt s' t' else Z s' t') 7 b ?_ ?_ ?_
    · intro s' t' hs' ht'
      rw [hb s' t' hs' ht']
      split <;> split <;> first | rfl | omega
    · intro n' b' hb'
      refine br_t (nI_le (Nat.le_refl 7) (by decide)) ?_
      rw [nI_1]
      refine nm_e (hn b' fun s' t' hs' ht' => ?_)
      rw [hb' s' t' hs' ht']
      split <;> split <;> first | rfl | omega
    · intro n' t b' ht hb' hn'
      have ct : (nI (7 * m + t)).toNatClampNeg = 7 * m + t := nI_clamp (by omega)
      have cs : (nI (7 * s + t)).toNatClampNeg = 7 * s + t := nI_clamp (by omega)
      have vs : vp_in (nI (7 * s + t)) 49 := vp_in_nI (by omega) (by decide)
      have e3 : (b' (7 * s + t)).toInt = Z s t := by rw [hb' s t hs ht, if_neg (by omega)]
      have e2 : gr_j r.toInt (b' (7 * m + t)).toInt = gr_j (gr_j (Z s m) y.toInt) (Z m t) ∧ -1000000 ≤ (b' (7 * m + t)).toInt ∧ (b' (7 * m + t)).toInt ≤ 1000000 := by
        rw [hr1, hb' m t hm ht]
        split
        · exact ⟨gr_psr hrZ hm hs ht hy', gr_psrg (hrZ m m hm hm) (hrZ m t hm ht) hy'⟩
        · exact ⟨rfl, gr_rgr (hrZ m t hm ht)⟩
      refine br_f (nI_ge (b := 7) ht (by decide)) ?_
      simp only [hp_ix, ct, cs, nI_1]
      refine ⟨vp_in_nI (by omega) (by decide), hx_jE rfl rfl (by rw [hr1]; exact gr_jrg (hrZ s m hs hm) ry) e2.2 fun q hq => ⟨vs, ?_⟩⟩
      rw [e2.1] at hq
      refine br_c (fun c => nm_e (hn' b' fun s' t' hs' ht' => ?_)) (fun c => ⟨vs, nm_e (nm_e (hn' _ fun s' t' hs' ht' => ?_))⟩)
      · rw [hp_le, hq, e3] at c
        rw [hb' s' t' hs' ht']
        by_cases e : s' = s ∧ t' = t
        · obtain ⟨rfl, rfl⟩ := e
          rw [if_neg (by omega), if_pos (by omega)]
          unfold gr_ps
          rw [if_neg (by omega)]
        · split <;> split <;> first | rfl | omega
      · rw [hp_le, hq, e3] at c
        rw [hx_ut, hb' s' t' hs' ht']
        by_cases e : s' = s ∧ t' = t
        · obtain ⟨rfl, rfl⟩ := e
          rw [if_pos rfl, if_pos (by omega), hq]
          unfold gr_ps
          rw [if_pos (by omega)]
        · rw [if_neg (by omega)]
          split <;> split <;> first | rfl | omega
theorem hx_fillByMiddle_otherTable {post : SX → Prop} {f_queueStart f_queueLength f_leastTop f_leastBottom : Int32} {a_arcThere a_arcFrom a_arcTo a_arcWeight a_table a_otherTable a_squared a_levels a_setCells a_onRingBelowZero a_queue a_queued a_arcsUsed : Nat → Int32} (ok : hx_ok a_arcThere a_arcFrom a_arcTo a_arcWeight) (h : ∀ b : Nat → Int32, (∀ s t, s < 7 → t < 7 → gr_Ans (hx_A a_arcThere a_arcFrom a_arcTo a_arcWeight) s t (gr_cv (b (7 * s + t)).toInt)) → post (f_queueStart, f_queueLength, f_leastTop, f_leastBottom, a_arcThere, a_arcFrom, a_arcTo, a_arcWeight, a_table, b, a_squared, a_levels, a_setCells, a_onRingBelowZero, a_queue, a_queued, a_arcsUsed)) : wpX_fillByMiddlePoints__otherTable post (f_queueStart, f_queueLength, f_leastTop, f_leastBottom, a_arcThere, a_arcFrom, a_arcTo, a_arcWeight, a_table, a_otherTable, a_squared, a_levels, a_setCells, a_onRingBelowZero, a_queue, a_queued, a_arcsUsed) := by
  have gok := hx_grok ok
  unfold wpX_fillByMiddlePoints__otherTable
  refine hx_startWithArcs_otherTable ok fun b0 h1 h2 h3 => ?_
  refine loop_0 (fun n i (b : Nat → Int32) => wX_fillByMiddlePoints__otherTable_7 post n (nI i) f_queueStart f_queueLength f_leastTop f_leastBottom a_arcThere a_arcFrom a_arcTo a_arcWeight a_table b a_squared a_levels a_setCells a_onRingBelowZero a_queue a_queued a_arcsUsed) (fun i b => gr_E1 (hx_A a_arcThere a_arcFrom a_arcTo a_arcWeight) i (2 ^ i) (fun s t => (b (7 * s + t)).toInt)) 7 b0 ?_ ?_ ?_
  · exact gr_E10 h1 h2 h3 gok
  · intro n b hb
    exact br_t (nI_le (Nat.le_refl 7) (by decide)) (h b (gr_E1f gok (by decide) hb))
  · intro n i b hi hb hn
    have ck : (nI (7 * i + i)).toNatClampNeg = 7 * i + i := nI_clamp (by omega)
    have p2 : 2 ^ i ≤ 2 ^ 6 := Nat.pow_le_pow_right (by decide) (by omega)
    have es : 2 ^ (i + 1) = 2 ^ i + 2 ^ i := by
      rw [Nat.pow_succ]
      omega
    have rg : ∀ s t, s < 7 → t < 7 → gr_rg (b (7 * s + t)).toInt := fun s t hs ht => gr_Cr gok (by omega) (hb.1 s t hs ht)
    have go : ∀ y : Int32, y.toInt = (if (b (7 * i + i)).toInt < 0 then -1000000 else 0) → wX_fillByMiddlePoints__otherTable_30 post (wX_fillByMiddlePoints__otherTable_7 post n) (nI i) y f_queueStart f_queueLength f_leastTop f_leastBottom a_arcThere a_arcFrom a_arcTo a_arcWeight a_table b a_squared a_levels a_setCells a_onRingBelowZero a_queue a_queued a_arcsUsed := by
      intro y hy
      have d0 : (b (7 * i + i)).toInt ≤ 0 := hb.2.1 i hi
      unfold wX_fillByMiddlePoints__otherTable_30
      refine hx_pass_otherTable hi rg ?_ fun b' hb' => ?_
      · by_cases c : (b (7 * i + i)).toInt < 0
        · rw [if_pos c] at hy
          exact Or.inl hy
        · rw [if_neg c] at hy
          exact Or.inr ⟨hy, by omega⟩
      · dsimp only
        rw [nI_1]
        refine nm_e (hn b' ?_)
        show gr_E1 _ (i + 1) (2 ^ (i + 1)) _
        rw [es]
        exact gr_E1s gok hi (by omega) hb y.toInt hy hb'
    refine br_f (nI_ge (b := 7) hi (by decide)) ?_
    rw [hp_ix, ck]
    refine ⟨vp_in_nI (by omega) (by decide), br_c (fun c => go 0 ?_) (fun c => go (-1000000) ?_)⟩
    · rw [hp_le, hp_0] at c
      rw [if_neg (by omega), hp_0]
    · rw [hp_le, hp_0] at c
      rw [if_pos (by omega), hp_D]
theorem hx_join_otherTable {post : SX → Prop} {f_queueStart f_queueLength f_leastTop f_leastBottom : Int32} {a_arcThere a_arcFrom a_arcTo a_arcWeight a_table a_otherTable a_squared a_levels a_setCells a_onRingBelowZero a_queue a_queued a_arcsUsed : Nat → Int32} (hr : ∀ s t, s < 7 → t < 7 → gr_rg (a_otherTable (7 * s + t)).toInt) (h : ∀ b sq : Nat → Int32, (∀ s t, s < 7 → t < 7 → (∀ m, m < 7 → (b (7 * s + t)).toInt ≤ gr_j (a_otherTable (7 * s + m)).toInt (a_otherTable (7 * m + t)).toInt) ∧ ((b (7 * s + t)).toInt = 1000000 ∨ ∃ m, m < 7 ∧ (b (7 * s + t)).toInt = gr_j (a_otherTable (7 * s + m)).toInt (a_otherTable (7 * m + t)).toInt)) → post (f_queueStart, f_queueLength, f_leastTop, f_leastBottom, a_arcThere, a_arcFrom, a_arcTo, a_arcWeight, a_table, b, sq, a_levels, a_setCells, a_onRingBelowZero, a_queue, a_queued, a_arcsUsed)) : wpX_joinWithItself__otherTable post (f_queueStart, f_queueLength, f_leastTop, f_leastBottom, a_arcThere, a_arcFrom, a_arcTo, a_arcWeight, a_table, a_otherTable, a_squared, a_levels, a_setCells, a_onRingBelowZero, a_queue, a_queued, a_arcsUsed) := by
  have last : ∀ sq : Nat → Int32, (∀ s t, s < 7 → t < 7 → (∀ m, m < 7 → (sq (7 * s + t)).toInt ≤ gr_j (a_otherTable (7 * s + m)).toInt (a_otherTable (7 * m + t)).toInt) ∧ ((sq (7 * s + t)).toInt = 1000000 ∨ ∃ m, m < 7 ∧ (sq (7 * s + t)).toInt = gr_j (a_otherTable (7 * s + m)).toInt (a_otherTable (7 * m + t)).toInt)) → ∃ n, wX_joinWithItself__otherTable_97 post f_queueStart f_queueLength f_leastTop f_leastBottom n 0 a_arcThere a_arcFrom a_arcTo a_arcWeight a_table a_otherTable sq a_levels a_setCells a_onRingBelowZero a_queue a_queued a_arcsUsed := by
    intro sq hsq
    refine loop_0 (fun n i (b : Nat → Int32) => wX_joinWithItself__otherTable_97 post f_queueStart f_queueLength f_leastTop f_leastBottom n (nI i) a_arcThere a_arcFrom a_arcTo a_arcWeight a_table b sq a_levels a_setCells a_onRingBelowZero a_queue a_queued a_arcsUsed) (fun i b => ∀ j, j < i → b j = sq j) 49 a_otherTable (fun j hj => absurd hj (by omega)) ?_ ?_
    · intro n b hb
      refine br_t (nI_le (Nat.le_refl 49) (by decide)) (h b sq fun s t hs ht => ?_)
      rw [hb _ (by omega)]
      exact hsq s t hs ht
    · intro n i b hi hb hn
      have ck : (nI i).toNatClampNeg = i := nI_clamp (by omega)
      have vi : vp_in (nI i) 49 := vp_in_nI hi (by decide)
      refine br_f (nI_ge (b := 49) hi (by decide)) ?_
      rw [ck, nI_1]
      refine ⟨vi, vi, nm_e (nm_e (hn _ fun j hj => ?_))⟩
      by_cases e : j = i
      · subst e
        exact pk_us
      · rw [pk_un e]
        exact hb j (by omega)
  refine loop_0 (fun n i (sq : Nat → Int32) => wX_joinWithItself__otherTable_2 post f_queueStart f_queueLength f_leastTop f_leastBottom n (nI i) a_arcThere a_arcFrom a_arcTo a_arcWeight a_table a_otherTable sq a_levels a_setCells a_onRingBelowZero a_queue a_queued a_arcsUsed) (fun i sq => ∀ s t, s < i → t < 7 → (∀ m, m < 7 → (sq (7 * s + t)).toInt ≤ gr_j (a_otherTable (7 * s + m)).toInt (a_otherTable (7 * m + t)).toInt) ∧ ((sq (7 * s + t)).toInt = 1000000 ∨ ∃ m, m < 7 ∧ (sq (7 * s + t)).toInt = gr_j (a_otherTable (7 * s + m)).toInt (a_otherTable (7 * m + t)).toInt)) 7 a_squared (fun s t hs => absurd hs (by omega)) ?_ ?_
  · intro n sq hsq
    exact br_t (nI_le (Nat.le_refl 7) (by decide)) (last sq fun s t hs ht => hsq s t hs ht)
  · intro n s sq hs hsq hn
    refine br_f (nI_ge (b := 7) hs (by decide)) ?_
    refine loop_0 (fun n' i (sq' : Nat → Int32) => wX_joinWithItself__otherTable_10 post (wX_joinWithItself__otherTable_2 post f_queueStart f_queueLength f_leastTop f_leastBottom n) (nI s) f_queueStart f_queueLength f_leastTop f_leastBottom n' (nI i) a_arcThere a_arcFrom a_arcTo a_arcWeight a_table a_otherTable sq' a_levels a_setCells a_onRingBelowZero a_queue a_queued a_arcsUsed) (fun i sq' => ∀ s' t, (s' < s ∨ (s' = s ∧ t < i)) → t < 7 → (∀ m, m < 7 → (sq' (7 * s' + t)).toInt ≤ gr_j (a_otherTable (7 * s' + m)).toInt (a_otherTable (7 * m + t)).toInt) ∧ ((sq' (7 * s' + t)).toInt = 1000000 ∨ ∃ m, m < 7 ∧ (sq' (7 * s' + t)).toInt = gr_j (a_otherTable (7 * s' + m)).toInt (a_otherTable (7 * m + t)).toInt)) 7 sq (fun s' t hs' ht => hsq s' t (by omega) ht) ?_ ?_
    · intro n' sq' hsq'
      refine br_t (nI_le (Nat.le_refl 7) (by decide)) ?_
      rw [nI_1]
      exact nm_e (hn sq' fun s' t hs' ht => hsq' s' t (by omega) ht)
    · intro n' t sq' ht hsq' hn'
      refine br_f (nI_ge (b := 7) ht (by decide)) ?_
      refine loop_0 (fun n2 i (r : Int32) => wX_joinWithItself__otherTable_23 post (wX_joinWithItself__otherTable_2 post f_queueStart f_queueLength f_leastTop f_leastBottom n) (wX_joinWithItself__otherTable_10 post (wX_joinWithItself__otherTable_2 post f_queueStart f_queueLength f_leastTop f_leastBottom n) (nI s) f_queueStart f_queueLength f_leastTop f_leastBottom n') (nI s) (nI t) f_queueStart f_queueLength f_leastTop f_leastBottom a_arcThere a_arcFrom a_arcTo a_arcWeight a_table a_otherTable sq' a_levels a_setCells a_onRingBelowZero a_queue a_queued a_arcsUsed n2 r (nI i)) (fun i r => (∀ m, m < i → r.toInt ≤ gr_j (a_otherTable (7 * s + m)).toInt (a_otherTable (7 * m + t)).toInt) ∧ (r.toInt = 1000000 ∨ ∃ m, m < 7 ∧ r.toInt = gr_j (a_otherTable (7 * s + m)).toInt (a_otherTable (7 * m + t)).toInt)) 7 1000000 ⟨fun m hm => absurd hm (by omega), Or.inl hp_F⟩ ?_ ?_
      · intro n2 r hr2
        have cs : (nI (7 * s + t)).toNatClampNeg = 7 * s + t := nI_clamp (by omega)
        refine br_t (nI_le (Nat.le_refl 7) (by decide)) ?_
        rw [hp_ix, cs, nI_1]
        refine ⟨vp_in_nI (by omega) (by decide), nm_e (nm_e (hn' _ fun s' t' hs' ht' => ?_))⟩
        by_cases e : s' = s ∧ t' = t
        · obtain ⟨rfl, rfl⟩ := e
          rw [pk_us]
          exact hr2
        · rw [pk_un (by omega)]
          exact hsq' s' t' (by omega) ht'
      · intro n2 i r hi hr2 hn2
        have c1 : (nI (7 * s + i)).toNatClampNeg = 7 * s + i := nI_clamp (by omega)
        have c2 : (nI (7 * i + t)).toNatClampNeg = 7 * i + t := nI_clamp (by omega)
        refine br_f (nI_ge (b := 7) hi (by decide)) ?_
        simp only [hp_ix, c1, c2, nI_1]
        refine ⟨vp_in_nI (by omega) (by decide), vp_in_nI (by omega) (by decide), hx_jE rfl rfl (gr_rgr (hr s i hs hi)) (gr_rgr (hr i t hi ht)) fun q hq => br_c (fun c => nm_e (hn2 r ⟨fun m hm => ?_, hr2.2⟩)) (fun c => nm_e (hn2 q ⟨fun m hm => ?_, Or.inr ⟨i, hi, hq⟩⟩))⟩
        · rw [hp_le, hq] at c
          by_cases e : m = i
          · subst e
            exact c
          · exact hr2.1 m (by omega)
        · rw [hp_le, hq] at c
          rw [hq]
          by_cases e : m = i
          · subst e
            exact Int.le_refl _
          · have := hr2.1 m (by omega)
            omega
theorem hx_fillBySquaring_otherTable {post : SX → Prop} {f_queueStart f_queueLength f_leastTop f_leastBottom : Int32} {a_arcThere a_arcFrom a_arcTo a_arcWeight a_table a_otherTable a_squared a_levels a_setCells a_onRingBelowZero a_queue a_queued a_arcsUsed : Nat → Int32} (ok : hx_ok a_arcThere a_arcFrom a_arcTo a_arcWeight) (h : ∀ b sq : Nat → Int32, (∀ s t, s < 7 → t < 7 → gr_Ans (hx_A a_arcThere a_arcFrom a_arcTo a_arcWeight) s t (gr_cv (b (7 * s + t)).toInt)) → post (f_queueStart, f_queueLength, f_leastTop, f_leastBottom, a_arcThere, a_arcFrom, a_arcTo, a_arcWeight, a_table, b, sq, a_levels, a_setCells, a_onRingBelowZero, a_queue, a_queued, a_arcsUsed)) : wpX_fillBySquaring__otherTable post (f_queueStart, f_queueLength, f_leastTop, f_leastBottom, a_arcThere, a_arcFrom, a_arcTo, a_arcWeight, a_table, a_otherTable, a_squared, a_levels, a_setCells, a_onRingBelowZero, a_queue, a_queued, a_arcsUsed) := by
  have gok := hx_grok ok
  unfold wpX_fillBySquaring__otherTable
  refine hx_startWithArcs_otherTable ok fun b0 h1 h2 h3 => ?_
  refine loop_0 (fun n i (b : (Nat → Int32) × (Nat → Int32)) => wX_fillBySquaring__otherTable_7 post n (nI i) f_queueStart f_queueLength f_leastTop f_leastBottom a_arcThere a_arcFrom a_arcTo a_arcWeight a_table b.1 b.2 a_levels a_setCells a_onRingBelowZero a_queue a_queued a_arcsUsed) (fun i b => gr_E2 (hx_A a_arcThere a_arcFrom a_arcTo a_arcWeight) (2 ^ i) (2 ^ i) (fun s t => (b.1 (7 * s + t)).toInt) ∧ (1 ≤ i → ∀ p, p < 7 → (b.1 (7 * p + p)).toInt < 0 → (b.1 (7 * p + p)).toInt = -1000000) ∧ (i = 4 → ∃ Z3, gr_E2 (hx_A a_arcThere a_arcFrom a_arcTo a_arcWeight) 8 8 Z3 ∧ (∀ p, p < 7 → Z3 p p < 0 → Z3 p p = -1000000) ∧ ∀ s t, s < 7 → t < 7 → ∀ m, m < 7 → (b.1 (7 * s + t)).toInt ≤ gr_j (Z3 s m) (Z3 m t)) ∧ (i = 5 → ∃ Z3 Z4, gr_E2 (hx_A a_arcThere a_arcFrom a_arcTo a_arcWeight) 8 8 Z3 ∧ (∀ p, p < 7 → Z3 p p < 0 → Z3 p p = -1000000) ∧ gr_E2 (hx_A a_arcThere a_arcFrom a_arcTo a_arcWeight) 16 16 Z4 ∧ (∀ s t, s < 7 → t < 7 → ∀ m, m < 7 → Z4 s t ≤ gr_j (Z3 s m) (Z3 m t)) ∧ ∀ s t, s < 7 → t < 7 → ∀ m, m < 7 → (b.1 (7 * s + t)).toInt ≤ gr_j (Z4 s m) (Z4 m t))) 5 (b0, a_squared) ?_ ?_ ?_
  · refine ⟨⟨h1, fun s t n c hs hn g => ?_⟩, fun z => absurd z (by decide), fun z => absurd z (by decide), fun z => absurd z (by decide)⟩
    cases n with
    | zero =>
      obtain ⟨rfl, rfl⟩ := g
      exact h2 s hs
    | succ n =>
      have n0 : n = 0 := by
        have : 2 ^ 0 = 1 := rfl
        omega
      subst n0
      obtain ⟨u, c', x, ⟨rfl, rfl⟩, a, rfl⟩ := g
      have := h3 _ _ _ a
      show (b0 (7 * s + t)).toInt ≤ 0 + x
      omega
  · intro n b hb
    obtain ⟨Z3, Z4, g1, g2, g3, g4, g5⟩ := hb.2.2.2 rfl
    exact br_t (nI_le (Nat.le_refl 5) (by decide)) (h b.1 b.2 (gr_E2f gok g1 g2 g3 hb.1 g4 g5))
  · intro n i b hi hb hn
    have p2 : 2 ^ i ≤ 2 ^ 4 := Nat.pow_le_pow_right (by decide) (by omega)
    have es : 2 ^ (i + 1) = 2 ^ i + 2 ^ i := by
      rw [Nat.pow_succ]
      omega
    have rg : ∀ s t, s < 7 → t < 7 → gr_rg (b.1 (7 * s + t)).toInt := fun s t hs ht => gr_Cr gok (by omega) (hb.1.1 s t hs ht)
    refine br_f (nI_ge (b := 5) hi (by decide)) ?_
    refine hx_join_otherTable rg fun b1 sq hb1 => ?_
    refine loop_0 (fun n' j (b2 : Nat → Int32) => wX_fillBySquaring__otherTable_19 post (wX_fillBySquaring__otherTable_7 post n) (nI i) f_queueStart f_queueLength f_leastTop f_leastBottom n' (nI j) a_arcThere a_arcFrom a_arcTo a_arcWeight a_table b2 sq a_levels a_setCells a_onRingBelowZero a_queue a_queued a_arcsUsed) (fun j b2 => ∀ s t, s < 7 → t < 7 → (b2 (7 * s + t)).toInt = if s = t ∧ s < j ∧ (b1 (7 * s + t)).toInt < 0 then -1000000 else (b1 (7 * s + t)).toInt) 7 b1 ?_ ?_ ?_
    · intro s t hs ht
      rw [if_neg (by omega)]
    · intro n' b2 hb2
      refine br_t (nI_le (Nat.le_refl 7) (by decide)) ?_
      rw [nI_1]
      have low : ∀ s t, s < 7 → t < 7 → ∀ m, m < 7 → (b2 (7 * s + t)).toInt ≤ gr_j (b.1 (7 * s + m)).toInt (b.1 (7 * m + t)).toInt := by
        intro s t hs ht m hm
        have k1 := (hb1 s t hs ht).1 m hm
        have k2 := @gr_jc (b.1 (7 * s + m)).toInt (b.1 (7 * m + t)).toInt
        have k3 := rg s m hs hm
        have k4 := rg m t hm ht
        unfold gr_rg at k3 k4
        rw [hb2 s t hs ht]
        split <;> omega
      refine nm_e (hn (b2, sq) ⟨?_, fun _ p hp hl => ?_, fun e => ⟨fun s t => (b.1 (7 * s + t)).toInt, ?_, hb.2.1 (by omega), low⟩, fun e => ?_⟩)
      · rw [es]
        refine gr_E2s gok (by omega) (by omega) hb.1 fun s t hs ht => ⟨low s t hs ht, ?_⟩
        show (b2 (7 * s + t)).toInt = _ ∨ (_ ∧ (b2 (7 * s + t)).toInt = _ ∧ _) ∨ ∃ m, m < 7 ∧ (b2 (7 * s + t)).toInt = _
        rw [hb2 s t hs ht]
        by_cases c : s = t ∧ s < 7 ∧ (b1 (7 * s + t)).toInt < 0
        · rw [if_pos c]
          refine Or.inr (Or.inl ⟨c.1, rfl, ?_⟩)
          rcases (hb1 s t hs ht).2 with e | ⟨m, hm, e⟩
          · omega
          · exact ⟨m, hm, by omega⟩
        · rw [if_neg c]
          rcases (hb1 s t hs ht).2 with e | e
          · exact Or.inl e
          · exact Or.inr (Or.inr e)
      · have := hb2 p p hp hp
        dsimp only at hl ⊢
        rw [this] at hl ⊢
        by_cases c : p = p ∧ p < 7 ∧ (b1 (7 * p + p)).toInt < 0
        · rw [if_pos c]
        · rw [if_neg c] at hl
          exact absurd ⟨rfl, hp, hl⟩ c
      · have e3 : i = 3 := by omega
        have := hb.1
        rw [e3] at this
        exact this
      · have e4 : i = 4 := by omega
        obtain ⟨Z3, g1, g2, g3⟩ := hb.2.2.1 e4
        have := hb.1
        rw [e4] at this
        exact ⟨Z3, _, g1, g2, this, g3, low⟩
    · intro n' j b2 hj hb2 hn'
      have ck : (nI (7 * j + j)).toNatClampNeg = 7 * j + j := nI_clamp (by omega)
      have vj : vp_in (nI (7 * j + j)) 49 := vp_in_nI (by omega) (by decide)
      have ej : (b2 (7 * j + j)).toInt = (b1 (7 * j + j)).toInt := by rw [hb2 j j hj hj, if_neg (by omega)]
      refine br_f (nI_ge (b := 7) hj (by decide)) ?_
      rw [hp_ix, ck, nI_1]
      refine ⟨vj, br_c (fun c => nm_e (hn' b2 fun s t hs ht => ?_)) (fun c => ⟨vj, nm_e (nm_e (hn' _ fun s t hs ht => ?_))⟩)⟩
      · rw [hp_le, hp_0, ej] at c
        rw [hb2 s t hs ht]
        by_cases e : s = t ∧ s = j
        · obtain ⟨rfl, rfl⟩ := e
          rw [if_neg (by omega), if_neg (by omega)]
        · by_cases e2 : s = t ∧ s < j ∧ (b1 (7 * s + t)).toInt < 0
          · rw [if_pos e2, if_pos (by omega)]
          · rw [if_neg e2, if_neg (by omega)]
      · rw [hp_le, hp_0, ej] at c
        rw [hx_ut, hb2 s t hs ht, hp_D]
        by_cases e : s = t ∧ s = j
        · obtain ⟨rfl, rfl⟩ := e
          rw [if_pos rfl, if_pos (by omega)]
        · rw [if_neg (by omega)]
          by_cases e2 : s = t ∧ s < j ∧ (b1 (7 * s + t)).toInt < 0
          · rw [if_pos e2, if_pos (by omega)]
          · rw [if_neg e2, if_neg (by omega)]
