/-! the component: levels and means -/
def hx_lv (A : Nat → Nat → Int → Prop) (S : Nat → Prop) (b : Nat → Int32) : Prop := ∀ l v, l < 8 → v < 7 → gr_mn 1000000 (gr_V A S l v) (b (7 * l + v)).toInt
theorem hx_higher {post : SX → Prop} {f_queueStart f_queueLength f_leastTop f_leastBottom : Int32} {a_arcThere a_arcFrom a_arcTo a_arcWeight a_table a_otherTable a_squared a_levels a_setCells a_onRingBelowZero a_queue a_queued a_arcsUsed : Nat → Int32} (ok : hx_ok a_arcThere a_arcFrom a_arcTo a_arcWeight) {S : Nat → Prop} (h0 : ∀ v, v < 7 → (S v ∧ (a_levels v).toInt = 0) ∨ (¬ S v ∧ (a_levels v).toInt = 1000000)) (h : ∀ b : Nat → Int32, hx_lv (hx_A a_arcThere a_arcFrom a_arcTo a_arcWeight) S b → post (f_queueStart, f_queueLength, f_leastTop, f_leastBottom, a_arcThere, a_arcFrom, a_arcTo, a_arcWeight, a_table, a_otherTable, a_squared, b, a_setCells, a_onRingBelowZero, a_queue, a_queued, a_arcsUsed)) : wpX_fillHigherLevels post (f_queueStart, f_queueLength, f_leastTop, f_leastBottom, a_arcThere, a_arcFrom, a_arcTo, a_arcWeight, a_table, a_otherTable, a_squared, a_levels, a_setCells, a_onRingBelowZero, a_queue, a_queued, a_arcsUsed) := by
  have gok := hx_grok ok
  have second : ∀ b0 : Nat → Int32, (∀ v, v < 7 → b0 v = a_levels v) → (∀ j, 7 ≤ j → j < 56 → (b0 j).toInt = 1000000) → ∃ n, wX_fillHigherLevels_25 post f_queueStart f_queueLength f_leastTop f_leastBottom n 1 a_arcThere a_arcFrom a_arcTo a_arcWeight a_table a_otherTable a_squared b0 a_setCells a_onRingBelowZero a_queue a_queued a_arcsUsed := by
    intro b0 hb1 hb2
    refine pk_loop (fun n i (b : Nat → Int32) => wX_fillHigherLevels_25 post f_queueStart f_queueLength f_leastTop f_leastBottom n (nI i) a_arcThere a_arcFrom a_arcTo a_arcWeight a_table a_otherTable a_squared b a_setCells a_onRingBelowZero a_queue a_queued a_arcsUsed) (fun i b => 1 ≤ i ∧ ∀ l v, l < 8 → v < 7 → gr_mn 1000000 (gr_PL (hx_K a_arcThere a_arcFrom a_arcTo a_arcWeight) S (20 * (i - 1)) l v) (b (7 * l + v)).toInt) 8 1 b0 (by decide) ⟨Nat.le_refl 1, fun l v hl hv => ?_⟩ ?_ ?_
    · cases l with
      | zero =>
        have e : 7 * 0 + v = v := by omega
        rw [e, hb1 v hv]
        rcases h0 v hv with ⟨g1, g2⟩ | ⟨g1, g2⟩
        · rw [g2]
          exact Or.inr ⟨by decide, ⟨g1, rfl⟩, fun c hc => by have := hc.2; omega⟩
        · rw [g2]
          exact Or.inl ⟨rfl, fun c hc => g1 hc.1⟩
      | succ l =>
        rw [hb2 _ (by omega) (by omega)]
        exact Or.inl ⟨rfl, fun c hc => gr_PL0 (by omega) hc⟩
    · rintro n b ⟨_, hb⟩
      refine br_t (nI_lt (a := 7) (b := 8) (by decide) (by decide)) (h b fun l v hl hv => ?_)
      exact gr_mnC (fun c => (gr_PLf (by omega)).symm) (hb l v hl hv)
    · rintro n i' b hi ⟨i1, hb⟩ hn
      obtain ⟨i, rfl⟩ : ∃ i, i' = i + 1 := ⟨i' - 1, by omega⟩
      have ei : i + 1 - 1 = i := by omega
      rw [ei] at hb
      refine br_f (nI_nlt (a := 7) (b := i + 1) (by omega) (by decide)) ?_
      refine loop_0 (fun n' j (b' : Nat → Int32) => wX_fillHigherLevels_33 post (wX_fillHigherLevels_25 post f_queueStart f_queueLength f_leastTop f_leastBottom n) (nI (i + 1)) f_queueStart f_queueLength f_leastTop f_leastBottom n' (nI j) a_arcThere a_arcFrom a_arcTo a_arcWeight a_table a_otherTable a_squared b' a_setCells a_onRingBelowZero a_queue a_queued a_arcsUsed) (fun j b' => ∀ l v, l < 8 → v < 7 → gr_mn 1000000 (gr_PL (hx_K a_arcThere a_arcFrom a_arcTo a_arcWeight) S (20 * i + j) l v) (b' (7 * l + v)).toInt) 20 b hb ?_ ?_
      · intro n' b' hb'
        refine br_t (nI_le (Nat.le_refl 20) (by decide)) ?_
        rw [nI_1]
        refine nm_e (hn b' ⟨by omega, ?_⟩)
        have e : 20 * (i + 1 + 1 - 1) = 20 * i + 20 := by omega
        rw [e]
        exact hb'
      · intro n' j b' hj hb' hn'
        obtain ⟨u, v, x, hu, hv, eu, ev, ew, hx1, hx2, hk0, hk1⟩ := hx_arc ok hj
        have ck : (nI j).toNatClampNeg = j := nI_clamp (by omega)
        have cu : (nI (7 * i + u)).toNatClampNeg = 7 * i + u := nI_clamp (by omega)
        have cv : (nI (7 * (i + 1) + v)).toNatClampNeg = 7 * (i + 1) + v := nI_clamp (by omega)
        have vj : vp_in (nI j) 20 := vp_in_nI hj (by decide)
        have vu : vp_in (nI (7 * i + u)) 56 := vp_in_nI (by omega) (by decide)
        have vv : vp_in (nI (7 * (i + 1) + v)) 56 := vp_in_nI (by omega) (by decide)
        have rV := gr_lvr gok (by omega) (hb' i u (by omega) hu)
        have rT := gr_lvr gok (by omega) (hb' (i + 1) v (by omega) hv)
        refine br_f (nI_ge (b := 20) hj (by decide)) ?_
        simp only [ck, eu, ev, nI_pred, hp_ix, cu, nI_1 j]
        refine ⟨vj, br_c (fun t0 => nm_e (hn' b' (gr_lev0 hj (hk0 t0) (z := fun l v => (b' (7 * l + v)).toInt) hb'))) (fun t0 => ⟨vj, vu, nm_e ⟨vj, nm_e ?_⟩⟩)⟩
        obtain ⟨kk, ha⟩ := hk1 t0
        have nop : ((b' (7 * i + u)).toInt = 1000000 ∨ ((b' (7 * (i + 1) + v)).toInt ≠ 1000000 ∧ (b' (7 * (i + 1) + v)).toInt ≤ (b' (7 * i + u)).toInt + x)) → wX_fillHigherLevels_33 post (wX_fillHigherLevels_25 post f_queueStart f_queueLength f_leastTop f_leastBottom n) (nI (i + 1)) f_queueStart f_queueLength f_leastTop f_leastBottom n' (nI (j + 1)) a_arcThere a_arcFrom a_arcTo a_arcWeight a_table a_otherTable a_squared b' a_setCells a_onRingBelowZero a_queue a_queued a_arcsUsed := by
          intro hh
          exact hn' b' (gr_lev1 hj (by omega) kk hu hv (z := fun l v => (b' (7 * l + v)).toInt) (z' := fun l v => (b' (7 * l + v)).toInt) hb' (fun _ _ _ _ _ => rfl) (fun hne => by omega) (Or.inr ⟨hh, rfl⟩))
        simp only [cv]
        refine br_c (fun c1 => nm_e (nop (Or.inl ?_))) (fun c1 => ⟨vj, vv, ?_⟩)
        · rw [hp_eq, hp_F] at c1
          exact c1
        rw [hp_eq, hp_F] at c1
        have es : (b' (7 * i + u) + a_arcWeight j).toInt = (b' (7 * i + u)).toInt + x := hp_add rfl ew (by omega) (by omega)
        refine br_c (fun c2 => nm_e (nop (Or.inr ?_))) (fun c2 => ⟨vj, vv, nm_e (nm_e (hn' _ (gr_lev1 hj (by omega) kk hu hv (z := fun l v => (b' (7 * l + v)).toInt) (z' := fun l y => (upd b' (7 * (i + 1) + v) (b' (7 * i + u) + a_arcWeight j) (7 * l + y)).toInt) hb' (fun l y hl hy hne => ?_) (fun hne => by omega) (Or.inl ⟨c1, Or.inr ?_, ?_⟩))))⟩)
        · rw [hp_le, es] at c2
          exact ⟨by omega, c2⟩
        · rw [pk_un (by omega)]
        · rw [hp_le, es] at c2
          omega
        · rw [pk_us, es]
  refine pk_loop (fun n i (b : Nat → Int32) => wX_fillHigherLevels_3 post f_queueStart f_queueLength f_leastTop f_leastBottom n (nI i) a_arcThere a_arcFrom a_arcTo a_arcWeight a_table a_otherTable a_squared b a_setCells a_onRingBelowZero a_queue a_queued a_arcsUsed) (fun i b => 7 ≤ i ∧ (∀ v, v < 7 → b v = a_levels v) ∧ ∀ j, 7 ≤ j → j < i → (b j).toInt = 1000000) 56 7 a_levels (by decide) ⟨Nat.le_refl 7, fun v _ => rfl, fun j h1 h2 => absurd h2 (by omega)⟩ ?_ ?_
  · rintro n b ⟨_, hb1, hb2⟩
    exact br_t (nI_le (Nat.le_refl 56) (by decide)) (second b hb1 hb2)
  · rintro n i b hi ⟨i7, hb1, hb2⟩ hn
    have ck : (nI i).toNatClampNeg = i := nI_clamp (by omega)
    refine br_f (nI_ge (b := 56) hi (by decide)) ?_
    rw [ck, nI_1]
    refine ⟨vp_in_nI hi (by decide), nm_e (nm_e (hn _ ⟨by omega, fun v hv => ?_, fun j h1 h2 => ?_⟩))⟩
    · rw [pk_un (by omega)]
      exact hb1 v hv
    · rw [hx_ut, hp_F]
      by_cases e : j = i
      · rw [if_pos e]
      · rw [if_neg e]
        exact hb2 j h1 (by omega)
theorem hx_levelsFrom {post : SX → Prop} {f_queueStart f_queueLength f_leastTop f_leastBottom : Int32} {a_arcThere a_arcFrom a_arcTo a_arcWeight a_table a_otherTable a_squared a_levels a_setCells a_onRingBelowZero a_queue a_queued a_arcsUsed : Nat → Int32} (ok : hx_ok a_arcThere a_arcFrom a_arcTo a_arcWeight) {s : Nat} (hs : s < 7) (h : ∀ b : Nat → Int32, hx_lv (hx_A a_arcThere a_arcFrom a_arcTo a_arcWeight) (fun s' => s' = s) b → post (f_queueStart, f_queueLength, f_leastTop, f_leastBottom, a_arcThere, a_arcFrom, a_arcTo, a_arcWeight, a_table, a_otherTable, a_squared, b, a_setCells, a_onRingBelowZero, a_queue, a_queued, a_arcsUsed)) : wpX_fillLevelsFrom post (f_queueStart, f_queueLength, f_leastTop, f_leastBottom, a_arcThere, a_arcFrom, a_arcTo, a_arcWeight, a_table, a_otherTable, a_squared, a_levels, a_setCells, a_onRingBelowZero, a_queue, a_queued, a_arcsUsed) (nI s) := by
  refine loop_0 (fun n i (b : Nat → Int32) => wX_fillLevelsFrom_2 post (nI s) f_queueStart f_queueLength f_leastTop f_leastBottom n (nI i) a_arcThere a_arcFrom a_arcTo a_arcWeight a_table a_otherTable a_squared b a_setCells a_onRingBelowZero a_queue a_queued a_arcsUsed) (fun i b => ∀ j, j < i → (b j).toInt = 1000000) 7 a_levels (fun j hj => absurd hj (by omega)) ?_ ?_
  · intro n b hb
    have ck : (nI s).toNatClampNeg = s := nI_clamp (by omega)
    refine br_t (nI_le (Nat.le_refl 7) (by decide)) ?_
    rw [ck]
    refine ⟨vp_in_nI (by omega) (by decide), nm_e (hx_higher ok (S := fun s' => s' = s) (fun v hv => ?_) fun b' hb' => h b' hb')⟩
    rw [hx_ut, hp_0]
    by_cases e : v = s
    · exact Or.inl ⟨e, if_pos e⟩
    · rw [if_neg e]
      exact Or.inr ⟨e, hb v hv⟩
  · intro n i b hi hb hn
    have ck : (nI i).toNatClampNeg = i := nI_clamp (by omega)
    refine br_f (nI_ge (b := 7) hi (by decide)) ?_
    rw [ck, nI_1]
    refine ⟨vp_in_nI (by omega) (by decide), nm_e (nm_e (hn _ fun j hj => ?_))⟩
    rw [hx_ut, hp_F]
    by_cases e : j = i
    · rw [if_pos e]
    · rw [if_neg e]
      exact hb j (by omega)
theorem hx_levelsAny {post : SX → Prop} {f_queueStart f_queueLength f_leastTop f_leastBottom : Int32} {a_arcThere a_arcFrom a_arcTo a_arcWeight a_table a_otherTable a_squared a_levels a_setCells a_onRingBelowZero a_queue a_queued a_arcsUsed : Nat → Int32} (ok : hx_ok a_arcThere a_arcFrom a_arcTo a_arcWeight) (h : ∀ b : Nat → Int32, hx_lv (hx_A a_arcThere a_arcFrom a_arcTo a_arcWeight) (fun s' => s' < 7) b → post (f_queueStart, f_queueLength, f_leastTop, f_leastBottom, a_arcThere, a_arcFrom, a_arcTo, a_arcWeight, a_table, a_otherTable, a_squared, b, a_setCells, a_onRingBelowZero, a_queue, a_queued, a_arcsUsed)) : wpX_fillLevelsFromAnywhere post (f_queueStart, f_queueLength, f_leastTop, f_leastBottom, a_arcThere, a_arcFrom, a_arcTo, a_arcWeight, a_table, a_otherTable, a_squared, a_levels, a_setCells, a_onRingBelowZero, a_queue, a_queued, a_arcsUsed) := by
  refine loop_0 (fun n i (b : Nat → Int32) => wX_fillLevelsFromAnywhere_2 post f_queueStart f_queueLength f_leastTop f_leastBottom n (nI i) a_arcThere a_arcFrom a_arcTo a_arcWeight a_table a_otherTable a_squared b a_setCells a_onRingBelowZero a_queue a_queued a_arcsUsed) (fun i b => ∀ j, j < i → (b j).toInt = 0) 7 a_levels (fun j hj => absurd hj (by omega)) ?_ ?_
  · intro n b hb
    refine br_t (nI_le (Nat.le_refl 7) (by decide)) ?_
    exact hx_higher ok (S := fun s' => s' < 7) (fun v hv => Or.inl ⟨hv, hb v hv⟩) fun b' hb' => h b' hb'
  · intro n i b hi hb hn
    have ck : (nI i).toNatClampNeg = i := nI_clamp (by omega)
    refine br_f (nI_ge (b := 7) hi (by decide)) ?_
    rw [ck, nI_1]
    refine ⟨vp_in_nI (by omega) (by decide), nm_e (nm_e (hn _ fun j hj => ?_))⟩
    rw [hx_ut, hp_0]
    by_cases e : j = i
    · rw [if_pos e]
    · rw [if_neg e]
      exact hb j (by omega)
def hx_or (Of : Int → Int → Prop) : Prop := ∀ t b, Of t b → -1000 ≤ t ∧ t ≤ 1000 ∧ 1 ≤ b ∧ b ≤ 7
theorem hx_bstr {Of : Int → Int → Prop} {t b : Int} (hr : hx_or Of) (h : gr_bst Of t b) : -1000 ≤ t ∧ t ≤ 1000 ∧ 0 ≤ b ∧ b ≤ 7 := by
  rcases h with ⟨h1, h2, _⟩ | ⟨h1, h2, _⟩
  · omega
  · have := hr _ _ h2
    omega
theorem hx_offer {post : SX → Prop} {f_queueStart f_queueLength f_leastTop f_leastBottom : Int32} {a_arcThere a_arcFrom a_arcTo a_arcWeight a_table a_otherTable a_squared a_levels a_setCells a_onRingBelowZero a_queue a_queued a_arcsUsed : Nat → Int32} {Of : Int → Int → Prop} {t1 b1 : Int32} (hr : hx_or Of) (hb : gr_bst Of f_leastTop.toInt f_leastBottom.toInt) (ht : -1000 ≤ t1.toInt ∧ t1.toInt ≤ 1000) (hb1 : 1 ≤ b1.toInt ∧ b1.toInt ≤ 7) (h : ∀ t b : Int32, gr_bst (fun t b => Of t b ∨ (t = t1.toInt ∧ b = b1.toInt)) t.toInt b.toInt → post (f_queueStart, f_queueLength, t, b, a_arcThere, a_arcFrom, a_arcTo, a_arcWeight, a_table, a_otherTable, a_squared, a_levels, a_setCells, a_onRingBelowZero, a_queue, a_queued, a_arcsUsed)) : wpX_offerMean post (f_queueStart, f_queueLength, f_leastTop, f_leastBottom, a_arcThere, a_arcFrom, a_arcTo, a_arcWeight, a_table, a_otherTable, a_squared, a_levels, a_setCells, a_onRingBelowZero, a_queue, a_queued, a_arcsUsed) t1 b1 := by
  have r := hx_bstr hr hb
  have q1 : (f_leastTop * b1).toInt = f_leastTop.toInt * b1.toInt := hx_mul rfl rfl (by omega) (by omega)
  have q2 : (t1 * f_leastBottom).toInt = t1.toInt * f_leastBottom.toInt := hx_mul rfl rfl (by omega) (by omega)
  have hp : ∀ t b, Of t b → 1 ≤ b := fun t b o => (hr t b o).2.2.1
  refine br_c (fun c => h t1 b1 (gr_bstT hp (fun _ _ => Iff.rfl) hb hb1.1 (Or.inl ?_))) (fun c => br_c (fun c2 => h _ _ (gr_bstK (fun _ _ => Iff.rfl) hb ?_)) (fun c2 => h t1 b1 (gr_bstT hp (fun _ _ => Iff.rfl) hb hb1.1 (Or.inr ?_))))
  · rw [c, hp_0]
  · rw [hp_eq, hp_0] at c
    rw [hp_le, q1, q2] at c2
    omega
  · rw [hp_le, q1, q2] at c2
    omega
