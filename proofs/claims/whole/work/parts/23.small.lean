/-! the relation, and the methods that keep the arcs -/
/-- both sides hold the same arcs, within their ranges; nothing waits in the component's queue -/
def i_Rel (_ : Nat) (u : SX) (v : SY) : Prop := match u with
  | (f_queueStart, f_queueLength, f_leastTop, f_leastBottom, a_arcThere, a_arcFrom, a_arcTo, a_arcWeight, a_table, a_otherTable, a_squared, a_levels, a_setCells, a_onRingBelowZero, a_queue, a_queued, a_arcsUsed) => match v with
    | (f_top, f_bottom, f_ringPoints, a_there, a_froms, a_tos, a_weights, a_walks, a_ways) => a_arcThere = a_there ∧ a_arcFrom = a_froms ∧ a_arcTo = a_tos ∧ a_arcWeight = a_weights ∧ hx_ok a_arcThere a_arcFrom a_arcTo a_arcWeight ∧ ∀ p, p < 7 → a_queued p = 0
theorem i_up {k : Nat} {u : SX} {v : SY} (h : i_Rel k u v) : i_Rel (k + 4) u v := h
theorem i_vc0 : wpX_init (fun u => wpY_init (fun v => i_Rel 0 u v)) := by
  refine ⟨rfl, rfl, rfl, rfl, fun j _ => ⟨Or.inl rfl, ⟨0, by decide, rfl⟩, ⟨0, by decide, rfl⟩, ?_, ?_⟩, fun p _ => rfl⟩
  · show -20 ≤ (0 : Int32).toInt
    rw [hp_0]
    omega
  · show (0 : Int32).toInt ≤ 20
    rw [hp_0]
    omega
def hx_wt (w : Int32) : Prop := -20 ≤ w.toInt ∧ w.toInt ≤ 20
theorem hx_isWeight {post : Int32 → Prop} {p : Int32} (h0 : ¬ hx_wt p → post 0) (h1 : hx_wt p → post 1) : wpX_isWeight post p := by
  refine br_c (fun c => h0 fun z => ?_) (fun c => br_c (fun c2 => h0 fun z => ?_) (fun c2 => h1 ?_))
  · rw [hp_lt, hp_m20] at c
    have := z.1
    omega
  · rw [hp_lt, hp_20] at c2
    have := z.2
    omega
  · rw [hp_lt, hp_m20] at c
    rw [hp_lt, hp_20] at c2
    exact ⟨by omega, by omega⟩
theorem hy_isWeight {post : Int32 → Prop} {f_top f_bottom f_ringPoints : Int32} {a_there a_froms a_tos a_weights a_walks a_ways : Nat → Int32} {p : Int32} (h0 : ¬ hx_wt p → post 0) (h1 : hx_wt p → post 1) : wpY_isWeight post (f_top, f_bottom, f_ringPoints, a_there, a_froms, a_tos, a_weights, a_walks, a_ways) p := by
  refine br_c (fun c => h0 fun z => ?_) (fun c => br_c (fun c2 => h0 fun z => ?_) (fun c2 => h1 ?_))
  · rw [hp_lt, hp_m20] at c
    have := z.1
    omega
  · rw [hp_lt, hp_20] at c2
    have := z.2
    omega
  · rw [hp_lt, hp_m20] at c
    rw [hp_lt, hp_20] at c2
    exact ⟨by omega, by omega⟩
/-- k is the number of an arc that is there -/
def hx_ar (th : Nat → Int32) (p : Int32) : Prop := ∃ j, j < 20 ∧ p = nI j ∧ ¬ th j = 0
theorem hx_isArc {post : Int32 → Prop} {f_queueStart f_queueLength f_leastTop f_leastBottom : Int32} {a_arcThere a_arcFrom a_arcTo a_arcWeight a_table a_otherTable a_squared a_levels a_setCells a_onRingBelowZero a_queue a_queued a_arcsUsed : Nat → Int32} {p : Int32} (h0 : ¬ hx_ar a_arcThere p → post 0) (h1 : hx_ar a_arcThere p → post 1) : wpX_isArc post (f_queueStart, f_queueLength, f_leastTop, f_leastBottom, a_arcThere, a_arcFrom, a_arcTo, a_arcWeight, a_table, a_otherTable, a_squared, a_levels, a_setCells, a_onRingBelowZero, a_queue, a_queued, a_arcsUsed) p := by
  have e := hx_rng (p := p) (N := 20) (by decide)
  refine br_c (fun c => h0 ?_) (fun c => br_c (fun c2 => h0 ?_) (fun c2 => ?_))
  · rintro ⟨j, hj, ej, _⟩
    have := e.mp ⟨j, hj, ej⟩
    rw [hp_lt, hp_0] at c
    omega
  · rintro ⟨j, hj, ej, _⟩
    have := e.mp ⟨j, hj, ej⟩
    rw [hp_le, hp_20] at c2
    omega
  · rw [hp_lt, hp_0] at c
    rw [hp_le, hp_20] at c2
    obtain ⟨j, hj, rfl⟩ := e.mpr ⟨by omega, by omega⟩
    have ck : (nI j).toNatClampNeg = j := nI_clamp (by omega)
    rw [ck]
    refine ⟨vp_in_nI hj (by decide), br_c (fun t0 => h0 ?_) (fun t0 => h1 ⟨j, hj, rfl, t0⟩)⟩
    rintro ⟨j', hj', ej, t1⟩
    rw [nI_eq (by omega) (by omega)] at ej
    subst ej
    exact t1 t0
theorem hy_is {post : Int32 → Prop} {f_top f_bottom f_ringPoints : Int32} {a_there a_froms a_tos a_weights a_walks a_ways : Nat → Int32} {p : Int32} (h0 : ¬ hx_ar a_there p → post 0) (h1 : hx_ar a_there p → post 1) : wpY_is post (f_top, f_bottom, f_ringPoints, a_there, a_froms, a_tos, a_weights, a_walks, a_ways) p := by
  have e := hx_rng (p := p) (N := 20) (by decide)
  refine br_c (fun c => h0 ?_) (fun c => br_c (fun c2 => h0 ?_) (fun c2 => ?_))
  · rintro ⟨j, hj, ej, _⟩
    have := e.mp ⟨j, hj, ej⟩
    rw [hp_lt, hp_0] at c
    omega
  · rintro ⟨j, hj, ej, _⟩
    have := e.mp ⟨j, hj, ej⟩
    rw [hp_le, hp_20] at c2
    omega
  · rw [hp_lt, hp_0] at c
    rw [hp_le, hp_20] at c2
    obtain ⟨j, hj, rfl⟩ := e.mpr ⟨by omega, by omega⟩
    have ck : (nI j).toNatClampNeg = j := nI_clamp (by omega)
    rw [ck]
    refine ⟨vp_in_nI hj (by decide), br_c (fun t0 => h0 ?_) (fun t0 => h1 ⟨j, hj, rfl, t0⟩)⟩
    rintro ⟨j', hj', ej, t1⟩
    rw [nI_eq (by omega) (by omega)] at ej
    subst ej
    exact t1 t0
theorem hx_addK {post : Int32 → SX → Prop} {f_queueStart f_queueLength f_leastTop f_leastBottom : Int32} {a_arcThere a_arcFrom a_arcTo a_arcWeight a_table a_otherTable a_squared a_levels a_setCells a_onRingBelowZero a_queue a_queued a_arcsUsed : Nat → Int32} {x1 x2 x3 : Int32} {k : Nat} (hk : k < 20) (ha : ∀ j, j < k → ¬ a_arcThere j = 0) (h0 : a_arcThere k = 0) (h : post (nI k) (f_queueStart, f_queueLength, f_leastTop, f_leastBottom, (upd a_arcThere k 1), (upd a_arcFrom k x1), (upd a_arcTo k x2), (upd a_arcWeight k x3), a_table, a_otherTable, a_squared, a_levels, a_setCells, a_onRingBelowZero, a_queue, a_queued, a_arcsUsed)) : ∃ n, wX_add_28 post x1 x2 x3 f_queueStart f_queueLength f_leastTop f_leastBottom a_arcThere a_arcFrom a_arcTo a_arcWeight a_table a_otherTable a_squared a_levels a_setCells a_onRingBelowZero a_queue a_queued a_arcsUsed n 0 := by
  refine loop_0 (fun n i (_ : Unit) => wX_add_28 post x1 x2 x3 f_queueStart f_queueLength f_leastTop f_leastBottom a_arcThere a_arcFrom a_arcTo a_arcWeight a_table a_otherTable a_squared a_levels a_setCells a_onRingBelowZero a_queue a_queued a_arcsUsed n (nI i)) (fun _ _ => True) k () trivial ?_ ?_
  · intro n _ _
    have ck : (nI k).toNatClampNeg = k := nI_clamp (by omega)
    have vk : vp_in (nI k) 20 := vp_in_nI hk (by decide)
    refine br_f (nI_ge (b := 20) hk (by decide)) ?_
    rw [ck, hp_nb1]
    exact ⟨vk, br_t h0 ⟨vk, nm_e ⟨vk, nm_e ⟨vk, nm_e ⟨vk, nm_e h⟩⟩⟩⟩⟩
  · intro n i _ hi _ hn
    have ck : (nI i).toNatClampNeg = i := nI_clamp (by omega)
    refine br_f (nI_ge (b := 20) (by omega) (by decide)) ?_
    rw [ck, nI_1]
    exact ⟨vp_in_nI (by omega) (by decide), br_f (ha i hi) (nm_e (hn () trivial))⟩
theorem hx_addF {post : Int32 → SX → Prop} {f_queueStart f_queueLength f_leastTop f_leastBottom : Int32} {a_arcThere a_arcFrom a_arcTo a_arcWeight a_table a_otherTable a_squared a_levels a_setCells a_onRingBelowZero a_queue a_queued a_arcsUsed : Nat → Int32} {x1 x2 x3 : Int32} (ha : ∀ j, j < 20 → ¬ a_arcThere j = 0) (h : post (-2000) (f_queueStart, f_queueLength, f_leastTop, f_leastBottom, a_arcThere, a_arcFrom, a_arcTo, a_arcWeight, a_table, a_otherTable, a_squared, a_levels, a_setCells, a_onRingBelowZero, a_queue, a_queued, a_arcsUsed)) : ∃ n, wX_add_28 post x1 x2 x3 f_queueStart f_queueLength f_leastTop f_leastBottom a_arcThere a_arcFrom a_arcTo a_arcWeight a_table a_otherTable a_squared a_levels a_setCells a_onRingBelowZero a_queue a_queued a_arcsUsed n 0 := by
  refine loop_0 (fun n i (_ : Unit) => wX_add_28 post x1 x2 x3 f_queueStart f_queueLength f_leastTop f_leastBottom a_arcThere a_arcFrom a_arcTo a_arcWeight a_table a_otherTable a_squared a_levels a_setCells a_onRingBelowZero a_queue a_queued a_arcsUsed n (nI i)) (fun _ _ => True) 20 () trivial ?_ ?_
  · intro n _ _
    exact br_t (nI_le (Nat.le_refl 20) (by decide)) h
  · intro n i _ hi _ hn
    have ck : (nI i).toNatClampNeg = i := nI_clamp (by omega)
    refine br_f (nI_ge (b := 20) (by omega) (by decide)) ?_
    rw [ck, nI_1]
    exact ⟨vp_in_nI (by omega) (by decide), br_f (ha i hi) (nm_e (hn () trivial))⟩
theorem hy_addK {post : Int32 → SY → Prop} {f_top f_bottom f_ringPoints : Int32} {a_there a_froms a_tos a_weights a_walks a_ways : Nat → Int32} {x1 x2 x3 : Int32} {k : Nat} (hk : k < 20) (ha : ∀ j, j < k → ¬ a_there j = 0) (h0 : a_there k = 0) (h : post (nI k) (f_top, f_bottom, f_ringPoints, (upd a_there k 1), (upd a_froms k x1), (upd a_tos k x2), (upd a_weights k x3), a_walks, a_ways)) : ∃ n, wY_add_31 post x1 x2 x3 f_top f_bottom f_ringPoints a_there a_froms a_tos a_weights a_walks a_ways n 0 := by
  refine loop_0 (fun n i (_ : Unit) => wY_add_31 post x1 x2 x3 f_top f_bottom f_ringPoints a_there a_froms a_tos a_weights a_walks a_ways n (nI i)) (fun _ _ => True) k () trivial ?_ ?_
  · intro n _ _
    have ck : (nI k).toNatClampNeg = k := nI_clamp (by omega)
    have vk : vp_in (nI k) 20 := vp_in_nI hk (by decide)
    refine br_f (nI_ge (b := 20) hk (by decide)) ?_
    rw [ck, hp_nb1]
    exact ⟨vk, br_t h0 ⟨vk, nm_e ⟨vk, nm_e ⟨vk, nm_e ⟨vk, nm_e h⟩⟩⟩⟩⟩
  · intro n i _ hi _ hn
    have ck : (nI i).toNatClampNeg = i := nI_clamp (by omega)
    refine br_f (nI_ge (b := 20) (by omega) (by decide)) ?_
    rw [ck, nI_1]
    exact ⟨vp_in_nI (by omega) (by decide), br_f (ha i hi) (nm_e (hn () trivial))⟩
theorem hy_addF {post : Int32 → SY → Prop} {f_top f_bottom f_ringPoints : Int32} {a_there a_froms a_tos a_weights a_walks a_ways : Nat → Int32} {x1 x2 x3 : Int32} (ha : ∀ j, j < 20 → ¬ a_there j = 0) (h : post (-2000) (f_top, f_bottom, f_ringPoints, a_there, a_froms, a_tos, a_weights, a_walks, a_ways)) : ∃ n, wY_add_31 post x1 x2 x3 f_top f_bottom f_ringPoints a_there a_froms a_tos a_weights a_walks a_ways n 0 := by
  refine loop_0 (fun n i (_ : Unit) => wY_add_31 post x1 x2 x3 f_top f_bottom f_ringPoints a_there a_froms a_tos a_weights a_walks a_ways n (nI i)) (fun _ _ => True) 20 () trivial ?_ ?_
  · intro n _ _
    exact br_t (nI_le (Nat.le_refl 20) (by decide)) h
  · intro n i _ hi _ hn
    have ck : (nI i).toNatClampNeg = i := nI_clamp (by omega)
    refine br_f (nI_ge (b := 20) (by omega) (by decide)) ?_
    rw [ck, nI_1]
    exact ⟨vp_in_nI (by omega) (by decide), br_f (ha i hi) (nm_e (hn () trivial))⟩
theorem hx_okadd {th fr to wt : Nat → Int32} (ok : hx_ok th fr to wt) {a b w : Int32} (ha : hx_pt a) (hb : hx_pt b) (hw : hx_wt w) (k : Nat) : hx_ok (upd th k 1) (upd fr k a) (upd to k b) (upd wt k w) := by
  intro j hj
  by_cases e : j = k
  · subst e
    rw [pk_us, pk_us, pk_us, pk_us]
    exact ⟨Or.inr rfl, ha, hb, hw.1, hw.2⟩
  · rw [pk_un e, pk_un e, pk_un e, pk_un e]
    exact ok j hj
theorem hx_okrem {th fr to wt : Nat → Int32} (ok : hx_ok th fr to wt) (k : Nat) : hx_ok (upd th k 0) fr to wt := by
  intro j hj
  by_cases e : j = k
  · subst e
    rw [pk_us]
    exact ⟨Or.inl rfl, (ok j hj).2⟩
  · rw [pk_un e]
    exact ok j hj
theorem hx_okchg {th fr to wt : Nat → Int32} (ok : hx_ok th fr to wt) {w : Int32} (hw : hx_wt w) (k : Nat) : hx_ok th fr to (upd wt k w) := by
  intro j hj
  by_cases e : j = k
  · subst e
    rw [pk_us]
    exact ⟨(ok j hj).1, (ok j hj).2.1, (ok j hj).2.2.1, hw.1, hw.2⟩
  · rw [pk_un e]
    exact ok j hj
theorem i_vc_add {k : Nat} {u : SX} {v : SY} (I : i_Rel k u v) (hk : k + 4 ≤ 2048) (v1 : Int32) (v2 : Int32) (v3 : Int32) : wpX_add (fun r u' => wpY_add (fun r' v' => r' = r ∧ i_Rel (k + 4) u' v') v v1 v2 v3) u v1 v2 v3 := by
  obtain ⟨f_queueStart, f_queueLength, f_leastTop, f_leastBottom, a_arcThere, a_arcFrom, a_arcTo, a_arcWeight, a_table, a_otherTable, a_squared, a_levels, a_setCells, a_onRingBelowZero, a_queue, a_queued, a_arcsUsed⟩ := u
  obtain ⟨f_top, f_bottom, f_ringPoints, a_there, a_froms, a_tos, a_weights, a_walks, a_ways⟩ := v
  obtain ⟨rfl, rfl, rfl, rfl, ok, hq⟩ := I
  unfold wpX_add wpY_add
  dsimp only
  refine hx_isPoint (fun n1 => br_t rfl ?_) (fun h1 => br_f (by decide) ?_)
  · exact hy_point (fun _ => br_t rfl ⟨rfl, rfl, rfl, rfl, rfl, ok, hq⟩) (fun z => absurd z n1)
  refine hx_isPoint (fun n2 => br_t rfl ?_) (fun h2 => br_f (by decide) ?_)
  · exact hy_point (fun z => absurd h1 z) (fun _ => br_f (by decide) (hy_point (fun _ => br_t rfl ⟨rfl, rfl, rfl, rfl, rfl, ok, hq⟩) (fun z => absurd z n2)))
  refine hx_isWeight (fun n3 => br_t rfl ?_) (fun h3 => br_f (by decide) ?_)
  · exact hy_point (fun z => absurd h1 z) (fun _ => br_f (by decide) (hy_point (fun z => absurd h2 z) (fun _ => br_f (by decide) (hy_isWeight (fun _ => br_t rfl ⟨rfl, rfl, rfl, rfl, rfl, ok, hq⟩) (fun z => absurd z n3)))))
  by_cases c : ∃ j, j < 20 ∧ a_arcThere j = 0
  · obtain ⟨j, ⟨hj, h0⟩, hl⟩ := pk_least _ c
    have ha : ∀ i, i < j → ¬ a_arcThere i = 0 := fun i hi z => hl i hi ⟨by omega, z⟩
    refine hx_addK hj ha h0 ?_
    refine hy_point (fun z => absurd h1 z) (fun _ => br_f (by decide) (hy_point (fun z => absurd h2 z) (fun _ => br_f (by decide) (hy_isWeight (fun z => absurd h3 z) (fun _ => br_f (by decide) ?_)))))
    exact hy_addK hj ha h0 ⟨rfl, rfl, rfl, rfl, rfl, hx_okadd ok h1 h2 h3 j, hq⟩
  · have ha : ∀ j, j < 20 → ¬ a_arcThere j = 0 := fun j hj z => c ⟨j, hj, z⟩
    refine hx_addF ha ?_
    refine hy_point (fun z => absurd h1 z) (fun _ => br_f (by decide) (hy_point (fun z => absurd h2 z) (fun _ => br_f (by decide) (hy_isWeight (fun z => absurd h3 z) (fun _ => br_f (by decide) ?_)))))
    exact hy_addF ha ⟨rfl, rfl, rfl, rfl, rfl, ok, hq⟩
theorem i_vc_remove {k : Nat} {u : SX} {v : SY} (I : i_Rel k u v) (hk : k + 4 ≤ 2048) (v1 : Int32) : wpX_remove (fun r u' => wpY_remove (fun r' v' => r' = r ∧ i_Rel (k + 4) u' v') v v1) u v1 := by
  obtain ⟨f_queueStart, f_queueLength, f_leastTop, f_leastBottom, a_arcThere, a_arcFrom, a_arcTo, a_arcWeight, a_table, a_otherTable, a_squared, a_levels, a_setCells, a_onRingBelowZero, a_queue, a_queued, a_arcsUsed⟩ := u
  obtain ⟨f_top, f_bottom, f_ringPoints, a_there, a_froms, a_tos, a_weights, a_walks, a_ways⟩ := v
  obtain ⟨rfl, rfl, rfl, rfl, ok, hq⟩ := I
  unfold wpX_remove wpY_remove
  dsimp only
  refine hx_isArc (fun n1 => br_t rfl ?_) (fun h1 => br_f (by decide) ?_)
  · exact hy_is (fun _ => br_t rfl ⟨rfl, rfl, rfl, rfl, rfl, ok, hq⟩) (fun z => absurd z n1)
  · have h1' := h1
    obtain ⟨j, hj, rfl, t0⟩ := h1'
    have ck : (nI j).toNatClampNeg = j := nI_clamp (by omega)
    have vj : vp_in (nI j) 20 := vp_in_nI hj (by decide)
    rw [ck, hp_nb0]
    refine ⟨vj, nm_e ⟨vj, ?_⟩⟩
    exact hy_is (fun z => absurd h1 z) (fun _ => br_f (by decide) ⟨vj, nm_e ⟨vj, rfl, rfl, rfl, rfl, rfl, hx_okrem ok j, hq⟩⟩)
theorem i_vc_change {k : Nat} {u : SX} {v : SY} (I : i_Rel k u v) (hk : k + 4 ≤ 2048) (v1 : Int32) (v2 : Int32) : wpX_change (fun r u' => wpY_change (fun r' v' => r' = r ∧ i_Rel (k + 4) u' v') v v1 v2) u v1 v2 := by
  obtain ⟨f_queueStart, f_queueLength, f_leastTop, f_leastBottom, a_arcThere, a_arcFrom, a_arcTo, a_arcWeight, a_table, a_otherTable, a_squared, a_levels, a_setCells, a_onRingBelowZero, a_queue, a_queued, a_arcsUsed⟩ := u
  obtain ⟨f_top, f_bottom, f_ringPoints, a_there, a_froms, a_tos, a_weights, a_walks, a_ways⟩ := v
  obtain ⟨rfl, rfl, rfl, rfl, ok, hq⟩ := I
  unfold wpX_change wpY_change
  dsimp only
  refine hx_isArc (fun n1 => br_t rfl ?_) (fun h1 => br_f (by decide) ?_)
  · exact hy_is (fun _ => br_t rfl ⟨rfl, rfl, rfl, rfl, rfl, ok, hq⟩) (fun z => absurd z n1)
  refine hx_isWeight (fun n3 => br_t rfl ?_) (fun h3 => br_f (by decide) ?_)
  · exact hy_is (fun z => absurd h1 z) (fun _ => br_f (by decide) (hy_isWeight (fun _ => br_t rfl ⟨rfl, rfl, rfl, rfl, rfl, ok, hq⟩) (fun z => absurd z n3)))
  · have h1' := h1
    obtain ⟨j, hj, rfl, t0⟩ := h1'
    have ck : (nI j).toNatClampNeg = j := nI_clamp (by omega)
    have vj : vp_in (nI j) 20 := vp_in_nI hj (by decide)
    rw [ck]
    refine ⟨vj, nm_e ⟨vj, nm_e ?_⟩⟩
    exact hy_is (fun z => absurd h1 z) (fun _ => br_f (by decide) (hy_isWeight (fun z => absurd h3 z) (fun _ => br_f (by decide) ⟨vj, nm_e ⟨vj, nm_e ⟨rfl, rfl, rfl, rfl, rfl, hx_okchg ok h3 j, hq⟩⟩⟩)))
theorem hx_arcsL {post : Int32 → Prop} {f_queueStart f_queueLength f_leastTop f_leastBottom : Int32} {a_arcThere a_arcFrom a_arcTo a_arcWeight a_table a_otherTable a_squared a_levels a_setCells a_onRingBelowZero a_queue a_queued a_arcsUsed : Nat → Int32} (h : ∀ r : Int32, hx_set (fun k => ¬ a_arcThere k = 0) 20 r → post r) : wpX_arcs post (f_queueStart, f_queueLength, f_leastTop, f_leastBottom, a_arcThere, a_arcFrom, a_arcTo, a_arcWeight, a_table, a_otherTable, a_squared, a_levels, a_setCells, a_onRingBelowZero, a_queue, a_queued, a_arcsUsed) := by
  refine loop_0 (fun n i (r : Int32) => wX_arcs_4 post f_queueStart f_queueLength f_leastTop f_leastBottom a_arcThere a_arcFrom a_arcTo a_arcWeight a_table a_otherTable a_squared a_levels a_setCells a_onRingBelowZero a_queue a_queued a_arcsUsed n r (nI i)) (fun i r => hx_set (fun k => ¬ a_arcThere k = 0) i r) 20 0 (hx_set0 _) ?_ ?_
  · intro n r hr
    exact br_t (nI_le (Nat.le_refl 20) (by decide)) (h r hr)
  · intro n i r hi hr hn
    have ck : (nI i).toNatClampNeg = i := nI_clamp (by omega)
    refine br_f (nI_ge (b := 20) (by omega) (by decide)) ?_
    rw [ck, nI_1]
    exact ⟨vp_in_nI hi (by decide), br_c (fun c => nm_e (hn r (hx_setF hr fun z => z c))) (fun c => nm_e (nm_e (hn _ (hx_setT hr (by omega) c))))⟩
theorem hy_arcsL {post : Int32 → Prop} {f_top f_bottom f_ringPoints : Int32} {a_there a_froms a_tos a_weights a_walks a_ways : Nat → Int32} (h : ∀ r : Int32, hx_set (fun k => ¬ a_there k = 0) 20 r → post r) : wpY_arcs post (f_top, f_bottom, f_ringPoints, a_there, a_froms, a_tos, a_weights, a_walks, a_ways) := by
  refine loop_0 (fun n i (r : Int32) => wY_arcs_4 post f_top f_bottom f_ringPoints a_there a_froms a_tos a_weights a_walks a_ways n r (nI i)) (fun i r => hx_set (fun k => ¬ a_there k = 0) i r) 20 0 (hx_set0 _) ?_ ?_
  · intro n r hr
    exact br_t (nI_le (Nat.le_refl 20) (by decide)) (h r hr)
  · intro n i r hi hr hn
    have ck : (nI i).toNatClampNeg = i := nI_clamp (by omega)
    refine br_f (nI_ge (b := 20) (by omega) (by decide)) ?_
    rw [ck, nI_1]
    exact ⟨vp_in_nI hi (by decide), br_c (fun c => nm_e (hn r (hx_setF hr fun z => z c))) (fun c => nm_e (nm_e (hn _ (hx_setT hr (by omega) c))))⟩
theorem i_vc_arcs {k : Nat} {u : SX} {v : SY} (I : i_Rel k u v) (hk : k + 4 ≤ 2048) : wpX_arcs (fun r => wpY_arcs (fun r' => r' = r ∧ i_Rel (k + 4) u v) v) u := by
  obtain ⟨f_queueStart, f_queueLength, f_leastTop, f_leastBottom, a_arcThere, a_arcFrom, a_arcTo, a_arcWeight, a_table, a_otherTable, a_squared, a_levels, a_setCells, a_onRingBelowZero, a_queue, a_queued, a_arcsUsed⟩ := u
  obtain ⟨f_top, f_bottom, f_ringPoints, a_there, a_froms, a_tos, a_weights, a_walks, a_ways⟩ := v
  obtain ⟨rfl, rfl, rfl, rfl, ok, hq⟩ := I
  exact hx_arcsL fun r hr => hy_arcsL fun r' hr' => ⟨hx_setU hr' hr fun _ _ => Iff.rfl, rfl, rfl, rfl, rfl, ok, hq⟩
