/-! the methods that ask for walks -/
def hx_en (p : Int32) : Prop := ∃ e, e < 5 ∧ p = nI e
theorem hx_isEng {post : Int32 → Prop} {p : Int32} (h0 : ¬ hx_en p → post 0) (h1 : hx_en p → post 1) : wpX_isWalkEngine post p := by
  have e := hx_rng (p := p) (N := 5) (by decide)
  refine br_c (fun c => h0 fun z => ?_) (fun c => br_c (fun c2 => h0 fun z => ?_) (fun c2 => h1 (e.mpr ?_)))
  · have := e.mp z
    rw [hp_lt, hp_0] at c
    omega
  · have := e.mp z
    rw [hp_le, hp_5] at c2
    omega
  · rw [hp_lt, hp_0] at c
    rw [hp_le, hp_5] at c2
    omega
theorem hy_eng {p : Int32} {P Q : Prop} (h0 : ¬ hx_en p → P) (h1 : hx_en p → Q) : ((p < 0 → P) ∧ (¬ p < 0 → ((4 < p → P) ∧ (¬ 4 < p → Q)))) := by
  have e := hx_rng (p := p) (N := 5) (by decide)
  refine br_c (fun c => h0 fun z => ?_) (fun c => br_c (fun c2 => h0 fun z => ?_) (fun c2 => h1 (e.mpr ?_)))
  · have := e.mp z
    rw [hp_lt, hp_0] at c
    omega
  · have := e.mp z
    rw [hp_lt, hp_4] at c2
    omega
  · rw [hp_lt, hp_0] at c
    rw [hp_lt, hp_4] at c2
    omega
section
variable {A : Nat → Nat → Int → Prop}
theorem gr_AnsR (ok : gr_ok A) {s t : Nat} (hs : s < 7) {r : Int} (h : gr_Ans A s t r) : r = -3000 ↔ ¬ gr_R A s t := by
  rcases h with ⟨e, h⟩ | ⟨e, h⟩ | h
  · exact ⟨fun _ => h, fun _ => e⟩
  · exact ⟨fun z => by omega, fun z => absurd (gr_L_R h) z⟩
  · have := gr_Mr ok hs h
    exact ⟨fun z => by omega, fun z => absurd ⟨_, _, h.1.choose_spec⟩ z⟩
theorem gr_AnsL (ok : gr_ok A) {s t : Nat} (hs : s < 7) {r : Int} (h : gr_Ans A s t r) : r = -4000 ↔ gr_L A s t := by
  rcases h with ⟨e, h⟩ | ⟨e, h⟩ | h
  · exact ⟨fun z => by omega, fun z => absurd (gr_L_R z) h⟩
  · exact ⟨fun _ => h, fun _ => e⟩
  · have := gr_Mr ok hs h
    exact ⟨fun z => by omega, fun z => absurd z (gr_ML h)⟩
theorem gr_AnsM (ok : gr_ok A) {s t : Nat} (hs : s < 7) {r : Int} (h : gr_Ans A s t r) : (r ≠ -3000 ∧ r ≠ -4000) ↔ gr_M A s t r := by
  rcases h with ⟨e, h⟩ | ⟨e, h⟩ | h
  · exact ⟨fun z => absurd e z.1, fun z => absurd ⟨_, _, z.1.choose_spec⟩ h⟩
  · exact ⟨fun z => absurd e z.2, fun z => absurd h (gr_ML z)⟩
  · have := gr_Mr ok hs h
    exact ⟨fun _ => h, fun _ => ⟨by omega, by omega⟩⟩
end
theorem i_vc_least {k : Nat} {u : SX} {v : SY} (I : i_Rel k u v) (hk : k + 4 ≤ 2048) (v1 : Int32) (v2 : Int32) (v3 : Int32) : wpX_least (fun r u' => wpY_least (fun r' v' => r' = r ∧ i_Rel (k + 4) u' v') v v1 v2 v3) u v1 v2 v3 := by
  obtain ⟨f_queueStart, f_queueLength, f_leastTop, f_leastBottom, a_arcThere, a_arcFrom, a_arcTo, a_arcWeight, a_table, a_otherTable, a_squared, a_levels, a_setCells, a_onRingBelowZero, a_queue, a_queued, a_arcsUsed⟩ := u
  obtain ⟨f_top, f_bottom, f_ringPoints, a_there, a_froms, a_tos, a_weights, a_walks, a_ways⟩ := v
  obtain ⟨rfl, rfl, rfl, rfl, ok, hq⟩ := I
  have gok := hx_grok ok
  unfold wpX_least wpY_least
  dsimp only
  refine hx_isPoint (fun n2 => br_t rfl ?_) (fun h2 => br_f (by decide) ?_)
  · exact hy_eng (fun _ => ⟨rfl, rfl, rfl, rfl, rfl, ok, hq⟩) (fun _ => hy_point (fun _ => br_t rfl ⟨rfl, rfl, rfl, rfl, rfl, ok, hq⟩) (fun z => absurd z n2))
  refine hx_isPoint (fun n3 => br_t rfl ?_) (fun h3 => br_f (by decide) ?_)
  · exact hy_eng (fun _ => ⟨rfl, rfl, rfl, rfl, rfl, ok, hq⟩) (fun _ => hy_point (fun z => absurd h2 z) (fun _ => br_f (by decide) (hy_point (fun _ => br_t rfl ⟨rfl, rfl, rfl, rfl, rfl, ok, hq⟩) (fun z => absurd z n3))))
  refine hx_isEng (fun n1 => br_t rfl ?_) (fun h1 => br_f (by decide) ?_)
  · exact hy_eng (fun _ => ⟨rfl, rfl, rfl, rfl, rfl, ok, hq⟩) (fun z => absurd z n1)
  have h1' := h1
  have h2' := h2
  have h3' := h3
  obtain ⟨e, he, rfl⟩ := h1'
  obtain ⟨s, hs, rfl⟩ := h2'
  obtain ⟨t, ht, rfl⟩ := h3'
  have ck : (nI (7 * s + t)).toNatClampNeg = 7 * s + t := nI_clamp (by omega)
  refine hx_fill_table ok hq he fun st ln tb sq sc rb q qd us hqd ha => ?_
  dsimp only
  rw [hp_ix, ck]
  refine ⟨vp_in_nI (by omega) (by decide), ?_⟩
  refine hy_eng (fun z => absurd h1 z) (fun _ => hy_point (fun z => absurd h2 z) (fun _ => br_f (by decide) (hy_point (fun z => absurd h3 z) (fun _ => br_f (by decide) (hy_way ok hs ht fun r b hr _ => ⟨?_, rfl, rfl, rfl, rfl, ok, hqd⟩)))))
  exact hp_eq.mpr (gr_uniq gok hs hr (ha s t hs ht))
theorem i_vc_agree {k : Nat} {u : SX} {v : SY} (I : i_Rel k u v) (hk : k + 4 ≤ 2048) (v1 : Int32) (v2 : Int32) : wpX_agree (fun r u' => wpY_agree (fun r' => r' = r ∧ i_Rel (k + 4) u' v) v v1 v2) u v1 v2 := by
  obtain ⟨f_queueStart, f_queueLength, f_leastTop, f_leastBottom, a_arcThere, a_arcFrom, a_arcTo, a_arcWeight, a_table, a_otherTable, a_squared, a_levels, a_setCells, a_onRingBelowZero, a_queue, a_queued, a_arcsUsed⟩ := u
  obtain ⟨f_top, f_bottom, f_ringPoints, a_there, a_froms, a_tos, a_weights, a_walks, a_ways⟩ := v
  obtain ⟨rfl, rfl, rfl, rfl, ok, hq⟩ := I
  have gok := hx_grok ok
  unfold wpX_agree wpY_agree
  dsimp only
  refine hx_isEng (fun n1 => br_t rfl ?_) (fun h1 => br_f (by decide) ?_)
  · exact hy_eng (fun _ => ⟨rfl, rfl, rfl, rfl, rfl, ok, hq⟩) (fun z => absurd z n1)
  refine hx_isEng (fun n2 => br_t rfl ?_) (fun h2 => br_f (by decide) ?_)
  · exact hy_eng (fun z => absurd h1 z) (fun _ => hy_eng (fun _ => ⟨rfl, rfl, rfl, rfl, rfl, ok, hq⟩) (fun z => absurd z n2))
  have h1' := h1
  have h2' := h2
  obtain ⟨e, he, rfl⟩ := h1'
  obtain ⟨e', he', rfl⟩ := h2'
  refine hx_fill_table ok hq he fun st ln tb sq sc rb q qd us hqd ha => ?_
  dsimp only
  refine hx_fill_otherTable ok hqd he' fun st' ln' ot sq' sc' rb' q' qd' us' hqd' ha' => ?_
  refine loop_0 (fun n i (_ : Unit) => wX_agree_36 _ st' ln' f_leastTop f_leastBottom a_arcThere a_arcFrom a_arcTo a_arcWeight tb ot sq' a_levels sc' rb' q' qd' us' n (nI i)) (fun _ _ => True) 49 () trivial ?_ ?_
  · intro n _ _
    exact br_t (nI_le (Nat.le_refl 49) (by decide)) (hy_eng (fun z => absurd h1 z) (fun _ => hy_eng (fun z => absurd h2 z) (fun _ => ⟨rfl, rfl, rfl, rfl, rfl, ok, hqd'⟩)))
  · intro n i _ hi _ hn
    have ck : (nI i).toNatClampNeg = i := nI_clamp (by omega)
    have vi : vp_in (nI i) 49 := vp_in_nI hi (by decide)
    refine br_f (nI_ge (b := 49) hi (by decide)) ?_
    rw [ck, nI_1]
    refine ⟨vi, vi, br_t ?_ (nm_e (hn () trivial))⟩
    obtain ⟨s, t, rfl, ht, hs⟩ : ∃ s t, i = 7 * s + t ∧ t < 7 ∧ s < 7 := ⟨i / 7, i % 7, by omega, by omega, by omega⟩
    exact hp_eq.mpr (gr_uniq gok hs (ha s t hs ht) (ha' s t hs ht))
theorem i_vc_reached {k : Nat} {u : SX} {v : SY} (I : i_Rel k u v) (hk : k + 4 ≤ 2048) (v1 : Int32) : wpX_reached (fun r u' => wpY_reached (fun r' => r' = r ∧ i_Rel (k + 4) u' v) v v1) u v1 := by
  obtain ⟨f_queueStart, f_queueLength, f_leastTop, f_leastBottom, a_arcThere, a_arcFrom, a_arcTo, a_arcWeight, a_table, a_otherTable, a_squared, a_levels, a_setCells, a_onRingBelowZero, a_queue, a_queued, a_arcsUsed⟩ := u
  obtain ⟨f_top, f_bottom, f_ringPoints, a_there, a_froms, a_tos, a_weights, a_walks, a_ways⟩ := v
  obtain ⟨rfl, rfl, rfl, rfl, ok, hq⟩ := I
  have gok := hx_grok ok
  unfold wpX_reached
  dsimp only
  refine hx_isPoint (fun n1 => br_t rfl ?_) (fun h1 => br_f (by decide) ?_)
  · unfold wpY_reached
    exact hy_point (fun _ => br_t rfl ⟨rfl, rfl, rfl, rfl, rfl, ok, hq⟩) (fun z => absurd z n1)
  obtain ⟨s, hs, rfl⟩ := h1
  refine hx_fill_table (e := 0) ok hq (by decide) fun st ln tb sq sc rb q qd us hqd ha => ?_
  refine loop_0 (fun n i (r : Int32) => wX_reached_24 _ (nI s) st ln f_leastTop f_leastBottom a_arcThere a_arcFrom a_arcTo a_arcWeight tb a_otherTable sq a_levels sc rb q qd us n r (nI i)) (fun i r => hx_set (gr_R (hx_A a_arcThere a_arcFrom a_arcTo a_arcWeight) s) i r) 7 0 (hx_set0 _) ?_ ?_
  · intro n r hr
    exact br_t (nI_le (Nat.le_refl 7) (by decide)) (hy_reached ok hs fun r' hr' => ⟨hx_setU hr' hr fun _ _ => Iff.rfl, rfl, rfl, rfl, rfl, ok, hqd⟩)
  · intro n t r ht hr hn
    have ck : (nI (7 * s + t)).toNatClampNeg = 7 * s + t := nI_clamp (by omega)
    have e := gr_AnsR gok hs (ha s t hs ht)
    refine br_f (nI_ge (b := 7) ht (by decide)) ?_
    rw [hp_ix, ck, nI_1]
    refine ⟨vp_in_nI (by omega) (by decide), br_c (fun c => nm_e (hn r (hx_setF hr ?_))) (fun c => nm_e (nm_e (hn _ (hx_setT hr (by omega) ?_))))⟩
    · rw [hp_eq, hp_N] at c
      exact e.mp c
    · rw [hp_eq, hp_N] at c
      exact Classical.byContradiction fun z => c (e.mpr z)
theorem i_vc_low {k : Nat} {u : SX} {v : SY} (I : i_Rel k u v) (hk : k + 4 ≤ 2048) (v1 : Int32) : wpX_low (fun r u' => wpY_low (fun r' v' => r' = r ∧ i_Rel (k + 4) u' v') v v1) u v1 := by
  obtain ⟨f_queueStart, f_queueLength, f_leastTop, f_leastBottom, a_arcThere, a_arcFrom, a_arcTo, a_arcWeight, a_table, a_otherTable, a_squared, a_levels, a_setCells, a_onRingBelowZero, a_queue, a_queued, a_arcsUsed⟩ := u
  obtain ⟨f_top, f_bottom, f_ringPoints, a_there, a_froms, a_tos, a_weights, a_walks, a_ways⟩ := v
  obtain ⟨rfl, rfl, rfl, rfl, ok, hq⟩ := I
  have gok := hx_grok ok
  unfold wpX_low
  dsimp only
  refine hx_isPoint (fun n1 => br_t rfl ?_) (fun h1 => br_f (by decide) ?_)
  · unfold wpY_low
    exact hy_point (fun _ => br_t rfl ⟨rfl, rfl, rfl, rfl, rfl, ok, hq⟩) (fun z => absurd z n1)
  obtain ⟨s, hs, rfl⟩ := h1
  refine hx_fill_table (e := 0) ok hq (by decide) fun st ln tb sq sc rb q qd us hqd ha => ?_
  refine loop_0 (fun n i (r : Int32) => wX_low_24 _ (nI s) st ln f_leastTop f_leastBottom a_arcThere a_arcFrom a_arcTo a_arcWeight tb a_otherTable sq a_levels sc rb q qd us n r (nI i)) (fun i r => hx_set (gr_L (hx_A a_arcThere a_arcFrom a_arcTo a_arcWeight) s) i r) 7 0 (hx_set0 _) ?_ ?_
  · intro n r hr
    exact br_t (nI_le (Nat.le_refl 7) (by decide)) (hy_low ok hs fun r' b hr' _ => ⟨hx_setU hr' hr fun _ _ => Iff.rfl, rfl, rfl, rfl, rfl, ok, hqd⟩)
  · intro n t r ht hr hn
    have ck : (nI (7 * s + t)).toNatClampNeg = 7 * s + t := nI_clamp (by omega)
    have e := gr_AnsL gok hs (ha s t hs ht)
    refine br_f (nI_ge (b := 7) ht (by decide)) ?_
    rw [hp_ix, ck, nI_1]
    refine ⟨vp_in_nI (by omega) (by decide), br_c (fun c => nm_e (nm_e (hn _ (hx_setT hr (by omega) ?_)))) (fun c => nm_e (hn r (hx_setF hr ?_)))⟩
    · rw [hp_eq, hp_L] at c
      exact e.mp c
    · rw [hp_eq, hp_L] at c
      exact fun z => c (e.mpr z)
theorem hx_isFound {post : Int32 → Prop} {p : Int32} (h0 : (p.toInt = -3000 ∨ p.toInt = -4000) → post 0) (h1 : p.toInt ≠ -3000 → p.toInt ≠ -4000 → post 1) : wpX_isFound post p := by
  refine br_c (fun c => h0 (Or.inl ?_)) (fun c => br_c (fun c2 => h0 (Or.inr ?_)) (fun c2 => h1 ?_ ?_))
  · rw [hp_eq, hp_N] at c
    exact c
  · rw [hp_eq, hp_L] at c2
    exact c2
  · rw [hp_eq, hp_N] at c
    exact c
  · rw [hp_eq, hp_L] at c2
    exact c2
theorem i_vc_around {k : Nat} {u : SX} {v : SY} (I : i_Rel k u v) (hk : k + 4 ≤ 2048) (v1 : Int32) : wpX_around (fun r u' => wpY_around (fun r' v' => r' = r ∧ i_Rel (k + 4) u' v') v v1) u v1 := by
  obtain ⟨f_queueStart, f_queueLength, f_leastTop, f_leastBottom, a_arcThere, a_arcFrom, a_arcTo, a_arcWeight, a_table, a_otherTable, a_squared, a_levels, a_setCells, a_onRingBelowZero, a_queue, a_queued, a_arcsUsed⟩ := u
  obtain ⟨f_top, f_bottom, f_ringPoints, a_there, a_froms, a_tos, a_weights, a_walks, a_ways⟩ := v
  obtain ⟨rfl, rfl, rfl, rfl, ok, hq⟩ := I
  have gok := hx_grok ok
  unfold wpX_around wpY_around
  dsimp only
  refine hx_isArc (fun n1 => br_t rfl ?_) (fun h1 => br_f (by decide) ?_)
  · exact hy_is (fun _ => br_t rfl ⟨rfl, rfl, rfl, rfl, rfl, ok, hq⟩) (fun z => absurd z n1)
  have h1' := h1
  obtain ⟨j, hj, rfl, t0⟩ := h1'
  obtain ⟨u, v, x, hu, hv, eu, ev, ew, hx1, hx2, hk0, hk1⟩ := hx_arc ok hj
  have ck : (nI j).toNatClampNeg = j := nI_clamp (by omega)
  have cu : (nI (7 * v + u)).toNatClampNeg = 7 * v + u := nI_clamp (by omega)
  have vj : vp_in (nI j) 20 := vp_in_nI hj (by decide)
  refine hx_fill_table (e := 0) ok hq (by decide) fun st ln tb sq sc rb q qd us hqd ha => ?_
  dsimp only
  rw [ck, eu, ev, hp_ix, cu]
  have hA := ha v u hv hu
  have rA := gr_Ansr gok hv hA
  refine ⟨vj, vj, vp_in_nI (by omega) (by decide), nm_e (hx_isFound (fun f => br_t rfl ?_) (fun f1 f2 => br_f (by decide) ⟨vj, ?_⟩))⟩
  · refine hy_is (fun z => absurd h1 z) (fun _ => br_f (by decide) ⟨vj, vj, hy_way ok hv hu fun r b hr _ => ?_⟩)
    have er : r = tb (7 * v + u) := hp_eq.mpr (gr_uniq gok hv hr hA)
    subst er
    refine br_t ?_ ⟨rfl, rfl, rfl, rfl, rfl, ok, hqd⟩
    rw [hp_le, hp_B]
    omega
  · refine hy_is (fun z => absurd h1 z) (fun _ => br_f (by decide) ⟨vj, vj, hy_way ok hv hu fun r b hr _ => ?_⟩)
    have er : r = tb (7 * v + u) := hp_eq.mpr (gr_uniq gok hv hr hA)
    subst er
    refine br_f ?_ ⟨vj, rfl, rfl, rfl, rfl, rfl, ok, hqd⟩
    rw [hp_le, hp_B]
    omega
theorem gr_lvW {A : Nat → Nat → Int → Prop} {N r z : Int} {n s t : Nat} (h : gr_mn N (gr_W A n s t) z) (hr : ∀ n c, gr_W A n s t c → r ≤ c) (hN : r ≠ N) : z = r ↔ gr_W A n s t r := by
  rcases h with ⟨e, h⟩ | ⟨e, h1, h2⟩
  · exact ⟨fun z => by omega, fun z => absurd z (h r)⟩
  · refine ⟨fun z => z ▸ h1, fun z => ?_⟩
    have := h2 r z
    have := hr _ _ h1
    omega
theorem i_vc_fewest {k : Nat} {u : SX} {v : SY} (I : i_Rel k u v) (hk : k + 4 ≤ 2048) (v1 : Int32) (v2 : Int32) : wpX_fewest (fun r u' => wpY_fewest (fun r' v' => r' = r ∧ i_Rel (k + 4) u' v') v v1 v2) u v1 v2 := by
  obtain ⟨f_queueStart, f_queueLength, f_leastTop, f_leastBottom, a_arcThere, a_arcFrom, a_arcTo, a_arcWeight, a_table, a_otherTable, a_squared, a_levels, a_setCells, a_onRingBelowZero, a_queue, a_queued, a_arcsUsed⟩ := u
  obtain ⟨f_top, f_bottom, f_ringPoints, a_there, a_froms, a_tos, a_weights, a_walks, a_ways⟩ := v
  obtain ⟨rfl, rfl, rfl, rfl, ok, hq⟩ := I
  have gok := hx_grok ok
  unfold wpX_fewest wpY_fewest
  dsimp only
  refine hx_isPoint (fun n1 => br_t rfl ?_) (fun h1 => br_f (by decide) ?_)
  · exact hy_point (fun _ => br_t rfl ⟨rfl, rfl, rfl, rfl, rfl, ok, hq⟩) (fun z => absurd z n1)
  refine hx_isPoint (fun n2 => br_t rfl ?_) (fun h2 => br_f (by decide) ?_)
  · exact hy_point (fun z => absurd h1 z) (fun _ => br_f (by decide) (hy_point (fun _ => br_t rfl ⟨rfl, rfl, rfl, rfl, rfl, ok, hq⟩) (fun z => absurd z n2)))
  have h1' := h1
  have h2' := h2
  obtain ⟨s, hs, rfl⟩ := h1'
  obtain ⟨t, ht, rfl⟩ := h2'
  have ck : (nI (7 * s + t)).toNatClampNeg = 7 * s + t := nI_clamp (by omega)
  refine hx_fill_table (e := 0) ok hq (by decide) fun st ln tb sq sc rb q qd us hqd ha => ?_
  dsimp only
  rw [hp_ix, ck]
  have hA := ha s t hs ht
  have rA := gr_Ansr gok hs hA
  refine ⟨vp_in_nI (by omega) (by decide), nm_e (hx_isFound (fun f => br_t rfl ?_) (fun f1 f2 => br_f (by decide) ?_))⟩
  · refine hy_point (fun z => absurd h1 z) (fun _ => br_f (by decide) (hy_point (fun z => absurd h2 z) (fun _ => br_f (by decide) (hy_way ok hs ht fun r b hr _ => ⟨1, ?_⟩))))
    have er : r = tb (7 * s + t) := hp_eq.mpr (gr_uniq gok hs hr hA)
    subst er
    have le : tb (7 * s + t) ≤ -1000 := by
      rw [hp_le, hp_B]
      omega
    refine br_t le ?_
    unfold wY_fewest_59
    exact br_t le ⟨rfl, rfl, rfl, rfl, rfl, ok, hqd⟩
  · have hM := (gr_AnsM gok hs hA).mp ⟨f1, f2⟩
    obtain ⟨m0, ⟨hm0, hW⟩, hl⟩ := pk_least (fun n => n ≤ 6 ∧ gr_W (hx_A a_arcThere a_arcFrom a_arcTo a_arcWeight) n s t (tb (7 * s + t)).toInt) (gr_Mr gok hs hM).2.2
    refine hx_levelsFrom ok hs fun lv hlv => ?_
    refine loop_0 (fun n i (_ : Unit) => wX_fewest_56 _ (nI t) (tb (7 * s + t)) st ln f_leastTop f_leastBottom a_arcThere a_arcFrom a_arcTo a_arcWeight tb a_otherTable sq lv sc rb q qd us n (nI i)) (fun _ _ => True) m0 () trivial ?_ ?_
    · intro n _ _
      have cm : (nI (7 * m0 + t)).toNatClampNeg = 7 * m0 + t := nI_clamp (by omega)
      refine br_f (nI_ge (b := 7) (by omega) (by decide)) ?_
      rw [hp_ix, cm]
      refine ⟨vp_in_nI (by omega) (by decide), br_t ?_ ?_⟩
      · exact hp_eq.mpr ((gr_lvW (gr_mnC (fun c => gr_V1.symm) (hlv m0 t (by omega) ht)) hM.2 (by omega)).mpr hW)
      · refine hy_point (fun z => absurd h1 z) (fun _ => br_f (by decide) (hy_point (fun z => absurd h2 z) (fun _ => br_f (by decide) (hy_way ok hs ht fun r b hr hb => ?_))))
        have er : r = tb (7 * s + t) := hp_eq.mpr (gr_uniq gok hs hr hA)
        subst er
        have le : ¬ tb (7 * s + t) ≤ -1000 := by
          rw [hp_le, hp_B]
          omega
        refine loop_0 (fun n i (_ : Unit) => wY_fewest_30 _ (nI t) (tb (7 * s + t)) f_top f_bottom f_ringPoints a_arcThere a_arcFrom a_arcTo a_arcWeight b a_ways n (nI i)) (fun _ _ => True) m0 () trivial ?_ ?_
        · intro n _ _
          refine br_f le ?_
          rw [hp_ix', cm]
          refine ⟨vp_in_nI (by omega) (by decide), br_t ?_ ?_⟩
          · exact hp_eq.mpr ((gr_lvW (hb m0 t (by omega) ht) hM.2 (by omega)).mpr hW)
          · unfold wY_fewest_59
            exact br_f le ⟨rfl, rfl, rfl, rfl, rfl, ok, hqd⟩
        · intro n i _ hi _ hn
          have ci : (nI (7 * i + t)).toNatClampNeg = 7 * i + t := nI_clamp (by omega)
          refine br_f le ?_
          rw [hp_ix', ci, nI_1]
          refine ⟨vp_in_nI (by omega) (by decide), br_f (fun z => ?_) (nm_e (hn () trivial))⟩
          rw [hp_eq, gr_lvW (hb i t (by omega) ht) hM.2 (by omega)] at z
          exact hl i hi ⟨by omega, z⟩
    · intro n i _ hi _ hn
      have ci : (nI (7 * i + t)).toNatClampNeg = 7 * i + t := nI_clamp (by omega)
      refine br_f (nI_ge (b := 7) (by omega) (by decide)) ?_
      rw [hp_ix, ci, nI_1]
      refine ⟨vp_in_nI (by omega) (by decide), br_f (fun z => ?_) (nm_e (hn () trivial))⟩
      rw [hp_eq, gr_lvW (gr_mnC (fun c => gr_V1.symm) (hlv i t (by omega) ht)) hM.2 (by omega)] at z
      exact hl i hi ⟨by omega, z⟩
