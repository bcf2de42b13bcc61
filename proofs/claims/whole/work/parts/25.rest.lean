/-! on, widest, calm, the means -/
section
variable {A : Nat → Nat → Int → Prop}
theorem gr_AnsN (ok : gr_ok A) {s t : Nat} (hs : s < 7) {r a : Int} (h : gr_Ans A s t r) (hm : gr_M A s t a) : a = r ∧ r ≠ -3000 ∧ r ≠ -4000 := by
  have e : a = r := gr_uniq ok hs (Or.inr (Or.inr hm)) h
  subst e
  have := gr_Mr ok hs hm
  omega
end
/-- arc k is on a least walk from s to t, whose weight is r -/
def hx_on (K : Nat → Nat → Nat → Int → Prop) (A : Nat → Nat → Int → Prop) (s t : Nat) (r : Int) (k : Nat) : Prop := ∃ u v x a b, K k u v x ∧ gr_M A s u a ∧ gr_M A v t b ∧ a + x + b = r
theorem hx_onI {th fr to wt : Nat → Int32} (ok : hx_ok th fr to wt) {s t u v j : Nat} {x za zb r : Int} (hs : s < 7) (hv : v < 7) (kk : ∀ u' v' x', hx_K th fr to wt j u' v' x' ↔ u' = u ∧ v' = v ∧ x' = x) (ha : gr_Ans (hx_A th fr to wt) s u za) (hb : gr_Ans (hx_A th fr to wt) v t zb) : hx_on (hx_K th fr to wt) (hx_A th fr to wt) s t r j ↔ za ≠ -3000 ∧ za ≠ -4000 ∧ zb ≠ -3000 ∧ zb ≠ -4000 ∧ za + x + zb = r := by
  have gok := hx_grok ok
  constructor
  · rintro ⟨u', v', x', a, b, hk, m1, m2, e⟩
    obtain ⟨rfl, rfl, rfl⟩ := (kk _ _ _).mp hk
    obtain ⟨e1, f1, f2⟩ := gr_AnsN gok hs ha m1
    obtain ⟨e2, f3, f4⟩ := gr_AnsN gok hv hb m2
    exact ⟨f1, f2, f3, f4, by omega⟩
  · rintro ⟨f1, f2, f3, f4, e⟩
    exact ⟨u, v, x, za, zb, (kk _ _ _).mpr ⟨rfl, rfl, rfl⟩, (gr_AnsM gok hs ha).mp ⟨f1, f2⟩, (gr_AnsM gok hv hb).mp ⟨f3, f4⟩, e⟩
theorem i_vc_on {k : Nat} {u : SX} {v : SY} (I : i_Rel k u v) (hk : k + 4 ≤ 2048) (v1 : Int32) (v2 : Int32) : wpX_on (fun r u' => wpY_on (fun r' v' => r' = r ∧ i_Rel (k + 4) u' v') v v1 v2) u v1 v2 := by
  obtain ⟨f_queueStart, f_queueLength, f_leastTop, f_leastBottom, a_arcThere, a_arcFrom, a_arcTo, a_arcWeight, a_table, a_otherTable, a_squared, a_levels, a_setCells, a_onRingBelowZero, a_queue, a_queued, a_arcsUsed⟩ := u
  obtain ⟨f_top, f_bottom, f_ringPoints, a_there, a_froms, a_tos, a_weights, a_walks, a_ways⟩ := v
  obtain ⟨rfl, rfl, rfl, rfl, ok, hq⟩ := I
  have gok := hx_grok ok
  unfold wpX_on wpY_on
  dsimp only
  refine hx_isPoint (fun n1 => br_t rfl ?_) (fun h1 => br_f (by decide) ?_)
  · exact hy_point (fun _ => br_t rfl ⟨rfl, rfl, rfl, rfl, rfl, ok, hq⟩) (fun z => absurd z n1)
  refine hx_isPoint (fun n2 => br_t rfl ?_) (fun h2 => br_f (by decide) ?_)
  · exact hy_point (fun z => absurd h1 z) (fun _ => br_f (by decide) (hy_point (fun _ => br_t rfl ⟨rfl, rfl, rfl, rfl, rfl, ok, hq⟩) (fun z => absurd z n2)))
  have h1' := h1
  have h2' := h2
  obtain ⟨s, hs, rfl⟩ := h1'
  obtain ⟨t, ht, rfl⟩ := h2'
  have ck : (nI (7 * s + t)).toNatClampNeg = 7 * s + t := nI_clamp (by omega)
  refine hx_fill_table (e := 0) ok hq (by decide) fun st ln tb sq sc rb q qd us hqd ha => ?_
  dsimp only
  rw [hp_ix, ck]
  have hA := ha s t hs ht
  have rA := gr_Ansr gok hs hA
  refine ⟨vp_in_nI (by omega) (by decide), nm_e (hx_isFound (fun f => br_t rfl ?_) (fun f1 f2 => br_f (by decide) ?_))⟩
  · refine hy_point (fun z => absurd h1 z) (fun _ => br_f (by decide) (hy_point (fun z => absurd h2 z) (fun _ => br_f (by decide) (hy_way ok hs ht fun r b hr _ => ⟨1, ?_⟩))))
    have er : r = tb (7 * s + t) := hp_eq.mpr (gr_uniq gok hs hr hA)
    subst er
    have le : tb (7 * s + t) ≤ -1000 := by
      rw [hp_le, hp_B]
      omega
    exact br_f (by decide) (br_t le ⟨rfl, rfl, rfl, rfl, rfl, ok, hqd⟩)
  · refine loop_0 (fun n i (r : Int32) => wX_on_55 _ (nI s) (nI t) (tb (7 * s + t)) st ln f_leastTop f_leastBottom a_arcThere a_arcFrom a_arcTo a_arcWeight tb a_otherTable sq a_levels sc rb q qd us n r (nI i)) (fun i r => hx_set (hx_on (hx_K a_arcThere a_arcFrom a_arcTo a_arcWeight) (hx_A a_arcThere a_arcFrom a_arcTo a_arcWeight) s t (tb (7 * s + t)).toInt) i r) 20 0 (hx_set0 _) ?_ ?_
    · intro n r hr
      refine br_t (nI_le (Nat.le_refl 20) (by decide)) ?_
      refine hy_point (fun z => absurd h1 z) (fun _ => br_f (by decide) (hy_point (fun z => absurd h2 z) (fun _ => br_f (by decide) (hy_way ok hs ht fun w b hw _ => ?_))))
      have er : w = tb (7 * s + t) := hp_eq.mpr (gr_uniq gok hs hw hA)
      subst er
      have le : ¬ tb (7 * s + t) ≤ -1000 := by
        rw [hp_le, hp_B]
        omega
      refine loop_0 (fun n i (z : Int32 × (Nat → Int32)) => wY_on_33 _ (nI s) (nI t) (tb (7 * s + t)) n z.1 (nI i) f_top f_bottom f_ringPoints a_arcThere a_arcFrom a_arcTo a_arcWeight z.2 a_ways) (fun i z => hx_set (hx_on (hx_K a_arcThere a_arcFrom a_arcTo a_arcWeight) (hx_A a_arcThere a_arcFrom a_arcTo a_arcWeight) s t (tb (7 * s + t)).toInt) i z.1) 20 (0, b) (hx_set0 _) ?_ ?_
      · rintro n ⟨r', b'⟩ hr'
        exact br_t (nI_le (Nat.le_refl 20) (by decide)) ⟨hx_setU hr' hr fun _ _ => Iff.rfl, rfl, rfl, rfl, rfl, ok, hqd⟩
      · rintro n i ⟨r', b'⟩ hi hr' hn
        dsimp only at hr'
        obtain ⟨u, v, x, hu, hv, eu, ev, ew, hx1, hx2, hk0, hk1⟩ := hx_arc ok hi
        have ci : (nI i).toNatClampNeg = i := nI_clamp (by omega)
        have vi : vp_in (nI i) 20 := vp_in_nI hi (by decide)
        refine br_f (nI_ge (b := 20) hi (by decide)) (br_f le ?_)
        dsimp only
        rw [ci, eu]
        refine ⟨vi, br_c (fun t0 => ?_) (fun t0 => ⟨vi, hy_way ok hs hu fun w1 b1 hw1 _ => ?_⟩)⟩
        · unfold wY_on_75
          rw [ci]
          refine ⟨vi, br_t t0 ?_⟩
          unfold wY_on_105
          refine br_t (by decide) ?_
          rw [nI_1]
          refine nm_e (hn (r', b') (hx_setF hr' ?_))
          rintro ⟨u', v', x', _, _, hk, _⟩
          exact hk0 t0 _ _ _ hk
        · obtain ⟨kk, _⟩ := hk1 t0
          have r1 := gr_Ansr gok hs hw1
          dsimp only
          unfold wY_on_75
          rw [ci, ev]
          refine ⟨vi, br_f t0 ⟨vi, hy_way ok hv ht fun w2 b2 hw2 _ => ?_⟩⟩
          have r2 := gr_Ansr gok hv hw2
          have eP := hx_onI ok (r := (tb (7 * s + t)).toInt) hs hv kk hw1 hw2
          have es : (w1 + a_arcWeight i + w2).toInt = w1.toInt + x + w2.toInt ∨ w1.toInt ≤ -1000 ∨ w2.toInt ≤ -1000 := by
            by_cases c1 : w1.toInt ≤ -1000
            · exact Or.inr (Or.inl c1)
            · by_cases c2 : w2.toInt ≤ -1000
              · exact Or.inr (Or.inr c2)
              · exact Or.inl (hp_add (hp_add rfl ew (by omega) (by omega)) rfl (by omega) (by omega))
          dsimp only
          unfold wY_on_105
          rw [ci, nI_1]
          refine br_c (fun c1 => nm_e (hn (r', b2) (hx_setF hr' fun z => ?_))) (fun c1 => br_c (fun c2 => nm_e (hn (r', b2) (hx_setF hr' fun z => ?_))) (fun c2 => ⟨vi, br_c (fun c3 => nm_e (nm_e (hn (_, b2) (hx_setT hr' (by omega) (eP.mpr ?_))))) (fun c3 => nm_e (hn (r', b2) (hx_setF hr' fun z => ?_)))⟩))
          · rw [hp_le, hp_B] at c1
            have := eP.mp z
            omega
          · rw [hp_le, hp_B] at c2
            have := eP.mp z
            omega
          · rw [hp_le, hp_B] at c1 c2
            rw [hp_eq] at c3
            omega
          · rw [hp_le, hp_B] at c1 c2
            rw [hp_eq] at c3
            have := eP.mp z
            omega
    · intro n i r hi hr hn
      obtain ⟨u, v, x, hu, hv, eu, ev, ew, hx1, hx2, hk0, hk1⟩ := hx_arc ok hi
      have ci : (nI i).toNatClampNeg = i := nI_clamp (by omega)
      have cu : (nI (7 * s + u)).toNatClampNeg = 7 * s + u := nI_clamp (by omega)
      have cv : (nI (7 * v + t)).toNatClampNeg = 7 * v + t := nI_clamp (by omega)
      have vi : vp_in (nI i) 20 := vp_in_nI hi (by decide)
      refine br_f (nI_ge (b := 20) hi (by decide)) ?_
      simp only [ci, eu, ev, hp_ix, cu, cv, nI_1]
      refine ⟨vi, br_c (fun t0 => nm_e (hn r (hx_setF hr ?_))) (fun t0 => ⟨vi, vp_in_nI (by omega) (by decide), nm_e ⟨vi, vp_in_nI (by omega) (by decide), nm_e ?_⟩⟩)⟩
      · rintro ⟨u', v', x', _, _, hk, _⟩
        exact hk0 t0 _ _ _ hk
      obtain ⟨kk, _⟩ := hk1 t0
      have a1 := ha s u hs hu
      have a2 := ha v t hv ht
      have r1 := gr_Ansr gok hs a1
      have r2 := gr_Ansr gok hv a2
      have eP := hx_onI ok (r := (tb (7 * s + t)).toInt) hs hv kk a1 a2
      refine hx_isFound (fun f => br_t rfl (nm_e (hn r (hx_setF hr fun z => ?_)))) (fun g1 g2 => br_f (by decide) (hx_isFound (fun f => br_t rfl (nm_e (hn r (hx_setF hr fun z => ?_)))) (fun g3 g4 => br_f (by decide) ⟨vi, ?_⟩)))
      · have := eP.mp z
        omega
      · have := eP.mp z
        omega
      · have es : (tb (7 * s + u) + a_arcWeight i + tb (7 * v + t)).toInt = (tb (7 * s + u)).toInt + x + (tb (7 * v + t)).toInt := hp_add (hp_add rfl ew (by omega) (by omega)) rfl (by omega) (by omega)
        refine br_c (fun c3 => nm_e (nm_e (hn _ (hx_setT hr (by omega) (eP.mpr ?_))))) (fun c3 => nm_e (hn r (hx_setF hr fun z => ?_)))
        · rw [hp_eq, es] at c3
          exact ⟨g1, g2, g3, g4, c3⟩
        · rw [hp_eq, es] at c3
          exact c3 (eP.mp z).2.2.2.2
/-- the greatest found of the first c pairs of two points -/
def hx_mx (A : Nat → Nat → Int → Prop) (c : Nat) (r : Int) : Prop := (r = -3000 ∧ ∀ s t a, s < 7 → t < 7 → 7 * s + t < c → s ≠ t → ¬ gr_M A s t a) ∨ ((∃ s t, s < 7 ∧ t < 7 ∧ 7 * s + t < c ∧ s ≠ t ∧ gr_M A s t r) ∧ ∀ s t a, s < 7 → t < 7 → 7 * s + t < c → s ≠ t → gr_M A s t a → a ≤ r)
section
variable {A : Nat → Nat → Int → Prop}
theorem hx_mxU {c : Nat} {r r' : Int} (h : hx_mx A c r) (h' : hx_mx A c r') : r = r' := by
  rcases h with ⟨e, h⟩ | ⟨⟨s, t, g1, g2, g3, g4, g5⟩, h⟩ <;> rcases h' with ⟨e', h'⟩ | ⟨⟨s', t', k1, k2, k3, k4, k5⟩, h'⟩
  · omega
  · exact absurd k5 (h _ _ _ k1 k2 k3 k4)
  · exact absurd g5 (h' _ _ _ g1 g2 g3 g4)
  · have := h _ _ _ k1 k2 k3 k4 k5
    have := h' _ _ _ g1 g2 g3 g4 g5
    omega
theorem hx_mxK (ok : gr_ok A) {s t : Nat} {r : Int} (hs : s < 7) (ht : t < 7) (h : hx_mx A (7 * s + t) r) (hr : s ≠ t → ∀ a, gr_M A s t a → a ≤ r) : hx_mx A (7 * s + t + 1) r := by
  have new : ∀ s' t' a, s' < 7 → t' < 7 → 7 * s' + t' < 7 * s + t + 1 → s' ≠ t' → gr_M A s' t' a → 7 * s' + t' < 7 * s + t ∨ a ≤ r := by
    intro s' t' a h1 h2 h3 h4 h5
    by_cases e : 7 * s' + t' = 7 * s + t
    · have e1 : s' = s := by omega
      have e2 : t' = t := by omega
      subst e1 e2
      exact Or.inr (hr h4 a h5)
    · exact Or.inl (by omega)
  rcases h with ⟨e, h⟩ | ⟨⟨s', t', g1, g2, g3, g4, g5⟩, h⟩
  · refine Or.inl ⟨e, fun s' t' a h1 h2 h3 h4 h5 => ?_⟩
    rcases new s' t' a h1 h2 h3 h4 h5 with z | z
    · exact h s' t' a h1 h2 z h4 h5
    · have := gr_Mr ok h1 h5
      omega
  · refine Or.inr ⟨⟨s', t', g1, g2, by omega, g4, g5⟩, fun s' t' a h1 h2 h3 h4 h5 => ?_⟩
    rcases new s' t' a h1 h2 h3 h4 h5 with z | z
    · exact h s' t' a h1 h2 z h4 h5
    · exact z
theorem hx_mxT {s t : Nat} {r z : Int} (hs : s < 7) (ht : t < 7) (h : hx_mx A (7 * s + t) r) (hne : s ≠ t) (hm : gr_M A s t z) (hz : r ≤ z) : hx_mx A (7 * s + t + 1) z := by
  refine Or.inr ⟨⟨s, t, hs, ht, by omega, hne, hm⟩, fun s' t' a h1 h2 h3 h4 h5 => ?_⟩
  by_cases e : 7 * s' + t' = 7 * s + t
  · have e1 : s' = s := by omega
    have e2 : t' = t := by omega
    subst e1 e2
    obtain ⟨n, g⟩ := hm.1
    exact h5.2 n z g
  · rcases h with ⟨_, h⟩ | ⟨_, h⟩
    · exact absurd h5 (h s' t' a h1 h2 (by omega) h4)
    · exact Int.le_trans (h s' t' a h1 h2 (by omega) h4 h5) hz
theorem hx_mxr (ok : gr_ok A) {c : Nat} {r : Int} (h : hx_mx A c r) : r = -3000 ∨ (-120 ≤ r ∧ r ≤ 120) := by
  rcases h with ⟨e, _⟩ | ⟨⟨s, t, g1, g2, g3, g4, g5⟩, _⟩
  · exact Or.inl e
  · have := gr_Mr ok g1 g5
    exact Or.inr ⟨by omega, by omega⟩
end
theorem i_vc_widest {k : Nat} {u : SX} {v : SY} (I : i_Rel k u v) (hk : k + 4 ≤ 2048) : wpX_widest (fun r u' => wpY_widest (fun r' v' => r' = r ∧ i_Rel (k + 4) u' v') v) u := by
  obtain ⟨f_queueStart, f_queueLength, f_leastTop, f_leastBottom, a_arcThere, a_arcFrom, a_arcTo, a_arcWeight, a_table, a_otherTable, a_squared, a_levels, a_setCells, a_onRingBelowZero, a_queue, a_queued, a_arcsUsed⟩ := u
  obtain ⟨f_top, f_bottom, f_ringPoints, a_there, a_froms, a_tos, a_weights, a_walks, a_ways⟩ := v
  obtain ⟨rfl, rfl, rfl, rfl, ok, hq⟩ := I
  have gok := hx_grok ok
  unfold wpX_widest
  dsimp only
  refine hx_fill_table (e := 0) ok hq (by decide) fun st ln tb sq sc rb q qd us hqd ha => ?_
  have z0 : hx_mx (hx_A a_arcThere a_arcFrom a_arcTo a_arcWeight) 0 (-3000 : Int32).toInt := Or.inl ⟨hp_N, fun s t a _ _ h => absurd h (by omega)⟩
  refine loop_0 (fun n i (r : Int32) => wX_widest_15 _ st ln f_leastTop f_leastBottom a_arcThere a_arcFrom a_arcTo a_arcWeight tb a_otherTable sq a_levels sc rb q qd us n r (nI i)) (fun i r => hx_mx (hx_A a_arcThere a_arcFrom a_arcTo a_arcWeight) (7 * i) r.toInt) 7 (-3000) z0 ?_ ?_
  · intro n r hr
    refine br_t (nI_le (Nat.le_refl 7) (by decide)) ?_
    refine loop_0 (fun n i (z : Int32 × (Nat → Int32)) => wY_widest_6 _ n z.1 (nI i) f_top f_bottom f_ringPoints a_arcThere a_arcFrom a_arcTo a_arcWeight z.2 a_ways) (fun i z => hx_mx (hx_A a_arcThere a_arcFrom a_arcTo a_arcWeight) i z.1.toInt) 49 (-3000, a_walks) z0 ?_ ?_
    · rintro n ⟨r', b'⟩ hr'
      exact br_t (nI_le (Nat.le_refl 49) (by decide)) ⟨hp_eq.mpr (hx_mxU hr' hr), rfl, rfl, rfl, rfl, ok, hqd⟩
    · rintro n c ⟨r', b'⟩ hc hr' hn
      dsimp only at hr'
      obtain ⟨s, t, rfl, ht, hs⟩ : ∃ s t, c = 7 * s + t ∧ t < 7 ∧ s < 7 := ⟨c / 7, c % 7, by omega, by omega, by omega⟩
      obtain ⟨e1, e2⟩ := hp_c7 (i := s) ht (by omega)
      have n7 : ¬ (7 : Int32) = 0 := by decide
      refine br_f (nI_ge (b := 49) hc (by decide)) ?_
      dsimp only
      rw [e2, e1, nI_eq (by omega) (by omega)]
      refine ⟨n7, n7, br_c (fun c1 => ?_) (fun c1 => ⟨n7, n7, hy_way ok hs ht fun w b hw _ => ?_⟩)⟩
      · unfold wY_widest_41
        rw [nI_1]
        exact br_t (by decide) (nm_e (hn (r', b') (hx_mxK gok hs ht hr' fun z => absurd c1 z)))
      · have rw' := gr_Ansr gok hs hw
        dsimp only
        unfold wY_widest_41
        rw [nI_1]
        refine br_c (fun c2 => nm_e (hn (r', b) (hx_mxK gok hs ht hr' fun _ a hm => ?_))) (fun c2 => br_c (fun c3 => nm_e (hn (r', b) (hx_mxK gok hs ht hr' fun _ a hm => ?_))) (fun c3 => nm_e (hn (w, b) (hx_mxT hs ht hr' c1 ((gr_AnsM gok hs hw).mp ⟨?_, ?_⟩) ?_))))
        · rw [hp_le, hp_B] at c2
          obtain ⟨_, f1, f2⟩ := gr_AnsN gok hs hw hm
          omega
        · rw [hp_le] at c3
          obtain ⟨f0, f1, f2⟩ := gr_AnsN gok hs hw hm
          dsimp only
          omega
        · rw [hp_le, hp_B] at c2
          omega
        · rw [hp_le, hp_B] at c2
          omega
        · rw [hp_le] at c3
          dsimp only
          omega
  · intro n s r hs hr hn
    refine br_f (nI_ge (b := 7) hs (by decide)) ?_
    refine loop_0 (fun n' i (r : Int32) => wX_widest_23 _ (wX_widest_15 _ st ln f_leastTop f_leastBottom a_arcThere a_arcFrom a_arcTo a_arcWeight tb a_otherTable sq a_levels sc rb q qd us n) (nI s) st ln f_leastTop f_leastBottom a_arcThere a_arcFrom a_arcTo a_arcWeight tb a_otherTable sq a_levels sc rb q qd us n' r (nI i)) (fun i r => hx_mx (hx_A a_arcThere a_arcFrom a_arcTo a_arcWeight) (7 * s + i) r.toInt) 7 r hr ?_ ?_
    · intro n' r hr
      refine br_t (nI_le (Nat.le_refl 7) (by decide)) ?_
      rw [nI_1]
      exact nm_e (hn r hr)
    · intro n' t r ht hr hn'
      have ck : (nI (7 * s + t)).toNatClampNeg = 7 * s + t := nI_clamp (by omega)
      have hA := ha s t hs ht
      have rA := gr_Ansr gok hs hA
      refine br_f (nI_ge (b := 7) ht (by decide)) ?_
      rw [hp_ix, ck, nI_1, nI_eq (by omega) (by omega)]
      refine ⟨vp_in_nI (by omega) (by decide), nm_e (br_c (fun c1 => nm_e (hn' r (hx_mxK gok hs ht hr fun z => absurd c1 z))) (fun c1 => hx_isFound (fun f => br_t rfl (nm_e (hn' r (hx_mxK gok hs ht hr fun _ a hm => ?_)))) (fun f1 f2 => br_f (by decide) (br_c (fun c3 => nm_e (hn' r (hx_mxK gok hs ht hr fun _ a hm => ?_))) (fun c3 => nm_e (hn' _ (hx_mxT hs ht hr c1 ((gr_AnsM gok hs hA).mp ⟨f1, f2⟩) ?_)))))))⟩
      · obtain ⟨_, g1, g2⟩ := gr_AnsN gok hs hA hm
        omega
      · rw [hp_le] at c3
        obtain ⟨g0, g1, g2⟩ := gr_AnsN gok hs hA hm
        omega
      · rw [hp_le] at c3
        omega
