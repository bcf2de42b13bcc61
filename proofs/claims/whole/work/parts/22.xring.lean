/-! the component: findLeastMean, closesWithLeastMean -/
theorem hx_leastMean {post : SX → Prop} {f_queueStart f_queueLength f_leastTop f_leastBottom : Int32} {a_arcThere a_arcFrom a_arcTo a_arcWeight a_table a_otherTable a_squared a_levels a_setCells a_onRingBelowZero a_queue a_queued a_arcsUsed : Nat → Int32} (ok : hx_ok a_arcThere a_arcFrom a_arcTo a_arcWeight) {e : Nat} (he : e < 2) (h : ∀ (t b : Int32) (lv : Nat → Int32), hx_mred (hx_A a_arcThere a_arcFrom a_arcTo a_arcWeight) t.toInt b.toInt → post (f_queueStart, f_queueLength, t, b, a_arcThere, a_arcFrom, a_arcTo, a_arcWeight, a_table, a_otherTable, a_squared, lv, a_setCells, a_onRingBelowZero, a_queue, a_queued, a_arcsUsed)) : wpX_findLeastMean post (f_queueStart, f_queueLength, f_leastTop, f_leastBottom, a_arcThere, a_arcFrom, a_arcTo, a_arcWeight, a_table, a_otherTable, a_squared, a_levels, a_setCells, a_onRingBelowZero, a_queue, a_queued, a_arcsUsed) (nI e) := by
  have e2 : e = 0 ∨ e = 1 := by omega
  unfold wpX_findLeastMean
  dsimp only
  rcases e2 with rfl | rfl
  · refine br_t (by decide) (hx_byLevels ok fun t b lv hm => ?_)
    exact hx_reduce hm fun t' b' hr => h t' b' lv hr
  · refine br_f (by decide) (hx_byClosed ok fun t b lv hm => ?_)
    exact hx_reduce hm fun t' b' hr => h t' b' lv hr
theorem hx_closesM {post : Int32 → Prop} {f_queueStart f_queueLength f_leastTop f_leastBottom : Int32} {a_arcThere a_arcFrom a_arcTo a_arcWeight a_table a_otherTable a_squared a_levels a_setCells a_onRingBelowZero a_queue a_queued a_arcsUsed : Nat → Int32} (ok : hx_ok a_arcThere a_arcFrom a_arcTo a_arcWeight) {p : Nat} (hp : p < 7) (hlv : hx_lv (hx_A a_arcThere a_arcFrom a_arcTo a_arcWeight) (fun s' => s' = p) a_levels) (ht : -1000 ≤ f_leastTop.toInt ∧ f_leastTop.toInt ≤ 1000) (hb : 0 ≤ f_leastBottom.toInt ∧ f_leastBottom.toInt ≤ 7) (h1 : (∃ n c, 1 ≤ n ∧ n ≤ 7 ∧ gr_W (hx_A a_arcThere a_arcFrom a_arcTo a_arcWeight) n p p c ∧ (∀ d, gr_W (hx_A a_arcThere a_arcFrom a_arcTo a_arcWeight) n p p d → c ≤ d) ∧ c * f_leastBottom.toInt = f_leastTop.toInt * (n : Int)) → post 1) (h0 : ¬ (∃ n c, 1 ≤ n ∧ n ≤ 7 ∧ gr_W (hx_A a_arcThere a_arcFrom a_arcTo a_arcWeight) n p p c ∧ (∀ d, gr_W (hx_A a_arcThere a_arcFrom a_arcTo a_arcWeight) n p p d → c ≤ d) ∧ c * f_leastBottom.toInt = f_leastTop.toInt * (n : Int)) → post 0) : wpX_closesWithLeastMean post (f_queueStart, f_queueLength, f_leastTop, f_leastBottom, a_arcThere, a_arcFrom, a_arcTo, a_arcWeight, a_table, a_otherTable, a_squared, a_levels, a_setCells, a_onRingBelowZero, a_queue, a_queued, a_arcsUsed) (nI p) := by
  have gok := hx_grok ok
  refine pk_loop (fun n i (_ : Unit) => wX_closesWithLeastMean_2 post (nI p) f_queueStart f_queueLength f_leastTop f_leastBottom a_arcThere a_arcFrom a_arcTo a_arcWeight a_table a_otherTable a_squared a_levels a_setCells a_onRingBelowZero a_queue a_queued a_arcsUsed n (nI i)) (fun i _ => 1 ≤ i ∧ ∀ n c, 1 ≤ n → n < i → gr_W (hx_A a_arcThere a_arcFrom a_arcTo a_arcWeight) n p p c → (∀ d, gr_W (hx_A a_arcThere a_arcFrom a_arcTo a_arcWeight) n p p d → c ≤ d) → c * f_leastBottom.toInt = f_leastTop.toInt * (n : Int) → False) 8 1 () (by decide) ⟨Nat.le_refl 1, fun n c g1 g2 => absurd g2 (by omega)⟩ ?_ ?_
  · rintro n _ ⟨_, hI⟩
    refine br_t (nI_lt (a := 7) (b := 8) (by decide) (by decide)) (h0 ?_)
    rintro ⟨k, c, g1, g2, g3, g4, g5⟩
    exact hI k c g1 (by omega) g3 g4 g5
  · rintro n m _ hm ⟨m1, hI⟩ hn
    have ck : (nI (7 * m + p)).toNatClampNeg = 7 * m + p := nI_clamp (by omega)
    have hz : gr_mn 1000000 (gr_W (hx_A a_arcThere a_arcFrom a_arcTo a_arcWeight) m p p) (a_levels (7 * m + p)).toInt := gr_mnC (fun c => gr_V1.symm) (hlv m p (by omega) hp)
    refine br_f (nI_nlt (a := 7) (b := m) (by omega) (by decide)) ?_
    rw [hp_ix, ck, nI_1]
    refine ⟨vp_in_nI (by omega) (by decide), nm_e (br_c (fun c => nm_e (hn () ⟨by omega, fun k d k1 k2 g3 g4 g5 => ?_⟩)) (fun c => ?_))⟩
    · rw [hp_eq, hp_F] at c
      by_cases e : k = m
      · subst e
        rcases hz with ⟨_, z⟩ | ⟨z, _⟩
        · exact z d g3
        · exact z c
      · exact hI k d k1 (by omega) g3 g4 g5
    · rw [hp_eq, hp_F] at c
      have hz' : gr_W (hx_A a_arcThere a_arcFrom a_arcTo a_arcWeight) m p p (a_levels (7 * m + p)).toInt ∧ ∀ d, gr_W (hx_A a_arcThere a_arcFrom a_arcTo a_arcWeight) m p p d → (a_levels (7 * m + p)).toInt ≤ d := by
        rcases hz with ⟨z, _⟩ | ⟨_, z⟩
        · exact absurd z c
        · exact z
      have bz := gr_Wb gok hz'.1
      have q1 : (a_levels (7 * m + p) * f_leastBottom).toInt = (a_levels (7 * m + p)).toInt * f_leastBottom.toInt := hx_mul rfl rfl (by omega) (by omega)
      have q2 : (f_leastTop * nI m).toInt = f_leastTop.toInt * (m : Int) := hx_mul rfl (nI_toInt (by omega)) (by omega) (by omega)
      refine br_c (fun c2 => h1 ⟨m, _, m1, by omega, hz'.1, hz'.2, ?_⟩) (fun c2 => nm_e (hn () ⟨by omega, fun k d k1 k2 g3 g4 g5 => ?_⟩))
      · rw [hp_eq, q1, q2] at c2
        exact c2
      · rw [hp_eq, q1, q2] at c2
        by_cases e : k = m
        · subst e
          have l1 := g4 _ hz'.1
          have l2 := hz'.2 _ g3
          have ee : d = (a_levels (7 * k + p)).toInt := by omega
          rw [ee] at g5
          exact c2 g5
        · exact hI k d k1 (by omega) g3 g4 g5
