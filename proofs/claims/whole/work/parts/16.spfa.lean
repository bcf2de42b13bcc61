/-! the component: engine 3, its loops -/
theorem hx_leave_table {post : SX → Prop} {f_leastTop f_leastBottom : Int32} {a_arcThere a_arcFrom a_arcTo a_arcWeight a_table a_otherTable a_squared a_levels a_setCells a_onRingBelowZero a_queue a_queued a_arcsUsed : Nat → Int32} (ok : hx_ok a_arcThere a_arcFrom a_arcTo a_arcWeight) {s p st ln : Nat} (hs : s < 7) (hp : p < 7) (hQ : hx_Q st ln a_queue a_queued) (hC : hx_C3 (hx_A a_arcThere a_arcFrom a_arcTo a_arcWeight) s a_table a_arcsUsed) (hrel : ∀ v, v < 7 → v ≠ p → a_queued v = 0 → hx_rel (hx_A a_arcThere a_arcFrom a_arcTo a_arcWeight) s a_table v) (h : ∀ (ln' : Nat) (b us q qd : Nat → Int32), (∀ j, (∀ v, v < 7 → j ≠ 7 * s + v) → b j = a_table j) → hx_Q st ln' q qd → hx_C3 (hx_A a_arcThere a_arcFrom a_arcTo a_arcWeight) s b us → (∀ v, v < 7 → qd v = 0 → hx_rel (hx_A a_arcThere a_arcFrom a_arcTo a_arcWeight) s b v) → hx_S3 s b + ln' ≤ hx_S3 s a_table + ln → post ((nI st), (nI ln'), f_leastTop, f_leastBottom, a_arcThere, a_arcFrom, a_arcTo, a_arcWeight, b, a_otherTable, a_squared, a_levels, a_setCells, a_onRingBelowZero, q, qd, us)) : wpX_leave__table post ((nI st), (nI ln), f_leastTop, f_leastBottom, a_arcThere, a_arcFrom, a_arcTo, a_arcWeight, a_table, a_otherTable, a_squared, a_levels, a_setCells, a_onRingBelowZero, a_queue, a_queued, a_arcsUsed) (nI (7 * s)) (nI p) := by
  have gok := hx_grok ok
  refine loop_0 (fun n i (z : Nat × (Nat → Int32) × (Nat → Int32) × (Nat → Int32) × (Nat → Int32)) => wX_leave__table_3 post (nI (7 * s)) (nI p) n (nI i) (nI st) (nI z.1) f_leastTop f_leastBottom a_arcThere a_arcFrom a_arcTo a_arcWeight z.2.1 a_otherTable a_squared a_levels a_setCells a_onRingBelowZero z.2.2.1 z.2.2.2.1 z.2.2.2.2) (fun i z => (∀ j, (∀ v, v < 7 → j ≠ 7 * s + v) → z.2.1 j = a_table j) ∧ hx_Q st z.1 z.2.2.1 z.2.2.2.1 ∧ hx_C3 (hx_A a_arcThere a_arcFrom a_arcTo a_arcWeight) s z.2.1 z.2.2.2.2 ∧ (∀ v, v < 7 → v ≠ p → z.2.2.2.1 v = 0 → hx_rel (hx_A a_arcThere a_arcFrom a_arcTo a_arcWeight) s z.2.1 v) ∧ (z.2.2.2.1 p = 0 → ∀ j y x, j < i → (hx_K a_arcThere a_arcFrom a_arcTo a_arcWeight) j p y x → (z.2.1 (7 * s + p)).toInt ≠ 1000000 → (z.2.1 (7 * s + y)).toInt ≤ gr_j (z.2.1 (7 * s + p)).toInt x) ∧ hx_S3 s z.2.1 + z.1 ≤ hx_S3 s a_table + ln) 20 (ln, a_table, a_queue, a_queued, a_arcsUsed) ?_ ?_ ?_
  · exact ⟨fun j _ => rfl, hQ, hC, hrel, fun _ j y x hj => absurd hj (by omega), Int.le_refl _⟩
  · rintro n ⟨ln', b, q, qd, us⟩ ⟨r1, r2, r3, r4, r5, r6⟩
    refine br_t (nI_le (Nat.le_refl 20) (by decide)) (h ln' b us q qd r1 r2 r3 (fun v hv hq => ?_) r6)
    by_cases e : v = p
    · subst e
      rintro y x ⟨j, hj, hk⟩ hF
      exact r5 hq j y x hj hk hF
    · exact r4 v hv e hq
  · rintro n i ⟨ln', b, q, qd, us⟩ hi ⟨r1, r2, r3, r4, r5, r6⟩ hn
    dsimp only at r1 r2 r3 r4 r5 r6
    obtain ⟨u, v, x, hu, hv, eu, ev, ew, hx1, hx2, hk0, hk1⟩ := hx_arc ok hi
    have ck : (nI i).toNatClampNeg = i := nI_clamp (by omega)
    have cp : (nI p).toNatClampNeg = p := nI_clamp (by omega)
    have cq : (nI v).toNatClampNeg = v := nI_clamp (by omega)
    have cu : (nI (7 * s + p)).toNatClampNeg = 7 * s + p := nI_clamp (by omega)
    have cv : (nI (7 * s + v)).toNatClampNeg = 7 * s + v := nI_clamp (by omega)
    have vi : vp_in (nI i) 20 := vp_in_nI hi (by decide)
    have vp : vp_in (nI p) 7 := vp_in_nI hp (by decide)
    have vq : vp_in (nI v) 7 := vp_in_nI hv (by decide)
    have vu : vp_in (nI (7 * s + p)) 49 := vp_in_nI (by omega) (by decide)
    have vv : vp_in (nI (7 * s + v)) 49 := vp_in_nI (by omega) (by decide)
    have keep : (∀ y x, (hx_K a_arcThere a_arcFrom a_arcTo a_arcWeight) i p y x → (b (7 * s + p)).toInt ≠ 1000000 → (b (7 * s + y)).toInt ≤ gr_j (b (7 * s + p)).toInt x) → wX_leave__table_3 post (nI (7 * s)) (nI p) n (nI (i + 1)) (nI st) (nI ln') f_leastTop f_leastBottom a_arcThere a_arcFrom a_arcTo a_arcWeight b a_otherTable a_squared a_levels a_setCells a_onRingBelowZero q qd us := by
      intro hh
      refine hn (ln', b, q, qd, us) ⟨r1, r2, r3, r4, fun hq j y x' hj hk hF => ?_, r6⟩
      by_cases e : j = i
      · subst e
        exact hh y x' hk hF
      · exact r5 hq j y x' (by omega) hk hF
    refine br_f (nI_ge (b := 20) hi (by decide)) ?_
    simp only [ck, eu, ev, nI_1, nI_add, cu, cp]
    refine ⟨vi, br_c (fun t0 => nm_e (keep fun y x' hk => absurd hk (hk0 t0 _ _ _))) (fun t0 => ⟨vi, ?_⟩)⟩
    obtain ⟨kk, ha⟩ := hk1 t0
    refine br_c (fun c => ?_) (fun c => nm_e (keep fun y x' hk => ?_))
    · rw [nI_eq (by omega) (by omega)] at c
      subst c
      have rp := gr_Cr gok (by decide) (gr_IC (r3.1 u hu))
      refine ⟨vi, nm_e ⟨vu, vi, ?_⟩⟩
      simp only [nI_add, cv, cq]
      refine hx_jE rfl ew (gr_rgr rp) (by omega) fun r hr => ⟨vv, br_c (fun c => nm_e (keep fun y x' hk hF => ?_)) (fun c => ⟨vp, vq, nm_e ⟨vq, ?_⟩⟩)⟩
      · obtain ⟨_, rfl, rfl⟩ := (kk _ _ _).mp hk
        rw [hp_le, hr] at c
        exact c
      · rw [hp_le, hr] at c
        have go : ∀ z0 : Int32, z0.toInt = (if (us u).toInt + 1 < 7 then gr_j (b (7 * s + u)).toInt x else -1000000) → wX_leave__table_107 post (wX_leave__table_3 post (nI (7 * s)) (nI u) n) (nI (7 * s)) (nI u) (nI i) (nI v) z0 (nI (7 * s + v)) (nI st) (nI ln') f_leastTop f_leastBottom a_arcThere a_arcFrom a_arcTo a_arcWeight b a_otherTable a_squared a_levels a_setCells a_onRingBelowZero q qd (upd us v (us u + 1)) := by
          intro z0 hz
          obtain ⟨k1, k2, k3, k4, k5⟩ := hx_sink3 gok hs hp hv r3 ha (by omega) hz
          have r1' : ∀ j, (∀ v, v < 7 → j ≠ 7 * s + v) → upd b (7 * s + v) z0 j = a_table j := by
            intro j hj
            rw [pk_un (hj v hv)]
            exact r1 j hj
          have relm : ∀ w, w ≠ v → hx_rel (hx_A a_arcThere a_arcFrom a_arcTo a_arcWeight) s b w → hx_rel (hx_A a_arcThere a_arcFrom a_arcTo a_arcWeight) s (upd b (7 * s + v) z0) w := by
            intro w hw hr' y x' a' hF
            have e : upd b (7 * s + v) z0 (7 * s + w) = b (7 * s + w) := pk_un (by omega)
            rw [e] at hF ⊢
            exact Int.le_trans (k4 y) (hr' y x' a' hF)
          have part : u ≠ v → qd u = 0 → ∀ j y x', j < i + 1 → (hx_K a_arcThere a_arcFrom a_arcTo a_arcWeight) j u y x' → (upd b (7 * s + v) z0 (7 * s + u)).toInt ≠ 1000000 → (upd b (7 * s + v) z0 (7 * s + y)).toInt ≤ gr_j (upd b (7 * s + v) z0 (7 * s + u)).toInt x' := by
            intro hne hq j y x' hj hk hF
            have e : upd b (7 * s + v) z0 (7 * s + u) = b (7 * s + u) := pk_un (by omega)
            rw [e] at hF ⊢
            by_cases ej : j = i
            · subst ej
              obtain ⟨_, rfl, rfl⟩ := (kk _ _ _).mp hk
              rw [pk_us]
              exact k3
            · exact Int.le_trans (k4 y) (r5 hq j y x' (by omega) hk hF)
          unfold wX_leave__table_107
          rw [cv]
          refine ⟨vv, nm_e (hx_enqueue hv r2 (fun c2 => ?_) (fun c2 q' hQ' => ?_))⟩
          · dsimp only
            rw [nI_1]
            refine nm_e (hn (ln', upd b (7 * s + v) z0, q, qd, upd us v (us u + 1)) ⟨r1', r2, k1, fun w hw hne hq => relm w (fun e => c2 (e ▸ hq)) (r4 w hw hne hq), fun hq => part (fun e => c2 (e ▸ hq)) hq, ?_⟩)
            dsimp only
            omega
          · dsimp only
            rw [nI_1]
            refine nm_e (hn (ln' + 1, upd b (7 * s + v) z0, q', upd qd v 1, upd us v (us u + 1)) ⟨r1', hQ', k1, fun w hw hne hq => ?_, fun hq => ?_, ?_⟩)
            · dsimp only at hq
              by_cases e : w = v
              · subst e
                rw [pk_us] at hq
                exact absurd hq (by decide)
              · rw [pk_un e] at hq
                exact relm w e (r4 w hw hne hq)
            · dsimp only at hq
              by_cases e : u = v
              · subst e
                rw [pk_us] at hq
                exact absurd hq (by decide)
              · rw [pk_un e] at hq
                exact part e hq
            · dsimp only
              omega
        have k5 : (us u + 1).toInt = (us u).toInt + 1 := (hx_sink3 gok (z0 := if (us u).toInt + 1 < 7 then r else (-1000000)) hs hp hv r3 ha (by omega) (by split <;> first | exact hr | exact hp_D)).2.2.2.2
        rw [pk_us]
        refine br_c (fun c2 => go (-1000000) ?_) (fun c2 => go r ?_)
        · rw [hp_le, hp_7, k5] at c2
          rw [if_neg (by omega), hp_D]
        · rw [hp_le, hp_7, k5] at c2
          rw [if_pos (by omega), hr]
    · obtain ⟨e, _, _⟩ := (kk _ _ _).mp hk
      exact absurd (by rw [e]) c
theorem hx_fillByQueue_table {post : SX → Prop} {f_queueStart f_queueLength f_leastTop f_leastBottom : Int32} {a_arcThere a_arcFrom a_arcTo a_arcWeight a_table a_otherTable a_squared a_levels a_setCells a_onRingBelowZero a_queue a_queued a_arcsUsed : Nat → Int32} (ok : hx_ok a_arcThere a_arcFrom a_arcTo a_arcWeight) (hq0 : ∀ v, v < 7 → a_queued v = 0) (h : ∀ (st ln : Int32) (b q qd us : Nat → Int32), (∀ v, v < 7 → qd v = 0) → (∀ s t, s < 7 → t < 7 → gr_Ans (hx_A a_arcThere a_arcFrom a_arcTo a_arcWeight) s t (gr_cv (b (7 * s + t)).toInt)) → post (st, ln, f_leastTop, f_leastBottom, a_arcThere, a_arcFrom, a_arcTo, a_arcWeight, b, a_otherTable, a_squared, a_levels, a_setCells, a_onRingBelowZero, q, qd, us)) : wpX_fillByQueue__table post (f_queueStart, f_queueLength, f_leastTop, f_leastBottom, a_arcThere, a_arcFrom, a_arcTo, a_arcWeight, a_table, a_otherTable, a_squared, a_levels, a_setCells, a_onRingBelowZero, a_queue, a_queued, a_arcsUsed) := by
  have gok := hx_grok ok
  unfold wpX_fillByQueue__table
  refine hx_startEmpty_table fun b0 h0 => ?_
  refine loop_0 (fun n i (z : Int32 × Int32 × (Nat → Int32) × (Nat → Int32) × (Nat → Int32) × (Nat → Int32)) => wX_fillByQueue__table_6 post n (nI i) z.1 z.2.1 f_leastTop f_leastBottom a_arcThere a_arcFrom a_arcTo a_arcWeight z.2.2.1 a_otherTable a_squared a_levels a_setCells a_onRingBelowZero z.2.2.2.1 z.2.2.2.2.1 z.2.2.2.2.2) (fun i z => (∀ v, v < 7 → z.2.2.2.2.1 v = 0) ∧ (∀ s t, s < i → t < 7 → gr_Ans (hx_A a_arcThere a_arcFrom a_arcTo a_arcWeight) s t (gr_cv (z.2.2.1 (7 * s + t)).toInt)) ∧ ∀ s t, i ≤ s → s < 7 → t < 7 → (z.2.2.1 (7 * s + t)).toInt = if s = t then 0 else 1000000) 7 (f_queueStart, f_queueLength, b0, a_queue, a_queued, a_arcsUsed) ?_ ?_ ?_
  · exact ⟨hq0, fun s t hs => absurd hs (by omega), fun s t _ hs ht => h0 s t hs ht⟩
  · rintro n ⟨st, ln, b, q, qd, us⟩ ⟨g1, g2, g3⟩
    exact br_t (nI_le (Nat.le_refl 7) (by decide)) (h st ln b q qd us g1 fun s t hs ht => g2 s t hs ht)
  · rintro n s ⟨st, ln, b, q, qd, us⟩ hs ⟨g1, g2, g3⟩ hn
    dsimp only at g1 g2 g3
    have ck : (nI s).toNatClampNeg = s := nI_clamp (by omega)
    refine br_f (nI_ge (b := 7) hs (by decide)) ?_
    dsimp only
    rw [ck]
    refine ⟨vp_in_nI hs (by decide), nm_e (hx_enqueue (st := 0) (ln := 0) hs (hx_Q0 (by decide) g1) (fun c => absurd (g1 s hs) c) (fun c q' hQ' => ?_))⟩
    have row : ∀ v, v < 7 → (b (7 * s + v)).toInt = if s = v then 0 else 1000000 := fun v hv => g3 s v (Nat.le_refl s) hs hv
    have C0 : hx_C3 (hx_A a_arcThere a_arcFrom a_arcTo a_arcWeight) s b (upd us s 0) := by
      have k0 : ∀ v, v < 7 → gr_I (hx_A a_arcThere a_arcFrom a_arcTo a_arcWeight) s (fun y => (b (7 * s + y)).toInt) v (b (7 * s + v)).toInt ((upd us s 0) v).toInt := by
        intro v hv
        rw [row v hv]
        by_cases e : s = v
        · subst e
          rw [if_pos rfl, pk_us, hp_0]
          refine Or.inr (Or.inr ⟨0, by omega, rfl, gr_W0 s, Or.inr ⟨2 ^ s, rfl, rfl, rfl, ?_⟩⟩)
          show (b (7 * s + s)).toInt ≤ 0
          rw [row s hs, if_pos rfl]
          omega
        · rw [if_neg e]
          exact Or.inl rfl
      refine ⟨k0, ?_, fun v hv hF => ?_⟩
      · rw [row s hs, if_pos rfl]
        omega
      · have e : s = v := by
          refine Classical.byContradiction fun e => hF ?_
          rw [row v hv, if_neg e]
        subst e
        rw [pk_us, hp_0]
        have := hx_sumB (f := fun v => hx_rk (b (7 * s + v)).toInt) (a := 0) (b := 242) (fun v hv => hx_rkB gok (gr_IC (k0 v hv)))
        unfold hx_S3
        omega
    have fin : ∀ (n' st ln : Nat) (b' q' qd' us' : Nat → Int32), (∀ j, (∀ v, v < 7 → j ≠ 7 * s + v) → b' j = b j) → hx_Q st 0 q' qd' → hx_C3 (hx_A a_arcThere a_arcFrom a_arcTo a_arcWeight) s b' us' → (∀ v, v < 7 → qd' v = 0 → hx_rel (hx_A a_arcThere a_arcFrom a_arcTo a_arcWeight) s b' v) → wX_fillByQueue__table_6 post n (nI (s + 1)) (nI st) (nI 0) f_leastTop f_leastBottom a_arcThere a_arcFrom a_arcTo a_arcWeight b' a_otherTable a_squared a_levels a_setCells a_onRingBelowZero q' qd' us' := by
      intro n' st ln b' q' qd' us' r1 r2 r3 r4
      have z := hx_Qz r2
      have rest := gr_rest gok (s := s) (C := fun v => (b' (7 * s + v)).toInt) hs r3.2.1 (fun v hv => gr_Cr gok (by decide) (gr_IC (r3.1 v hv))) (fun u v x a hF => r4 u (gok _ _ _ a).1 (z u (gok _ _ _ a).1) v x a hF)
      refine hn (nI st, nI 0, b', q', qd', us') ⟨z, fun s' t hs' ht => ?_, fun s' t h1 h2 h3 => ?_⟩
      · dsimp only
        by_cases e : s' = s
        · subst e
          refine gr_finD gok hs (by decide : 6 ≤ 10000) (gr_IC (r3.1 t ht)) ?_
          by_cases c : (b' (7 * s' + t)).toInt = -1000000
          · exact Or.inl c
          · exact Or.inr fun m c' g => ((rest m t c' g).resolve_left c).1
        · rw [r1 _ (fun v hv => by omega)]
          exact g2 s' t (by omega) ht
      · dsimp only
        rw [r1 _ (fun v hv => by omega)]
        exact g3 s' t (by omega) h2 h3
    refine loop_0 (fun n' i (z : Nat × Nat × (Nat → Int32) × (Nat → Int32) × (Nat → Int32) × (Nat → Int32)) => wX_fillByQueue__table_36 post (wX_fillByQueue__table_6 post n) (nI s) n' (nI i) (nI z.1) (nI z.2.1) f_leastTop f_leastBottom a_arcThere a_arcFrom a_arcTo a_arcWeight z.2.2.1 a_otherTable a_squared a_levels a_setCells a_onRingBelowZero z.2.2.2.1 z.2.2.2.2.1 z.2.2.2.2.2) (fun i z => (∀ j, (∀ v, v < 7 → j ≠ 7 * s + v) → z.2.2.1 j = b j) ∧ hx_Q z.1 z.2.1 z.2.2.2.1 z.2.2.2.2.1 ∧ hx_C3 (hx_A a_arcThere a_arcFrom a_arcTo a_arcWeight) s z.2.2.1 z.2.2.2.2.2 ∧ (∀ v, v < 7 → z.2.2.2.2.1 v = 0 → hx_rel (hx_A a_arcThere a_arcFrom a_arcTo a_arcWeight) s z.2.2.1 v) ∧ (i : Int) + hx_S3 s z.2.2.1 + z.2.1 ≤ 1695) 1696 (0, 1, b, q', upd qd s 1, upd us s 0) ?_ ?_ ?_
    · refine ⟨fun j _ => rfl, hQ', C0, fun v hv hq y x a hF => ?_, ?_⟩
      · dsimp only at hq hF
        by_cases e : v = s
        · subst e
          rw [pk_us] at hq
          exact absurd hq (by decide)
        · rw [row v hv, if_neg (fun z => e z.symm)] at hF
          exact absurd rfl hF
      · have := hx_S3B gok C0
        dsimp only
        omega
    · rintro n' ⟨st, ln, b', q', qd', us'⟩ ⟨r1, r2, r3, r4, r5⟩
      have := hx_S3B gok r3
      dsimp only at this r5
      omega
    · rintro n' i ⟨st, ln, b', q', qd', us'⟩ hi ⟨r1, r2, r3, r4, r5⟩ hn'
      dsimp only at r1 r2 r3 r4 r5
      refine br_f (nI_ge (b := 10000) (by omega) (by decide)) ?_
      have S := hx_S3B gok r3
      cases ln with
      | zero =>
        refine br_t (by decide : nI 0 ≤ 0) ?_
        dsimp only
        rw [nI_1]
        exact nm_e (fin n' st 0 b' q' qd' us' r1 r2 r3 r4)
      | succ ln =>
        refine br_f (nI_nle (n := ln + 1) (by omega) (by omega)) ?_
        refine hx_dequeue r2 fun p st' hp qp hQ2 => ?_
        dsimp only
        rw [hp_m7]
        refine hx_leave_table ok hs hp hQ2 r3 (fun v hv hne hq => ?_) fun ln' b2 us2 q2 qd2 k1 k2 k3 k4 k5 => ?_
        · rw [pk_un hne] at hq
          exact r4 v hv hq
        · dsimp only
          rw [nI_1]
          refine nm_e (hn' (st', ln', b2, q2, qd2, us2) ⟨fun j hj => (k1 j hj).trans (r1 j hj), k2, k3, k4, ?_⟩)
          dsimp only
          omega
theorem hx_leave_otherTable {post : SX → Prop} {f_leastTop f_leastBottom : Int32} {a_arcThere a_arcFrom a_arcTo a_arcWeight a_table a_otherTable a_squared a_levels a_setCells a_onRingBelowZero a_queue a_queued a_arcsUsed : Nat → Int32} (ok : hx_ok a_arcThere a_arcFrom a_arcTo a_arcWeight) {s p st ln : Nat} (hs : s < 7) (hp : p < 7) (hQ : hx_Q st ln a_queue a_queued) (hC : hx_C3 (hx_A a_arcThere a_arcFrom a_arcTo a_arcWeight) s a_otherTable a_arcsUsed) (hrel : ∀ v, v < 7 → v ≠ p → a_queued v = 0 → hx_rel (hx_A a_arcThere a_arcFrom a_arcTo a_arcWeight) s a_otherTable v) (h : ∀ (ln' : Nat) (b us q qd : Nat → Int32), (∀ j, (∀ v, v < 7 → j ≠ 7 * s + v) → b j = a_otherTable j) → hx_Q st ln' q qd → hx_C3 (hx_A a_arcThere a_arcFrom a_arcTo a_arcWeight) s b us → (∀ v, v < 7 → qd v = 0 → hx_rel (hx_A a_arcThere a_arcFrom a_arcTo a_arcWeight) s b v) → hx_S3 s b + ln' ≤ hx_S3 s a_otherTable + ln → post ((nI st), (nI ln'), f_leastTop, f_leastBottom, a_arcThere, a_arcFrom, a_arcTo, a_arcWeight, a_table, b, a_squared, a_levels, a_setCells, a_onRingBelowZero, q, qd, us)) : wpX_leave__otherTable post ((nI st), (nI ln), f_leastTop, f_leastBottom, a_arcThere, a_arcFrom, a_arcTo, a_arcWeight, a_table, a_otherTable, a_squared, a_levels, a_setCells, a_onRingBelowZero, a_queue, a_queued, a_arcsUsed) (nI (7 * s)) (nI p) := by
  have gok := hx_grok ok
  refine loop_0 (fun n i (z : Nat × (Nat → Int32) × (Nat → Int32) × (Nat → Int32) × (Nat → Int32)) => wX_leave__otherTable_3 post (nI (7 * s)) (nI p) n (nI i) (nI st) (nI z.1) f_leastTop f_leastBottom a_arcThere a_arcFrom a_arcTo a_arcWeight a_table z.2.1 a_squared a_levels a_setCells a_onRingBelowZero z.2.2.1 z.2.2.2.1 z.2.2.2.2) (fun i z => (∀ j, (∀ v, v < 7 → j ≠ 7 * s + v) → z.2.1 j = a_otherTable j) ∧ hx_Q st z.1 z.2.2.1 z.2.2.2.1 ∧ hx_C3 (hx_A a_arcThere a_arcFrom a_arcTo a_arcWeight) s z.2.1 z.2.2.2.2 ∧ (∀ v, v < 7 → v ≠ p → z.2.2.2.1 v = 0 → hx_rel (hx_A a_arcThere a_arcFrom a_arcTo a_arcWeight) s z.2.1 v) ∧ (z.2.2.2.1 p = 0 → ∀ j y x, j < i → (hx_K a_arcThere a_arcFrom a_arcTo a_arcWeight) j p y x → (z.2.1 (7 * s + p)).toInt ≠ 1000000 → (z.2.1 (7 * s + y)).toInt ≤ gr_j (z.2.1 (7 * s + p)).toInt x) ∧ hx_S3 s z.2.1 + z.1 ≤ hx_S3 s a_otherTable + ln) 20 (ln, a_otherTable, a_queue, a_queued, a_arcsUsed) ?_ ?_ ?_
  · exact ⟨fun j _ => rfl, hQ, hC, hrel, fun _ j y x hj => absurd hj (by omega), Int.le_refl _⟩
  · rintro n ⟨ln', b, q, qd, us⟩ ⟨r1, r2, r3, r4, r5, r6⟩
    refine br_t (nI_le (Nat.le_refl 20) (by decide)) (h ln' b us q qd r1 r2 r3 (fun v hv hq => ?_) r6)
    by_cases e : v = p
    · subst e
      rintro y x ⟨j, hj, hk⟩ hF
      exact r5 hq j y x hj hk hF
    · exact r4 v hv e hq
  · rintro n i ⟨ln', b, q, qd, us⟩ hi ⟨r1, r2, r3, r4, r5, r6⟩ hn
    dsimp only at r1 r2 r3 r4 r5 r6
    obtain ⟨u, v, x, hu, hv, eu, ev, ew, hx1, hx2, hk0, hk1⟩ := hx_arc ok hi
    have ck : (nI i).toNatClampNeg = i := nI_clamp (by omega)
    have cp : (nI p).toNatClampNeg = p := nI_clamp (by omega)
    have cq : (nI v).toNatClampNeg = v := nI_clamp (by omega)
    have cu : (nI (7 * s + p)).toNatClampNeg = 7 * s + p := nI_clamp (by omega)
    have cv : (nI (7 * s + v)).toNatClampNeg = 7 * s + v := nI_clamp (by omega)
    have vi : vp_in (nI i) 20 := vp_in_nI hi (by decide)
    have vp : vp_in (nI p) 7 := vp_in_nI hp (by decide)
    have vq : vp_in (nI v) 7 := vp_in_nI hv (by decide)
    have vu : vp_in (nI (7 * s + p)) 49 := vp_in_nI (by omega) (by decide)
    have vv : vp_in (nI (7 * s + v)) 49 := vp_in_nI (by omega) (by decide)
    have keep : (∀ y x, (hx_K a_arcThere a_arcFrom a_arcTo a_arcWeight) i p y x → (b (7 * s + p)).toInt ≠ 1000000 → (b (7 * s + y)).toInt ≤ gr_j (b (7 * s + p)).toInt x) → wX_leave__otherTable_3 post (nI (7 * s)) (nI p) n (nI (i + 1)) (nI st) (nI ln') f_leastTop f_leastBottom a_arcThere a_arcFrom a_arcTo a_arcWeight a_table b a_squared a_levels a_setCells a_onRingBelowZero q qd us := by
      intro hh
      refine hn (ln', b, q, qd, us) ⟨r1, r2, r3, r4, fun hq j y x' hj hk hF => ?_, r6⟩
      by_cases e : j = i
      · subst e
        exact hh y x' hk hF
      · exact r5 hq j y x' (by omega) hk hF
    refine br_f (nI_ge (b := 20) hi (by decide)) ?_
    simp only [ck, eu, ev, nI_1, nI_add, cu, cp]
    refine ⟨vi, br_c (fun t0 => nm_e (keep fun y x' hk => absurd hk (hk0 t0 _ _ _))) (fun t0 => ⟨vi, ?_⟩)⟩
    obtain ⟨kk, ha⟩ := hk1 t0
    refine br_c (fun c => ?_) (fun c => nm_e (keep fun y x' hk => ?_))
    · rw [nI_eq (by omega) (by omega)] at c
      subst c
      have rp := gr_Cr gok (by decide) (gr_IC (r3.1 u hu))
      refine ⟨vi, nm_e ⟨vu, vi, ?_⟩⟩
      simp only [nI_add, cv, cq]
      refine hx_jE rfl ew (gr_rgr rp) (by omega) fun r hr => ⟨vv, br_c (fun c => nm_e (keep fun y x' hk hF => ?_)) (fun c => ⟨vp, vq, nm_e ⟨vq, ?_⟩⟩)⟩
      · obtain ⟨_, rfl, rfl⟩ := (kk _ _ _).mp hk
        rw [hp_le, hr] at c
        exact c
      · rw [hp_le, hr] at c
        have go : ∀ z0 : Int32, z0.toInt = (if (us u).toInt + 1 < 7 then gr_j (b (7 * s + u)).toInt x else -1000000) → wX_leave__otherTable_107 post (wX_leave__otherTable_3 post (nI (7 * s)) (nI u) n) (nI (7 * s)) (nI u) (nI i) (nI v) z0 (nI (7 * s + v)) (nI st) (nI ln') f_leastTop f_leastBottom a_arcThere a_arcFrom a_arcTo a_arcWeight a_table b a_squared a_levels a_setCells a_onRingBelowZero q qd (upd us v (us u + 1)) := by
          intro z0 hz
          obtain ⟨k1, k2, k3, k4, k5⟩ := hx_sink3 gok hs hp hv r3 ha (by omega) hz
          have r1' : ∀ j, (∀ v, v < 7 → j ≠ 7 * s + v) → upd b (7 * s + v) z0 j = a_otherTable j := by
            intro j hj
            rw [pk_un (hj v hv)]
            exact r1 j hj
          have relm : ∀ w, w ≠ v → hx_rel (hx_A a_arcThere a_arcFrom a_arcTo a_arcWeight) s b w → hx_rel (hx_A a_arcThere a_arcFrom a_arcTo a_arcWeight) s (upd b (7 * s + v) z0) w := by
            intro w hw hr' y x' a' hF
            have e : upd b (7 * s + v) z0 (7 * s + w) = b (7 * s + w) := pk_un (by omega)
            rw [e] at hF ⊢
            exact Int.le_trans (k4 y) (hr' y x' a' hF)
          have part : u ≠ v → qd u = 0 → ∀ j y x', j < i + 1 → (hx_K a_arcThere a_arcFrom a_arcTo a_arcWeight) j u y x' → (upd b (7 * s + v) z0 (7 * s + u)).toInt ≠ 1000000 → (upd b (7 * s + v) z0 (7 * s + y)).toInt ≤ gr_j (upd b (7 * s + v) z0 (7 * s + u)).toInt x' := by
            intro hne hq j y x' hj hk hF
            have e : upd b (7 * s + v) z0 (7 * s + u) = b (7 * s + u) := pk_un (by omega)
            rw [e] at hF ⊢
            by_cases ej : j = i
            · subst ej
              obtain ⟨_, rfl, rfl⟩ := (kk _ _ _).mp hk
              rw [pk_us]
              exact k3
            · exact Int.le_trans (k4 y) (r5 hq j y x' (by omega) hk hF)
          unfold wX_leave__otherTable_107
          rw [cv]
          refine ⟨vv, nm_e (hx_enqueue hv r2 (fun c2 => ?_) (fun c2 q' hQ' => ?_))⟩
          · dsimp only
            rw [nI_1]
            refine nm_e (hn (ln', upd b (7 * s + v) z0, q, qd, upd us v (us u + 1)) ⟨r1', r2, k1, fun w hw hne hq => relm w (fun e => c2 (e ▸ hq)) (r4 w hw hne hq), fun hq => part (fun e => c2 (e ▸ hq)) hq, ?_⟩)
            dsimp only
            omega
          · dsimp only
            rw [nI_1]
            refine nm_e (hn (ln' + 1, upd b (7 * s + v) z0, q', upd qd v 1, upd us v (us u + 1)) ⟨r1', hQ', k1, fun w hw hne hq => ?_, fun hq => ?_, ?_⟩)
            · dsimp only at hq
              by_cases e : w = v
              · subst e
                rw [pk_us] at hq
                exact absurd hq (by decide)
              · rw [pk_un e] at hq
                exact relm w e (r4 w hw hne hq)
            · dsimp only at hq
              by_cases e : u = v
              · subst e
                rw [pk_us] at hq
                exact absurd hq (by decide)
              · rw [pk_un e] at hq
                exact part e hq
            · dsimp only
              omega
        have k5 : (us u + 1).toInt = (us u).toInt + 1 := (hx_sink3 gok (z0 := if (us u).toInt + 1 < 7 then r else (-1000000)) hs hp hv r3 ha (by omega) (by split <;> first | exact hr | exact hp_D)).2.2.2.2
        rw [pk_us]
        refine br_c (fun c2 => go (-1000000) ?_) (fun c2 => go r ?_)
        · rw [hp_le, hp_7, k5] at c2
          rw [if_neg (by omega), hp_D]
        · rw [hp_le, hp_7, k5] at c2
          rw [if_pos (by omega), hr]
    · obtain ⟨e, _, _⟩ := (kk _ _ _).mp hk
      exact absurd (by rw [e]) c
theorem hx_fillByQueue_otherTable {post : SX → Prop} {f_queueStart f_queueLength f_leastTop f_leastBottom : Int32} {a_arcThere a_arcFrom a_arcTo a_arcWeight a_table a_otherTable a_squared a_levels a_setCells a_onRingBelowZero a_queue a_queued a_arcsUsed : Nat → Int32} (ok : hx_ok a_arcThere a_arcFrom a_arcTo a_arcWeight) (hq0 : ∀ v, v < 7 → a_queued v = 0) (h : ∀ (st ln : Int32) (b q qd us : Nat → Int32), (∀ v, v < 7 → qd v = 0) → (∀ s t, s < 7 → t < 7 → gr_Ans (hx_A a_arcThere a_arcFrom a_arcTo a_arcWeight) s t (gr_cv (b (7 * s + t)).toInt)) → post (st, ln, f_leastTop, f_leastBottom, a_arcThere, a_arcFrom, a_arcTo, a_arcWeight, a_table, b, a_squared, a_levels, a_setCells, a_onRingBelowZero, q, qd, us)) : wpX_fillByQueue__otherTable post (f_queueStart, f_queueLength, f_leastTop, f_leastBottom, a_arcThere, a_arcFrom, a_arcTo, a_arcWeight, a_table, a_otherTable, a_squared, a_levels, a_setCells, a_onRingBelowZero, a_queue, a_queued, a_arcsUsed) := by
  have gok := hx_grok ok
  unfold wpX_fillByQueue__otherTable
  refine hx_startEmpty_otherTable fun b0 h0 => ?_
  refine loop_0 (fun n i (z : Int32 × Int32 × (Nat → Int32) × (Nat → Int32) × (Nat → Int32) × (Nat → Int32)) => wX_fillByQueue__otherTable_6 post n (nI i) z.1 z.2.1 f_leastTop f_leastBottom a_arcThere a_arcFrom a_arcTo a_arcWeight a_table z.2.2.1 a_squared a_levels a_setCells a_onRingBelowZero z.2.2.2.1 z.2.2.2.2.1 z.2.2.2.2.2) (fun i z => (∀ v, v < 7 → z.2.2.2.2.1 v = 0) ∧ (∀ s t, s < i → t < 7 → gr_Ans (hx_A a_arcThere a_arcFrom a_arcTo a_arcWeight) s t (gr_cv (z.2.2.1 (7 * s + t)).toInt)) ∧ ∀ s t, i ≤ s → s < 7 → t < 7 → (z.2.2.1 (7 * s + t)).toInt = if s = t then 0 else 1000000) 7 (f_queueStart, f_queueLength, b0, a_queue, a_queued, a_arcsUsed) ?_ ?_ ?_
  · exact ⟨hq0, fun s t hs => absurd hs (by omega), fun s t _ hs ht => h0 s t hs ht⟩
  · rintro n ⟨st, ln, b, q, qd, us⟩ ⟨g1, g2, g3⟩
    exact br_t (nI_le (Nat.le_refl 7) (by decide)) (h st ln b q qd us g1 fun s t hs ht => g2 s t hs ht)
  · rintro n s ⟨st, ln, b, q, qd, us⟩ hs ⟨g1, g2, g3⟩ hn
    dsimp only at g1 g2 g3
    have ck : (nI s).toNatClampNeg = s := nI_clamp (by omega)
    refine br_f (nI_ge (b := 7) hs (by decide)) ?_
    dsimp only
    rw [ck]
    refine ⟨vp_in_nI hs (by decide), nm_e (hx_enqueue (st := 0) (ln := 0) hs (hx_Q0 (by decide) g1) (fun c => absurd (g1 s hs) c) (fun c q' hQ' => ?_))⟩
    have row : ∀ v, v < 7 → (b (7 * s + v)).toInt = if s = v then 0 else 1000000 := fun v hv => g3 s v (Nat.le_refl s) hs hv
    have C0 : hx_C3 (hx_A a_arcThere a_arcFrom a_arcTo a_arcWeight) s b (upd us s 0) := by
      have k0 : ∀ v, v < 7 → gr_I (hx_A a_arcThere a_arcFrom a_arcTo a_arcWeight) s (fun y => (b (7 * s + y)).toInt) v (b (7 * s + v)).toInt ((upd us s 0) v).toInt := by
        intro v hv
        rw [row v hv]
        by_cases e : s = v
        · subst e
          rw [if_pos rfl, pk_us, hp_0]
          refine Or.inr (Or.inr ⟨0, by omega, rfl, gr_W0 s, Or.inr ⟨2 ^ s, rfl, rfl, rfl, ?_⟩⟩)
          show (b (7 * s + s)).toInt ≤ 0
          rw [row s hs, if_pos rfl]
          omega
        · rw [if_neg e]
          exact Or.inl rfl
      refine ⟨k0, ?_, fun v hv hF => ?_⟩
      · rw [row s hs, if_pos rfl]
        omega
      · have e : s = v := by
          refine Classical.byContradiction fun e => hF ?_
          rw [row v hv, if_neg e]
        subst e
        rw [pk_us, hp_0]
        have := hx_sumB (f := fun v => hx_rk (b (7 * s + v)).toInt) (a := 0) (b := 242) (fun v hv => hx_rkB gok (gr_IC (k0 v hv)))
        unfold hx_S3
        omega
    have fin : ∀ (n' st ln : Nat) (b' q' qd' us' : Nat → Int32), (∀ j, (∀ v, v < 7 → j ≠ 7 * s + v) → b' j = b j) → hx_Q st 0 q' qd' → hx_C3 (hx_A a_arcThere a_arcFrom a_arcTo a_arcWeight) s b' us' → (∀ v, v < 7 → qd' v = 0 → hx_rel (hx_A a_arcThere a_arcFrom a_arcTo a_arcWeight) s b' v) → wX_fillByQueue__otherTable_6 post n (nI (s + 1)) (nI st) (nI 0) f_leastTop f_leastBottom a_arcThere a_arcFrom a_arcTo a_arcWeight a_table b' a_squared a_levels a_setCells a_onRingBelowZero q' qd' us' := by
      intro n' st ln b' q' qd' us' r1 r2 r3 r4
      have z := hx_Qz r2
      have rest := gr_rest gok (s := s) (C := fun v => (b' (7 * s + v)).toInt) hs r3.2.1 (fun v hv => gr_Cr gok (by decide) (gr_IC (r3.1 v hv))) (fun u v x a hF => r4 u (gok _ _ _ a).1 (z u (gok _ _ _ a).1) v x a hF)
      refine hn (nI st, nI 0, b', q', qd', us') ⟨z, fun s' t hs' ht => ?_, fun s' t h1 h2 h3 => ?_⟩
      · dsimp only
        by_cases e : s' = s
        · subst e
          refine gr_finD gok hs (by decide : 6 ≤ 10000) (gr_IC (r3.1 t ht)) ?_
          by_cases c : (b' (7 * s' + t)).toInt = -1000000
          · exact Or.inl c
          · exact Or.inr fun m c' g => ((rest m t c' g).resolve_left c).1
        · rw [r1 _ (fun v hv => by omega)]
          exact g2 s' t (by omega) ht
      · dsimp only
        rw [r1 _ (fun v hv => by omega)]
        exact g3 s' t (by omega) h2 h3
    refine loop_0 (fun n' i (z : Nat × Nat × (Nat → Int32) × (Nat → Int32) × (Nat → Int32) × (Nat → Int32)) => wX_fillByQueue__otherTable_36 post (wX_fillByQueue__otherTable_6 post n) (nI s) n' (nI i) (nI z.1) (nI z.2.1) f_leastTop f_leastBottom a_arcThere a_arcFrom a_arcTo a_arcWeight a_table z.2.2.1 a_squared a_levels a_setCells a_onRingBelowZero z.2.2.2.1 z.2.2.2.2.1 z.2.2.2.2.2) (fun i z => (∀ j, (∀ v, v < 7 → j ≠ 7 * s + v) → z.2.2.1 j = b j) ∧ hx_Q z.1 z.2.1 z.2.2.2.1 z.2.2.2.2.1 ∧ hx_C3 (hx_A a_arcThere a_arcFrom a_arcTo a_arcWeight) s z.2.2.1 z.2.2.2.2.2 ∧ (∀ v, v < 7 → z.2.2.2.2.1 v = 0 → hx_rel (hx_A a_arcThere a_arcFrom a_arcTo a_arcWeight) s z.2.2.1 v) ∧ (i : Int) + hx_S3 s z.2.2.1 + z.2.1 ≤ 1695) 1696 (0, 1, b, q', upd qd s 1, upd us s 0) ?_ ?_ ?_
    · refine ⟨fun j _ => rfl, hQ', C0, fun v hv hq y x a hF => ?_, ?_⟩
      · dsimp only at hq hF
        by_cases e : v = s
        · subst e
          rw [pk_us] at hq
          exact absurd hq (by decide)
        · rw [row v hv, if_neg (fun z => e z.symm)] at hF
          exact absurd rfl hF
      · have := hx_S3B gok C0
        dsimp only
        omega
    · rintro n' ⟨st, ln, b', q', qd', us'⟩ ⟨r1, r2, r3, r4, r5⟩
      have := hx_S3B gok r3
      dsimp only at this r5
      omega
    · rintro n' i ⟨st, ln, b', q', qd', us'⟩ hi ⟨r1, r2, r3, r4, r5⟩ hn'
      dsimp only at r1 r2 r3 r4 r5
      refine br_f (nI_ge (b := 10000) (by omega) (by decide)) ?_
      have S := hx_S3B gok r3
      cases ln with
      | zero =>
        refine br_t (by decide : nI 0 ≤ 0) ?_
        dsimp only
        rw [nI_1]
        exact nm_e (fin n' st 0 b' q' qd' us' r1 r2 r3 r4)
      | succ ln =>
        refine br_f (nI_nle (n := ln + 1) (by omega) (by omega)) ?_
        refine hx_dequeue r2 fun p st' hp qp hQ2 => ?_
        dsimp only
        rw [hp_m7]
        refine hx_leave_otherTable ok hs hp hQ2 r3 (fun v hv hne hq => ?_) fun ln' b2 us2 q2 qd2 k1 k2 k3 k4 k5 => ?_
        · rw [pk_un hne] at hq
          exact r4 v hv hq
        · dsimp only
          rw [nI_1]
          refine nm_e (hn' (st', ln', b2, q2, qd2, us2) ⟨fun j hj => (k1 j hj).trans (r1 j hj), k2, k3, k4, ?_⟩)
          dsimp only
          omega
