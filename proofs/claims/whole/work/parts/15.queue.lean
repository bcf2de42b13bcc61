/-! the component: engine 3 -/
theorem hp_nb1 : vp_nar .boolean 1 = 1 := by rfl
theorem hp_nb0 : vp_nar .boolean 0 = 0 := by rfl
def hx_sum (f : Nat → Int) : Int := f 0 + f 1 + f 2 + f 3 + f 4 + f 5 + f 6
theorem hx_sumU {f f' : Nat → Int} {p : Nat} (hp : p < 7) (h : ∀ v, v < 7 → v ≠ p → f' v = f v) : hx_sum f' = hx_sum f + (f' p - f p) := by
  have h0 := h 0 (by decide)
  have h1 := h 1 (by decide)
  have h2 := h 2 (by decide)
  have h3 := h 3 (by decide)
  have h4 := h 4 (by decide)
  have h5 := h 5 (by decide)
  have h6 := h 6 (by decide)
  have e : p = 0 ∨ p = 1 ∨ p = 2 ∨ p = 3 ∨ p = 4 ∨ p = 5 ∨ p = 6 := by omega
  unfold hx_sum
  rcases e with rfl | rfl | rfl | rfl | rfl | rfl | rfl <;> omega
theorem hx_sumB {f : Nat → Int} {a b : Int} (h : ∀ v, v < 7 → a ≤ f v ∧ f v ≤ b) : 7 * a ≤ hx_sum f ∧ hx_sum f ≤ 7 * b := by
  have h0 := h 0 (by decide)
  have h1 := h 1 (by decide)
  have h2 := h 2 (by decide)
  have h3 := h 3 (by decide)
  have h4 := h 4 (by decide)
  have h5 := h 5 (by decide)
  have h6 := h 6 (by decide)
  unfold hx_sum
  omega
def hx_one (qd : Nat → Int32) (p : Nat) : Int := if qd p = 0 then 0 else 1
theorem hx_oneB (qd : Nat → Int32) (p : Nat) : 0 ≤ hx_one qd p ∧ hx_one qd p ≤ 1 := by
  unfold hx_one
  split <;> omega
theorem hx_one0 {qd : Nat → Int32} {p : Nat} : hx_one qd p = 0 ↔ qd p = 0 := by
  unfold hx_one
  split <;> simp_all
/-- the queue: from st on ln points, each marked, none twice; as many as are marked -/
def hx_Q (st ln : Nat) (q qd : Nat → Int32) : Prop := st < 7 ∧ (ln : Int) = hx_sum (hx_one qd) ∧ (∀ i, i < ln → ∃ p, p < 7 ∧ q ((st + i) % 7) = nI p ∧ ¬ qd p = 0) ∧ ∀ i j, i < j → j < ln → q ((st + i) % 7) ≠ q ((st + j) % 7)
theorem hx_Q0 {st : Nat} {q qd : Nat → Int32} (hst : st < 7) (h : ∀ v, v < 7 → qd v = 0) : hx_Q st 0 q qd := by
  refine ⟨hst, ?_, fun i hi => absurd hi (by omega), fun i j _ hj => absurd hj (by omega)⟩
  have := hx_sumB (f := hx_one qd) (a := 0) (b := 0) (fun v hv => by rw [hx_one0.mpr (h v hv)]; omega)
  omega
theorem hx_Qz {st : Nat} {q qd : Nat → Int32} (h : hx_Q st 0 q qd) : ∀ v, v < 7 → qd v = 0 := by
  intro v hv
  have h2 := h.2.1
  refine Classical.byContradiction fun hn => ?_
  have h3 := hx_oneB qd v
  have h4 : hx_one qd v ≠ 0 := fun z => hn (hx_one0.mp z)
  have h5 := hx_sumU (f := fun i => if i = v then 0 else hx_one qd i) (f' := hx_one qd) hv (fun i _ hi => by rw [if_neg hi])
  have h6 := hx_sumB (f := fun i => if i = v then 0 else hx_one qd i) (a := 0) (b := 1) (fun i _ => by
    have := hx_oneB qd i
    split <;> omega)
  rw [if_pos rfl] at h5
  omega
theorem hx_Q7 {st ln p : Nat} {q qd : Nat → Int32} (h : hx_Q st ln q qd) (hp : p < 7) (h0 : qd p = 0) : ln < 7 := by
  have h2 := h.2.1
  have h5 := hx_sumU (f := fun i => if i = p then 1 else hx_one qd i) (f' := hx_one qd) hp (fun i _ hi => by rw [if_neg hi])
  have h6 := hx_sumB (f := fun i => if i = p then 1 else hx_one qd i) (a := 0) (b := 1) (fun i _ => by
    have := hx_oneB qd i
    split <;> omega)
  rw [if_pos rfl, hx_one0.mpr h0] at h5
  omega
theorem hx_enqueue {post : SX → Prop} {f_leastTop f_leastBottom : Int32} {a_arcThere a_arcFrom a_arcTo a_arcWeight a_table a_otherTable a_squared a_levels a_setCells a_onRingBelowZero a_queue a_queued a_arcsUsed : Nat → Int32} {st ln p : Nat} (hp : p < 7) (hQ : hx_Q st ln a_queue a_queued) (h0 : ¬ a_queued p = 0 → post ((nI st), (nI ln), f_leastTop, f_leastBottom, a_arcThere, a_arcFrom, a_arcTo, a_arcWeight, a_table, a_otherTable, a_squared, a_levels, a_setCells, a_onRingBelowZero, a_queue, a_queued, a_arcsUsed)) (h1 : a_queued p = 0 → ∀ q : Nat → Int32, hx_Q st (ln + 1) q (upd a_queued p 1) → post ((nI st), (nI (ln + 1)), f_leastTop, f_leastBottom, a_arcThere, a_arcFrom, a_arcTo, a_arcWeight, a_table, a_otherTable, a_squared, a_levels, a_setCells, a_onRingBelowZero, q, (upd a_queued p 1), a_arcsUsed)) : wpX_enqueue post ((nI st), (nI ln), f_leastTop, f_leastBottom, a_arcThere, a_arcFrom, a_arcTo, a_arcWeight, a_table, a_otherTable, a_squared, a_levels, a_setCells, a_onRingBelowZero, a_queue, a_queued, a_arcsUsed) (nI p) := by
  have ck : (nI p).toNatClampNeg = p := nI_clamp (by omega)
  have vp : vp_in (nI p) 7 := vp_in_nI hp (by decide)
  unfold wpX_enqueue
  dsimp only
  rw [ck, hp_nb1]
  refine ⟨vp, br_c (fun c => ⟨vp, nm_e ⟨by decide, ?_⟩⟩) (fun c => h0 c)⟩
  have l7 := hx_Q7 hQ hp c
  obtain ⟨q1, q2, q3, q4⟩ := hQ
  have er : nI st + nI ln - (nI st + nI ln) / 7 * 7 = nI ((st + ln) % 7) := by
    rw [nI_add, show (7 : Int32) = nI 7 from rfl]
    exact pk_rem (by omega) (by decide) (by decide)
  have cr : (nI ((st + ln) % 7)).toNatClampNeg = (st + ln) % 7 := nI_clamp (by omega)
  rw [er, cr, nI_1]
  refine ⟨vp_in_nI (by omega) (by decide), nm_e (nm_e (h1 c _ ⟨q1, ?_, fun i hi => ?_, fun i j hij hj => ?_⟩))⟩
  · have := hx_sumU (f := hx_one a_queued) (f' := hx_one (upd a_queued p 1)) hp (fun v _ hv => by
      unfold hx_one
      rw [pk_un hv])
    rw [hx_one0.mpr c] at this
    have e1 : hx_one (upd a_queued p 1) p = 1 := by
      unfold hx_one
      rw [pk_us]
      rfl
    omega
  · by_cases e : i = ln
    · subst e
      refine ⟨p, hp, pk_us, ?_⟩
      rw [pk_us]
      decide
    · obtain ⟨p', g1, g2, g3⟩ := q3 i (by omega)
      refine ⟨p', g1, ?_, ?_⟩
      · rw [pk_un (by omega)]
        exact g2
      · by_cases e2 : p' = p
        · subst e2
          exact absurd c g3
        · rw [pk_un e2]
          exact g3
  · have n1 : (st + i) % 7 ≠ (st + ln) % 7 := by omega
    rw [pk_un n1]
    by_cases e : j = ln
    · subst e
      rw [pk_us]
      obtain ⟨p', g1, g2, g3⟩ := q3 i hij
      rw [g2]
      intro z
      rw [nI_eq (by omega) (by omega)] at z
      subst z
      exact g3 c
    · have n2 : (st + j) % 7 ≠ (st + ln) % 7 := by omega
      rw [pk_un n2]
      exact q4 i j hij (by omega)
theorem hx_dequeue {post : Int32 → SX → Prop} {f_leastTop f_leastBottom : Int32} {a_arcThere a_arcFrom a_arcTo a_arcWeight a_table a_otherTable a_squared a_levels a_setCells a_onRingBelowZero a_queue a_queued a_arcsUsed : Nat → Int32} {st ln : Nat} (hQ : hx_Q st (ln + 1) a_queue a_queued) (h : ∀ p st' : Nat, p < 7 → ¬ a_queued p = 0 → hx_Q st' ln a_queue (upd a_queued p 0) → post (nI p) ((nI st'), (nI ln), f_leastTop, f_leastBottom, a_arcThere, a_arcFrom, a_arcTo, a_arcWeight, a_table, a_otherTable, a_squared, a_levels, a_setCells, a_onRingBelowZero, a_queue, (upd a_queued p 0), a_arcsUsed)) : wpX_dequeue post ((nI st), (nI (ln + 1)), f_leastTop, f_leastBottom, a_arcThere, a_arcFrom, a_arcTo, a_arcWeight, a_table, a_otherTable, a_squared, a_levels, a_setCells, a_onRingBelowZero, a_queue, a_queued, a_arcsUsed) := by
  obtain ⟨q1, q2, q3, q4⟩ := hQ
  obtain ⟨p, hp, ep, qp⟩ := q3 0 (by omega)
  have e0 : (st + 0) % 7 = st := by omega
  rw [e0] at ep
  have ck : (nI st).toNatClampNeg = st := nI_clamp (by omega)
  have cp : (nI p).toNatClampNeg = p := nI_clamp (by omega)
  have er : nI st + 1 - (nI st + 1) / 7 * 7 = nI ((st + 1) % 7) := by
    rw [nI_1, show (7 : Int32) = nI 7 from rfl]
    exact pk_rem (by omega) (by decide) (by decide)
  unfold wpX_dequeue
  dsimp only
  rw [ck, ep, hp_nb0]
  refine ⟨vp_in_nI q1 (by decide), nm_e ⟨vp_in_nI hp (by decide), ?_⟩⟩
  rw [cp, er, nI_pred]
  refine nm_e ⟨by decide, nm_e (nm_e (h p _ hp qp ⟨by omega, ?_, fun i hi => ?_, fun i j hij hj => ?_⟩))⟩
  · have := hx_sumU (f := hx_one a_queued) (f' := hx_one (upd a_queued p 0)) hp (fun v _ hv => by
      unfold hx_one
      rw [pk_un hv])
    have e1 : hx_one (upd a_queued p 0) p = 0 := hx_one0.mpr pk_us
    have e2 : hx_one a_queued p = 1 := by
      unfold hx_one
      rw [if_neg qp]
    omega
  · obtain ⟨p', g1, g2, g3⟩ := q3 (i + 1) (by omega)
    have ei : ((st + 1) % 7 + i) % 7 = (st + (i + 1)) % 7 := by omega
    refine ⟨p', g1, by rw [ei]; exact g2, ?_⟩
    by_cases e : p' = p
    · subst e
      have := q4 0 (i + 1) (by omega) (by omega)
      rw [e0, ep, g2] at this
      exact absurd rfl this
    · rw [pk_un e]
      exact g3
  · have ei : ((st + 1) % 7 + i) % 7 = (st + (i + 1)) % 7 := by omega
    have ej : ((st + 1) % 7 + j) % 7 = (st + (j + 1)) % 7 := by omega
    rw [ei, ej]
    exact q4 (i + 1) (j + 1) (by omega) (by omega)
def hx_rk (z : Int) : Int := if z = -1000000 then 0 else if z = 1000000 then 242 else z + 121
theorem hx_rkB {A : Nat → Nat → Int → Prop} (ok : gr_ok A) {s v : Nat} {z : Int} (h : gr_C A 6 s v z) : 0 ≤ hx_rk z ∧ hx_rk z ≤ 242 := by
  unfold hx_rk
  rcases h with e | ⟨e, _⟩ | ⟨n, hn, g⟩
  · subst e
    simp
  · subst e
    simp
  · have := gr_Wb ok g
    rw [if_neg (by omega), if_neg (by omega)]
    omega
theorem hx_rkL {A : Nat → Nat → Int → Prop} (ok : gr_ok A) {s v : Nat} {z z' : Int} (h : gr_C A 6 s v z) (h' : gr_C A 6 s v z') (l : z' < z) : hx_rk z' + 1 ≤ hx_rk z := by
  unfold hx_rk
  rcases h with e | ⟨e, _⟩ | ⟨n, hn, g⟩ <;> rcases h' with e' | ⟨e', _⟩ | ⟨n', hn', g'⟩
  · omega
  · subst e e'
    simp
  · have := gr_Wb ok g'
    subst e
    rw [if_neg (by omega), if_neg (by omega), if_neg (by omega), if_pos rfl]
    omega
  · omega
  · omega
  · have := gr_Wb ok g'
    omega
  · have := gr_Wb ok g
    omega
  · have := gr_Wb ok g
    subst e'
    rw [if_pos rfl, if_neg (by omega), if_neg (by omega)]
    omega
  · have := gr_Wb ok g
    have := gr_Wb ok g'
    rw [if_neg (by omega), if_neg (by omega), if_neg (by omega), if_neg (by omega)]
    omega
def hx_S3 (s : Nat) (b : Nat → Int32) : Int := hx_sum (fun v => hx_rk (b (7 * s + v)).toInt)
/-- row s while the queue works -/
def hx_C3 (A : Nat → Nat → Int → Prop) (s : Nat) (b us : Nat → Int32) : Prop := (∀ v, v < 7 → gr_I A s (fun y => (b (7 * s + y)).toInt) v (b (7 * s + v)).toInt (us v).toInt) ∧ (b (7 * s + s)).toInt ≤ 0 ∧ ∀ v, v < 7 → (b (7 * s + v)).toInt ≠ 1000000 → 0 ≤ (us v).toInt ∧ (us v).toInt + hx_S3 s b ≤ 1694
def hx_rel (A : Nat → Nat → Int → Prop) (s : Nat) (b : Nat → Int32) (v : Nat) : Prop := ∀ y x, A v y x → (b (7 * s + v)).toInt ≠ 1000000 → (b (7 * s + y)).toInt ≤ gr_j (b (7 * s + v)).toInt x
theorem hx_S3B {A : Nat → Nat → Int → Prop} (ok : gr_ok A) {s : Nat} {b us : Nat → Int32} (h : hx_C3 A s b us) : 0 ≤ hx_S3 s b ∧ hx_S3 s b ≤ 1694 := by
  have := hx_sumB (f := fun v => hx_rk (b (7 * s + v)).toInt) (a := 0) (b := 242) (fun v hv => hx_rkB ok (gr_IC (h.1 v hv)))
  unfold hx_S3
  omega
/-- one cell of the row sinks -/
theorem hx_sink3 {A : Nat → Nat → Int → Prop} (ok : gr_ok A) {s p y : Nat} {b us : Nat → Int32} {x : Int} {z0 : Int32} (hs : s < 7) (hp : p < 7) (hy : y < 7) (h : hx_C3 A s b us) (a : A p y x) (hf : gr_j (b (7 * s + p)).toInt x < (b (7 * s + y)).toInt) (hz : z0.toInt = if (us p).toInt + 1 < 7 then gr_j (b (7 * s + p)).toInt x else -1000000) : hx_C3 A s (upd b (7 * s + y) z0) (upd us y (us p + 1)) ∧ hx_S3 s (upd b (7 * s + y) z0) + 1 ≤ hx_S3 s b ∧ z0.toInt ≤ gr_j (b (7 * s + p)).toInt x ∧ (∀ v, ((upd b (7 * s + y) z0) (7 * s + v)).toInt ≤ (b (7 * s + v)).toInt) ∧ (us p + 1).toInt = (us p).toInt + 1 := by
  obtain ⟨h1, h2, h3⟩ := h
  have hx := ok _ _ _ a
  have gp := gr_IC (h1 p hp)
  have gy := gr_IC (h1 y hy)
  have rp := gr_Cr ok (by decide) gp
  have ry := gr_Cr ok (by decide) gy
  have jc := @gr_jc (b (7 * s + p)).toInt x
  have S := hx_S3B ok ⟨h1, h2, h3⟩
  have pF : (b (7 * s + p)).toInt ≠ 1000000 := by
    unfold gr_rg at ry
    omega
  have u3 := h3 p hp pF
  have eu : (us p + 1).toInt = (us p).toInt + 1 := hp_add rfl hp_1 (by omega) (by omega)
  have zl : z0.toInt ≤ gr_j (b (7 * s + p)).toInt x := by
    rw [hz]
    unfold gr_rg at rp
    split <;> omega
  have le : ∀ v, ((upd b (7 * s + y) z0) (7 * s + v)).toInt ≤ (b (7 * s + v)).toInt := by
    intro v
    rw [hx_ut]
    by_cases e : 7 * s + v = 7 * s + y
    · rw [if_pos e, e]
      omega
    · rw [if_neg e]
      exact Int.le_refl _
  have Iy : gr_I A s (fun v => (upd b (7 * s + y) z0 (7 * s + v)).toInt) y (upd b (7 * s + y) z0 (7 * s + y)).toInt ((us p).toInt + 1) :=
    gr_sink ok (C := fun v => (b (7 * s + v)).toInt) hs (h1 p hp) a hf ry (fun v => (upd b (7 * s + y) z0 (7 * s + v)).toInt) le (by
      show (upd b (7 * s + y) z0 (7 * s + y)).toInt = _
      rw [pk_us]
      exact hz)
  have SL : hx_S3 s (upd b (7 * s + y) z0) + 1 ≤ hx_S3 s b := by
    have k1 := hx_sumU (f := fun v => hx_rk (b (7 * s + v)).toInt) (f' := fun v => hx_rk (upd b (7 * s + y) z0 (7 * s + v)).toInt) hy (fun v _ hv => by
      rw [pk_un (by omega)])
    have k2 := gr_IC Iy
    rw [pk_us] at k2
    have k3 := hx_rkL ok gy k2 (by omega)
    rw [pk_us] at k1
    unfold hx_S3
    omega
  refine ⟨⟨fun v hv => ?_, Int.le_trans (le s) h2, fun v hv hF => ?_⟩, SL, zl, le, eu⟩
  · by_cases e : v = y
    · subst e
      have e2 : upd us v (us p + 1) v = us p + 1 := pk_us
      rw [e2, eu]
      exact Iy
    · rw [pk_un e, pk_un (f := b) (k := 7 * s + y) (j := 7 * s + v) (by omega)]
      exact gr_Im le (h1 v hv)
  · by_cases e : v = y
    · subst e
      have e2 : upd us v (us p + 1) v = us p + 1 := pk_us
      rw [e2, eu]
      omega
    · rw [pk_un (f := b) (k := 7 * s + y) (j := 7 * s + v) (by omega)] at hF
      rw [pk_un e]
      have := h3 v hv hF
      omega
