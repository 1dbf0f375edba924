/-! ===== ops: moves, makes ===== -/
section OPS
variable (L : Nat)
theorem op_moves (x y : Int32) (d e : Value) : Op L 67 152 [.ref 1, .int x, .int y, d] [.ref 54, .int x, .int y, e] := fun a I J hR => by
  obtain ⟨⟨wv, wl, wq, wx, wi, wj⟩, ⟨cv, cl, cq, cx, ci, cj⟩, ⟨mv, ml, mq, mx, mi, mj⟩, ht⟩ := id hR
  have h6 := wv.2.1
  have hn := wv.2.2.1
  have c1 := sem45 L I J (show vN a.1 < 2 ^ 31 by omega) cv.2.1 x
  have c2 := sem44 L I J (show vP a.1 < 2 ^ 31 by omega) cv.1 y
  have d1 := sem115 L I J (show vN a.1 < 2 ^ 31 by omega) mv.2.1 x
  have d2 := sem113 L I J (show vP a.1 < 2 ^ 31 by omega) mv.1 y
  cases hx : inr x (vN a.1)
  · refine ⟨some (.int (-1)), I, J, I, J, a, ?_, ?_, hR⟩
    · simp only [q67_0, q67_4, q67_10, q67_5, q67_9, q67_12, q67_16, q67_22, q67_20, q67_27, c1, ob_s, tl_s, bz_0, hx, if_true]
    · simp only [q152_0, q152_3, q152_8, q152_4, q152_7, q152_10, q152_22, q152_20, q152_26, d1, ob_s, tl_s, bz_0, hx, if_true]
  cases hy : inr y (vP a.1)
  · refine ⟨some (.int (-1)), I, J, I, J, a, ?_, ?_, hR⟩
    · simp only [q67_0, q67_4, q67_10, q67_5, q67_9, q67_12, q67_16, q67_22, q67_20, q67_27, c1, c2, ob_s, tl_s, bz_0, hx, hy, if_true, Bool.true_eq_false, if_false]
    · simp only [q152_0, q152_3, q152_8, q152_4, q152_7, q152_10, q152_22, q152_20, q152_26, d1, d2, ob_s, tl_s, bz_0, hx, hy, if_true, Bool.true_eq_false, if_false]
  obtain ⟨p, hp, rfl⟩ := inr_t hx (by omega)
  obtain ⟨pl, hpl, rfl⟩ := inr_t hy (by omega)
  have hw := wq.2.2.2.2.2.2.2.1 p
  have v1 : vp_in (nI (3 + p)) 69 := n_in (by omega) (by decide)
  by_cases hs : qW a.2.2.1 p = pl
  · refine ⟨some (.int (-2)), I, J, I, J, a, ?_, ?_, hR⟩
    · simp only [q67_0, q67_4, q67_10, q67_5, q67_9, q67_12, q67_16, q67_22, q67_20, q67_27, c1, c2, ob_s, tl_s, bz_0, hx, hy, Bool.true_eq_false, if_false, sem4 L I J cq hn hp, hs, if_true]
    · simp only [q152_0, q152_3, q152_8, q152_4, q152_7, q152_10, q152_22, q152_20, q152_26, d1, d2, ob_s, tl_s, bz_0, hx, hy, Bool.true_eq_false, if_false, c3, nc (show 3 + p < 2 ^ 31 by omega), am_if_t v1, mq_w mq hp, hs, if_true]
  · obtain ⟨I1, e1, b1, f1⟩ := rem_c L I J wv wq cq (k := 2) (p := p) (l := qW a.2.2.1 p) (by decide) (by omega) (fun _ => ⟨hp, rfl⟩)
    have mqq : mQ (vN a.1) a.2.2.1 (am_u I1 26 p (nI pl) 58) := by
      rw [am_u_n _ _ _ (by decide), f1 58 (by omega)]
      exact mq
    obtain ⟨I2, e2, b2, f2⟩ := rem_m L (am_u I1 26 p (nI pl)) J wv wq mqq (k := 2) (p := p) (l := qW a.2.2.1 p) (w := nI p) (z := nI (qW a.2.2.1 p)) rfl (fun h => rfl) .null
    have e1 : am_sem 8 0 [.ref 21, .int 2, .int (nI p)] [] (am_T L, I, J) = some (none, (am_T L, I1, J)) := e1
    obtain ⟨k1, k2, k3, k4⟩ := wQ_rem wq (k := 2) (p := p) (l := qW a.2.2.1 p) (by decide) (fun h => hp) hw
    obtain ⟨w1, w2, w3, w4, w5, w6, w7, w8, w9, w10, w11, w12, w13⟩ := wq
    have n0 := cnt_rem hR.1.2.2.1 2 p (qW a.2.2.1 p) 0
    have n1 := cnt_rem hR.1.2.2.1 2 p (qW a.2.2.1 p) 1
    simp only [show (2 = 0) = False from eq_false (by decide), show (2 = 1) = False from eq_false (by decide), if_false, Nat.add_zero] at n0 n1
    have g1 : ∀ (d3 : Value), am_sem 67 0 [.ref 1, .int (nI p), .int (nI pl), d3] [] (am_T L, I, J) = some (some (.int (nI (qW a.2.2.1 p))), (am_T L, am_u I1 26 p (nI pl), J)) := fun d3 => by
      simp only [q67_0, q67_4, q67_10, q67_5, q67_9, q67_12, q67_16, q67_22, q67_20, q67_27, c1, c2, ob_s, tl_s, bz_0, hx, hy, Bool.true_eq_false, if_false, sem4 L I J cq hn hp, n_inj (show qW a.2.2.1 p < 2 ^ 31 by omega) (show pl < 2 ^ 31 by omega), hs, q7_0, n_neg (show p < 2 ^ 31 by omega), q7_2]
      rw [if_neg (by rw [show (6 : Int32) = nI 6 from rfl, n_le (by decide) (by omega)]; omega), q7_7, e1]
      simp only [ob_s, tl_n, q7_11, nc (show p < 2 ^ 31 by omega), am_if_t (n_in (show p < 6 by omega) (by decide)), q7_16, q67_27]
    have d1 := sem115 L (am_u I1 26 p (nI pl)) J (show vN a.1 < 2 ^ 31 by omega) (by rw [am_u_n _ _ _ (by decide), f1 54 (by omega)]; exact mv.2.1) (nI p)
    have d2 := sem113 L (am_u I1 26 p (nI pl)) J (show vP a.1 < 2 ^ 31 by omega) (by rw [am_u_n _ _ _ (by decide), f1 54 (by omega)]; exact mv.1) (nI pl)
    refine ⟨some (.int (nI (qW a.2.2.1 p))), am_u I1 26 p (nI pl), J, am_u I2 58 (3 + p) (nI pl), J, _, g1 d, ?_, hR.course (q := (qT a.2.2.1, qD a.2.2.1, qDP a.2.2.1, qDO a.2.2.1, qDS a.2.2.1, qDL a.2.2.1, (fun i => if i = p then pl else qW a.2.2.1 i), (rem a.2.2.1 2 p (qW a.2.2.1 p)).2.2.2.2.2.2.2)) ⟨w1, w2, k1, w4, w5, w6, w7, fun i => ?_, k2, k3, k4, Nat.le_trans n0 w12, Nat.le_trans n1 w13⟩ ?_ ?_ (fun k h1 h2 => ?_)⟩
    · simp only [q152_0, q152_3, q152_8, q152_4, q152_7, q152_10, q152_22, q152_20, q152_26, d1, d2, ob_s, tl_s, tl_n, bz_0, hx, hy, Bool.true_eq_false, if_false, c3, nc (show 3 + p < 2 ^ 31 by omega), am_if_t v1, mq_w mqq hp, n_inj (show qW a.2.2.1 p < 2 ^ 31 by omega) (show pl < 2 ^ 31 by omega), hs, e2]
    · show (if i = p then pl else qW a.2.2.1 i) < _
      split
      · exact hpl
      · exact w8 i
    · have g : ∀ c, 21 ≤ c → c ≤ 29 → am_u I2 58 (3 + p) (nI pl) c = am_u I1 26 p (nI pl) c := fun c c1 c2 => by
        rw [am_u_n _ _ _ (by omega), f2 c (by omega)]
      refine cQ_of (I := am_u I1 26 p (nI pl)) ?_ g
      have q : ∀ c, c ≠ 26 → am_u I1 26 p (nI pl) c = I1 c := fun c hc => am_u_n _ _ _ hc
      obtain ⟨b1, b2, b3, b4, b5, b6, b7, b8, b9, b10, b11⟩ := b1
      refine ⟨by rw [q _ (by decide)]; exact b1, by rw [q _ (by decide)]; exact b2, by rw [q _ (by decide)]; exact b3, by rw [q _ (by decide)]; exact b4, by rw [q _ (by decide)]; exact b5, by rw [q _ (by decide)]; exact b6, by rw [q _ (by decide)]; exact b7, fun i hi => ?_, by rw [q _ (by decide)]; exact b9, by rw [q _ (by decide)]; exact b10, by rw [q _ (by decide)]; exact b11⟩
      show am_u I1 26 p (nI pl) 26 i = nI (if i = p then pl else qW a.2.2.1 i)
      by_cases c : i = p
      · rw [c, am_u_x, if_pos rfl]
      · rw [am_u_j c, if_neg c]
        exact b8 i hi
    · obtain ⟨b1, b2, b3, b4, b5, b6, b7, b8, b9, b10⟩ := b2
      have hD : ∀ {i}, i < qD (rem a.2.2.1 2 p (qW a.2.2.1 p)) → i < 10 := fun {i} hi => by
        have : i < qD a.2.2.1 := hi
        omega
      refine ⟨(am_u_j (by omega)).trans b1, (am_u_j (by omega)).trans b2, (am_u_j (by omega)).trans b3, fun i hi => (am_u_j (by omega)).trans (b4 i hi), fun i hi => (am_u_j (by omega)).trans (b5 i hi), fun i hi => (am_u_j (by omega)).trans (b6 i hi), fun i hi => (am_u_j (by omega)).trans (b7 i hi), fun i hi => ?_, fun i hi => (am_u_j (by omega)).trans (b9 i hi), fun i hi h => (am_u_j (by omega)).trans (b10 i hi h)⟩
      show am_u I2 58 (3 + p) (nI pl) 58 (3 + i) = nI (if i = p then pl else qW a.2.2.1 i)
      by_cases c : i = p
      · rw [c, am_u_x, if_pos rfl]
      · rw [am_u_j (by omega), if_neg c]
        exact b8 i hi
    · rw [am_u_n _ _ _ h2, f2 k h2, am_u_n _ _ _ (by omega), f1 k h1]
theorem op_makes (x y : Int32) (d : Value) : Op L 66 151 [.ref 1, .int x, .int y] [.ref 54, .int x, .int y, d] := fun a I J hR => by
  obtain ⟨⟨wv, wl, wq, wx, wi, wj⟩, ⟨cv, cl, cq, cx, ci, cj⟩, ⟨mv, ml, mq, mx, mi, mj⟩, ht⟩ := id hR
  have h2v := wv.1
  have h6 := wv.2.1
  have hn := wv.2.2.1
  have c1 := sem45 L I J (show vN a.1 < 2 ^ 31 by omega) cv.2.1 x
  have d1 := sem115 L I J (show vN a.1 < 2 ^ 31 by omega) mv.2.1 x
  cases hx : inr x (vN a.1)
  · refine ⟨some (.int (-1)), I, J, I, J, a, ?_, ?_, hR⟩
    · simp only [q66_0, q66_4, q66_8, q66_5, q66_7, q66_10, q66_15, q66_24, q66_16, q66_23, q66_26, q66_33, q66_31, q66_38, c1, ob_s, tl_s, bz_0, hx, if_true]
    · simp only [q151_0, q151_3, q151_7, q151_4, q151_6, q151_9, q151_17, q151_20, q151_18, q151_28, q151_26, d1, ob_s, tl_s, bz_0, hx, if_true]
  cases hy : inr y 8
  · refine ⟨some (.int (-1)), I, J, I, J, a, ?_, ?_, hR⟩
    · simp only [q66_0, q66_4, q66_8, q66_5, q66_7, q66_10, q66_15, q66_24, q66_16, q66_23, q66_26, q66_33, q66_31, q66_38, c1, sem82, ob_s, tl_s, bz_0, hx, hy, if_true, Bool.true_eq_false, if_false]
    · simp only [q151_0, q151_3, q151_7, q151_4, q151_6, q151_9, q151_17, q151_20, q151_18, q151_28, q151_26, d1, sem114, ob_s, tl_s, bz_0, hx, hy, if_true, Bool.true_eq_false, if_false]
  obtain ⟨p, hp, rfl⟩ := inr_t hx (by omega)
  obtain ⟨s, hs, rfl⟩ := inr_t hy (by omega)
  have hT := wq.1
  have hD := wq.2.1
  have hw := wq.2.2.2.2.2.2.2.1 p
  have k1 := sem49 L I J wv cv hp hs
  have k2 := sem50 L I J wv cv hp (show qT a.2.2.1 < 2 ^ 30 by omega)
  have k3 := sem136 L I J wv mv hp hs (show qT a.2.2.1 < 2 ^ 30 by omega)
  cases hc : canB a.1 p s (qT a.2.2.1)
  · refine ⟨some (.int (-2)), I, J, I, J, a, ?_, ?_, hR⟩
    · simp only [q66_0, q66_4, q66_8, q66_5, q66_7, q66_10, q66_15, q66_24, q66_16, q66_23, q66_26, q66_33, q66_31, q66_38, c1, sem82, ob_s, tl_s, bz_0, hx, hy, Bool.true_eq_false, if_false, k1, cq.1, k2]
      unfold canB at hc
      cases hb : (vC a.1 p).testBit s
      · simp only [if_true]
      · rw [hb, Bool.true_and] at hc
        simp only [hc, Bool.true_eq_false, if_false, if_true]
    · simp only [q151_0, q151_3, q151_7, q151_4, q151_6, q151_9, q151_17, q151_20, q151_18, q151_28, q151_26, d1, sem114, ob_s, tl_s, bz_0, hx, hy, Bool.true_eq_false, if_false, mq.1, k3, hc, if_true]
  have hc1 : (vC a.1 p).testBit s = true ∧ (decide (vA a.1 p ≤ qT a.2.2.1) && decide (qT a.2.2.1 ≤ vB a.1 p)) = true := by
    unfold canB at hc
    rw [Bool.and_assoc, Bool.and_eq_true] at hc
    exact hc
  by_cases hf : qD a.2.2.1 = 10
  · refine ⟨some (.int (-3)), I, J, I, J, a, ?_, ?_, hR⟩
    · simp only [q66_0, q66_4, q66_8, q66_5, q66_7, q66_10, q66_15, q66_24, q66_16, q66_23, q66_26, q66_33, q66_31, q66_38, c1, sem82, ob_s, tl_s, bz_0, hx, hy, Bool.true_eq_false, if_false, k1, cq.1, k2, hc1.1, hc1.2, cq.2.1, hf]
      rw [if_neg (by decide)]
    · simp only [q151_0, q151_3, q151_7, q151_4, q151_6, q151_9, q151_17, q151_20, q151_18, q151_28, q151_26, d1, sem114, ob_s, tl_s, bz_0, hx, hy, Bool.true_eq_false, if_false, mq.1, k3, hc, mq.2.1, hf]
      rw [if_pos (by decide)]
  obtain ⟨D, hDD⟩ : ∃ D, D = qD a.2.2.1 := ⟨_, rfl⟩
  have hD9 : D < 10 := by omega
  obtain ⟨I1, e1, b1, f1⟩ := rem_c L I J wv wq cq (k := 1) (p := p) (l := qW a.2.2.1 p) (by decide) (by omega) (fun h => by cases h)
  obtain ⟨I1', hI1'⟩ : ∃ I1', I1' = am_u (am_u (am_u (am_u (am_u I1 22 D (nI p)) 23 D (nI s)) 24 D (nI (qT a.2.2.1))) 25 D (nI (qW a.2.2.1 p))) 21 2 (nI (D + 1)) := ⟨_, rfl⟩
  have z1 : ∀ c, (c < 21 ∨ 29 < c) → I1' c = I c := fun c hc => by
    rw [hI1', am_u_n _ _ _ (by omega), am_u_n _ _ _ (by omega), am_u_n _ _ _ (by omega), am_u_n _ _ _ (by omega), am_u_n _ _ _ (by omega), f1 c hc]
  have mqq : mQ (vN a.1) a.2.2.1 (I1' 58) := by
    rw [z1 58 (by omega)]
    exact mq
  obtain ⟨I2, e2, b2, f2⟩ := rem_m L I1' J wv wq mqq (k := 1) (p := p) (l := qW a.2.2.1 p) (w := -2) (z := 0) rfl (fun h => by cases h) .null
  have e1 : am_sem 8 0 [.ref 21, .int 1, .int (nI p)] [] (am_T L, I, J) = some (none, (am_T L, I1, J)) := e1
  have d1 := sem115 L I1' J (show vN a.1 < 2 ^ 31 by omega) (by rw [z1 54 (by omega)]; exact mv.2.1) (nI p)
  have k3 := sem136 L I1' J wv (mV_of mv (by rw [z1 54 (by omega)]) (by rw [z1 54 (by omega)]) (z1 55 (by omega)) (z1 56 (by omega))) hp hs (show qT a.2.2.1 < 2 ^ 30 by omega)
  obtain ⟨r1, r2, r3, r4⟩ := wQ_rem wq (k := 1) (p := p) (l := qW a.2.2.1 p) (by decide) (fun h => by cases h) hw
  have n0 := cnt_rem wq 1 p (qW a.2.2.1 p) 0
  have n1 := cnt_rem wq 1 p (qW a.2.2.1 p) 1
  simp only [show (1 = 0) = False from eq_false (by decide), if_false, if_true, Nat.add_zero] at n0 n1
  have w0 := wq
  obtain ⟨w1, w2, w3, w4, w5, w6, w7, w8, w9, w10, w11, w12, w13⟩ := wq
  have t1 : I1 21 1 = nI (qT a.2.2.1) := b1.1
  have t2 : I1 21 2 = nI D := b1.2.1.trans (by rw [hDD]; rfl)
  have u0 : I2 58 0 = nI (qT a.2.2.1) := b2.1
  have u1 : I2 58 1 = nI D := b2.2.1.trans (by rw [hDD]; rfl)
  have uw : I2 58 (3 + p) = nI (qW a.2.2.1 p) := b2.2.2.2.2.2.2.2.1 p hp
  have e4 : I1 26 p = nI (qW a.2.2.1 p) := b1.2.2.2.2.2.2.2.1 p hp
  have vD : vp_in (nI D) 10 := n_in (by omega) (by decide)
  refine ⟨some (.int (nI (D + 1))), I1', J, am_u (am_u (am_u (am_u (am_u I2 58 (9 + 4 * D) (nI p)) 58 (10 + 4 * D) (nI s)) 58 (11 + 4 * D) (nI (qT a.2.2.1))) 58 (12 + 4 * D) (nI (qW a.2.2.1 p))) 58 1 (nI (D + 1)), J, _, ?_, ?_, hR.course (q := (qT a.2.2.1, D + 1, (fun i => if i = D then p else qDP a.2.2.1 i), (fun i => if i = D then s else qDO a.2.2.1 i), (fun i => if i = D then qT a.2.2.1 else qDS a.2.2.1 i), (fun i => if i = D then qW a.2.2.1 p else qDL a.2.2.1 i), (rem a.2.2.1 1 p (qW a.2.2.1 p)).2.2.2.2.2.2)) ⟨w1, hD9, r1, fun i => ?_, fun i => ?_, fun i => ?_, fun i => ?_, w8, r2, r3, r4, Nat.le_trans n0 w12, Nat.le_trans n1 (by show _ ≤ D + 1; omega)⟩ ?_ ?_ (fun k g1 g2 => ?_)⟩
  · simp only [q66_0, q66_4, q66_8, q66_5, q66_7, q66_10, q66_15, q66_24, q66_16, q66_23, q66_26, q66_33, q66_31, q66_38, c1, sem82, ob_s, tl_s, bz_0, hx, hy, Bool.true_eq_false, if_false, k1, cq.1, k2, hc1.1, hc1.2, cq.2.1, ← hDD]
    rw [if_pos (by rw [show (10 : Int32) = nI 10 from rfl, n_lt (by omega) (by decide)]; omega), q6_0, cq.2.1, ← hDD, if_neg (nI_pos (by omega)), q6_3, cq.2.1, ← hDD, if_neg (by rw [show (10 : Int32) = nI 10 from rfl, n_le (by decide) (by omega)]; omega), q6_7, e1]
    simp only [ob_s, tl_n, q6_11, t1, t2, nc (show D < 2 ^ 31 by omega), am_if_t (And.intro vD (And.intro vD vD)), q4_0, q4_4, at_n L _ J (a := 26) (n := 6) rfl (by decide) (show p < 6 by omega), tl_s, q6_37, am_if_t vD, q6_44, q66_38, am_u_k (show 26 ≠ 24 by decide), am_u_k (show 26 ≠ 23 by decide), am_u_k (show 26 ≠ 22 by decide), am_u_k (show 21 ≠ 22 by decide), am_u_k (show 21 ≠ 23 by decide), am_u_k (show 21 ≠ 24 by decide), am_u_k (show 21 ≠ 25 by decide), e4, am_u_x, nI_1]
    rw [hI1']
  · simp only [q151_0, q151_3, q151_7, q151_4, q151_6, q151_9, q151_17, q151_20, q151_18, q151_28, q151_26, d1, sem114, ob_s, tl_s, tl_n, bz_0, hx, hy, Bool.true_eq_false, if_false, mqq.1, k3, hc, mqq.2.1, ← hDD]
    rw [if_neg (by rw [show (10 : Int32) = nI 10 from rfl, n_inj (by omega) (by decide)]; omega), e2]
    simp only [ob_s, tl_n, q151_32, u1, m4, c9, c3, nI_1, p2, p3, nc (show 9 + 4 * D < 2 ^ 31 by omega), show 9 + 4 * D + 1 = 10 + 4 * D by omega, show 9 + 4 * D + 2 = 11 + 4 * D by omega, show 9 + 4 * D + 3 = 12 + 4 * D by omega, nc (show 10 + 4 * D < 2 ^ 31 by omega), nc (show 11 + 4 * D < 2 ^ 31 by omega), nc (show 12 + 4 * D < 2 ^ 31 by omega), nc (show 3 + p < 2 ^ 31 by omega), am_u_j (show 0 ≠ 10 + 4 * D by omega), am_u_j (show 0 ≠ 9 + 4 * D by omega), u0, am_u_j (show 3 + p ≠ 11 + 4 * D by omega), am_u_j (show 3 + p ≠ 10 + 4 * D by omega), am_u_j (show 3 + p ≠ 9 + 4 * D by omega), uw, am_u_j (show 1 ≠ 12 + 4 * D by omega), am_u_j (show 1 ≠ 11 + 4 * D by omega), am_u_j (show 1 ≠ 10 + 4 * D by omega), am_u_j (show 1 ≠ 9 + 4 * D by omega)]
    rw [am_if_t ⟨n_in (show 9 + 4 * D < 69 by omega) (by decide), n_in (show 10 + 4 * D < 69 by omega) (by decide), n_in (show 11 + 4 * D < 69 by omega) (by decide), n_in (show 3 + p < 69 by omega) (by decide), n_in (show 12 + 4 * D < 69 by omega) (by decide)⟩]
  · show (if i = D then p else qDP a.2.2.1 i) < 6
    split
    · omega
    · exact w4 i
  · show (if i = D then s else qDO a.2.2.1 i) < 8
    split
    · omega
    · exact w5 i
  · show (if i = D then qT a.2.2.1 else qDS a.2.2.1 i) ≤ 60
    split
    · omega
    · exact w6 i
  · show (if i = D then qW a.2.2.1 p else qDL a.2.2.1 i) < _
    split
    · exact hw
    · exact w7 i
  · have g : ∀ c, 21 ≤ c → c ≤ 29 → am_u (am_u (am_u (am_u (am_u I2 58 (9 + 4 * D) (nI p)) 58 (10 + 4 * D) (nI s)) 58 (11 + 4 * D) (nI (qT a.2.2.1))) 58 (12 + 4 * D) (nI (qW a.2.2.1 p))) 58 1 (nI (D + 1)) c = I1' c := fun c c1 c2 => by
      rw [am_u_n _ _ _ (by omega), am_u_n _ _ _ (by omega), am_u_n _ _ _ (by omega), am_u_n _ _ _ (by omega), am_u_n _ _ _ (by omega), f2 c (by omega)]
    refine cQ_of (I := I1') ?_ g
    obtain ⟨b1, b2, b3, b4, b5, b6, b7, b8, b9, b10, b11⟩ := b1
    have y : ∀ c, c ≠ 21 → c ≠ 22 → c ≠ 23 → c ≠ 24 → c ≠ 25 → I1' c = I1 c := fun c h1 h2 h3 h4 h5 => by
      rw [hI1', am_u_n _ _ _ (by omega), am_u_n _ _ _ (by omega), am_u_n _ _ _ (by omega), am_u_n _ _ _ (by omega), am_u_n _ _ _ (by omega)]
    have y21 : ∀ j, j ≠ 2 → I1' 21 j = I1 21 j := fun j hj => by
      rw [hI1', am_u_j hj, am_u_k (by omega), am_u_k (by omega), am_u_k (by omega), am_u_k (by omega)]
    refine ⟨by rw [y21 _ (by decide)]; exact b1, by rw [hI1', am_u_x]; rfl, by rw [y21 _ (by decide)]; exact b3, fun i hi => ?_, fun i hi => ?_, fun i hi => ?_, fun i hi => ?_, by rw [y _ (by decide) (by decide) (by decide) (by decide) (by decide)]; exact b8, by rw [y _ (by decide) (by decide) (by decide) (by decide) (by decide)]; exact b9, by rw [y _ (by decide) (by decide) (by decide) (by decide) (by decide)]; exact b10, by rw [y _ (by decide) (by decide) (by decide) (by decide) (by decide)]; exact b11⟩
    · have hi : i < D + 1 := hi
      show I1' 22 i = nI (if i = D then p else qDP a.2.2.1 i)
      rw [hI1', am_u_k (by decide), am_u_k (by decide), am_u_k (by decide), am_u_k (by decide)]
      by_cases c : i = D
      · rw [c, am_u_x, if_pos rfl]
      · rw [am_u_j c, if_neg c]
        exact b4 i (by show i < qD a.2.2.1; omega)
    · have hi : i < D + 1 := hi
      show I1' 23 i = nI (if i = D then s else qDO a.2.2.1 i)
      rw [hI1', am_u_k (by decide), am_u_k (by decide), am_u_k (by decide)]
      by_cases c : i = D
      · rw [c, am_u_x, if_pos rfl]
      · rw [am_u_j c, if_neg c, am_u_k (by decide)]
        exact b5 i (by show i < qD a.2.2.1; omega)
    · have hi : i < D + 1 := hi
      show I1' 24 i = nI (if i = D then qT a.2.2.1 else qDS a.2.2.1 i)
      rw [hI1', am_u_k (by decide), am_u_k (by decide)]
      by_cases c : i = D
      · rw [c, am_u_x, if_pos rfl]
      · rw [am_u_j c, if_neg c, am_u_k (by decide), am_u_k (by decide)]
        exact b6 i (by show i < qD a.2.2.1; omega)
    · have hi : i < D + 1 := hi
      show I1' 25 i = nI (if i = D then qW a.2.2.1 p else qDL a.2.2.1 i)
      rw [hI1', am_u_k (by decide)]
      by_cases c : i = D
      · rw [c, am_u_x, if_pos rfl]
      · rw [am_u_j c, if_neg c, am_u_k (by decide), am_u_k (by decide), am_u_k (by decide)]
        exact b7 i (by show i < qD a.2.2.1; omega)
  · obtain ⟨b1, b2, b3, b4, b5, b6, b7, b8, b9, b10⟩ := b2
    have y : ∀ j, j ≠ 1 → (j < 9 + 4 * D ∨ 12 + 4 * D < j) → am_u (am_u (am_u (am_u (am_u I2 58 (9 + 4 * D) (nI p)) 58 (10 + 4 * D) (nI s)) 58 (11 + 4 * D) (nI (qT a.2.2.1))) 58 (12 + 4 * D) (nI (qW a.2.2.1 p))) 58 1 (nI (D + 1)) 58 j = I2 58 j := fun j h1 h2 => by
      rw [am_u_j h1, am_u_j (by omega), am_u_j (by omega), am_u_j (by omega), am_u_j (by omega)]
    refine ⟨(y _ (by decide) (by omega)).trans b1, am_u_x, (y _ (by decide) (by omega)).trans b3, fun i hi => ?_, fun i hi => ?_, fun i hi => ?_, fun i hi => ?_, fun i hi => (y _ (by omega) (by omega)).trans (b8 i hi), fun i hi => (y _ (by omega) (by omega)).trans (b9 i hi), fun i hi h => (y _ (by omega) (by omega)).trans (b10 i hi h)⟩
    · have hi : i < D + 1 := hi
      show am_u _ 58 1 _ 58 (9 + 4 * i) = nI (if i = D then p else qDP a.2.2.1 i)
      by_cases c : i = D
      · rw [c, if_pos rfl, am_u_j (by omega), am_u_j (by omega), am_u_j (by omega), am_u_j (by omega), am_u_x]
      · rw [if_neg c, y _ (by omega) (by omega)]
        exact b4 i (by show i < qD a.2.2.1; omega)
    · have hi : i < D + 1 := hi
      show am_u _ 58 1 _ 58 (10 + 4 * i) = nI (if i = D then s else qDO a.2.2.1 i)
      by_cases c : i = D
      · rw [c, if_pos rfl, am_u_j (by omega), am_u_j (by omega), am_u_j (by omega), am_u_x]
      · rw [if_neg c, y _ (by omega) (by omega)]
        exact b5 i (by show i < qD a.2.2.1; omega)
    · have hi : i < D + 1 := hi
      show am_u _ 58 1 _ 58 (11 + 4 * i) = nI (if i = D then qT a.2.2.1 else qDS a.2.2.1 i)
      by_cases c : i = D
      · rw [c, if_pos rfl, am_u_j (by omega), am_u_j (by omega), am_u_x]
      · rw [if_neg c, y _ (by omega) (by omega)]
        exact b6 i (by show i < qD a.2.2.1; omega)
    · have hi : i < D + 1 := hi
      show am_u _ 58 1 _ 58 (12 + 4 * i) = nI (if i = D then qW a.2.2.1 p else qDL a.2.2.1 i)
      by_cases c : i = D
      · rw [c, if_pos rfl, am_u_j (by omega), am_u_x]
      · rw [if_neg c, y _ (by omega) (by omega)]
        exact b7 i (by show i < qD a.2.2.1; omega)
  · rw [am_u_n _ _ _ g2, am_u_n _ _ _ g2, am_u_n _ _ _ g2, am_u_n _ _ _ g2, am_u_n _ _ _ g2, f2 k g2, z1 k g1]
end OPS
