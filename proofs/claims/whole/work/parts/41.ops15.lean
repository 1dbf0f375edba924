/-! ===== ops: keep, back ===== -/
theorem cQ_cp {n c c2 : Nat} {v : VT} {q : QT} {I I' : Nat → Nat → Int32} (hn : n ≤ 6) (wq : wQ v q) (h : cQ n c q I) (e1 : I' c2 1 = I c 1) (e2 : I' c2 2 = I c 2) (e3 : I' c2 3 = I c 3) (r1 : ∀ i, i < 10 → I' (c2 + 1) i = I (c + 1) i) (r2 : ∀ i, i < 10 → I' (c2 + 2) i = I (c + 2) i) (r3 : ∀ i, i < 10 → I' (c2 + 3) i = I (c + 3) i) (r4 : ∀ i, i < 10 → I' (c2 + 4) i = I (c + 4) i) (r5 : ∀ i, i < 6 → I' (c2 + 5) i = I (c + 5) i) (r6 : ∀ i, i < 10 → I' (c2 + 6) i = I (c + 6) i) (r7 : ∀ i, i < 10 → I' (c2 + 7) i = I (c + 7) i) (r8 : ∀ i, i < 10 → I' (c2 + 8) i = I (c + 8) i) : cQ n c2 q I' := by
  have w2 := wq.2.1
  have w3 := wq.2.2.1
  obtain ⟨h1, h2, h3, h4, h5, h6, h7, h8, h9, h10, h11⟩ := h
  exact ⟨e1.trans h1, e2.trans h2, e3.trans h3, fun k hk => (r1 k (by omega)).trans (h4 k hk), fun k hk => (r2 k (by omega)).trans (h5 k hk), fun k hk => (r3 k (by omega)).trans (h6 k hk), fun k hk => (r4 k (by omega)).trans (h7 k hk), fun k hk => (r5 k (by omega)).trans (h8 k hk), fun k hk => (r6 k (by omega)).trans (h9 k hk), fun k hk h => (r7 k (by omega)).trans (h10 k hk h), fun k hk h => (r8 k (by omega)).trans (h11 k hk h)⟩
theorem mQ_cp {n : Nat} {v : VT} {q : QT} {S S' : Nat → Int32} (hn : n ≤ 6) (wq : wQ v q) (h : mQ n q S) (e : ∀ k, k < 69 → S' k = S k) : mQ n q S' := by
  have w2 := wq.2.1
  have w3 := wq.2.2.1
  obtain ⟨h1, h2, h3, h4, h5, h6, h7, h8, h9, h10⟩ := h
  exact ⟨(e _ (by omega)).trans h1, (e _ (by omega)).trans h2, (e _ (by omega)).trans h3, fun k hk => (e _ (by omega)).trans (h4 k hk), fun k hk => (e _ (by omega)).trans (h5 k hk), fun k hk => (e _ (by omega)).trans (h6 k hk), fun k hk => (e _ (by omega)).trans (h7 k hk), fun k hk => (e _ (by omega)).trans (h8 k hk), fun k hk => (e _ (by omega)).trans (h9 k hk), fun k hk h => (e _ (by omega)).trans (h10 k hk h)⟩
section OPS
variable (L : Nat) (I : Nat → Nat → Int32) (J : Nat → Nat → Int64)
def kpI (I : Nat → Nat → Int32) (a j : Nat) : Nat → Nat → Int32 := fun c i => if c = 59 then (if 69 * a ≤ i ∧ i < 69 * a + j then I 58 (i - 69 * a) else I c i) else I c i
def bkI (I : Nat → Nat → Int32) (a j : Nat) : Nat → Nat → Int32 := fun c i => if c = 58 then (if i < j then I 59 (69 * a + i) else I c i) else I c i
theorem sem172l {a : Nat} (ha : a < 2) : ∀ k j, j + k = 69 → am_sem 172 9 [.ref 54, .int (nI a), .int (nI j)] [] (am_T L, kpI I a j, J) = am_sem 172 26 [.ref 54, .int (nI a), .int (nI 69)] [] (am_T L, kpI I a 69, J)
  | 0, j, hk => by
    rw [q172_9, if_pos (by rw [show (69 : Int32) = nI 69 from rfl, n_le (by decide) (by omega)]; omega), show j = 69 by omega]
  | k + 1, j, hk => by
    have ih := sem172l ha k (j + 1) (by omega)
    have e : am_u (kpI I a j) 59 (69 * a + j) (kpI I a j 58 j) = kpI I a (j + 1) := by
      funext c i
      simp only [am_u, kpI]
      by_cases h1 : c = 59
      · subst h1
        by_cases h2 : i = 69 * a + j
        · subst h2
          simp
        · have : (69 * a ≤ i ∧ i < 69 * a + (j + 1)) = (69 * a ≤ i ∧ i < 69 * a + j) := propext ⟨fun h => by omega, fun h => by omega⟩
          simp [h2, this]
      · simp [h1]
    have m69 : (69 : Int32) * nI a + nI j = nI (69 * a + j) := by rw [show (69 : Int32) = nI 69 from rfl, pk_mul, nI_add]
    rw [q172_9, if_neg (by rw [show (69 : Int32) = nI 69 from rfl, n_le (by decide) (by omega)]; omega), q172_12, m69, nc (show j < 2 ^ 31 by omega), nc (show 69 * a + j < 2 ^ 31 by omega), am_if_t ⟨n_in (show j < 69 by omega) (by decide), n_in (show 69 * a + j < 138 by omega) (by decide)⟩, e, nI_1]
    exact ih
theorem sem173l {a : Nat} (ha : a < 2) : ∀ k j, j + k = 69 → am_sem 173 16 [.ref 54, .int (nI a), .int (nI j)] [] (am_T L, bkI I a j, J) = am_sem 173 33 [.ref 54, .int (nI a), .int (nI 69)] [] (am_T L, bkI I a 69, J)
  | 0, j, hk => by
    rw [q173_16, if_pos (by rw [show (69 : Int32) = nI 69 from rfl, n_le (by decide) (by omega)]; omega), show j = 69 by omega]
  | k + 1, j, hk => by
    have ih := sem173l ha k (j + 1) (by omega)
    have e : am_u (bkI I a j) 58 j (bkI I a j 59 (69 * a + j)) = bkI I a (j + 1) := by
      funext c i
      simp only [am_u, bkI]
      by_cases h1 : c = 58
      · subst h1
        by_cases h2 : i = j
        · subst h2
          simp
        · have : (i < j + 1) = (i < j) := propext ⟨fun h => by omega, fun h => by omega⟩
          simp [h2, this]
      · simp [h1]
    have m69 : (69 : Int32) * nI a + nI j = nI (69 * a + j) := by rw [show (69 : Int32) = nI 69 from rfl, pk_mul, nI_add]
    rw [q173_16, if_neg (by rw [show (69 : Int32) = nI 69 from rfl, n_le (by decide) (by omega)]; omega), q173_19, m69, nc (show j < 2 ^ 31 by omega), nc (show 69 * a + j < 2 ^ 31 by omega), am_if_t ⟨n_in (show 69 * a + j < 138 by omega) (by decide), n_in (show j < 69 by omega) (by decide)⟩, e, nI_1]
    exact ih
theorem kpI_0 (a : Nat) : kpI I a 0 = I := by
  funext c i
  simp only [kpI]
  by_cases h : c = 59
  · rw [if_pos h, if_neg (by omega)]
  · rw [if_neg h]
theorem bkI_0 (a : Nat) : bkI I a 0 = I := by
  funext c i
  simp [bkI]
theorem kpI_n {a j c : Nat} (h : c ≠ 59) : kpI I a j c = I c := by
  funext i
  simp [kpI, h]
theorem bkI_n {a j c : Nat} (h : c ≠ 58) : bkI I a j c = I c := by
  funext i
  simp [bkI, h]
end OPS
theorem Rl.img0 {a : AT} {I I' : Nat → Nat → Int32} {J : Nat → Nat → Int64} (h : Rl a I J) {o : Option QT} (wo : wI a.1 o) (co : cI (vN a.1) 30 o I') (mo : mI (vN a.1) 0 o I') (e : ∀ k, (k < 30 ∨ 38 < k) → k ≠ 59 → k ≠ 60 → I' k = I k) (e1 : I' 60 1 = I 60 1) (e2 : ∀ k, 69 ≤ k → I' 59 k = I 59 k) : Rl (a.1, a.2.1, a.2.2.1, a.2.2.2.1, o, a.2.2.2.2.2) I' J := by
  obtain ⟨⟨wv, wl, wq, wx, wi, wj⟩, ⟨cv, cl, cq, cx, ci, cj⟩, ⟨mv, ml, mq, mx, mi, mj⟩, ht⟩ := h
  have mq2 : mQ (vN a.1) a.2.2.1 (I' 58) := by rw [e 58 (by omega) (by omega) (by omega)]; exact mq
  have mj2 : mI (vN a.1) 1 a.2.2.2.2.2 I' := by
    cases hj : a.2.2.2.2.2 with
    | none =>
      rw [hj] at mj
      exact e1.trans mj
    | some q =>
      rw [hj] at mj wj
      refine ⟨e1.trans mj.1, mQ_cp wv.2.2.1 wj mj.2 fun k _ => e2 _ (by omega)⟩
  exact ⟨⟨wv, wl, wq, wx, wo, wj⟩, ⟨cV_of cv (fun k h1 h2 => e k (by omega) (by omega) (by omega)), cL_of cl (fun k h1 h2 => e k (by omega) (by omega) (by omega)), cQ_of cq (fun k h1 h2 => e k (by omega) (by omega) (by omega)), cX_of cx (by rw [e 2 (by omega) (by omega) (by omega)]) (e _ (by omega) (by omega) (by omega)), co, cI_of cj (fun k h1 h2 => e k (by omega) (by omega) (by omega))⟩, ⟨mV_of mv (by rw [e 54 (by omega) (by omega) (by omega)]) (by rw [e 54 (by omega) (by omega) (by omega)]) (e _ (by omega) (by omega) (by omega)) (e _ (by omega) (by omega) (by omega)), mL_of ml (by rw [e 54 (by omega) (by omega) (by omega)]) (e _ (by omega) (by omega) (by omega)), mq2, mX_of mx (by rw [e 54 (by omega) (by omega) (by omega)]) (e _ (by omega) (by omega) (by omega)), mo, mj2⟩, ht⟩
theorem Rl.img1 {a : AT} {I I' : Nat → Nat → Int32} {J : Nat → Nat → Int64} (h : Rl a I J) {o : Option QT} (wo : wI a.1 o) (co : cI (vN a.1) 39 o I') (mo : mI (vN a.1) 1 o I') (e : ∀ k, (k < 39 ∨ 47 < k) → k ≠ 59 → k ≠ 60 → I' k = I k) (e1 : I' 60 0 = I 60 0) (e2 : ∀ k, k < 69 → I' 59 k = I 59 k) : Rl (a.1, a.2.1, a.2.2.1, a.2.2.2.1, a.2.2.2.2.1, o) I' J := by
  obtain ⟨⟨wv, wl, wq, wx, wi, wj⟩, ⟨cv, cl, cq, cx, ci, cj⟩, ⟨mv, ml, mq, mx, mi, mj⟩, ht⟩ := h
  have mq2 : mQ (vN a.1) a.2.2.1 (I' 58) := by rw [e 58 (by omega) (by omega) (by omega)]; exact mq
  have mj2 : mI (vN a.1) 0 a.2.2.2.2.1 I' := by
    cases hj : a.2.2.2.2.1 with
    | none =>
      rw [hj] at mi
      exact e1.trans mi
    | some q =>
      rw [hj] at mi wi
      refine ⟨e1.trans mi.1, mQ_cp wv.2.2.1 wi mi.2 fun k _ => e2 _ (by omega)⟩
  exact ⟨⟨wv, wl, wq, wx, wi, wo⟩, ⟨cV_of cv (fun k h1 h2 => e k (by omega) (by omega) (by omega)), cL_of cl (fun k h1 h2 => e k (by omega) (by omega) (by omega)), cQ_of cq (fun k h1 h2 => e k (by omega) (by omega) (by omega)), cX_of cx (by rw [e 2 (by omega) (by omega) (by omega)]) (e _ (by omega) (by omega) (by omega)), cI_of ci (fun k h1 h2 => e k (by omega) (by omega) (by omega)), co⟩, ⟨mV_of mv (by rw [e 54 (by omega) (by omega) (by omega)]) (by rw [e 54 (by omega) (by omega) (by omega)]) (e _ (by omega) (by omega) (by omega)) (e _ (by omega) (by omega) (by omega)), mL_of ml (by rw [e 54 (by omega) (by omega) (by omega)]) (e _ (by omega) (by omega) (by omega)), mq2, mX_of mx (by rw [e 54 (by omega) (by omega) (by omega)]) (e _ (by omega) (by omega) (by omega)), mj2, mo⟩, ht⟩
theorem op_keep (L : Nat) (x : Int32) (d e : Value) : Op L 77 172 [.ref 1, .int x, d] [.ref 54, .int x, e] := fun a I J hR => by
  obtain ⟨⟨wv, wl, wq, wx, wi, wj⟩, ⟨cv, cl, cq, cx, ci, cj⟩, ⟨mv, ml, mq, mx, mi, mj⟩, ht⟩ := id hR
  have c1 := sem81n L I J x (m := 1) 1 rfl (by decide)
  have d1 := fun I => sem111n L I J x (m := 1) 1 rfl (by decide)
  cases hx : inr x 2
  · refine ⟨some (.int (-1)), I, J, I, J, a, ?_, ?_, hR⟩
    · simp only [q77_0, c1, hx, ob_s, tl_s, q77_3, bz_0, if_true, q77_4]
    · simp only [q172_0, d1, hx, ob_s, tl_s, q172_4, bz_0, if_true, q172_5]
  obtain ⟨k, hk, rfl⟩ := inr_t hx (by decide)
  have B : ∀ I (e : Value), am_sem 172 0 [.ref 54, .int (nI k), e] [] (am_T L, I, J) = am_sem 172 26 [.ref 54, .int (nI k), .int (nI 69)] [] (am_T L, kpI I k 69, J) := fun I e => by
    simp only [q172_0, d1, hx, ob_s, tl_s, q172_4, bz_0, Bool.true_eq_false, if_false, q172_7]
    have := sem172l L I J hk 69 0 (by omega)
    rw [kpI_0] at this
    exact this
  have A : am_sem 77 0 [.ref 1, .int (nI k), d] [] (am_T L, I, J) = (if nI k = 0 then am_sem 77 9 [.ref 1, .int (nI k), d] [.ref 30] (am_T L, I, J) else am_sem 77 9 [.ref 1, .int (nI k), d] [.ref 39] (am_T L, I, J)) := by
    simp only [q77_0, c1, hx, ob_s, tl_s, q77_3, bz_0, Bool.true_eq_false, if_false, q77_6, q88_0, q88_5, q88_2, q88_7v0, q88_7v1]
    by_cases h0 : nI k = 0
    · simp only [if_pos h0, ob_s, tl_s]
    · simp only [if_neg h0, ob_s, tl_s]
  rcases (show k = 0 ∨ k = 1 by omega) with rfl | rfl
  · skip
    obtain ⟨I1, e1, f1, f2, r1, r2, r3, r4, r5, r6, r7, r8⟩ := sem3_30_21 L I J
    refine ⟨some (.int (nI (qT a.2.2.1))), am_u I1 30 0 1, J, am_u (kpI (am_u I1 30 0 1) 0 69) 60 0 1, J, _, ?_, ?_, hR.img0 (o := some a.2.2.1) wq ⟨?_, ?_⟩ ⟨?_, ?_⟩ (fun c h1 h2 h3 => ?_) ?_ (fun c hc => ?_)⟩
    · rw [A, if_pos (by decide)]
      simp only [ob_s, tl_n, q77_9v0, q77_9v1, e1, q77_14v0, q77_14v1, f1 21 (by omega), cq.1]
    · rw [B, q172_26, am_if_t (n_in (show 0 < 2 by decide) (by decide)), kpI_n _ (by decide), am_u_n _ _ _ (by decide), f1 58 (by omega), mq.1]
      rfl
    · rw [am_u_n _ _ _ (by decide), kpI_n _ (by decide), am_u_x]
    · have y : ∀ c, c ≠ 60 → c ≠ 59 → c ≠ 30 → am_u (kpI (am_u I1 30 0 1) 0 69) 60 0 1 c = I1 c := fun c h1 h2 h3 => by rw [am_u_n _ _ _ h1, kpI_n _ h2, am_u_n _ _ _ h3]
      have y30 : ∀ j, j ≠ 0 → am_u (kpI (am_u I1 30 0 1) 0 69) 60 0 1 30 j = I1 30 j := fun j hj => by rw [am_u_n _ _ _ (by decide), kpI_n _ (by decide), am_u_j hj]
      refine cQ_cp (c := 21) wv.2.2.1 wq cq (by rw [y30 _ (by decide), f2 1 (by decide)]; rfl) (by rw [y30 _ (by decide), f2 2 (by decide)]; rfl) (by rw [y30 _ (by decide), f2 3 (by decide)]; rfl) ?_ ?_ ?_ ?_ ?_ ?_ ?_ ?_
      · rw [y _ (by decide) (by decide) (by decide)]
        exact r1
      · rw [y _ (by decide) (by decide) (by decide)]
        exact r2
      · rw [y _ (by decide) (by decide) (by decide)]
        exact r3
      · rw [y _ (by decide) (by decide) (by decide)]
        exact r4
      · rw [y _ (by decide) (by decide) (by decide)]
        exact r5
      · rw [y _ (by decide) (by decide) (by decide)]
        exact r6
      · rw [y _ (by decide) (by decide) (by decide)]
        exact r7
      · rw [y _ (by decide) (by decide) (by decide)]
        exact r8
    · exact am_u_x
    · refine mQ_cp wv.2.2.1 wq mq fun i hi => ?_
      rw [am_u_k (by decide)]
      simp only [kpI, if_true, Nat.mul_zero, Nat.zero_add, Nat.zero_le, true_and, hi, Nat.sub_zero]
      rw [am_u_k (by decide), f1 58 (by omega)]
    · rw [am_u_n _ _ _ h3, kpI_n _ h2, am_u_n _ _ _ (by omega), f1 c (by omega)]
    · rw [am_u_j (by decide), kpI_n _ (by decide), am_u_k (by decide), f1 60 (by omega)]
    · rw [am_u_k (by decide)]
      simp only [kpI, if_true, Nat.mul_zero, Nat.zero_add, Nat.zero_le, true_and]
      rw [if_neg (by omega), am_u_k (by decide), f1 59 (by omega)]
  · skip
    obtain ⟨I1, e1, f1, f2, r1, r2, r3, r4, r5, r6, r7, r8⟩ := sem3_39_21 L I J
    refine ⟨some (.int (nI (qT a.2.2.1))), am_u I1 39 0 1, J, am_u (kpI (am_u I1 39 0 1) 1 69) 60 1 1, J, _, ?_, ?_, hR.img1 (o := some a.2.2.1) wq ⟨?_, ?_⟩ ⟨?_, ?_⟩ (fun c h1 h2 h3 => ?_) ?_ (fun c hc => ?_)⟩
    · rw [A, if_neg (by decide)]
      simp only [ob_s, tl_n, q77_9v0, q77_9v1, e1, q77_14v0, q77_14v1, f1 21 (by omega), cq.1]
    · rw [B, q172_26, am_if_t (n_in (show 1 < 2 by decide) (by decide)), kpI_n _ (by decide), am_u_n _ _ _ (by decide), f1 58 (by omega), mq.1]
      rfl
    · rw [am_u_n _ _ _ (by decide), kpI_n _ (by decide), am_u_x]
    · have y : ∀ c, c ≠ 60 → c ≠ 59 → c ≠ 39 → am_u (kpI (am_u I1 39 0 1) 1 69) 60 1 1 c = I1 c := fun c h1 h2 h3 => by rw [am_u_n _ _ _ h1, kpI_n _ h2, am_u_n _ _ _ h3]
      have y30 : ∀ j, j ≠ 0 → am_u (kpI (am_u I1 39 0 1) 1 69) 60 1 1 39 j = I1 39 j := fun j hj => by rw [am_u_n _ _ _ (by decide), kpI_n _ (by decide), am_u_j hj]
      refine cQ_cp (c := 21) wv.2.2.1 wq cq (by rw [y30 _ (by decide), f2 1 (by decide)]; rfl) (by rw [y30 _ (by decide), f2 2 (by decide)]; rfl) (by rw [y30 _ (by decide), f2 3 (by decide)]; rfl) ?_ ?_ ?_ ?_ ?_ ?_ ?_ ?_
      · rw [y _ (by decide) (by decide) (by decide)]
        exact r1
      · rw [y _ (by decide) (by decide) (by decide)]
        exact r2
      · rw [y _ (by decide) (by decide) (by decide)]
        exact r3
      · rw [y _ (by decide) (by decide) (by decide)]
        exact r4
      · rw [y _ (by decide) (by decide) (by decide)]
        exact r5
      · rw [y _ (by decide) (by decide) (by decide)]
        exact r6
      · rw [y _ (by decide) (by decide) (by decide)]
        exact r7
      · rw [y _ (by decide) (by decide) (by decide)]
        exact r8
    · exact am_u_x
    · refine mQ_cp wv.2.2.1 wq mq fun i hi => ?_
      rw [am_u_k (by decide)]
      simp only [kpI, if_true]
      rw [if_pos (by omega), am_u_k (by decide), f1 58 (by omega)]
      exact congrArg _ (by omega)
    · rw [am_u_n _ _ _ h3, kpI_n _ h2, am_u_n _ _ _ (by omega), f1 c (by omega)]
    · rw [am_u_j (by decide), kpI_n _ (by decide), am_u_k (by decide), f1 60 (by omega)]
    · rw [am_u_k (by decide)]
      simp only [kpI, if_true]
      rw [if_neg (by omega), am_u_k (by decide), f1 59 (by omega)]
theorem op_back (L : Nat) (x : Int32) (d e : Value) : Op L 78 173 [.ref 1, .int x, d] [.ref 54, .int x, e] := fun a I J hR => by
  obtain ⟨⟨wv, wl, wq, wx, wi, wj⟩, ⟨cv, cl, cq, cx, ci, cj⟩, ⟨mv, ml, mq, mx, mi, mj⟩, ht⟩ := id hR
  have c1 := sem81n L I J x (m := 1) 1 rfl (by decide)
  have d1 := fun I => sem111n L I J x (m := 1) 1 rfl (by decide)
  cases hx : inr x 2
  · refine ⟨some (.int (-1)), I, J, I, J, a, ?_, ?_, hR⟩
    · simp only [q78_0, c1, hx, ob_s, tl_s, q78_3, bz_0, if_true, q78_4]
    · simp only [q173_0, d1, hx, ob_s, tl_s, q173_4, bz_0, if_true, q173_5]
  obtain ⟨k, hk, rfl⟩ := inr_t hx (by decide)
  have B0 : ∀ I (e : Value), am_sem 173 0 [.ref 54, .int (nI k), e] [] (am_T L, I, J) = am_sem 173 7 [.ref 54, .int (nI k), e] [] (am_T L, I, J) := fun I e => by
    simp only [q173_0, d1, hx, ob_s, tl_s, q173_4, bz_0, Bool.true_eq_false, if_false]
  have B : ∀ I (e : Value), I 60 k = 1 → am_sem 173 0 [.ref 54, .int (nI k), e] [] (am_T L, I, J) = am_sem 173 33 [.ref 54, .int (nI k), .int (nI 69)] [] (am_T L, bkI I k 69, J) := fun I e h1 => by
    rw [B0, q173_7, am_if_t (n_in hk (by decide)), nc (show k < 2 ^ 31 by omega), h1, if_neg (by decide), q173_14]
    have := sem173l L I J hk 69 0 (by omega)
    rw [bkI_0] at this
    exact this
  have A : am_sem 78 0 [.ref 1, .int (nI k), d] [] (am_T L, I, J) = (if nI k = 0 then am_sem 78 9 [.ref 1, .int (nI k), d] [.ref 30] (am_T L, I, J) else am_sem 78 9 [.ref 1, .int (nI k), d] [.ref 39] (am_T L, I, J)) := by
    simp only [q78_0, c1, hx, ob_s, tl_s, q78_3, bz_0, Bool.true_eq_false, if_false, q78_6, q88_0, q88_5, q88_2, q88_7v0, q88_7v1]
    by_cases h0 : nI k = 0
    · simp only [if_pos h0, ob_s, tl_s]
    · simp only [if_neg h0, ob_s, tl_s]
  rcases (show k = 0 ∨ k = 1 by omega) with rfl | rfl
  · skip
    cases ho : a.2.2.2.2.1 with
    | none =>
      rw [ho] at ci mi
      refine ⟨some (.int (-2)), I, J, I, J, a, ?_, ?_, hR⟩
      · rw [A, if_pos (by decide)]
        simp only [q78_9v0, q78_9v1]
        rw [if_pos (show I 30 0 = 0 from ci), q78_13]
      · rw [B0, q173_7, am_if_t (n_in (show 0 < 2 by decide) (by decide)), nc (show 0 < 2 ^ 31 by decide), if_pos (show I 60 0 = 0 from mi), q173_12]
    | some q =>
      rw [ho] at ci mi wi
      obtain ⟨I1, e1, f1, f2, r1, r2, r3, r4, r5, r6, r7, r8⟩ := sem3_21_30 L I J
      have t1 : I1 21 1 = nI (qT q) := (f2 1 (by decide)).trans ci.2.1
      have m1 : I1 60 0 = 1 := by
        rw [f1 60 (by omega)]
        exact mi.1
      refine ⟨some (.int (nI (qT q))), I1, J, bkI I1 0 69, J, _, ?_, ?_, hR.course (q := q) wi ?_ ?_ (fun c h1 h2 => ?_)⟩
      · rw [A, if_pos (by decide)]
        simp only [ob_s, tl_n, if_false, q78_9v0, q78_9v1, ci.1, i10, q78_15v0, q78_15v1, e1, q78_19, t1]
      · rw [B I1 e m1, q173_33]
        have : bkI I1 0 69 58 0 = I1 59 (69 * 0 + 0) := rfl
        rw [this, f1 59 (by omega)]
        exact congrArg (fun z => some (some (Value.int z), _)) mi.2.1
      · refine cQ_of (I := I1) (cQ_cp (c := 30) wv.2.2.1 wi ci.2 (f2 1 (by decide)) (f2 2 (by decide)) (f2 3 (by decide)) r1 r2 r3 r4 r5 r6 r7 r8) fun c h1 h2 => bkI_n _ (by omega)
      · refine mQ_cp wv.2.2.1 wi mi.2 fun i hi => ?_
        simp only [bkI, if_true, if_pos hi]
        rw [f1 59 (by omega)]
      · rw [bkI_n _ h2, f1 c (by omega)]
  · skip
    cases ho : a.2.2.2.2.2 with
    | none =>
      rw [ho] at cj mj
      refine ⟨some (.int (-2)), I, J, I, J, a, ?_, ?_, hR⟩
      · rw [A, if_neg (by decide)]
        simp only [q78_9v0, q78_9v1]
        rw [if_pos (show I 39 0 = 0 from cj), q78_13]
      · rw [B0, q173_7, am_if_t (n_in (show 1 < 2 by decide) (by decide)), nc (show 1 < 2 ^ 31 by decide), if_pos (show I 60 1 = 0 from mj), q173_12]
    | some q =>
      rw [ho] at cj mj wj
      obtain ⟨I1, e1, f1, f2, r1, r2, r3, r4, r5, r6, r7, r8⟩ := sem3_21_39 L I J
      have t1 : I1 21 1 = nI (qT q) := (f2 1 (by decide)).trans cj.2.1
      have m1 : I1 60 1 = 1 := by
        rw [f1 60 (by omega)]
        exact mj.1
      refine ⟨some (.int (nI (qT q))), I1, J, bkI I1 1 69, J, _, ?_, ?_, hR.course (q := q) wj ?_ ?_ (fun c h1 h2 => ?_)⟩
      · rw [A, if_neg (by decide)]
        simp only [ob_s, tl_n, if_false, q78_9v0, q78_9v1, cj.1, i10, q78_15v0, q78_15v1, e1, q78_19, t1]
      · rw [B I1 e m1, q173_33]
        have : bkI I1 1 69 58 0 = I1 59 (69 * 1 + 0) := rfl
        rw [this, f1 59 (by omega)]
        exact congrArg (fun z => some (some (Value.int z), _)) mj.2.1
      · refine cQ_of (I := I1) (cQ_cp (c := 39) wv.2.2.1 wj cj.2 (f2 1 (by decide)) (f2 2 (by decide)) (f2 3 (by decide)) r1 r2 r3 r4 r5 r6 r7 r8) fun c h1 h2 => bkI_n _ (by omega)
      · refine mQ_cp wv.2.2.1 wj mj.2 fun i hi => ?_
        simp only [bkI, if_true, if_pos hi]
        rw [f1 59 (by omega)]
      · rw [bkI_n _ h2, f1 c (by omega)]
