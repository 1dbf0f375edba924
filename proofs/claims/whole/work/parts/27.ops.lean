/-! ===== ops: the text, the log, people, begin, sit ===== -/
theorem Rl.text {a : AT} {I I' : Nat → Nat → Int32} {J : Nat → Nat → Int64} (h : Rl a I J) {x : XT} (wx : wX x) (cx : cX x I') (mx : mX x I') (e : ∀ k, k ≠ 2 → k ≠ 9 → k ≠ 54 → k ≠ 61 → I' k = I k) (e4 : ∀ j, j ≠ 11 → I' 54 j = I 54 j) : Rl (a.1, a.2.1, a.2.2.1, x, a.2.2.2.2) I' J := by
  obtain ⟨⟨wv, wl, wq, -, wi, wj⟩, ⟨cv, cl, cq, -, ci, cj⟩, ⟨mv, ml, mq, -, mi, mj⟩, ht⟩ := h
  have mq2 : mQ (vN a.1) a.2.2.1 (I' 58) := by rw [e 58 (by omega) (by omega) (by omega) (by omega)]; exact mq
  exact ⟨⟨wv, wl, wq, wx, wi, wj⟩, ⟨cV_of cv (fun k h1 h2 => e k (by omega) (by omega) (by omega) (by omega)), cL_of cl (fun k h1 h2 => e k (by omega) (by omega) (by omega) (by omega)), cQ_of cq (fun k h1 h2 => e k (by omega) (by omega) (by omega) (by omega)), cx, cI_of ci (fun k h1 h2 => e k (by omega) (by omega) (by omega) (by omega)), cI_of cj (fun k h1 h2 => e k (by omega) (by omega) (by omega) (by omega))⟩, ⟨mV_of mv (e4 _ (by omega)) (e4 _ (by omega)) (e _ (by omega) (by omega) (by omega) (by omega)) (e _ (by omega) (by omega) (by omega) (by omega)), mL_of ml (e4 _ (by omega)) (e _ (by omega) (by omega) (by omega) (by omega)), mq2, mx, mI_of mi (e _ (by omega) (by omega) (by omega) (by omega)) (e _ (by omega) (by omega) (by omega) (by omega)), mI_of mj (e _ (by omega) (by omega) (by omega) (by omega)) (e _ (by omega) (by omega) (by omega) (by omega))⟩, ht⟩
theorem Rl.log {a : AT} {I I' : Nat → Nat → Int32} {J : Nat → Nat → Int64} (h : Rl a I J) {g : LT} (wl : wL a.1 g) (cl : cL g I') (ml : mL g I') (e : ∀ k, (k < 16 ∨ 20 < k) → k ≠ 54 → k ≠ 57 → I' k = I k) (e4 : ∀ j, j ≠ 4 → I' 54 j = I 54 j) : Rl (a.1, g, a.2.2.1, a.2.2.2.1, a.2.2.2.2) I' J := by
  obtain ⟨⟨wv, -, wq, wx, wi, wj⟩, ⟨cv, -, cq, cx, ci, cj⟩, ⟨mv, -, mq, mx, mi, mj⟩, ht⟩ := h
  have mq2 : mQ (vN a.1) a.2.2.1 (I' 58) := by rw [e 58 (by omega) (by omega) (by omega)]; exact mq
  exact ⟨⟨wv, wl, wq, wx, wi, wj⟩, ⟨cV_of cv (fun k h1 h2 => e k (by omega) (by omega) (by omega)), cl, cQ_of cq (fun k h1 h2 => e k (by omega) (by omega) (by omega)), cX_of cx (by rw [e 2 (by omega) (by omega) (by omega)]) (e _ (by omega) (by omega) (by omega)), cI_of ci (fun k h1 h2 => e k (by omega) (by omega) (by omega)), cI_of cj (fun k h1 h2 => e k (by omega) (by omega) (by omega))⟩, ⟨mV_of mv (e4 _ (by omega)) (e4 _ (by omega)) (e _ (by omega) (by omega) (by omega)) (e _ (by omega) (by omega) (by omega)), ml, mq2, mX_of mx (e4 _ (by omega)) (e _ (by omega) (by omega) (by omega)), mI_of mi (e _ (by omega) (by omega) (by omega)) (e _ (by omega) (by omega) (by omega)), mI_of mj (e _ (by omega) (by omega) (by omega)) (e _ (by omega) (by omega) (by omega))⟩, ht⟩
theorem Rl.course {a : AT} {I I' : Nat → Nat → Int32} {J : Nat → Nat → Int64} (h : Rl a I J) {q : QT} (wq : wQ a.1 q) (cq : cQ (vN a.1) 21 q I') (mq : mQ (vN a.1) q (I' 58)) (e : ∀ k, (k < 21 ∨ 29 < k) → k ≠ 58 → I' k = I k) : Rl (a.1, a.2.1, q, a.2.2.2.1, a.2.2.2.2) I' J := by
  obtain ⟨⟨wv, wl, -, wx, wi, wj⟩, ⟨cv, cl, -, cx, ci, cj⟩, ⟨mv, ml, -, mx, mi, mj⟩, ht⟩ := h
  exact ⟨⟨wv, wl, wq, wx, wi, wj⟩, ⟨cV_of cv (fun k h1 h2 => e k (by omega) (by omega)), cL_of cl (fun k h1 h2 => e k (by omega) (by omega)), cq, cX_of cx (by rw [e 2 (by omega) (by omega)]) (e _ (by omega) (by omega)), cI_of ci (fun k h1 h2 => e k (by omega) (by omega)), cI_of cj (fun k h1 h2 => e k (by omega) (by omega))⟩, ⟨mV_of mv (by rw [e 54 (by omega) (by omega)]) (by rw [e 54 (by omega) (by omega)]) (e _ (by omega) (by omega)) (e _ (by omega) (by omega)), mL_of ml (by rw [e 54 (by omega) (by omega)]) (e _ (by omega) (by omega)), mq, mX_of mx (by rw [e 54 (by omega) (by omega)]) (e _ (by omega) (by omega)), mI_of mi (e _ (by omega) (by omega)) (e _ (by omega) (by omega)), mI_of mj (e _ (by omega) (by omega)) (e _ (by omega) (by omega))⟩, ht⟩
theorem cL_0 {g : LT} {I : Nat → Nat → Int32} (h : I 16 0 = 0) : cL (0, g.2) I := ⟨h, fun _ hk => absurd hk (Nat.not_lt_zero _), fun _ hk => absurd hk (Nat.not_lt_zero _), fun _ hk => absurd hk (Nat.not_lt_zero _), fun _ hk => absurd hk (Nat.not_lt_zero _)⟩
theorem mL_0 {g : LT} {I : Nat → Nat → Int32} (h : I 54 4 = 0) : mL (0, g.2) I := ⟨h, fun _ hk => absurd hk (Nat.not_lt_zero _), fun _ hk => absurd hk (Nat.not_lt_zero _), fun _ hk => absurd hk (Nat.not_lt_zero _), fun _ hk => absurd hk (Nat.not_lt_zero _)⟩
section OPS
variable (L : Nat)
theorem op_clear (d e : Value) : Op L 54 118 [.ref 1, d] [.ref 54, e] := fun a I J hR => by
  obtain ⟨hw, ⟨cv, cl, cq, cx, ci, cj⟩, ⟨mv, ml, mq, mx, mi, mj⟩, ht⟩ := id hR
  refine ⟨_, _, _, am_u (am_u I 2 0 0) 54 11 0, J, _, q54_0 L I J d, ?_, hR.text (x := (0, a.2.2.2.1.2)) ⟨Nat.zero_le _, hw.2.2.2.1.2⟩ ⟨by simp [am_u]; rfl, fun k hk => absurd hk (Nat.not_lt_zero _)⟩ ⟨by simp [am_u]; rfl, fun k hk => absurd hk (Nat.not_lt_zero _)⟩ (fun k h1 h2 h3 h4 => by rw [am_u_n _ _ _ h3, am_u_n _ _ _ h1]) (fun j hj => by simp [am_u, hj])⟩
  rw [q118_0, show am_u I 2 0 0 54 11 = I 54 11 by simp [am_u], mx.1, cx.1]
theorem op_type (x : Int32) : Op L 53 117 [.ref 1, .int x] [.ref 54, .int x] := fun a I J hR => by
  have hR0 := hR
  obtain ⟨⟨wv, wl, wq, wx, wi, wj⟩, ⟨cv, cl, cq, cx, ci, cj⟩, ⟨mv, ml, mq, mx, mi, mj⟩, ht⟩ := hR
  have hx1 := wx.1
  have e117 : ∀ I J, am_sem 111 0 [.int x, .int 0, .int 255] [] (am_T L, I, J) = some (some (.int (bz (inr x 256))), (am_T L, I, J)) := fun I J => sem111n L I J x (m := 255) 255 rfl (by decide)
  have e53 := sem81n L I J x (m := 255) 255 rfl (by decide)
  cases hx : inr x 256
  · refine ⟨some (.int (-1)), I, J, I, J, a, ?_, ?_, hR0⟩
    · simp only [q53_0, q53_3, q53_6, q53_4, q53_13, q53_11, q53_17, e53, ob_s, tl_s, bz_0, hx, if_true]
    · simp only [q117_0, q117_4, q117_7, q117_5, q117_13, q117_11, e117, ob_s, tl_s, bz_0, hx, if_true]
  · obtain ⟨b, hb, rfl⟩ := inr_t hx (by decide)
    by_cases hf : a.2.2.2.1.1 = 200
    · refine ⟨some (.int (-3)), I, J, I, J, a, ?_, ?_, hR0⟩
      · simp only [q53_0, q53_3, q53_6, q53_4, q53_13, q53_11, q53_17, e53, ob_s, tl_s, bz_0, hx, Bool.true_eq_false, if_false, cx.1, hf]
        rw [if_neg (by decide)]
      · simp only [q117_0, q117_4, q117_7, q117_5, q117_13, q117_11, e117, ob_s, tl_s, bz_0, hx, Bool.true_eq_false, if_false, mx.1, hf]
        rw [if_pos (by decide)]
    · have hlt : a.2.2.2.1.1 < 200 := by omega
      refine ⟨some (.int (nI (a.2.2.2.1.1 + 1))), am_u (am_u I 9 a.2.2.2.1.1 (nI b)) 2 0 (nI (a.2.2.2.1.1 + 1)), J, am_u (am_u (am_u (am_u I 9 a.2.2.2.1.1 (nI b)) 2 0 (nI (a.2.2.2.1.1 + 1))) 61 a.2.2.2.1.1 (nI b)) 54 11 (nI (a.2.2.2.1.1 + 1)), J, _, ?_, ?_, hR0.text (x := (a.2.2.2.1.1 + 1, fun k => if k = a.2.2.2.1.1 then b else a.2.2.2.1.2 k)) ⟨by show _ + 1 ≤ 200; omega, fun k => ?_⟩ ⟨by simp [am_u], fun k hk => ?_⟩ ⟨by simp [am_u], fun k hk => ?_⟩ (fun k h1 h2 h3 h4 => by rw [am_u_n _ _ _ h3, am_u_n _ _ _ h4, am_u_n _ _ _ h1, am_u_n _ _ _ h2]) (fun j hj => by simp [am_u, hj])⟩
      · simp only [q53_0, q53_3, q53_6, q53_4, q53_13, q53_11, e53, ob_s, tl_s, tl_n, bz_0, hx, Bool.true_eq_false, if_false, q29_0, q29_19, q29_3, q29_7, cx.1, nI_1, nc (show a.2.2.2.1.1 < 2 ^ 31 by omega), n_neg (show a.2.2.2.1.1 < 2 ^ 31 by omega), am_if_t (n_in hlt (by decide))]
        rw [if_pos (by rw [show (200 : Int32) = nI 200 from rfl, n_lt (by omega) (by decide)]; exact hlt), if_neg (by rw [show (200 : Int32) = nI 200 from rfl, n_le (by decide) (by omega)]; omega)]
        simp only [ob_s, tl_n, q53_17]
        simp [am_u]
      · have e5 : ∀ j, am_u (am_u I 9 a.2.2.2.1.1 (nI b)) 2 0 (nI (a.2.2.2.1.1 + 1)) 54 j = I 54 j := fun j => by simp [am_u]
        simp only [q117_0, q117_4, q117_7, q117_5, q117_13, q117_11, e117, ob_s, tl_s, bz_0, hx, Bool.true_eq_false, if_false, e5, mx.1, nI_1, nc (show a.2.2.2.1.1 < 2 ^ 31 by omega), am_if_t (n_in hlt (by decide))]
        rw [if_neg (by rw [show (200 : Int32) = nI 200 from rfl, n_inj (by omega) (by decide)]; exact hf)]
      · show (if k = _ then b else _) ≤ 255
        split
        · omega
        · exact wx.2 k
      · have hk : k < a.2.2.2.1.1 + 1 := hk
        by_cases e : k = a.2.2.2.1.1
        · simp [am_u, e]
        · simp [am_u, e]
          exact cx.2 k (by omega)
      · have hk : k < a.2.2.2.1.1 + 1 := hk
        by_cases e : k = a.2.2.2.1.1
        · simp [am_u, e]
        · simp [am_u, e]
          exact mx.2 k (by omega)
theorem op_forget (d e : Value) : Op L 59 132 [.ref 1, d] [.ref 54, e] := fun a I J hR => by
  obtain ⟨hw, ⟨cv, cl, cq, cx, ci, cj⟩, ⟨mv, ml, mq, mx, mi, mj⟩, ht⟩ := id hR
  refine ⟨_, _, _, am_u (am_u I 16 0 0) 54 4 0, J, _, q59_0 L I J d, ?_, hR.log (g := (0, a.2.1.2)) ⟨Nat.zero_le _, hw.2.1.2⟩ (cL_0 (by simp [am_u])) (mL_0 (by simp [am_u])) (fun k h1 h2 h3 => by rw [am_u_n _ _ _ h2, am_u_n _ _ _ (by omega)]) (fun j hj => by simp [am_u, hj])⟩
  rw [q132_0, show am_u I 16 0 0 54 4 = I 54 4 by simp [am_u], ml.1, cl.1]
theorem sem161 (I : Nat → Nat → Int32) (J : Nat → Nat → Int64) {v : VT} {q : QT} (wv : wV v) (wq : wQ v q) (hv : mV v I) (hq : mQ (vN v) q (I 58)) {p s pl t : Nat} (hp : p < vN v) (hs : s < 8) (hpl : pl < vP v) (ht : t < 900) (d : Value) : am_sem 161 0 [.ref 54, .int (nI p), .int (nI s), .int (nI pl), .int (nI t), d] [] (am_T L, I, J) = some (some (.int (if canB v p s (tB v q p pl t) = true then nI (tB v q p pl t) else -9)), (am_T L, I, J)) := by
  have h6 := wv.2.1
  have hn := wv.2.2.1
  have hw := wq.2.2.2.2.2.2.2.1 p
  have hf := far_le wv (qW q p) pl
  simp only [q161_0, q161_10, q161_17, q161_20, q161_18, q161_21, c3, nc (show 3 + p < 2 ^ 31 by omega), am_if_t (n_in (show 3 + p < 69 by omega) (by decide)), hq.2.2.2.2.2.2.2.1 p hp, sem128 L I J hv (show qW q p < 6 by omega) (show pl < 6 by omega), ob_s, tl_s, nI_add, sem136 L I J wv hv hp hs (show t + far v (qW q p) pl < 2 ^ 30 by omega), bz_0]
  unfold tB
  cases canB v p s (t + far v (qW q p) pl) <;> simp
theorem op_begin (p s pl t : Int32) : Op L 72 162 [.ref 1, .int p, .int s, .int pl, .int t] [.ref 54, .int p, .int s, .int pl, .int t] := Op.ro fun a I J hR => by
  obtain ⟨⟨wv, wl, wq, wx, wi, wj⟩, ⟨cv, cl, cq, cx, ci, cj⟩, ⟨mv, ml, mq, mx, mi, mj⟩, ht⟩ := hR
  have h6 := wv.2.1
  have hn := wv.2.2.1
  simp only [q72_0, q72_4, q72_17, q72_5, q72_7, q72_8, q72_12, q72_13, q72_16, q72_19, q72_25, q162_0, q162_3, q162_14, q162_4, q162_6, q162_7, q162_10, q162_11, q162_13, q162_16, q162_22, sem44 L I J (show vP a.1 < 2 ^ 31 by omega) cv.1, sem45 L I J (show vN a.1 < 2 ^ 31 by omega) cv.2.1, sem113 L I J (show vP a.1 < 2 ^ 31 by omega) mv.1, sem115 L I J (show vN a.1 < 2 ^ 31 by omega) mv.2.1, sem82, sem114, sem116, sem81n L I J t (m := 40) 40 rfl (by decide), ob_s, tl_s, bz_0]
  cases h1 : inr p (vN a.1)
  · exact ⟨_, rfl, rfl⟩
  cases h2 : inr s 8
  · exact ⟨_, rfl, rfl⟩
  cases h3 : inr pl (vP a.1)
  · exact ⟨_, rfl, rfl⟩
  cases h4 : inr t 41
  · exact ⟨_, rfl, rfl⟩
  obtain ⟨p, hp, rfl⟩ := inr_t h1 (by omega)
  obtain ⟨s, hs, rfl⟩ := inr_t h2 (by decide)
  obtain ⟨pl, hpl, rfl⟩ := inr_t h3 (by omega)
  obtain ⟨t, ht2, rfl⟩ := inr_t h4 (by decide)
  simp only [sem89 L I J wv wq cv cq hp hs hpl (show t < 900 by omega), sem161 L I J wv wq mv mq hp hs hpl (show t < 900 by omega), q72_0, q72_4, q72_17, q72_5, q72_7, q72_8, q72_12, q72_13, q72_16, q72_19, q72_25, q162_0, q162_3, q162_14, q162_4, q162_6, q162_7, q162_10, q162_11, q162_13, q162_16, q162_22, ob_s, tl_s, Bool.true_eq_false, if_false]
  exact ⟨_, rfl, rfl⟩
end OPS
