/-! ===== ops: second, makes, moves, undo, done ===== -/
section OPS
variable (L : Nat)
theorem op_second : Op L 65 150 [.ref 1] [.ref 54] := fun a I J hR => by
  obtain ⟨⟨wv, wl, wq, wx, wi, wj⟩, ⟨cv, cl, cq, cx, ci, cj⟩, ⟨mv, ml, mq, mx, mi, mj⟩, ht⟩ := id hR
  have h2 := wv.1
  by_cases hf : qT a.2.2.1 = 60
  · refine ⟨some (.int (-2)), I, J, I, J, a, ?_, ?_, hR⟩
    · rw [q65_0, cq.1, hf, if_neg (by decide), q65_5]
    · rw [q150_0, mq.1, hf, if_pos (by decide), q150_6]
  · have w1 := wq.1
    obtain ⟨I1, e1, c1, f1⟩ := rem_c L I J wv wq cq (k := 0) (p := 0) (l := 0) (by decide) (by decide) (fun h => by cases h)
    have mqq : mQ (vN a.1) a.2.2.1 (am_u I1 21 1 (nI (qT a.2.2.1 + 1)) 58) := by
      rw [am_u_n _ _ _ (by decide), f1 58 (by omega)]
      exact mq
    obtain ⟨I2, e2, c2, f2⟩ := rem_m L (am_u I1 21 1 (nI (qT a.2.2.1 + 1))) J wv wq mqq (k := 0) (p := 0) (l := 0) (w := -1) (z := 0) rfl (fun h => by cases h) .null
    have t1 : I1 21 1 = nI (qT a.2.2.1) := c1.1
    have t2 : I2 58 0 = nI (qT a.2.2.1) := c2.1
    have e1 : am_sem 8 0 [.ref 21, .int 0, .int 0] [] (am_T L, I, J) = some (none, (am_T L, I1, J)) := e1
    obtain ⟨k1, k2, k3, k4⟩ := wQ_rem wq (k := 0) (p := 0) (l := 0) (by decide) (fun h => by cases h) (by omega)
    obtain ⟨w1, w2, w3, w4, w5, w6, w7, w8, w9, w10, w11, w12, w13⟩ := wq
    have n0 := cnt_rem hR.1.2.2.1 0 0 0 0
    have n1 := cnt_rem hR.1.2.2.1 0 0 0 1
    refine ⟨some (.int (nI (qT a.2.2.1 + 1))), am_u I1 21 1 (nI (qT a.2.2.1 + 1)), J, am_u I2 58 0 (nI (qT a.2.2.1 + 1)), J, _, ?_, ?_, hR.course (q := (qT a.2.2.1 + 1, (rem a.2.2.1 0 0 0).2)) ⟨by show _ + 1 ≤ 60; omega, w2, k1, w4, w5, w6, w7, w8, k2, k3, k4, Nat.le_trans n0 (by show _ ≤ _ + 1; simp; omega), Nat.le_trans n1 (by show _ ≤ _; simp; exact w13)⟩ ?_ ?_ (fun k h1 h2 => ?_)⟩
    · rw [q65_0, cq.1, if_pos (by rw [show (60 : Int32) = nI 60 from rfl, n_lt (by omega) (by decide)]; omega), q65_7, q5_0, e1]
      simp only [ob_s, tl_n, q5_4, t1, nI_1, q65_10]
      rw [am_u_x]
    · rw [q150_0, mqq.1, if_neg (by rw [show (60 : Int32) = nI 60 from rfl, n_inj (by omega) (by decide)]; omega), q150_8, e2]
      simp only [ob_s, tl_n, q150_12, t2, nI_1]
    · have g : ∀ c, 21 ≤ c → c ≤ 29 → am_u I2 58 0 (nI (qT a.2.2.1 + 1)) c = am_u I1 21 1 (nI (qT a.2.2.1 + 1)) c := fun c c1 c2 => by
        rw [am_u_n _ _ _ (by omega), f2 c (by omega)]
      have : cQ (vN a.1) 21 (qT a.2.2.1 + 1, (rem a.2.2.1 0 0 0).2) (am_u I1 21 1 (nI (qT a.2.2.1 + 1))) := ⟨am_u_x, (am_u_j (by decide)).trans c1.2.1, (am_u_j (by decide)).trans c1.2.2.1, by rw [am_u_n _ _ _ (by decide)]; exact c1.2.2.2.1, by rw [am_u_n _ _ _ (by decide)]; exact c1.2.2.2.2.1, by rw [am_u_n _ _ _ (by decide)]; exact c1.2.2.2.2.2.1, by rw [am_u_n _ _ _ (by decide)]; exact c1.2.2.2.2.2.2.1, by rw [am_u_n _ _ _ (by decide)]; exact c1.2.2.2.2.2.2.2.1, by rw [am_u_n _ _ _ (by decide)]; exact c1.2.2.2.2.2.2.2.2.1, by rw [am_u_n _ _ _ (by decide)]; exact c1.2.2.2.2.2.2.2.2.2.1, by rw [am_u_n _ _ _ (by decide)]; exact c1.2.2.2.2.2.2.2.2.2.2⟩
      exact cQ_of this g
    · obtain ⟨b1, b2, b3, b4, b5, b6, b7, b8, b9, b10⟩ := c2
      exact ⟨am_u_x, (am_u_j (by decide)).trans b2, (am_u_j (by decide)).trans b3, fun i hi => (am_u_j (by omega)).trans (b4 i hi), fun i hi => (am_u_j (by omega)).trans (b5 i hi), fun i hi => (am_u_j (by omega)).trans (b6 i hi), fun i hi => (am_u_j (by omega)).trans (b7 i hi), fun i hi => (am_u_j (by omega)).trans (b8 i hi), fun i hi => (am_u_j (by omega)).trans (b9 i hi), fun i hi h => (am_u_j (by omega)).trans (b10 i hi h)⟩
    · rw [am_u_n _ _ _ h2, f2 k h2, am_u_n _ _ _ (by omega), f1 k h1]
end OPS
