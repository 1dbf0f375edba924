/-! ===== ops: undo ===== -/
section OPS
variable (L : Nat)
/-- the course with the last one taken back -/
def unt (q : QT) : QT := (qT q - (if qUK q (qU q - 1) = 0 then 1 else 0), qD q - (if qUK q (qU q - 1) = 1 then 1 else 0), qDP q, qDO q, qDS q, qDL q, (fun i => if qUK q (qU q - 1) = 2 ∧ i = qUP q (qU q - 1) then qUL q (qU q - 1) else qW q i), qU q - 1, qUK q, qUP q, qUL q)
theorem wQ_unt {v : VT} {q : QT} (wq : wQ v q) (hU : 0 < qU q) : wQ v (unt q) := by
  obtain ⟨w1, w2, w3, w4, w5, w6, w7, w8, w9, w10, w11, w12, w13⟩ := wq
  obtain ⟨u, hu⟩ : ∃ u, qU q = u + 1 := ⟨qU q - 1, by omega⟩
  rw [hu, cnt] at w12 w13
  refine ⟨Nat.le_trans (Nat.sub_le _ _) w1, Nat.le_trans (Nat.sub_le _ _) w2, Nat.le_trans (Nat.sub_le _ _) w3, w4, w5, w6, w7, fun p => ?_, w9, fun k hk h2 => ?_, w11, ?_, ?_⟩
  · show (if qUK q (qU q - 1) = 2 ∧ p = qUP q (qU q - 1) then qUL q (qU q - 1) else qW q p) < _
    split
    · exact w11 _
    · exact w8 p
  · have hk : k < qU q - 1 := hk
    exact w10 k (by omega) h2
  · show cnt (qUK q) 0 (qU q - 1) ≤ qT q - (if qUK q (qU q - 1) = 0 then 1 else 0)
    rw [hu, show u + 1 - 1 = u from rfl]
    omega
  · show cnt (qUK q) 1 (qU q - 1) ≤ qD q - (if qUK q (qU q - 1) = 1 then 1 else 0)
    rw [hu, show u + 1 - 1 = u from rfl]
    omega
theorem op_undo (d : Value) : Op L 68 153 [.ref 1] [.ref 54, d] := fun a I J hR => by
  obtain ⟨⟨wv, wl, wq, wx, wi, wj⟩, ⟨cv, cl, cq, cx, ci, cj⟩, ⟨mv, ml, mq, mx, mi, mj⟩, ht⟩ := id hR
  have hn := wv.2.2.1
  have w3 := wq.2.2.1
  by_cases hf : qU a.2.2.1 = 0
  · refine ⟨some (.int (-2)), I, J, I, J, a, ?_, ?_, hR⟩
    · rw [q68_0, cq.2.2.1, hf, if_neg (by decide), q68_4]
    · rw [q153_0, mq.2.2.1, hf, if_pos (by decide), q153_5]
  obtain ⟨u, hu⟩ : ∃ u, qU a.2.2.1 = u + 1 := ⟨qU a.2.2.1 - 1, by omega⟩
  have wu := wQ_unt wq (by omega)
  have hu9 : u < 10 := by omega
  have w9 := wq.2.2.2.2.2.2.2.2.1 u
  have w10 := wq.2.2.2.2.2.2.2.2.2.1 u (by omega)
  have w12 := wu.2.2.2.2.2.2.2.2.2.2.2.1
  obtain ⟨T, hT⟩ : ∃ T, T = qT a.2.2.1 := ⟨_, rfl⟩
  obtain ⟨h1, h2, h3, h4, h5, h6, h7, h8, h9, h10, h11⟩ := id cq
  obtain ⟨b1, b2, b3, b4, b5, b6, b7, b8, b9, b10⟩ := id mq
  have uk := h9 u (by omega)
  have uk : I 27 u = nI (qUK a.2.2.1 u) := uk
  have bk := b9 u (by omega)
  have hun : unt a.2.2.1 = (qT a.2.2.1 - (if qUK a.2.2.1 u = 0 then 1 else 0), qD a.2.2.1 - (if qUK a.2.2.1 u = 1 then 1 else 0), qDP a.2.2.1, qDO a.2.2.1, qDS a.2.2.1, qDL a.2.2.1, (fun i => if qUK a.2.2.1 u = 2 ∧ i = qUP a.2.2.1 u then qUL a.2.2.1 u else qW a.2.2.1 i), u, qUK a.2.2.1, qUP a.2.2.1, qUL a.2.2.1) := by
    unfold unt
    rw [show qU a.2.2.1 - 1 = u by omega]
  have wc := wq.2.2.2.2.2.2.2.2.2.2.2
  rw [hu, cnt, cnt] at wc
  -- the class, up to the question what it was
  have g1 : am_sem 68 0 [.ref 1] [] (am_T L, I, J) = (am_sem 10 17 [.ref 21, .int (nI (qUK a.2.2.1 u)), .null] [.int (I 28 u)] (am_T L, am_u I 21 3 (nI u), J)).bind (fun r => am_sem 68 9 [.ref 1] (r.1.toList ++ []) r.2) := by
    rw [q68_0, cq.2.2.1, hu, if_pos (by rw [show (0 : Int32) = nI 0 from rfl, n_lt (by decide) (by omega)]; omega), q68_6, q10_0, cq.2.2.1, hu, nI_pred]
    simp only [at_n L _ J (a := 27) (n := 10) rfl (by decide) hu9, ob_s, tl_s, q10_11, am_u_x, at_n L _ J (a := 28) (n := 10) rfl (by decide) hu9, am_u_k (show 27 ≠ 21 by decide), am_u_k (show 28 ≠ 21 by decide), uk]
  have v1 : vp_in (nI (49 + 2 * u)) 69 := n_in (by omega) (by decide)
  by_cases k0 : qUK a.2.2.1 u = 0
  · have hT1 : ∃ T, qT a.2.2.1 = T + 1 := ⟨qT a.2.2.1 - 1, by simp [k0] at wc; omega⟩
    obtain ⟨T, hT⟩ := hT1
    have w1 := wq.1
    rw [k0, if_pos rfl] at bk
    refine ⟨some (.int (nI u)), am_u (am_u I 21 3 (nI u)) 21 1 (nI T), J, am_u (am_u (am_u (am_u I 21 3 (nI u)) 21 1 (nI T)) 58 2 (nI u)) 58 0 (nI T), J, _, ?_, ?_, hR.course wu ?_ ?_ (fun k z1 z2 => ?_)⟩
    · rw [g1, k0, q10_17, if_pos (by decide), q10_20, am_u_j (by decide), cq.1, hT, nI_pred, q10_53]
      simp only [ob_s, tl_n, q68_9]
      rw [am_u_j (by decide), am_u_x]
    · rw [q153_0, am_u_k (by decide), am_u_k (by decide), mq.2.2.1, hu, if_neg (by rw [show (0 : Int32) = nI 0 from rfl, n_inj (by omega) (by decide)]; omega), q153_7, am_u_k (by decide), am_u_k (by decide), mq.2.2.1, hu, nI_pred, m2, c49, nc (show 49 + 2 * u < 2 ^ 31 by omega), am_if_t v1, am_u_j (by omega), am_u_k (by decide), am_u_k (by decide), bk, if_pos rfl, q153_30, am_u_j (by decide), am_u_k (by decide), am_u_k (by decide), mq.1, hT, nI_pred, q153_70, am_u_j (by decide), am_u_x]
    · rw [hun]
      have y : ∀ c, c ≠ 21 → c ≠ 58 → am_u (am_u (am_u (am_u I 21 3 (nI u)) 21 1 (nI T)) 58 2 (nI u)) 58 0 (nI T) c = I c := fun c h1 h2 => by rw [am_u_n _ _ _ h2, am_u_n _ _ _ h2, am_u_n _ _ _ h1, am_u_n _ _ _ h1]
      have y21 : ∀ j, am_u (am_u (am_u (am_u I 21 3 (nI u)) 21 1 (nI T)) 58 2 (nI u)) 58 0 (nI T) 21 j = if j = 1 then nI T else if j = 3 then nI u else I 21 j := fun j => by simp [am_u]
      refine ⟨by rw [y21, k0, hT]; rfl, by rw [y21, k0]; exact h2, by rw [y21]; rfl, by rw [y _ (by decide) (by decide)]; rw [k0]; exact h4, by rw [y _ (by decide) (by decide)]; rw [k0]; exact h5, by rw [y _ (by decide) (by decide)]; rw [k0]; exact h6, by rw [y _ (by decide) (by decide)]; rw [k0]; exact h7, fun i hi => ?_, fun i hi => ?_, fun i hi => ?_, fun i hi => ?_⟩
      · rw [y _ (by decide) (by decide)]
        show _ = nI (if qUK a.2.2.1 u = 2 ∧ i = qUP a.2.2.1 u then qUL a.2.2.1 u else qW a.2.2.1 i)
        rw [k0, if_neg (by simp)]
        exact h8 i hi
      · have hi : i < u := hi
        rw [y _ (by decide) (by decide)]
        exact h9 i (by omega)
      · have hi : i < u := hi
        rw [y _ (by decide) (by decide)]
        exact h10 i (by omega)
      · have hi : i < u := hi
        rw [y _ (by decide) (by decide)]
        exact h11 i (by omega)
    · rw [hun]
      have y : ∀ j, j ≠ 0 → j ≠ 2 → am_u (am_u (am_u (am_u I 21 3 (nI u)) 21 1 (nI T)) 58 2 (nI u)) 58 0 (nI T) 58 j = I 58 j := fun j h1 h2 => by rw [am_u_j h1, am_u_j h2, am_u_k (by decide), am_u_k (by decide)]
      refine ⟨by rw [am_u_x, k0, hT]; rfl, by rw [y _ (by omega) (by omega), k0]; exact b2, by rw [am_u_j (by decide), am_u_x]; rfl, fun i hi => ?_, fun i hi => ?_, fun i hi => ?_, fun i hi => ?_, fun i hi => ?_, fun i hi => ?_, fun i hi => ?_⟩
      · have hi : i < qD a.2.2.1 - (if qUK a.2.2.1 u = 1 then 1 else 0) := hi
        exact (y _ (by omega) (by omega)).trans (b4 i (by omega))
      · have hi : i < qD a.2.2.1 - (if qUK a.2.2.1 u = 1 then 1 else 0) := hi
        exact (y _ (by omega) (by omega)).trans (b5 i (by omega))
      · have hi : i < qD a.2.2.1 - (if qUK a.2.2.1 u = 1 then 1 else 0) := hi
        exact (y _ (by omega) (by omega)).trans (b6 i (by omega))
      · have hi : i < qD a.2.2.1 - (if qUK a.2.2.1 u = 1 then 1 else 0) := hi
        exact (y _ (by omega) (by omega)).trans (b7 i (by omega))
      · refine (y _ (by omega) (by omega)).trans ?_
        show _ = nI (if qUK a.2.2.1 u = 2 ∧ i = qUP a.2.2.1 u then qUL a.2.2.1 u else qW a.2.2.1 i)
        rw [k0, if_neg (by simp)]
        exact b8 i hi
      · have hi : i < u := hi
        exact (y _ (by omega) (by omega)).trans (b9 i (by omega))
      · have hi : i < u := hi
        exact fun h => (y _ (by omega) (by omega)).trans (b10 i (by omega) h)
    · rw [am_u_n _ _ _ z2, am_u_n _ _ _ z2, am_u_n _ _ _ (by omega), am_u_n _ _ _ (by omega)]
  by_cases k1 : qUK a.2.2.1 u = 1
  · have hD1 : ∃ D, qD a.2.2.1 = D + 1 := ⟨qD a.2.2.1 - 1, by simp [k1] at wc; omega⟩
    obtain ⟨D, hD⟩ := hD1
    have w2 := wq.2.1
    rw [k1, if_neg (by decide), if_pos rfl] at bk
    refine ⟨some (.int (nI u)), am_u (am_u I 21 3 (nI u)) 21 2 (nI D), J, am_u (am_u (am_u (am_u I 21 3 (nI u)) 21 2 (nI D)) 58 2 (nI u)) 58 1 (nI D), J, _, ?_, ?_, hR.course wu ?_ ?_ (fun k z1 z2 => ?_)⟩
    · rw [g1, k1, q10_17, if_neg (by decide), q10_27, if_pos (by decide), q10_30, am_u_j (by decide), cq.2.1, hD, nI_pred, q10_53]
      simp only [ob_s, tl_n, q68_9]
      rw [am_u_j (by decide), am_u_x]
    · rw [q153_0, am_u_k (by decide), am_u_k (by decide), mq.2.2.1, hu, if_neg (by rw [show (0 : Int32) = nI 0 from rfl, n_inj (by omega) (by decide)]; omega), q153_7, am_u_k (by decide), am_u_k (by decide), mq.2.2.1, hu, nI_pred, m2, c49, nc (show 49 + 2 * u < 2 ^ 31 by omega), am_if_t v1, am_u_j (by omega), am_u_k (by decide), am_u_k (by decide), bk, if_neg (by decide), q153_39, if_pos rfl, q153_42, am_u_j (by decide), am_u_k (by decide), am_u_k (by decide), mq.2.1, hD, nI_pred, q153_70, am_u_j (by decide), am_u_x]
    · rw [hun]
      have y : ∀ c, c ≠ 21 → c ≠ 58 → am_u (am_u (am_u (am_u I 21 3 (nI u)) 21 2 (nI D)) 58 2 (nI u)) 58 1 (nI D) c = I c := fun c h1 h2 => by rw [am_u_n _ _ _ h2, am_u_n _ _ _ h2, am_u_n _ _ _ h1, am_u_n _ _ _ h1]
      have y21 : ∀ j, am_u (am_u (am_u (am_u I 21 3 (nI u)) 21 2 (nI D)) 58 2 (nI u)) 58 1 (nI D) 21 j = if j = 2 then nI D else if j = 3 then nI u else I 21 j := fun j => by simp [am_u]
      refine ⟨by rw [y21, k1]; exact h1, by rw [y21, k1, hD]; rfl, by rw [y21]; rfl, fun i hi => ?_, fun i hi => ?_, fun i hi => ?_, fun i hi => ?_, fun i hi => ?_, fun i hi => ?_, fun i hi => ?_, fun i hi => ?_⟩
      · have hi : i < qD a.2.2.1 - (if qUK a.2.2.1 u = 1 then 1 else 0) := hi
        rw [y _ (by decide) (by decide)]
        exact h4 i (by omega)
      · have hi : i < qD a.2.2.1 - (if qUK a.2.2.1 u = 1 then 1 else 0) := hi
        rw [y _ (by decide) (by decide)]
        exact h5 i (by omega)
      · have hi : i < qD a.2.2.1 - (if qUK a.2.2.1 u = 1 then 1 else 0) := hi
        rw [y _ (by decide) (by decide)]
        exact h6 i (by omega)
      · have hi : i < qD a.2.2.1 - (if qUK a.2.2.1 u = 1 then 1 else 0) := hi
        rw [y _ (by decide) (by decide)]
        exact h7 i (by omega)
      · rw [y _ (by decide) (by decide)]
        show _ = nI (if qUK a.2.2.1 u = 2 ∧ i = qUP a.2.2.1 u then qUL a.2.2.1 u else qW a.2.2.1 i)
        rw [k1, if_neg (by simp)]
        exact h8 i hi
      · have hi : i < u := hi
        rw [y _ (by decide) (by decide)]
        exact h9 i (by omega)
      · have hi : i < u := hi
        rw [y _ (by decide) (by decide)]
        exact h10 i (by omega)
      · have hi : i < u := hi
        rw [y _ (by decide) (by decide)]
        exact h11 i (by omega)
    · rw [hun]
      have y : ∀ j, j ≠ 1 → j ≠ 2 → am_u (am_u (am_u (am_u I 21 3 (nI u)) 21 2 (nI D)) 58 2 (nI u)) 58 1 (nI D) 58 j = I 58 j := fun j h1 h2 => by rw [am_u_j h1, am_u_j h2, am_u_k (by decide), am_u_k (by decide)]
      refine ⟨by rw [y _ (by omega) (by omega), k1]; exact b1, by rw [am_u_x, k1, hD]; rfl, by rw [am_u_j (by decide), am_u_x]; rfl, fun i hi => ?_, fun i hi => ?_, fun i hi => ?_, fun i hi => ?_, fun i hi => ?_, fun i hi => ?_, fun i hi => ?_⟩
      · have hi : i < qD a.2.2.1 - (if qUK a.2.2.1 u = 1 then 1 else 0) := hi
        exact (y _ (by omega) (by omega)).trans (b4 i (by omega))
      · have hi : i < qD a.2.2.1 - (if qUK a.2.2.1 u = 1 then 1 else 0) := hi
        exact (y _ (by omega) (by omega)).trans (b5 i (by omega))
      · have hi : i < qD a.2.2.1 - (if qUK a.2.2.1 u = 1 then 1 else 0) := hi
        exact (y _ (by omega) (by omega)).trans (b6 i (by omega))
      · have hi : i < qD a.2.2.1 - (if qUK a.2.2.1 u = 1 then 1 else 0) := hi
        exact (y _ (by omega) (by omega)).trans (b7 i (by omega))
      · refine (y _ (by omega) (by omega)).trans ?_
        show _ = nI (if qUK a.2.2.1 u = 2 ∧ i = qUP a.2.2.1 u then qUL a.2.2.1 u else qW a.2.2.1 i)
        rw [k1, if_neg (by simp)]
        exact b8 i hi
      · have hi : i < u := hi
        exact (y _ (by omega) (by omega)).trans (b9 i (by omega))
      · have hi : i < u := hi
        exact fun h => (y _ (by omega) (by omega)).trans (b10 i (by omega) h)
    · rw [am_u_n _ _ _ z2, am_u_n _ _ _ z2, am_u_n _ _ _ (by omega), am_u_n _ _ _ (by omega)]
  · have k2 : qUK a.2.2.1 u = 2 := by omega
    have hp := w10 k2
    have ep : I 28 u = nI (qUP a.2.2.1 u) := h10 u (by omega) k2
    have el : I 29 u = nI (qUL a.2.2.1 u) := h11 u (by omega) k2
    have ml := b10 u (by omega) k2
    rw [k2, if_neg (by decide), if_neg (by decide)] at bk
    obtain ⟨p, hpp⟩ : ∃ p, p = qUP a.2.2.1 u := ⟨_, rfl⟩
    obtain ⟨l, hll⟩ : ∃ l, l = qUL a.2.2.1 u := ⟨_, rfl⟩
    rw [← hpp] at hp ep bk
    rw [← hll] at el ml
    have n1 : ¬ nI p = -1 := fun e => by
      have e := congrArg Int32.toInt e
      rw [nI_toInt (by omega), show (-1 : Int32).toInt = -1 by decide] at e
      omega
    have n2 : ¬ nI p = -2 := fun e => by
      have e := congrArg Int32.toInt e
      rw [nI_toInt (by omega), show (-2 : Int32).toInt = -2 by decide] at e
      omega
    refine ⟨some (.int (nI u)), am_u (am_u I 21 3 (nI u)) 26 p (nI l), J, am_u (am_u (am_u (am_u I 21 3 (nI u)) 26 p (nI l)) 58 2 (nI u)) 58 (3 + p) (nI l), J, _, ?_, ?_, hR.course wu ?_ ?_ (fun k z1 z2 => ?_)⟩
    · rw [g1, k2, q10_17, if_neg (by decide), q10_27, if_neg (by decide), ep, q10_37, if_neg (nI_pos (by omega)), q10_39, if_neg (by rw [show (6 : Int32) = nI 6 from rfl, n_le (by decide) (by omega)]; omega), q10_44, am_u_x, at_n L _ J (a := 29) (n := 10) rfl (by decide) hu9, am_u_k (by decide), el]
      simp only [ob_s, tl_s, tl_n, q10_52, nc (show p < 2 ^ 31 by omega), am_if_t (n_in (show p < 6 by omega) (by decide)), q10_53, q68_9]
      rw [am_u_k (by decide), am_u_x]
    · rw [q153_0, am_u_k (by decide), am_u_k (by decide), mq.2.2.1, hu, if_neg (by rw [show (0 : Int32) = nI 0 from rfl, n_inj (by omega) (by decide)]; omega), q153_7, am_u_k (by decide), am_u_k (by decide), mq.2.2.1, hu, nI_pred, m2, c49, nc (show 49 + 2 * u < 2 ^ 31 by omega), am_if_t v1, am_u_j (by omega), am_u_k (by decide), am_u_k (by decide), bk, if_neg n1, q153_39, if_neg n2, q153_51, am_u_x, m2, c49, nI_1, c3, nc (show 49 + 2 * u + 1 < 2 ^ 31 by omega), nc (show 3 + p < 2 ^ 31 by omega), am_if_t ⟨n_in (show 49 + 2 * u + 1 < 69 by omega) (by decide), n_in (show 3 + p < 69 by omega) (by decide)⟩, am_u_j (by omega), am_u_k (by decide), am_u_k (by decide), show 49 + 2 * u + 1 = 50 + 2 * u by omega, ml, q153_70, am_u_j (by omega), am_u_x]
    · rw [hun]
      have y : ∀ c, c ≠ 21 → c ≠ 26 → c ≠ 58 → am_u (am_u (am_u (am_u I 21 3 (nI u)) 26 p (nI l)) 58 2 (nI u)) 58 (3 + p) (nI l) c = I c := fun c h1 h2 h3 => by rw [am_u_n _ _ _ h3, am_u_n _ _ _ h3, am_u_n _ _ _ h2, am_u_n _ _ _ h1]
      have y21 : ∀ j, am_u (am_u (am_u (am_u I 21 3 (nI u)) 26 p (nI l)) 58 2 (nI u)) 58 (3 + p) (nI l) 21 j = if j = 3 then nI u else I 21 j := fun j => by simp [am_u]
      refine ⟨by rw [y21, k2]; exact h1, by rw [y21, k2]; exact h2, by rw [y21]; rfl, fun i hi => ?_, fun i hi => ?_, fun i hi => ?_, fun i hi => ?_, fun i hi => ?_, fun i hi => ?_, fun i hi => ?_, fun i hi => ?_⟩
      · have hi : i < qD a.2.2.1 - (if qUK a.2.2.1 u = 1 then 1 else 0) := hi
        rw [y _ (by decide) (by decide) (by decide)]
        exact h4 i (by omega)
      · have hi : i < qD a.2.2.1 - (if qUK a.2.2.1 u = 1 then 1 else 0) := hi
        rw [y _ (by decide) (by decide) (by decide)]
        exact h5 i (by omega)
      · have hi : i < qD a.2.2.1 - (if qUK a.2.2.1 u = 1 then 1 else 0) := hi
        rw [y _ (by decide) (by decide) (by decide)]
        exact h6 i (by omega)
      · have hi : i < qD a.2.2.1 - (if qUK a.2.2.1 u = 1 then 1 else 0) := hi
        rw [y _ (by decide) (by decide) (by decide)]
        exact h7 i (by omega)
      · show am_u _ 58 (3 + p) _ 26 i = nI (if qUK a.2.2.1 u = 2 ∧ i = qUP a.2.2.1 u then qUL a.2.2.1 u else qW a.2.2.1 i)
        rw [am_u_k (by decide), am_u_k (by decide), ← hpp, ← hll]
        by_cases c : i = p
        · rw [c, am_u_x, if_pos ⟨k2, rfl⟩]
        · rw [am_u_j c, am_u_k (by decide), if_neg (fun h => c h.2)]
          exact h8 i hi
      · have hi : i < u := hi
        rw [y _ (by decide) (by decide) (by decide)]
        exact h9 i (by omega)
      · have hi : i < u := hi
        rw [y _ (by decide) (by decide) (by decide)]
        exact h10 i (by omega)
      · have hi : i < u := hi
        rw [y _ (by decide) (by decide) (by decide)]
        exact h11 i (by omega)
    · rw [hun]
      have y : ∀ j, j ≠ 3 + p → j ≠ 2 → am_u (am_u (am_u (am_u I 21 3 (nI u)) 26 p (nI l)) 58 2 (nI u)) 58 (3 + p) (nI l) 58 j = I 58 j := fun j h1 h2 => by rw [am_u_j h1, am_u_j h2, am_u_k (by decide), am_u_k (by decide)]
      refine ⟨by rw [y _ (by omega) (by omega), k2]; exact b1, by rw [y _ (by omega) (by omega), k2]; exact b2, by rw [am_u_j (by omega), am_u_x]; rfl, fun i hi => ?_, fun i hi => ?_, fun i hi => ?_, fun i hi => ?_, fun i hi => ?_, fun i hi => ?_, fun i hi => ?_⟩
      · have hi : i < qD a.2.2.1 - (if qUK a.2.2.1 u = 1 then 1 else 0) := hi
        exact (y _ (by omega) (by omega)).trans (b4 i (by omega))
      · have hi : i < qD a.2.2.1 - (if qUK a.2.2.1 u = 1 then 1 else 0) := hi
        exact (y _ (by omega) (by omega)).trans (b5 i (by omega))
      · have hi : i < qD a.2.2.1 - (if qUK a.2.2.1 u = 1 then 1 else 0) := hi
        exact (y _ (by omega) (by omega)).trans (b6 i (by omega))
      · have hi : i < qD a.2.2.1 - (if qUK a.2.2.1 u = 1 then 1 else 0) := hi
        exact (y _ (by omega) (by omega)).trans (b7 i (by omega))
      · show am_u _ 58 (3 + p) _ 58 (3 + i) = nI (if qUK a.2.2.1 u = 2 ∧ i = qUP a.2.2.1 u then qUL a.2.2.1 u else qW a.2.2.1 i)
        rw [← hpp, ← hll]
        by_cases c : i = p
        · rw [c, am_u_x, if_pos ⟨k2, rfl⟩]
        · rw [if_neg (fun h => c h.2), y _ (by omega) (by omega)]
          exact b8 i hi
      · have hi : i < u := hi
        exact (y _ (by omega) (by omega)).trans (b9 i (by omega))
      · have hi : i < u := hi
        exact fun h => (y _ (by omega) (by omega)).trans (b10 i (by omega) h)
    · rw [am_u_n _ _ _ z2, am_u_n _ _ _ z2, am_u_n _ _ _ (by omega), am_u_n _ _ _ (by omega)]
end OPS
