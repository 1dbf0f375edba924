/-! ===== ops: person, sit, sure, together ===== -/
def sureL (f : Nat → Bool) : Nat → Nat → Nat → Nat
  | 0, _, n => n
  | k + 1, t, n => sureL f k (t + 1) (if f t = true then n + 1 else n)
/-- the first of t, t + 1, .. (k of them); NONE -/
def upF (f : Nat → Bool) : Nat → Nat → Int32
  | 0, _ => -9
  | k + 1, t => if f t = true then nI t else upF f k (t + 1)
theorem n40 {t : Nat} (h : t < 2 ^ 31) : ((40 : Int32) < nI t) = (40 < t) := by rw [show (40 : Int32) = nI 40 from rfl, n_lt (by decide) h]
theorem pm1 (n : Nat) : nI (n + 1) + (-1) = nI n := pk_m1 n
theorem mq_w {n : Nat} {q : QT} {I : Nat → Nat → Int32} (h : mQ n q (I 58)) {p : Nat} (hp : p < n) : I 58 (3 + p) = nI (qW q p) := h.2.2.2.2.2.2.2.1 p hp
section OPS
variable (L : Nat)
theorem op_person (x y : Int32) : Op L 57 130 [.ref 1, .int x, .int y] [.ref 54, .int x, .int y] := Op.ro fun a I J hR => by
  obtain ⟨⟨wv, wl, wq, wx, wi, wj⟩, ⟨cv, cl, cq, cx, ci, cj⟩, ⟨mv, ml, mq, mx, mi, mj⟩, ht⟩ := hR
  have hn := wv.2.2.1
  simp only [q57_0, q57_4, q57_7, q57_5, q57_9, q57_14, q57_20, q57_26, q57_32, q57_13, q57_19, q57_25, q57_31, q130_0, q130_3, q130_9, q130_4, q130_8, q130_11, q130_20, q130_13, q130_28, sem45 L I J (show vN a.1 < 2 ^ 31 by omega) cv.2.1, sem115 L I J (show vN a.1 < 2 ^ 31 by omega) mv.2.1, sem111n L I J y (m := 3) 3 rfl (by decide), ob_s, tl_s, bz_0]
  cases hx : inr x (vN a.1)
  · exact ⟨_, rfl, rfl⟩
  obtain ⟨p, hp, rfl⟩ := inr_t hx (by omega)
  simp only [Bool.true_eq_false, if_false, at_n L I J (a := 13) (n := 6) rfl (by decide) (show p < 6 by omega), at_n L I J (a := 14) (n := 6) rfl (by decide) (show p < 6 by omega), at_n L I J (a := 15) (n := 6) rfl (by decide) (show p < 6 by omega), sem4 L I J cq hn hp, ob_s, tl_s, cv.2.2.2.1 p hp, cv.2.2.2.2.1 p hp, cv.2.2.2.2.2 p hp, q57_0, q57_4, q57_7, q57_5, q57_9, q57_14, q57_20, q57_26, q57_32, q57_13, q57_19, q57_25, q57_31, q130_0, q130_3, q130_9, q130_4, q130_8, q130_11, q130_20, q130_13, q130_28, c3, m4, nc (show 3 + p < 2 ^ 31 by omega), am_if_t (n_in (show 3 + p < 69 by omega) (by decide)), mq.2.2.2.2.2.2.2.1 p hp]
  by_cases h0 : y = 0
  · subst h0
    exact ⟨_, rfl, rfl⟩
  by_cases h1 : y = 1
  · subst h1
    simp only [show inr 1 4 = true from by decide, Bool.true_eq_false, if_false, i10, if_true, nI_1, nc (show 4 * p + 1 < 2 ^ 31 by omega), am_if_t (n_in (show 4 * p + 1 < 24 by omega) (by decide)), mv.2.2.2.1 p hp]
    exact ⟨_, rfl, rfl⟩
  by_cases h2 : y = 2
  · subst h2
    simp only [show inr 2 4 = true from by decide, Bool.true_eq_false, if_false, show ((2 : Int32) = 0) = False from eq_false (by decide), show ((2 : Int32) = 1) = False from eq_false (by decide), if_true, p2, nc (show 4 * p + 2 < 2 ^ 31 by omega), am_if_t (n_in (show 4 * p + 2 < 24 by omega) (by decide)), mv.2.2.2.2.1 p hp]
    exact ⟨_, rfl, rfl⟩
  by_cases h3 : y = 3
  · subst h3
    simp only [show inr 3 4 = true from by decide, Bool.true_eq_false, if_false, show ((3 : Int32) = 0) = False from eq_false (by decide), show ((3 : Int32) = 1) = False from eq_false (by decide), show ((3 : Int32) = 2) = False from eq_false (by decide), if_true, p3, nc (show 4 * p + 3 < 2 ^ 31 by omega), am_if_t (n_in (show 4 * p + 3 < 24 by omega) (by decide)), mv.2.2.2.2.2 p hp]
    exact ⟨_, rfl, rfl⟩
  have hy : inr y 4 = false := by
    cases hy : inr y 4
    · rfl
    · obtain ⟨k, hk, rfl⟩ := inr_t hy (by decide)
      match k, hk with
      | 0, _ => exact absurd rfl h0
      | 1, _ => exact absurd rfl h1
      | 2, _ => exact absurd rfl h2
      | 3, _ => exact absurd rfl h3
  simp only [hy, h0, h1, h2, h3, if_true, if_false]
  exact ⟨_, rfl, rfl⟩
theorem sem71l (I : Nat → Nat → Int32) (J : Nat → Nat → Int64) {v : VT} (wv : wV v) (hv : cV v I) {pl : Nat} (hpl : pl < vP v) : ∀ k q b, q + k = vP v → b < vP v → am_sem 71 11 [.ref 1, .int (nI pl), .int (nI b), .int (nI q)] [] (am_T L, I, J) = some (some (.int (nI (sitL v pl k q b))), (am_T L, I, J))
  | 0, q, b, hk, hb => by
    have h6 := wv.2.1
    rw [q71_11, hv.1, if_pos (by rw [n_le (by omega) (by omega)]; omega), q71_31]
    rfl
  | k + 1, q, b, hk, hb => by
    have h6 := wv.2.1
    have f1 := far_le wv pl q
    have f2 := far_le wv pl b
    rw [q71_11, hv.1, if_neg (by rw [n_le (by omega) (by omega)]; omega)]
    simp only [q71_4, q71_7, q71_5, q71_31, q71_16, q71_21, q71_26, q71_29, q71_27, sem46 L I J hv (show pl < 6 by omega) (show q < 6 by omega), sem46 L I J hv (show pl < 6 by omega) (show b < 6 by omega), ob_s, tl_s, nI_1, n_le (show far v pl q < 2 ^ 31 by omega) (show far v pl b < 2 ^ 31 by omega)]
    rw [sitL]
    by_cases c : far v pl q ≤ far v pl b
    · simp only [c, if_true]
      exact sem71l I J wv hv hpl k (q + 1) b (by omega) hb
    · simp only [c, if_false]
      exact sem71l I J wv hv hpl k (q + 1) q (by omega) (by omega)
theorem sem160l (I : Nat → Nat → Int32) (J : Nat → Nat → Int64) {v : VT} (wv : wV v) (hv : mV v I) {pl : Nat} (hpl : pl < vP v) : ∀ k q b, q + k = vP v → b < vP v → am_sem 160 10 [.ref 54, .int (nI pl), .int (nI b), .int (nI q)] [] (am_T L, I, J) = some (some (.int (nI (sitL v pl k q b))), (am_T L, I, J))
  | 0, q, b, hk, hb => by
    have h6 := wv.2.1
    rw [q160_10, hv.1, if_pos (by rw [n_le (by omega) (by omega)]; omega), q160_29]
    rfl
  | k + 1, q, b, hk, hb => by
    have h6 := wv.2.1
    have f1 := far_le wv pl q
    have f2 := far_le wv pl b
    rw [q160_10, hv.1, if_neg (by rw [n_le (by omega) (by omega)]; omega)]
    simp only [q160_3, q160_6, q160_4, q160_29, q160_14, q160_18, q160_22, q160_25, q160_23, q160_26, sem128 L I J hv (show pl < 6 by omega) (show q < 6 by omega), sem128 L I J hv (show pl < 6 by omega) (show b < 6 by omega), ob_s, tl_s, nI_1, n_le (show far v pl q < 2 ^ 31 by omega) (show far v pl b < 2 ^ 31 by omega)]
    rw [sitL]
    by_cases c : far v pl q ≤ far v pl b
    · simp only [c, if_true]
      exact sem160l I J wv hv hpl k (q + 1) b (by omega) hb
    · simp only [c, if_false]
      exact sem160l I J wv hv hpl k (q + 1) q (by omega) (by omega)
theorem op_sit (x : Int32) (d e f g : Value) : Op L 71 160 [.ref 1, .int x, d, e] [.ref 54, .int x, f, g] := Op.ro fun a I J hR => by
  obtain ⟨⟨wv, wl, wq, wx, wi, wj⟩, ⟨cv, cl, cq, cx, ci, cj⟩, ⟨mv, ml, mq, mx, mi, mj⟩, ht⟩ := hR
  have h2 := wv.1
  have h6 := wv.2.1
  simp only [q71_0, q71_4, q71_7, q71_5, q71_31, q71_16, q71_21, q71_26, q71_29, q71_27, q160_0, q160_3, q160_6, q160_4, q160_29, q160_14, q160_18, q160_22, q160_25, q160_23, q160_26, sem44 L I J (show vP a.1 < 2 ^ 31 by omega) cv.1, sem113 L I J (show vP a.1 < 2 ^ 31 by omega) mv.1, ob_s, tl_s, bz_0]
  cases hx : inr x (vP a.1)
  · exact ⟨_, rfl, rfl⟩
  obtain ⟨pl, hpl, rfl⟩ := inr_t hx (by omega)
  simp only [Bool.true_eq_false, if_false, show (0 : Int32) = nI 0 from rfl, show (1 : Int32) = nI 1 from rfl, sem71l L I J wv cv hpl (vP a.1 - 1) 1 0 (by omega) (by omega), sem160l L I J wv mv hpl (vP a.1 - 1) 1 0 (by omega) (by omega)]
  exact ⟨_, rfl, rfl⟩
theorem sem75l (I : Nat → Nat → Int32) (J : Nat → Nat → Int64) {v : VT} {g : LT} {q : QT} (wv : wV v) (wl : wL v g) (wq : wQ v q) (hv : cV v I) (hl : cL g I) (hq : cQ (vN v) 21 q I) {pl s : Nat} (hpl : pl < vP v) (hs : s < 8) : ∀ k t n, t + k = 41 → am_sem 75 14 [.ref 1, .int (nI pl), .int (nI s), .int (nI n), .int (nI t)] [] (am_T L, I, J) = some (some (.int (nI (sureL (fun t => stl v g pl s t || !smB v q pl s t) k t n))), (am_T L, I, J))
  | 0, t, n, hk => by
    rw [q75_14, if_pos (by rw [n40 (by omega)]; omega), q75_32]
    rfl
  | k + 1, t, n, hk => by
    rw [q75_14, if_neg (by rw [n40 (by omega)]; omega)]
    simp only [q75_4, q75_8, q75_5, q75_7, q75_10, q75_32, q75_17, q75_22, q75_29, q75_23, q75_30, q75_28, sem92 L I J wv wl hv hl hpl hs (show t < 1000 by omega), sem93 L I J wv wq hv hq hs hpl (show t < 900 by omega), ob_s, tl_s, bz_0, nI_1]
    rw [sureL]
    cases stl v g pl s t
    · cases smB v q pl s t
      · simp only [if_true, Bool.not_false, Bool.or_true]
        exact sem75l I J wv wl wq hv hl hq hpl hs k (t + 1) (n + 1) (by omega)
      · simp only [if_true, Bool.true_eq_false, if_false, Bool.not_true, Bool.or_false, Bool.false_eq_true]
        exact sem75l I J wv wl wq hv hl hq hpl hs k (t + 1) n (by omega)
    · simp only [Bool.true_eq_false, if_false, Bool.true_or, if_true]
      exact sem75l I J wv wl wq hv hl hq hpl hs k (t + 1) (n + 1) (by omega)
theorem sem166i (I : Nat → Nat → Int32) (J : Nat → Nat → Int64) {v : VT} {q : QT} (wv : wV v) (wq : wQ v q) (hv : mV v I) (hq : mQ (vN v) q (I 58)) {pl s t : Nat} (hpl : pl < vP v) (hs : s < 8) (ht : t < 900) (n : Int32) (b : Bool) : ∀ k p (o : Bool), p + k = vN v → am_sem 166 35 [.ref 54, .int (nI pl), .int (nI s), .int n, .int (nI t), .int (bz b), .int (bz o), .int (nI p)] [] (am_T L, I, J) = am_sem 166 63 [.ref 54, .int (nI pl), .int (nI s), .int n, .int (nI t), .int (bz b), .int (bz (o || (b && anyF (fun p => decide (qW q p = pl) && canB v p s t) p k))), .int (nI (vN v))] [] (am_T L, I, J)
  | 0, p, o, hk => by
    have hn := wv.2.2.1
    rw [q166_35, hv.2.1, if_pos (by rw [n_le (by omega) (by omega)]; omega), show p = vN v by omega, anyF, Bool.and_false, Bool.or_false]
  | k + 1, p, o, hk => by
    have hn := wv.2.2.1
    have h6 := wv.2.1
    have hp : p < vN v := by omega
    have hw := wq.2.2.2.2.2.2.2.1 p
    have ih := fun o => sem166i I J wv wq hv hq hpl hs ht n b k (p + 1) o (by omega)
    rw [q166_35, hv.2.1, if_neg (by rw [n_le (by omega) (by omega)]; omega)]
    simp only [q166_3, q166_7, q166_4, q166_6, q166_9, q166_73, q166_16, q166_21, q166_23, q166_29, q166_27, q166_30, q166_39, q166_68, q166_66, q166_57, q166_41, q166_69, q166_60, q166_59, q166_43, q166_51, q166_56, bz_0, c3, nc (show 3 + p < 2 ^ 31 by omega), am_if_t (n_in (show 3 + p < 69 by omega) (by decide)), mq_w hq hp, n_inj (show qW q p < 2 ^ 31 by omega) (show pl < 2 ^ 31 by omega), sem136 L I J wv hv hp hs (show t < 2 ^ 30 by omega), ob_s, tl_s, nI_1]
    rw [anyF]
    cases o
    · cases b
      · simp only [if_true, Bool.false_and, Bool.or_false]
        have := ih false
        simp only [Bool.false_and, Bool.or_false] at this
        exact this
      · by_cases c1 : qW q p = pl
        · cases c2 : canB v p s t
          · have := ih false
            simp only [c1, decide_true, c2, if_true, Bool.true_eq_false, if_false, Bool.and_false, Bool.false_or, Bool.true_and] at this ⊢
            exact this
          · have := ih true
            simp only [c1, decide_true, c2, if_true, Bool.true_eq_false, if_false, Bool.and_true, Bool.false_or, Bool.true_and, Bool.true_or] at this ⊢
            exact this
        · have := ih false
          simp only [c1, decide_false, if_true, Bool.true_eq_false, if_false, Bool.false_and, Bool.false_or, Bool.true_and] at this ⊢
          exact this
    · have := ih true
      simp only [Bool.true_eq_false, if_false, Bool.true_or] at this ⊢
      exact this
end OPS
