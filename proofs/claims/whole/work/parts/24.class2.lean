/-! ===== the class: when, who ===== -/
theorem nm9 {k : Nat} (h : k < 2 ^ 31) : (nI k = -9) = False := eq_false (fun e => by
  have := congrArg Int32.toInt e
  rw [nI_toInt h, show ((-9 : Int32)).toInt = -9 from by decide] at this
  omega)
theorem m99 : ((-9 : Int32) = -9) = True := eq_true rfl
/-- the second in which it would have to be made -/
def tB (v : VT) (q : QT) (p pl s : Nat) : Nat := s + far v (qW q p) pl
/-- the i-th of the log: when p would have to make it; whether he can, and nothing still is against it -/
def tM (v : VT) (g : LT) (q : QT) (p i : Nat) : Nat := tB v q p (lP g i) (lS g i)
def mB (v : VT) (g : LT) (q : QT) (p i : Nat) : Bool := canB v p (lO g i) (tM v g q p i) && !stl v g (qW q p) (lO g i) (tM v g q p i)
section CLS
variable (L : Nat) (I : Nat → Nat → Int32) (J : Nat → Nat → Int64)
theorem sem89 {v : VT} {q : QT} (wv : wV v) (wq : wQ v q) (hv : cV v I) (hq : cQ (vN v) 21 q I) {p s pl t : Nat} (hp : p < vN v) (hs : s < 8) (hpl : pl < vP v) (ht : t < 900) (d : Value) : am_sem 89 0 [.ref 1, .int (nI p), .int (nI s), .int (nI pl), .int (nI t), d] [] (am_T L, I, J) = some (some (.int (if canB v p s (tB v q p pl t) = true then nI (tB v q p pl t) else -9)), (am_T L, I, J)) := by
  have h6 := wv.2.1
  have hn := wv.2.2.1
  have hw := wq.2.2.2.2.2.2.2.1 p
  have hf := far_le wv (qW q p) pl
  simp only [q89_0, q89_7, q89_9, q89_16, q89_25, q89_17, q89_26, q89_22, q89_23, sem4 L I J hq hn hp, sem46 L I J hv (show qW q p < 6 by omega) (show pl < 6 by omega), sem49 L I J wv hv hp hs, ob_s, tl_s, nI_add, sem50 L I J wv hv hp (show t + far v (qW q p) pl < 2 ^ 30 by omega), bz_0]
  unfold canB tB
  generalize (vC v p).testBit s = b1
  generalize decide (vA v p ≤ t + far v (qW q p) pl) = b2
  generalize decide (t + far v (qW q p) pl ≤ vB v p) = b3
  cases b1 <;> cases b2 <;> cases b3 <;> simp
theorem sem90l {v : VT} {q : QT} (wv : wV v) (wq : wQ v q) (hv : cV v I) (hq : cQ (vN v) 21 q I) {s pl t : Nat} (hs : s < 8) (hpl : pl < vP v) (ht : t < 900) : ∀ k p, p + k = vN v → am_sem 90 4 [.ref 1, .int (nI s), .int (nI pl), .int (nI t), .int (nI (mk (fun p => canB v p s (tB v q p pl t)) p)), .int (nI p)] [] (am_T L, I, J) = some (some (.int (nI (mk (fun p => canB v p s (tB v q p pl t)) (vN v)))), (am_T L, I, J))
  | 0, p, hk => by
    have hn := wv.2.2.1
    rw [q90_4, hv.2.1, if_pos (by rw [n_le (by omega) (by omega)]; omega), q90_25]
    rw [show p = vN v by omega]
  | k + 1, p, hk => by
    have hn := wv.2.2.1
    have hp : p < vN v := by omega
    have hf := far_le wv (qW q p) pl
    have ih := sem90l wv wq hv hq hs hpl ht k (p + 1) (by omega)
    rw [q90_4, hv.2.1, if_neg (by rw [n_le (by omega) (by omega)]; omega)]
    simp only [q90_25, q90_9, q90_15, q90_23, q90_17, sem89 L I J wv wq hv hq hp hs hpl ht, ob_s, tl_s, nI_1]
    rw [← mk_step _ _ (by omega)] at ih
    by_cases c : canB v p s (tB v q p pl t) = true
    · rw [if_pos c] at ih
      rw [if_pos c, if_neg (by rw [nm9 (by unfold tB; omega)]; exact id)]
      exact ih
    · rw [if_neg c, Int32.or_zero] at ih
      rw [if_neg c, if_pos rfl]
      exact ih
theorem sem90 {v : VT} {q : QT} (wv : wV v) (wq : wQ v q) (hv : cV v I) (hq : cQ (vN v) 21 q I) {s pl t : Nat} (hs : s < 8) (hpl : pl < vP v) (ht : t < 900) (d e : Value) : am_sem 90 0 [.ref 1, .int (nI s), .int (nI pl), .int (nI t), d, e] [] (am_T L, I, J) = some (some (.int (nI (mk (fun p => canB v p s (tB v q p pl t)) (vN v)))), (am_T L, I, J)) := by
  rw [q90_0]
  exact sem90l L I J wv wq hv hq hs hpl ht (vN v) 0 (by omega)
/-- someone at a place could -/
def smB (v : VT) (q : QT) (pl s t : Nat) : Bool := anyF (fun p => decide (qW q p = pl) && canB v p s t) 0 (vN v)
theorem sem93l {v : VT} {q : QT} (wv : wV v) (wq : wQ v q) (hv : cV v I) (hq : cQ (vN v) 21 q I) {s pl t : Nat} (hs : s < 8) (hpl : pl < vP v) (ht : t < 900) : ∀ k p, p + k = vN v → am_sem 93 2 [.ref 1, .int (nI pl), .int (nI s), .int (nI t), .int (nI p)] [] (am_T L, I, J) = some (some (.int (bz (anyF (fun p => decide (qW q p = pl) && canB v p s t) p k))), (am_T L, I, J))
  | 0, p, hk => by
    have hn := wv.2.2.1
    rw [q93_2, hv.2.1, if_pos (by rw [n_le (by omega) (by omega)]; omega), q93_29]
    rfl
  | k + 1, p, hk => by
    have h6 := wv.2.1
    have hn := wv.2.2.1
    have hp : p < vN v := by omega
    have hw := wq.2.2.2.2.2.2.2.1 p
    have ih := sem93l wv wq hv hq hs hpl ht k (p + 1) (by omega)
    rw [q93_2, hv.2.1, if_neg (by rw [n_le (by omega) (by omega)]; omega)]
    simp only [q93_29, q93_7, q93_11, q93_27, q93_13, q93_18, q93_19, q93_24, q93_25, sem4 L I J hq hn hp, sem49 L I J wv hv hp hs, sem50 L I J wv hv hp (show t < 2 ^ 30 by omega), ob_s, tl_s, nI_1, n_inj (show qW q p < 2 ^ 31 by omega) (show pl < 2 ^ 31 by omega), bz_0, ih]
    rw [anyF]
    generalize anyF (fun p => decide (qW q p = pl) && canB v p s t) (p + 1) k = A
    by_cases c1 : qW q p = pl
    · unfold canB
      generalize (vC v p).testBit s = b1
      generalize decide (vA v p ≤ t) = b2
      generalize decide (t ≤ vB v p) = b3
      cases b1 <;> cases b2 <;> cases b3 <;> simp [c1, bz]
    · simp [c1]
theorem sem93 {v : VT} {q : QT} (wv : wV v) (wq : wQ v q) (hv : cV v I) (hq : cQ (vN v) 21 q I) {s pl t : Nat} (hs : s < 8) (hpl : pl < vP v) (ht : t < 900) (d : Value) : am_sem 93 0 [.ref 1, .int (nI pl), .int (nI s), .int (nI t), d] [] (am_T L, I, J) = some (some (.int (bz (smB v q pl s t))), (am_T L, I, J)) := by
  rw [q93_0]
  exact sem93l L I J wv wq hv hq hs hpl ht (vN v) 0 (by omega)
theorem tM_le {v : VT} {g : LT} {q : QT} (wv : wV v) (wl : wL v g) (p i : Nat) : tM v g q p i ≤ 49 := by
  unfold tM tB
  have := far_le wv (qW q p) (lP g i)
  have := wl.2.1 i
  omega
theorem sem94 {v : VT} {g : LT} {q : QT} (wv : wV v) (wl : wL v g) (wq : wQ v q) (hv : cV v I) (hl : cL g I) (hq : cQ (vN v) 21 q I) {p i : Nat} (hp : p < vN v) (hi : i < lN_ g) (d e : Value) : am_sem 94 0 [.ref 1, .int (nI p), .int (nI i), d, e] [] (am_T L, I, J) = some (some (.int (if mB v g q p i = true then nI (tM v g q p i) else -9)), (am_T L, I, J)) := by
  have h8 := wl.1
  have h6 := wv.2.1
  have hn := wv.2.2.1
  have hw := wq.2.2.2.2.2.2.2.1 p
  have ht := tM_le (q := q) wv wl p i
  have l2 := wl.2.1 i
  have l3 := wl.2.2.1 i
  have l4 := wl.2.2.2.1 i
  have e89 := sem89 L I J wv wq hv hq hp l4 l3 (show lS g i < 900 by omega) .null
  rw [show tB v q p (lP g i) (lS g i) = tM v g q p i from rfl] at e89
  simp only [q94_0, q94_5, q94_14, q94_19, q94_20, q94_33, q94_24, q94_36, q94_29, q94_32, q94_35, at_n L I J (a := 19) (n := 8) rfl (by decide) (show i < 8 by omega), at_n L I J (a := 17) (n := 8) rfl (by decide) (show i < 8 by omega), at_n L I J (a := 18) (n := 8) rfl (by decide) (show i < 8 by omega), ob_s, tl_s, hl.2.1 i hi, hl.2.2.1 i hi, hl.2.2.2.1 i hi, e89, sem4 L I J hq hn hp]
  unfold mB
  by_cases c : canB v p (lO g i) (tM v g q p i) = true
  · simp only [q94_20, q94_33, q94_24, q94_36, q94_29, q94_32, q94_35, if_pos c, nm9 (show tM v g q p i < 2 ^ 31 by omega), if_false, sem92 L I J wv wl hv hl hw l4 (show tM v g q p i < 1000 by omega), ob_s, tl_s, bz_0]
    rw [c]
    cases stl v g (qW q p) (lO g i) (tM v g q p i) <;> simp
  · simp [c]
theorem sem95l {v : VT} {g : LT} {q : QT} (wv : wV v) (wl : wL v g) (wq : wQ v q) (hv : cV v I) (hl : cL g I) (hq : cQ (vN v) 21 q I) {i e : Nat} (hi : i < lN_ g) (he : e < 1000) : ∀ k p (d : Value), p + k = vN v → am_sem 95 4 [.ref 1, .int (nI i), .int (nI e), .int (nI (mk (fun p => mB v g q p i && decide (e ≤ tM v g q p i)) p)), .int (nI p), d] [] (am_T L, I, J) = some (some (.int (nI (mk (fun p => mB v g q p i && decide (e ≤ tM v g q p i)) (vN v)))), (am_T L, I, J))
  | 0, p, d, hk => by
    have hn := wv.2.2.1
    rw [q95_4, hv.2.1, if_pos (by rw [n_le (by omega) (by omega)]; omega), q95_28]
    rw [show p = vN v by omega]
  | k + 1, p, d, hk => by
    have hn := wv.2.2.1
    have hp : p < vN v := by omega
    have ht := tM_le (q := q) wv wl p i
    have ih := fun d => sem95l wv wl wq hv hl hq hi he k (p + 1) d (by omega)
    rw [q95_4, hv.2.1, if_neg (by rw [n_le (by omega) (by omega)]; omega)]
    simp only [q95_28, q95_9, q95_13, q95_26, q95_17, q95_20, sem94 L I J wv wl wq hv hl hq hp hi, ob_s, tl_s, nI_1]
    rw [← mk_step _ _ (by omega)] at ih
    by_cases c : mB v g q p i = true
    · simp only [if_pos c, nm9 (show tM v g q p i < 2 ^ 31 by omega), if_false, n_lt (show tM v g q p i < 2 ^ 31 by omega) (show e < 2 ^ 31 by omega)]
      by_cases c2 : e ≤ tM v g q p i
      · rw [if_pos (by simp [c, c2])] at ih
        rw [if_neg (by omega)]
        exact ih _
      · rw [if_neg (by simp [c2]), Int32.or_zero] at ih
        rw [if_pos (by omega)]
        exact ih _
    · rw [if_neg (by simp [c]), Int32.or_zero] at ih
      simp only [if_neg c, if_true]
      exact ih _
theorem sem95 {v : VT} {g : LT} {q : QT} (wv : wV v) (wl : wL v g) (wq : wQ v q) (hv : cV v I) (hl : cL g I) (hq : cQ (vN v) 21 q I) {i e : Nat} (hi : i < lN_ g) (he : e < 1000) (d f h : Value) : am_sem 95 0 [.ref 1, .int (nI i), .int (nI e), d, f, h] [] (am_T L, I, J) = some (some (.int (nI (mk (fun p => mB v g q p i && decide (e ≤ tM v g q p i)) (vN v)))), (am_T L, I, J)) := by
  rw [q95_0]
  exact sem95l L I J wv wl wq hv hl hq hi he (vN v) 0 _ (by omega)
end CLS
