/-! ===== what the class' private questions answer ===== -/
theorem am_if1 {α : Type} (v : Option α) : am_if ((1 : Int32) = 0 ∨ (1 : Int32) = 1) v = v := am_if_t (Or.inr rfl) v
theorem am_if0 {α : Type} (v : Option α) : am_if ((0 : Int32) = 0 ∨ (0 : Int32) = 1) v = v := am_if_t (Or.inl rfl) v
theorem i10 : ((1 : Int32) = 0) = False := eq_false (by decide)
theorem i01 : ((0 : Int32) = 1) = False := eq_false (by decide)
theorem n_eqc {a c : Nat} {x : Int32} (hx : x = nI c) (ha : a < 2 ^ 31) (hc : c < 2 ^ 31) : (nI a = x) = (a = c) := by rw [hx, n_inj ha hc]
/-- far of a valley -/
def far (v : VT) (a b : Nat) : Nat := vF v (6 * a + b)
/-- a deed: can, and is there -/
def canB (v : VT) (p s t : Nat) : Bool := (vC v p).testBit s && decide (vA v p ≤ t) && decide (t ≤ vB v p)
/-- the i-th of the log tells of a sound made at a place in a second -/
def fB (v : VT) (g : LT) (pl s t i : Nat) : Bool := decide (lO g i = s) && decide (lS g i + far v pl (lP g i) = t)
/-- something still tells of it -/
def stl (v : VT) (g : LT) (pl s t : Nat) : Bool := anyF (fun i => !decide (lH g i = 1) && fB v g pl s t i) 0 (lN_ g)
section CLS
variable (L : Nat) (I : Nat → Nat → Int32) (J : Nat → Nat → Int64)
theorem at_n {a n k : Nat} (h : (am_T L)[a]? = some (0, n, [])) (hn : n < 2 ^ 31) (hk : k < n) : am_sem 83 0 [.ref a, .int (nI k)] [] (am_T L, I, J) = some (some (.int (I a k)), (am_T L, I, J)) := by
  rw [sem83 L I J h hn, inr_n (by omega), if_pos (by simp [hk]), nc (by omega)]
theorem sem46 {v : VT} (h : cV v I) {a b : Nat} (ha : a < 6) (hb : b < 6) (d : Value) : am_sem 46 0 [.ref 10, .int (nI a), .int (nI b), d] [] (am_T L, I, J) = some (some (.int (nI (far v a b))), (am_T L, I, J)) := by
  have e : nI a * 6 + nI b = nI (6 * a + b) := by rw [show (6 : Int32) = nI 6 from rfl, pk_mul, nI_add, Nat.mul_comm]
  have e6 : ∀ k, k < 6 → ((6 : Int32) ≤ nI k) = False := fun k hk => eq_false (by rw [show (6 : Int32) = nI 6 from rfl, n_le (by decide) (by omega)]; omega)
  simp only [q46_0, q46_12, q46_2, q46_13, q46_5, q46_25, q46_16, q46_7, q46_26, q46_10, n_neg (show a < 2 ^ 31 by omega), n_neg (show b < 2 ^ 31 by omega), e6 a ha, e6 b hb, if_false, i10, e, nc (show 6 * a + b < 2 ^ 31 by omega), am_if_t (n_in (show 6 * a + b < 36 by omega) (by decide)), h.2.2.1 _ (show 6 * a + b < 36 by omega), far]
theorem sem4 {n : Nat} {q : QT} (h : cQ n 21 q I) (hn : n ≤ 6) {p : Nat} (hp : p < n) : am_sem 4 0 [.ref 21, .int (nI p)] [] (am_T L, I, J) = some (some (.int (nI (qW q p))), (am_T L, I, J)) := by
  simp only [q4_0, q4_4, at_n L I J (a := 26) (n := 6) rfl (by decide) (show p < 6 by omega), ob_s, tl_s, h.2.2.2.2.2.2.2.1 p hp]
theorem sem26 {v : VT} {g : LT} (w : wL v g) (h : cL g I) {i : Nat} (hi : i < lN_ g) : am_sem 26 0 [.ref 16, .int (nI i)] [] (am_T L, I, J) = some (some (.int (bz (decide (lH g i = 1)))), (am_T L, I, J)) := by
  have w1 := w.1
  have w2 := w.2.2.2.2 i
  simp only [q26_0, q26_4, q26_8, q26_6, q26_9, at_n L I J (a := 20) (n := 8) rfl (by decide) (show i < 8 by omega), ob_s, tl_s, h.2.2.2.2 i hi, n_eqc (x := 1) (c := 1) rfl (show lH g i < 2 ^ 31 by omega) (by decide)]
  by_cases c : lH g i = 1
  · simp [c, bz, am_if_tr]
  · simp [c, bz, am_if_tr]
theorem sem49 {v : VT} (w : wV v) (h : cV v I) {p s : Nat} (hp : p < vN v) (hs : s < 8) : am_sem 49 0 [.ref 10, .int (nI p), .int (nI s)] [] (am_T L, I, J) = some (some (.int (bz ((vC v p).testBit s))), (am_T L, I, J)) := by
  obtain ⟨w1, w2, w3, w4, w5, w6, w7⟩ := w
  have w5 := w5 p
  simp only [q49_0, q49_3, q49_15, q49_4, q49_16, q49_8, q49_13, sem45 L I J (show vN v < 2 ^ 31 by omega) h.2.1, inr_n (show p < 2 ^ 31 by omega), decide_eq_true hp, bz_t, i10, if_false, at_n L I J (a := 13) (n := 6) rfl (by decide) (show p < 6 by omega), ob_s, tl_s, h.2.2.2.1 p hp, bs_bit (show vC v p < 2 ^ 31 by omega) (show s < 32 by omega), bz_0, am_if1, am_if0]
  cases (vC v p).testBit s <;> simp [bz, am_if_tr]
theorem sem50 {v : VT} (w : wV v) (h : cV v I) {p t : Nat} (hp : p < vN v) (ht : t < 2 ^ 30) : am_sem 50 0 [.ref 10, .int (nI p), .int (nI t)] [] (am_T L, I, J) = some (some (.int (bz (decide (vA v p ≤ t) && decide (t ≤ vB v p)))), (am_T L, I, J)) := by
  obtain ⟨w1, w2, w3, w4, w5, w6, w7⟩ := w
  have w6 := w6 p
  have w7 := w7 p
  simp only [q50_0, q50_3, q50_18, q50_4, q50_19, q50_9, q50_10, q50_15, q50_16, sem45 L I J (show vN v < 2 ^ 31 by omega) h.2.1, inr_n (show p < 2 ^ 31 by omega), decide_eq_true hp, bz_t, i10, if_false, at_n L I J (a := 14) (n := 6) rfl (by decide) (show p < 6 by omega), at_n L I J (a := 15) (n := 6) rfl (by decide) (show p < 6 by omega), ob_s, tl_s, h.2.2.2.2.1 p hp, h.2.2.2.2.2 p hp, n_lt (show t < 2 ^ 31 by omega) (show vA v p < 2 ^ 31 by omega), n_lt (show vB v p < 2 ^ 31 by omega) (show t < 2 ^ 31 by omega), am_if1, am_if0]
  by_cases c1 : t < vA v p
  · simp [c1, bz, am_if_tr, show ¬ vA v p ≤ t by omega]
  · by_cases c2 : vB v p < t
    · simp [c1, c2, bz, am_if_tr, show ¬ t ≤ vB v p by omega]
    · simp [c1, c2, bz, am_if_tr, show vA v p ≤ t by omega, show t ≤ vB v p by omega]
theorem far_le {v : VT} (w : wV v) (a b : Nat) : far v a b ≤ 9 := w.2.2.2.1 _
theorem sem91 {v : VT} {g : LT} (wv : wV v) (w : wL v g) (hv : cV v I) (h : cL g I) {pl s t i : Nat} (hpl : pl < vP v) (hs : s < 8) (ht : t < 1000) (hi : i < lN_ g) : am_sem 91 0 [.ref 1, .int (nI pl), .int (nI s), .int (nI t), .int (nI i)] [] (am_T L, I, J) = some (some (.int (bz (fB v g pl s t i))), (am_T L, I, J)) := by
  have h6 := wv.2.1
  have hf := far_le wv pl (lP g i)
  obtain ⟨w1, w2, w3, w4, w5⟩ := w
  have w2 := w2 i
  have w3 := w3 i
  have w4 := w4 i
  simp only [q91_0, q91_5, q91_26, q91_7, q91_27, q91_12, q91_21, q91_22, q91_24, at_n L I J (a := 19) (n := 8) rfl (by decide) (show i < 8 by omega), at_n L I J (a := 17) (n := 8) rfl (by decide) (show i < 8 by omega), at_n L I J (a := 18) (n := 8) rfl (by decide) (show i < 8 by omega), ob_s, tl_s, h.2.1 i hi, h.2.2.1 i hi, h.2.2.2.1 i hi, sem46 L I J hv (show pl < 6 by omega) (show lP g i < 6 by omega), n_inj (show lO g i < 2 ^ 31 by omega) (show s < 2 ^ 31 by omega), n_eq_sub (show t < 2 ^ 30 by omega) (show far v pl (lP g i) < 2 ^ 30 by omega) (show lS g i < 2 ^ 30 by omega), am_if1, am_if0]
  unfold fB
  by_cases c1 : lO g i = s
  · by_cases c2 : lS g i + far v pl (lP g i) = t
    · simp [c1, c2, bz, am_if_tr]
    · simp [c1, c2, bz, am_if_tr]
  · simp [c1, bz, am_if_tr]
theorem sem92l {v : VT} {g : LT} (wv : wV v) (w : wL v g) (hv : cV v I) (h : cL g I) {pl s t : Nat} (hpl : pl < vP v) (hs : s < 8) (ht : t < 1000) : ∀ k i, i + k = lN_ g → am_sem 92 2 [.ref 1, .int (nI pl), .int (nI s), .int (nI t), .int (nI i)] [] (am_T L, I, J) = some (some (.int (bz (anyF (fun i => !decide (lH g i = 1) && fB v g pl s t i) i k))), (am_T L, I, J))
  | 0, i, hk => by
    have w1 := w.1
    rw [q92_2, h.1, if_pos (by rw [n_le (by omega) (by omega)]; omega), q92_23]
    rfl
  | k + 1, i, hk => by
    have w1 := w.1
    have hi : i < lN_ g := by omega
    rw [q92_2, h.1, if_neg (by rw [n_le (by omega) (by omega)]; omega)]
    simp only [q92_23, q92_7, q92_11, q92_21, q92_12, q92_18, q92_19, sem26 L I J w h hi, sem91 L I J wv w hv h hpl hs ht hi, ob_s, tl_s, bz_0, nI_1]
    rw [anyF]
    cases c1 : decide (lH g i = 1)
    · cases c2 : fB v g pl s t i
      · simp only [if_true, Bool.not_false, Bool.and_false, Bool.false_or]
        exact sem92l wv w hv h hpl hs ht k (i + 1) (by omega)
      · simp [bz, am_if_tr]
    · simp only [Bool.true_eq_false, if_false, Bool.not_true, Bool.false_and, Bool.false_or]
      exact sem92l wv w hv h hpl hs ht k (i + 1) (by omega)
theorem sem92 {v : VT} {g : LT} (wv : wV v) (w : wL v g) (hv : cV v I) (h : cL g I) {pl s t : Nat} (hpl : pl < vP v) (hs : s < 8) (ht : t < 1000) (d : Value) : am_sem 92 0 [.ref 1, .int (nI pl), .int (nI s), .int (nI t), d] [] (am_T L, I, J) = some (some (.int (bz (stl v g pl s t))), (am_T L, I, J)) := by
  rw [q92_0]
  exact sem92l L I J wv w hv h hpl hs ht (lN_ g) 0 (by omega)
end CLS
