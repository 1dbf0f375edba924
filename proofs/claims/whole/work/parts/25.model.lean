/-! ===== what the reference's private questions answer ===== -/
theorem m4 (i : Nat) : (4 : Int32) * nI i = nI (4 * i) := by rw [show (4 : Int32) = nI 4 from rfl, pk_mul]
theorem m6 (i : Nat) : (6 : Int32) * nI i = nI (6 * i) := by rw [show (6 : Int32) = nI 6 from rfl, pk_mul]
theorem p2 (i : Nat) : nI i + 2 = nI (i + 2) := by rw [show (2 : Int32) = nI 2 from rfl, nI_add]
theorem p3 (i : Nat) : nI i + 3 = nI (i + 3) := by rw [show (3 : Int32) = nI 3 from rfl, nI_add]
theorem c3 (i : Nat) : (3 : Int32) + nI i = nI (3 + i) := by rw [show (3 : Int32) = nI 3 from rfl, nI_add]
theorem bs_not {a b : Nat} (ha : a < 2 ^ 31) (hb : b < 2 ^ 31) : (nI a &&& (nI b ^^^ (-1)) = 0) = (∀ j, a.testBit j = true → b.testBit j = true) := by
  apply propext
  have hbit : ∀ j, j < 32 → ((nI a &&& (nI b ^^^ (-1))).toBitVec).getLsbD j = (a.testBit j && !b.testBit j) := by
    intro j hj
    rw [Int32.toBitVec_and, Int32.toBitVec_xor, BitVec.getLsbD_and, BitVec.getLsbD_xor, show ((-1 : Int32)).toBitVec = BitVec.allOnes 32 from by decide, BitVec.getLsbD_allOnes, ← BitVec.testBit_toNat, ← BitVec.testBit_toNat, pk_tn (by omega), pk_tn (by omega), decide_eq_true hj, Bool.xor_true]
  constructor
  · intro h j hj
    have hj32 : j < 32 := by
      rcases Nat.lt_or_ge j 32 with q | q
      · exact q
      · have : a < 2 ^ j := Nat.lt_of_lt_of_le ha (Nat.pow_le_pow_right (by decide) (by omega))
        rw [Nat.testBit_lt_two_pow this] at hj
        cases hj
    have := hbit j hj32
    rw [h] at this
    rw [hj] at this
    cases hb2 : b.testBit j with
    | true => rfl
    | false => rw [hb2] at this; simp at this
  · intro h
    apply Int32.toBitVec_inj.mp
    apply BitVec.eq_of_getLsbD_eq
    intro j hj
    rw [hbit j hj]
    cases ha2 : a.testBit j with
    | false => simp
    | true => rw [h j ha2]; simp
/-- what a deed makes of the log, as bits -/
def mS (v : VT) (g : LT) (q : QT) (p s t : Nat) : Nat := if (canB v p s t && !stl v g (qW q p) s t) = true then mk (fB v g (qW q p) s t) (lN_ g) else 0
theorem stl_iff (v : VT) (g : LT) (pl s t : Nat) : stl v g pl s t = true ↔ ∃ i, i < lN_ g ∧ lH g i ≠ 1 ∧ fB v g pl s t i = true := by
  unfold stl
  rw [anyF_iff]
  constructor
  · rintro ⟨j, -, h2, h3⟩
    simp only [Bool.and_eq_true, Bool.not_eq_true', decide_eq_false_iff_not] at h3
    exact ⟨j, by omega, h3.1, h3.2⟩
  · rintro ⟨j, h1, h2, h3⟩
    refine ⟨j, by omega, by omega, ?_⟩
    simp only [Bool.and_eq_true, Bool.not_eq_true', decide_eq_false_iff_not]
    exact ⟨h2, h3⟩
theorem mS_lt {v : VT} {g : LT} (q : QT) (wl : wL v g) (p s t : Nat) : mS v g q p s t < 256 := by
  unfold mS
  split
  · exact Nat.lt_of_lt_of_le (mk_lt _ _) (Nat.pow_le_pow_right (by decide) wl.1)
  · decide
theorem mS_bit (v : VT) (g : LT) (q : QT) (p s t i : Nat) : (mS v g q p s t).testBit i = (decide (i < lN_ g) && canB v p s t && !stl v g (qW q p) s t && fB v g (qW q p) s t i) := by
  unfold mS
  cases canB v p s t <;> cases stl v g (qW q p) s t <;> simp [mk_bit]
section MDL
variable (L : Nat) (I : Nat → Nat → Int32) (J : Nat → Nat → Int64)
theorem sem112 {m k : Nat} (hm : m < 2 ^ 31) (hk : k < 32) : am_sem 112 0 [.int (nI m), .int (nI k)] [] (am_T L, I, J) = some (some (.int (bz (m.testBit k))), (am_T L, I, J)) := by
  simp only [q112_0, q112_9, q112_7, q112_10, bs_bit hm hk, bz_1, am_if1, am_if0]
  cases m.testBit k <;> simp [bz, am_if_tr]
theorem sem128 {v : VT} (h : mV v I) {a b : Nat} (ha : a < 6) (hb : b < 6) : am_sem 128 0 [.ref 54, .int (nI a), .int (nI b)] [] (am_T L, I, J) = some (some (.int (nI (far v a b))), (am_T L, I, J)) := by
  simp only [q128_0, m6, nI_add, nc (show 6 * a + b < 2 ^ 31 by omega), am_if_t (n_in (show 6 * a + b < 36 by omega) (by decide)), h.2.2.1 _ (show 6 * a + b < 36 by omega), far]
theorem sem133 {v : VT} {g : LT} (w : wL v g) (h : mL g I) {i : Nat} (hi : i < lN_ g) : am_sem 133 0 [.ref 54, .int (nI i)] [] (am_T L, I, J) = some (some (.int (bz (decide (lH g i = 1)))), (am_T L, I, J)) := by
  have w1 := w.1
  have w2 := w.2.2.2.2 i
  simp only [q133_0, q133_12, q133_10, q133_13, m4, p3, nc (show 4 * i + 3 < 2 ^ 31 by omega), am_if_t (n_in (show 4 * i + 3 < 32 by omega) (by decide)), h.2.2.2.2 i hi, n_eqc (x := 1) (c := 1) rfl (show lH g i < 2 ^ 31 by omega) (by decide)]
  by_cases c : lH g i = 1
  · simp [c, bz, am_if_tr]
  · simp [c, bz, am_if_tr]
theorem sem134l {v : VT} {g : LT} (wv : wV v) (w : wL v g) (hv : mV v I) (h : mL g I) {pl s t : Nat} (hpl : pl < vP v) (hs : s < 8) (ht : t < 1000) : ∀ k i (d : Value), i + k = lN_ g → am_sem 134 4 [.ref 54, .int (nI pl), .int (nI s), .int (nI t), .int (nI (mk (fB v g pl s t) i)), .int (nI i), d] [] (am_T L, I, J) = some (some (.int (nI (mk (fB v g pl s t) (lN_ g)))), (am_T L, I, J))
  | 0, i, d, hk => by
    have w1 := w.1
    rw [q134_4, h.1, if_pos (by rw [n_le (by omega) (by omega)]; omega), q134_54, show i = lN_ g by omega]
  | k + 1, i, d, hk => by
    have w1 := w.1
    have hi : i < lN_ g := by omega
    have h6 := wv.2.1
    have hf := far_le wv pl (lP g i)
    have w2 := w.2.1 i
    have w3 := w.2.2.1 i
    have w4 := w.2.2.2.1 i
    have ih := fun d => sem134l wv w hv h hpl hs ht k (i + 1) d (by omega)
    rw [← mk_step _ _ (by omega)] at ih
    rw [q134_4, h.1, if_neg (by rw [n_le (by omega) (by omega)]; omega)]
    simp only [q134_54, q134_8, q134_40, q134_18, q134_41, q134_30, q134_49, q134_45, q134_38, q134_50, m4, p2, nI_1, nc (show 4 * i < 2 ^ 31 by omega), nc (show 4 * i + 1 < 2 ^ 31 by omega), nc (show 4 * i + 2 < 2 ^ 31 by omega), am_if_t (n_in (show 4 * i < 32 by omega) (by decide)), am_if_t (n_in (show 4 * i + 1 < 32 by omega) (by decide)), am_if_t (n_in (show 4 * i + 2 < 32 by omega) (by decide)), h.2.1 i hi, h.2.2.1 i hi, h.2.2.2.1 i hi, sem128 L I J hv (show pl < 6 by omega) (show lP g i < 6 by omega), ob_s, tl_s, n_inj (show lO g i < 2 ^ 31 by omega) (show s < 2 ^ 31 by omega), n_sub_eq (show t < 2 ^ 30 by omega) (show far v pl (lP g i) < 2 ^ 30 by omega) (show lS g i < 2 ^ 30 by omega), i10, if_false]
    unfold fB at ih ⊢
    by_cases c1 : lO g i = s
    · by_cases c2 : lS g i + far v pl (lP g i) = t
      · rw [if_pos (by simp [c1, c2])] at ih
        simp only [c1, c2, if_true]
        exact ih _
      · rw [if_neg (by simp [c2])] at ih
        simp only [c1, c2, if_true, if_false]
        exact ih _
    · rw [if_neg (by simp [c1])] at ih
      simp only [c1, if_true, if_false]
      exact ih _
theorem sem134 {v : VT} {g : LT} (wv : wV v) (w : wL v g) (hv : mV v I) (h : mL g I) {pl s t : Nat} (hpl : pl < vP v) (hs : s < 8) (ht : t < 1000) (d e f : Value) : am_sem 134 0 [.ref 54, .int (nI pl), .int (nI s), .int (nI t), d, e, f] [] (am_T L, I, J) = some (some (.int (nI (mk (fB v g pl s t) (lN_ g)))), (am_T L, I, J)) := by
  rw [q134_0]
  exact sem134l L I J wv w hv h hpl hs ht (lN_ g) 0 _ (by omega)
theorem sem135l {v : VT} {g : LT} (w : wL v g) (h : mL g I) : ∀ k i, i + k = lN_ g → am_sem 135 4 [.ref 54, .int (nI (mk (fun i => decide (lH g i = 1)) i)), .int (nI i)] [] (am_T L, I, J) = some (some (.int (nI (mk (fun i => decide (lH g i = 1)) (lN_ g)))), (am_T L, I, J))
  | 0, i, hk => by
    have w1 := w.1
    rw [q135_4, h.1, if_pos (by rw [n_le (by omega) (by omega)]; omega), q135_22, show i = lN_ g by omega]
  | k + 1, i, hk => by
    have w1 := w.1
    have hi : i < lN_ g := by omega
    have ih := sem135l w h k (i + 1) (by omega)
    rw [← mk_step _ _ (by omega)] at ih
    rw [q135_4, h.1, if_neg (by rw [n_le (by omega) (by omega)]; omega)]
    simp only [q135_22, q135_8, q135_12, q135_17, q135_13, q135_18, sem133 L I J w h hi, ob_s, tl_s, nI_1, bz_0]
    by_cases c1 : lH g i = 1
    · rw [if_pos (by simp [c1])] at ih
      simp only [c1, decide_true, Bool.true_eq_false, if_false]
      exact ih
    · rw [if_neg (by simp [c1])] at ih
      simp only [c1, decide_false, if_true]
      exact ih
theorem sem135 {v : VT} {g : LT} (w : wL v g) (h : mL g I) (d e : Value) : am_sem 135 0 [.ref 54, d, e] [] (am_T L, I, J) = some (some (.int (nI (mk (fun i => decide (lH g i = 1)) (lN_ g)))), (am_T L, I, J)) := by
  rw [q135_0]
  exact sem135l L I J w h (lN_ g) 0 (by omega)
theorem sem136 {v : VT} (w : wV v) (h : mV v I) {p s t : Nat} (hp : p < vN v) (hs : s < 8) (ht : t < 2 ^ 30) : am_sem 136 0 [.ref 54, .int (nI p), .int (nI s), .int (nI t)] [] (am_T L, I, J) = some (some (.int (bz (canB v p s t))), (am_T L, I, J)) := by
  obtain ⟨w1, w2, w3, w4, w5, w6, w7⟩ := w
  have w5 := w5 p
  have w6 := w6 p
  have w7 := w7 p
  simp only [q136_0, q136_10, q136_32, q136_11, q136_33, q136_29, q136_30, m4, p2, p3, nI_1, nc (show 4 * p + 1 < 2 ^ 31 by omega), nc (show 4 * p + 2 < 2 ^ 31 by omega), nc (show 4 * p + 3 < 2 ^ 31 by omega), h.2.2.2.1 p hp, h.2.2.2.2.1 p hp, h.2.2.2.2.2 p hp, am_if_t (n_in (show 4 * p + 1 < 24 by omega) (by decide)), am_if_t (And.intro (n_in (show 4 * p + 2 < 24 by omega) (by decide)) (n_in (show 4 * p + 3 < 24 by omega) (by decide))), sem112 L I J (show vC v p < 2 ^ 31 by omega) (show s < 32 by omega), sem111, ob_s, tl_s, bz_0, n_le (show vA v p < 2 ^ 31 by omega) (show t < 2 ^ 31 by omega), n_le (show t < 2 ^ 31 by omega) (show vB v p < 2 ^ 31 by omega), am_if1, am_if0]
  unfold canB
  cases (vC v p).testBit s
  · simp [bz, am_if_tr]
  · by_cases c1 : vA v p ≤ t
    · by_cases c2 : t ≤ vB v p
      · simp [c1, c2, bz, am_if_tr]
      · simp [c1, c2, bz, am_if_tr]
    · simp [c1, bz, am_if_tr]
theorem sem137 {v : VT} {g : LT} {q : QT} (wv : wV v) (wl : wL v g) (wq : wQ v q) (hv : mV v I) (hl : mL g I) (hq : mQ (vN v) q (I 58)) {p s t : Nat} (hp : p < vN v) (hs : s < 8) (ht : t < 1000) (d : Value) : am_sem 137 0 [.ref 54, .int (nI p), .int (nI s), .int (nI t), d] [] (am_T L, I, J) = some (some (.int (nI (mS v g q p s t))), (am_T L, I, J)) := by
  have h6 := wv.2.1
  have h8 := wl.1
  have hn := wv.2.2.1
  have hw := wq.2.2.2.2.2.2.2.1 p
  simp only [q137_0, q137_5, q137_8, q137_6, q137_18, q137_22, q137_28, q137_26, q137_29, sem136 L I J wv hv hp hs (show t < 2 ^ 30 by omega), ob_s, tl_s, bz_0, c3, nc (show 3 + p < 2 ^ 31 by omega), am_if_t (n_in (show 3 + p < 69 by omega) (by decide)), hq.2.2.2.2.2.2.2.1 p hp, sem134 L I J wv wl hv hl hw hs ht, sem135 L I J wl hl]
  have hb := bs_not (mk_lt31 (fB v g (qW q p) s t) (show lN_ g ≤ 31 by omega)) (mk_lt31 (fun i => decide (lH g i = 1)) (show lN_ g ≤ 31 by omega))
  have hst : (∀ j, (mk (fB v g (qW q p) s t) (lN_ g)).testBit j = true → (mk (fun i => decide (lH g i = 1)) (lN_ g)).testBit j = true) ↔ stl v g (qW q p) s t = false := by
    rw [← Bool.not_eq_true, stl_iff]
    constructor
    · rintro h ⟨i, h1, h2, h3⟩
      have := h i (by rw [mk_bit, h3]; simp [h1])
      rw [mk_bit] at this
      simp [h2] at this
    · intro h j hj
      rw [mk_bit] at hj ⊢
      simp only [Bool.and_eq_true, decide_eq_true_eq] at hj ⊢
      exact ⟨hj.1, Decidable.byContradiction fun z => h ⟨j, hj.1, z, hj.2⟩⟩
  unfold mS
  cases canB v p s t
  · simp only [if_true, Bool.false_and]
    rfl
  · simp only [Bool.true_eq_false, if_false, Bool.true_and]
    by_cases c : stl v g (qW q p) s t = true
    · rw [if_neg (by rw [hb, hst]; simp [c]), if_neg (by simp [c])]
      rfl
    · rw [if_pos (by rw [hb, hst]; simpa using c), if_pos (by simp [c])]
theorem sem138l {v : VT} {g : LT} {q : QT} (wv : wV v) (wl : wL v g) (wq : wQ v q) (hv : mV v I) (hl : mL g I) (hq : mQ (vN v) q (I 58)) {i : Nat} (hi : i < lN_ g) (hh : lH g i = 1) : ∀ k p (d : Value), p + k = vN v → am_sem 138 4 [.ref 54, .int (nI i), .int (nI (mk (fun p => mB v g q p i) p)), .int (nI p), d] [] (am_T L, I, J) = some (some (.int (nI (mk (fun p => mB v g q p i) (vN v)))), (am_T L, I, J))
  | 0, p, d, hk => by
    have hn := wv.2.2.1
    rw [q138_4, hv.2.1, if_pos (by rw [n_le (by omega) (by omega)]; omega), q138_61, show p = vN v by omega]
  | k + 1, p, d, hk => by
    have hn := wv.2.2.1
    have h6 := wv.2.1
    have h8 := wl.1
    have hp : p < vN v := by omega
    have hw := wq.2.2.2.2.2.2.2.1 p
    have l2 := wl.2.1 i
    have l3 := wl.2.2.1 i
    have l4 := wl.2.2.2.1 i
    have htm := tM_le (q := q) wv wl p i
    have hms := mS_lt (v := v) (g := g) q wl p (lO g i) (tM v g q p i)
    have ih := fun d => sem138l wv wl wq hv hl hq hi hh k (p + 1) d (by omega)
    rw [← mk_step _ _ (by omega)] at ih
    rw [q138_4, hv.2.1, if_neg (by rw [n_le (by omega) (by omega)]; omega)]
    have hm137 := sem137 L I J wv wl wq hv hl hq hp l4 (show tM v g q p i < 1000 by omega) .null
    rw [show tM v g q p i = lS g i + far v (qW q p) (lP g i) from rfl] at hm137
    simp only [q138_61, q138_8, q138_11, q138_12, q138_34, q138_49, q138_51, q138_56, q138_52, q138_57, sem133 L I J wl hl hi, hh, decide_true, bz_t, i10, if_false, m4, p2, c3, nI_1, nc (show 4 * i < 2 ^ 31 by omega), nc (show 4 * i + 1 < 2 ^ 31 by omega), nc (show 4 * i + 2 < 2 ^ 31 by omega), nc (show 3 + p < 2 ^ 31 by omega), am_if_t (And.intro (n_in (show 4 * i < 32 by omega) (by decide)) (And.intro (n_in (show 3 + p < 69 by omega) (by decide)) (n_in (show 4 * i + 1 < 32 by omega) (by decide)))), am_if_t (n_in (show 4 * i + 2 < 32 by omega) (by decide)), hl.2.1 i hi, hl.2.2.1 i hi, hl.2.2.2.1 i hi, hq.2.2.2.2.2.2.2.1 p hp, sem128 L I J hv (show qW q p < 6 by omega) (show lP g i < 6 by omega), ob_s, tl_s, nI_add, hm137]
    rw [← show tM v g q p i = lS g i + far v (qW q p) (lP g i) from rfl]
    simp only [sem112 L I J (show mS v g q p (lO g i) (tM v g q p i) < 2 ^ 31 by omega) (show i < 32 by omega), mS_bit, ob_s, tl_s, q138_61, q138_49, q138_51, q138_56, q138_52, q138_57, bz_0, nI_1]
    have hfb : fB v g (qW q p) (lO g i) (tM v g q p i) i = true := by unfold fB tM tB; simp
    rw [hfb, decide_eq_true hi]
    rw [show mB v g q p i = (canB v p (lO g i) (tM v g q p i) && !stl v g (qW q p) (lO g i) (tM v g q p i)) from rfl] at ih
    cases c1 : canB v p (lO g i) (tM v g q p i)
    · simp only [c1, Bool.false_and, Bool.false_eq_true, if_false] at ih
      simp only [Bool.true_and, Bool.false_and, if_true]
      exact ih _
    · cases c2 : stl v g (qW q p) (lO g i) (tM v g q p i)
      · simp only [c1, c2, Bool.true_and, Bool.not_false, if_true] at ih
        simp only [Bool.true_and, Bool.not_false, Bool.and_true, Bool.true_eq_false, if_false]
        exact ih _
      · simp only [c1, c2, Bool.true_and, Bool.not_true, Bool.false_eq_true, if_false] at ih
        simp only [Bool.true_and, Bool.not_true, Bool.and_true, if_true]
        exact ih _
theorem sem138 {v : VT} {g : LT} {q : QT} (wv : wV v) (wl : wL v g) (wq : wQ v q) (hv : mV v I) (hl : mL g I) (hq : mQ (vN v) q (I 58)) {i : Nat} (hi : i < lN_ g) (d e f : Value) : am_sem 138 0 [.ref 54, .int (nI i), d, e, f] [] (am_T L, I, J) = some (some (.int (if lH g i = 1 then nI (mk (fun p => mB v g q p i) (vN v)) else 0)), (am_T L, I, J)) := by
  have hn := wv.2.2.1
  rw [q138_0]
  by_cases c : lH g i = 1
  · rw [if_pos c]
    exact sem138l L I J wv wl wq hv hl hq hi c (vN v) 0 _ (by omega)
  · rw [if_neg c, q138_4, hv.2.1]
    by_cases h0 : nI (vN v) ≤ 0
    · rw [if_pos h0, q138_61]
    · rw [if_neg h0]
      simp only [q138_61, q138_8, q138_11, q138_12, q138_34, q138_49, q138_51, q138_56, q138_52, q138_57, sem133 L I J wl hl hi, decide_eq_false c, ob_s, tl_s, bz_f, if_true]
end MDL
