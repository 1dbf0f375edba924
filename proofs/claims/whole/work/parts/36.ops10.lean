/-! ===== ops: done, now ===== -/
theorem bs_diff (p r : Nat → Bool) {n : Nat} (h : n ≤ 31) : nI (mk p n) &&& (nI (mk r n) ^^^ (-1)) = nI (mk (fun i => p i && !r i) n) := by
  have hp := mk_lt31 p h
  have hr := mk_lt31 r h
  have hm := mk_lt31 (fun i => p i && !r i) h
  apply Int32.toBitVec_inj.mp
  apply BitVec.eq_of_getLsbD_eq
  intro j hj
  rw [Int32.toBitVec_and, Int32.toBitVec_xor, BitVec.getLsbD_and, BitVec.getLsbD_xor, show ((-1 : Int32)).toBitVec = BitVec.allOnes 32 from by decide, BitVec.getLsbD_allOnes, ← BitVec.testBit_toNat, ← BitVec.testBit_toNat, ← BitVec.testBit_toNat, pk_tn (by omega), pk_tn (by omega), pk_tn (by omega), decide_eq_true hj, Bool.xor_true, mk_bit, mk_bit, mk_bit]
  by_cases c : j < n
  · simp [c]
  · simp [c]
theorem bs_diff' (p : Nat → Bool) (m : Nat) {n : Nat} (h : n ≤ 31) (hm : m < 2 ^ 31) : nI (mk p n) &&& (nI m ^^^ (-1)) = nI (mk (fun i => p i && !m.testBit i) n) := by
  have hp := mk_lt31 p h
  have hm2 := mk_lt31 (fun i => p i && !m.testBit i) h
  apply Int32.toBitVec_inj.mp
  apply BitVec.eq_of_getLsbD_eq
  intro j hj
  rw [Int32.toBitVec_and, Int32.toBitVec_xor, BitVec.getLsbD_and, BitVec.getLsbD_xor, show ((-1 : Int32)).toBitVec = BitVec.allOnes 32 from by decide, BitVec.getLsbD_allOnes, ← BitVec.testBit_toNat, ← BitVec.testBit_toNat, ← BitVec.testBit_toNat, pk_tn (by omega), pk_tn (by omega), pk_tn (by omega), decide_eq_true hj, Bool.xor_true, mk_bit, mk_bit]
  by_cases c : j < n
  · simp [c]
  · simp [c]
/-- what is done makes the i-th of the log -/
def dnB (v : VT) (g : LT) (q : QT) (i : Nat) : Bool := anyF (fun k => fB v g (qDL q k) (qDO q k) (qDS q k) i) 0 (qD q)
def duB (v : VT) (g : LT) (q : QT) (i : Nat) : Bool := decide (lH g i = 1) && !dnB v g q i
section OPS
variable (L : Nat)
theorem op_done (x y : Int32) : Op L 69 154 [.ref 1, .int x, .int y] [.ref 54, .int x, .int y] := Op.ro fun a I J hR => by
  obtain ⟨⟨wv, wl, wq, wx, wi, wj⟩, ⟨cv, cl, cq, cx, ci, cj⟩, ⟨mv, ml, mq, mx, mi, mj⟩, ht⟩ := hR
  have hD := wq.2.1
  have e : inr x (qD a.2.2.1) = if x < 0 then false else if nI (qD a.2.2.1) ≤ x then false else true := by
    rw [← inr_lt x (by omega), lt2]
  simp only [q154_0, q154_9, q154_26, q154_10, q154_27, q154_14, q154_15, mq.2.1, sem111, inr_m1 x (show qD a.2.2.1 < 2 ^ 31 by omega), sem111n L I J y (m := 3) 3 rfl (by decide), ob_s, tl_s, bz_0]
  cases hx : inr x (qD a.2.2.1)
  · rw [hx] at e
    refine ⟨some (.int (-1)), ?_, ?_⟩
    · rw [q69_0]
      by_cases h1 : x < 0
      · rw [if_pos h1, q69_7]
      · by_cases h3 : nI (qD a.2.2.1) ≤ x
        · rw [if_neg h1, q69_2, cq.2.1, if_neg (le_nn h3), q69_7]
        · rw [if_neg h1, if_neg h3] at e
          cases e
    · simp only [if_true]
  obtain ⟨k, hk, rfl⟩ := inr_t hx (by omega)
  have e0 : am_sem 69 0 [.ref 1, .int (nI k), .int y] [] (am_T L, I, J) = am_sem 69 9 [.ref 1, .int (nI k), .int y] [] (am_T L, I, J) := by
    rw [q69_0, if_neg (nI_pos (by omega)), q69_2, cq.2.1, if_pos (by rw [n_lt (by omega) (by omega)]; exact hk)]
  rw [e0]
  simp only [Bool.true_eq_false, if_false, m4, c9]
  have hA : ∀ {b}, am_sem 83 0 [.ref 22, .int (nI k)] [] (am_T L, I, J) = some b ↔ _ := fun {b} => Iff.rfl
  by_cases h0 : y = 0
  · subst h0
    simp only [show inr 0 4 = true from by decide, Bool.true_eq_false, if_false, q69_7, q69_9, q69_11, q69_17, q69_23, q69_29, q69_35, q69_16, q69_22, q69_28, q69_34, if_true, at_n L I J (a := 22) (n := 10) rfl (by decide) (show k < 10 by omega), ob_s, tl_s, cq.2.2.2.1 k hk, show nI (9 + 4 * k) + 0 = nI (9 + 4 * k) from Int32.add_zero _, nc (show 9 + 4 * k < 2 ^ 31 by omega), am_if_t (n_in (show 9 + 4 * k < 69 by omega) (by decide)), mq.2.2.2.1 k hk]
    exact ⟨_, rfl, rfl⟩
  by_cases h1 : y = 1
  · subst h1
    simp only [show inr 1 4 = true from by decide, Bool.true_eq_false, if_false, i10, q69_7, q69_9, q69_11, q69_17, q69_23, q69_29, q69_35, q69_16, q69_22, q69_28, q69_34, if_true, at_n L I J (a := 23) (n := 10) rfl (by decide) (show k < 10 by omega), ob_s, tl_s, cq.2.2.2.2.1 k hk, nI_1, show 9 + 4 * k + 1 = 10 + 4 * k by omega, nc (show 10 + 4 * k < 2 ^ 31 by omega), am_if_t (n_in (show 10 + 4 * k < 69 by omega) (by decide)), mq.2.2.2.2.1 k hk]
    exact ⟨_, rfl, rfl⟩
  by_cases h2 : y = 2
  · subst h2
    simp only [show inr 2 4 = true from by decide, Bool.true_eq_false, if_false, show ((2 : Int32) = 0) = False from eq_false (by decide), show ((2 : Int32) = 1) = False from eq_false (by decide), q69_7, q69_9, q69_11, q69_17, q69_23, q69_29, q69_35, q69_16, q69_22, q69_28, q69_34, if_true, at_n L I J (a := 24) (n := 10) rfl (by decide) (show k < 10 by omega), ob_s, tl_s, cq.2.2.2.2.2.1 k hk, p2, show 9 + 4 * k + 2 = 11 + 4 * k by omega, nc (show 11 + 4 * k < 2 ^ 31 by omega), am_if_t (n_in (show 11 + 4 * k < 69 by omega) (by decide)), mq.2.2.2.2.2.1 k hk]
    exact ⟨_, rfl, rfl⟩
  by_cases h3 : y = 3
  · subst h3
    simp only [show inr 3 4 = true from by decide, Bool.true_eq_false, if_false, show ((3 : Int32) = 0) = False from eq_false (by decide), show ((3 : Int32) = 1) = False from eq_false (by decide), show ((3 : Int32) = 2) = False from eq_false (by decide), q69_7, q69_9, q69_11, q69_17, q69_23, q69_29, q69_35, q69_16, q69_22, q69_28, q69_34, if_true, at_n L I J (a := 25) (n := 10) rfl (by decide) (show k < 10 by omega), ob_s, tl_s, cq.2.2.2.2.2.2.1 k hk, p3, show 9 + 4 * k + 3 = 12 + 4 * k by omega, nc (show 12 + 4 * k < 2 ^ 31 by omega), am_if_t (n_in (show 12 + 4 * k < 69 by omega) (by decide)), mq.2.2.2.2.2.2.1 k hk]
    exact ⟨_, rfl, rfl⟩
  have hy : inr y 4 = false := by
    cases hy : inr y 4
    · rfl
    · obtain ⟨k, hk, rfl⟩ := inr_t hy (by decide)
      match k, hk with
      | 0, _ => exact absurd rfl h0
      | 1, _ => exact absurd rfl h1
      | 2, _ => exact absurd rfl h2
      | 3, _ => exact absurd rfl h3
  simp only [hy, h0, h1, h2, h3, if_true, if_false, q69_7, q69_9, q69_11, q69_17, q69_23, q69_29, q69_35, q69_16, q69_22, q69_28, q69_34]
  exact ⟨_, rfl, rfl⟩
variable (I : Nat → Nat → Int32) (J : Nat → Nat → Int64)
theorem sem100l {v : VT} {g : LT} {q : QT} (wv : wV v) (wl : wL v g) (wq : wQ v q) (hv : cV v I) (hl : cL g I) (hq : cQ (vN v) 21 q I) {i : Nat} (hi : i < lN_ g) : ∀ m k, k + m = qD q → am_sem 100 2 [.ref 1, .int (nI i), .int (nI k)] [] (am_T L, I, J) = some (some (.int (bz (anyF (fun k => fB v g (qDL q k) (qDO q k) (qDS q k) i) k m))), (am_T L, I, J))
  | 0, k, hk => by
    have hD := wq.2.1
    rw [q100_2, hq.2.1, if_pos (by rw [n_le (by omega) (by omega)]; omega), q100_30]
    rfl
  | m + 1, k, hk => by
    have hD := wq.2.1
    have hkD : k < qD q := by omega
    have w5 := wq.2.2.2.2.1 k
    have w6 := wq.2.2.2.2.2.1 k
    have w7 := wq.2.2.2.2.2.2.1 k
    have ih := sem100l wv wl wq hv hl hq hi m (k + 1) (by omega)
    rw [q100_2, hq.2.1, if_neg (by rw [n_le (by omega) (by omega)]; omega)]
    simp only [q100_30, q100_7, q100_13, q100_18, q100_23, q100_25, q100_28, q100_26, at_n L I J (a := 23) (n := 10) rfl (by decide) (show k < 10 by omega), at_n L I J (a := 24) (n := 10) rfl (by decide) (show k < 10 by omega), at_n L I J (a := 25) (n := 10) rfl (by decide) (show k < 10 by omega), ob_s, tl_s, hq.2.2.2.2.1 k hkD, hq.2.2.2.2.2.1 k hkD, hq.2.2.2.2.2.2.1 k hkD, sem91 L I J wv wl hv hl w7 w5 (show qDS q k < 1000 by omega) hi, bz_0, nI_1]
    rw [anyF]
    cases fB v g (qDL q k) (qDO q k) (qDS q k) i
    · simp only [if_true, Bool.false_or]
      exact ih
    · simp only [Bool.true_eq_false, if_false, Bool.true_or]
      rfl
theorem sem100 {v : VT} {g : LT} {q : QT} (wv : wV v) (wl : wL v g) (wq : wQ v q) (hv : cV v I) (hl : cL g I) (hq : cQ (vN v) 21 q I) {i : Nat} (hi : i < lN_ g) (d : Value) : am_sem 100 0 [.ref 1, .int (nI i), d] [] (am_T L, I, J) = some (some (.int (bz (dnB v g q i))), (am_T L, I, J)) := by
  rw [q100_0]
  exact sem100l L I J wv wl wq hv hl hq hi (qD q) 0 (by omega)
theorem sem101l {v : VT} {g : LT} {q : QT} (wv : wV v) (wl : wL v g) (wq : wQ v q) (hv : cV v I) (hl : cL g I) (hq : cQ (vN v) 21 q I) : ∀ m i, i + m = lN_ g → am_sem 101 4 [.ref 1, .int (nI (mk (duB v g q) i)), .int (nI i)] [] (am_T L, I, J) = some (some (.int (nI (mk (duB v g q) (lN_ g)))), (am_T L, I, J))
  | 0, i, hk => by
    have h8 := wl.1
    rw [q101_4, hl.1, if_pos (by rw [n_le (by omega) (by omega)]; omega), q101_26, show i = lN_ g by omega]
  | m + 1, i, hk => by
    have h8 := wl.1
    have hi : i < lN_ g := by omega
    have ih := sem101l wv wl wq hv hl hq m (i + 1) (by omega)
    rw [← mk_step _ _ (by omega), duB] at ih
    rw [q101_4, hl.1, if_neg (by rw [n_le (by omega) (by omega)]; omega)]
    simp only [q101_26, q101_9, q101_13, q101_24, q101_14, q101_17, q101_18, sem26 L I J wl hl hi, sem100 L I J wv wl wq hv hl hq hi, ob_s, tl_s, bz_0, nI_1]
    by_cases c : lH g i = 1
    · simp only [c, decide_true, Bool.true_eq_false, if_false, Bool.true_and] at ih ⊢
      cases c2 : dnB v g q i
      · rw [c2] at ih
        simp only [Bool.not_false, if_true] at ih ⊢
        exact ih
      · rw [c2] at ih
        simp only [Bool.not_true, Bool.false_eq_true, if_false, Int32.or_zero] at ih
        simp only [Bool.true_eq_false, if_false]
        exact ih
    · simp only [c, decide_false, Bool.false_and, Bool.false_eq_true, if_false, Int32.or_zero] at ih
      simp only [c, decide_false, if_true]
      exact ih
theorem sem101 {v : VT} {g : LT} {q : QT} (wv : wV v) (wl : wL v g) (wq : wQ v q) (hv : cV v I) (hl : cL g I) (hq : cQ (vN v) 21 q I) (d e : Value) : am_sem 101 0 [.ref 1, d, e] [] (am_T L, I, J) = some (some (.int (nI (mk (duB v g q) (lN_ g)))), (am_T L, I, J)) := by
  rw [q101_0]
  exact sem101l L I J wv wl wq hv hl hq (lN_ g) 0 (by omega)
def paB (v : VT) (g : LT) (q : QT) (i : Nat) : Bool := duB v g q i && decide (mk (fun p => mB v g q p i && decide (qT q ≤ tM v g q p i)) (vN v) = 0)
theorem sem102l {v : VT} {g : LT} {q : QT} (wv : wV v) (wl : wL v g) (wq : wQ v q) (hv : cV v I) (hl : cL g I) (hq : cQ (vN v) 21 q I) : ∀ m i, i + m = lN_ g → am_sem 102 7 [.ref 1, .int (nI (mk (duB v g q) (lN_ g))), .int (nI (mk (paB v g q) i)), .int (nI i)] [] (am_T L, I, J) = some (some (.int (nI (mk (paB v g q) (lN_ g)))), (am_T L, I, J))
  | 0, i, hk => by
    have h8 := wl.1
    rw [q102_7, hl.1, if_pos (by rw [n_le (by omega) (by omega)]; omega), q102_33, show i = lN_ g by omega]
  | m + 1, i, hk => by
    have h8 := wl.1
    have hn := wv.2.2.1
    have hT := wq.1
    have hi : i < lN_ g := by omega
    have hm := mk_lt31 (fun p => mB v g q p i && decide (qT q ≤ tM v g q p i)) (show vN v ≤ 31 by omega)
    have ih := sem102l wv wl wq hv hl hq m (i + 1) (by omega)
    rw [← mk_step _ _ (by omega), paB] at ih
    rw [q102_7, hl.1, if_neg (by rw [n_le (by omega) (by omega)]; omega)]
    simp only [q102_2, q102_33, q102_12, q102_31, q102_18, q102_24, q102_25, bs_bit (mk_lt31 (duB v g q) (show lN_ g ≤ 31 by omega)) (show i < 32 by omega), mk_bit, decide_eq_true hi, Bool.true_and, hq.1, sem95 L I J wv wl wq hv hl hq hi (show qT q < 1000 by omega), ob_s, tl_s, bz_0, nI_1, n_eqc (x := 0) (c := 0) rfl hm (by decide)]
    cases c : duB v g q i
    · simp only [c, Bool.false_and, Bool.false_eq_true, if_false, Int32.or_zero] at ih
      simp only [if_true]
      exact ih
    · by_cases c2 : mk (fun p => mB v g q p i && decide (qT q ≤ tM v g q p i)) (vN v) = 0
      · simp only [c, c2, decide_true, Bool.and_self, if_true] at ih
        simp only [c2, Bool.true_eq_false, if_false, if_true]
        exact ih
      · simp only [c, c2, decide_false, Bool.and_false, Bool.false_eq_true, if_false, Int32.or_zero] at ih
        simp only [c2, Bool.true_eq_false, if_false]
        exact ih
theorem sem102 {v : VT} {g : LT} {q : QT} (wv : wV v) (wl : wL v g) (wq : wQ v q) (hv : cV v I) (hl : cL g I) (hq : cQ (vN v) 21 q I) (d e f : Value) : am_sem 102 0 [.ref 1, d, e, f] [] (am_T L, I, J) = some (some (.int (nI (mk (paB v g q) (lN_ g)))), (am_T L, I, J)) := by
  rw [q102_0, sem101 L I J wv wl wq hv hl hq]
  simp only [ob_s, tl_s, q102_2]
  exact sem102l L I J wv wl wq hv hl hq (lN_ g) 0 (by omega)
def liB (v : VT) (g : LT) (q : QT) (k : Nat) : Bool := stl v g (qDL q k) (qDO q k) (qDS q k)
theorem sem103l {v : VT} {g : LT} {q : QT} (wv : wV v) (wl : wL v g) (wq : wQ v q) (hv : cV v I) (hl : cL g I) (hq : cQ (vN v) 21 q I) : ∀ m k, k + m = qD q → am_sem 103 4 [.ref 1, .int (nI (mk (liB v g q) k)), .int (nI k)] [] (am_T L, I, J) = some (some (.int (nI (mk (liB v g q) (qD q)))), (am_T L, I, J))
  | 0, k, hk => by
    have hD := wq.2.1
    rw [q103_4, hq.2.1, if_pos (by rw [n_le (by omega) (by omega)]; omega), q103_35, show k = qD q by omega]
  | m + 1, k, hk => by
    have hD := wq.2.1
    have hkD : k < qD q := by omega
    have w5 := wq.2.2.2.2.1 k
    have w6 := wq.2.2.2.2.2.1 k
    have w7 := wq.2.2.2.2.2.2.1 k
    have ih := sem103l wv wl wq hv hl hq m (k + 1) (by omega)
    rw [← mk_step _ _ (by omega), liB] at ih
    rw [q103_4, hq.2.1, if_neg (by rw [n_le (by omega) (by omega)]; omega)]
    simp only [q103_35, q103_9, q103_15, q103_20, q103_25, q103_26, q103_33, q103_27, at_n L I J (a := 23) (n := 10) rfl (by decide) (show k < 10 by omega), at_n L I J (a := 24) (n := 10) rfl (by decide) (show k < 10 by omega), at_n L I J (a := 25) (n := 10) rfl (by decide) (show k < 10 by omega), ob_s, tl_s, hq.2.2.2.2.1 k hkD, hq.2.2.2.2.2.1 k hkD, hq.2.2.2.2.2.2.1 k hkD, sem92 L I J wv wl hv hl w7 w5 (show qDS q k < 1000 by omega), bz_0, nI_1]
    cases c : stl v g (qDL q k) (qDO q k) (qDS q k)
    · simp only [c, Bool.false_eq_true, if_false, Int32.or_zero] at ih
      simp only [if_true]
      exact ih
    · simp only [c, if_true] at ih
      simp only [Bool.true_eq_false, if_false]
      exact ih
theorem sem103 {v : VT} {g : LT} {q : QT} (wv : wV v) (wl : wL v g) (wq : wQ v q) (hv : cV v I) (hl : cL g I) (hq : cQ (vN v) 21 q I) (d e : Value) : am_sem 103 0 [.ref 1, d, e] [] (am_T L, I, J) = some (some (.int (nI (mk (liB v g q) (qD q)))), (am_T L, I, J)) := by
  rw [q103_0]
  exact sem103l L I J wv wl wq hv hl hq (qD q) 0 (by omega)
end OPS
