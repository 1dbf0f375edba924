/-! ===== ops: mark ===== -/
theorem Rl.asked {a : AT} {I : Nat → Nat → Int32} {J J' : Nat → Nat → Int64} (h : Rl a I J) (e : J' 1 7 = J' 54 9) : Rl a I J' := ⟨h.1, h.2.1, h.2.2.1, e⟩
theorem am_u_u {α : Type} (K : Nat → Nat → α) (c j : Nat) (y z : α) : am_u (am_u K c j y) c j z = am_u K c j z := by
  funext k i
  unfold am_u
  by_cases h : k = c
  · by_cases h2 : i = j <;> simp [h, h2]
  · simp [h]
section OPS
variable (L : Nat) (I : Nat → Nat → Int32) (J : Nat → Nat → Int64)
theorem sem51l {v : VT} (wv : wV v) (hv : cV v I) {s : Nat} (hs : s < 8) : ∀ k p n, p + k = vN v → am_sem 51 4 [.ref 10, .int (nI s), .int (nI n), .int (nI p)] [] (am_T L, I, J) = some (some (.int (nI (sureL (fun p => (vC v p).testBit s) k p n))), (am_T L, I, J))
  | 0, p, n, hk => by
    have hn := wv.2.2.1
    rw [q51_4, hv.2.1, if_pos (by rw [n_le (by omega) (by omega)]; omega), q51_16]
    rfl
  | k + 1, p, n, hk => by
    have hn := wv.2.2.1
    have ih := fun n => sem51l wv hv hs k (p + 1) n (by omega)
    rw [q51_4, hv.2.1, if_neg (by rw [n_le (by omega) (by omega)]; omega)]
    simp only [q51_16, q51_8, q51_12, q51_14, q51_13, sem49 L I J wv hv (show p < vN v by omega) hs, ob_s, tl_s, bz_0, nI_1]
    rw [sureL]
    cases (vC v p).testBit s
    · simp only [if_true, Bool.false_eq_true, if_false]
      exact ih n
    · simp only [if_true, Bool.true_eq_false, if_false]
      exact ih (n + 1)
theorem sem27l {v : VT} {g : LT} (wl : wL v g) (hl : cL g I) {s : Nat} (hs : s < 8) : ∀ k i n, i + k = lN_ g → am_sem 27 4 [.ref 16, .int (nI s), .int (nI n), .int (nI i)] [] (am_T L, I, J) = some (some (.int (nI (sureL (fun i => decide (lH g i = 1) && decide (lO g i = s)) k i n))), (am_T L, I, J))
  | 0, i, n, hk => by
    have h8 := wl.1
    rw [q27_4, hl.1, if_pos (by rw [n_le (by omega) (by omega)]; omega), q27_21]
    rfl
  | k + 1, i, n, hk => by
    have h8 := wl.1
    have hi : i < lN_ g := by omega
    have w4 := wl.2.2.2.1 i
    have ih := fun n => sem27l wl hl hs k (i + 1) n (by omega)
    rw [q27_4, hl.1, if_neg (by rw [n_le (by omega) (by omega)]; omega)]
    simp only [q27_21, q27_8, q27_11, q27_19, q27_12, q27_16, q27_18, sem26 L I J wl hl hi, at_n L I J (a := 19) (n := 8) rfl (by decide) (show i < 8 by omega), hl.2.2.2.1 i hi, n_inj (show lO g i < 2 ^ 31 by omega) (show s < 2 ^ 31 by omega), ob_s, tl_s, bz_0, nI_1]
    rw [sureL]
    by_cases c1 : lH g i = 1
    · by_cases c2 : lO g i = s
      · simp only [c1, c2, decide_true, Bool.true_eq_false, if_false, if_true, Bool.and_self]
        exact ih (n + 1)
      · simp only [c1, c2, decide_true, decide_false, Bool.true_eq_false, if_false, Bool.and_false, Bool.false_eq_true]
        exact ih n
    · simp only [c1, decide_false, Bool.false_and, Bool.false_eq_true, if_false, if_true]
      exact ih n
theorem sem11l {v : VT} {q : QT} (wq : wQ v q) (hq : cQ (vN v) 21 q I) {s : Nat} (hs : s < 8) : ∀ k i n, i + k = qD q → am_sem 11 4 [.ref 21, .int (nI s), .int (nI n), .int (nI i)] [] (am_T L, I, J) = some (some (.int (nI (sureL (fun i => decide (qDO q i = s)) k i n))), (am_T L, I, J))
  | 0, i, n, hk => by
    have hD := wq.2.1
    rw [q11_4, hq.2.1, if_pos (by rw [n_le (by omega) (by omega)]; omega), q11_17]
    rfl
  | k + 1, i, n, hk => by
    have hD := wq.2.1
    have hi : i < qD q := by omega
    have w5 := wq.2.2.2.2.1 i
    have ih := fun n => sem11l wq hq hs k (i + 1) n (by omega)
    rw [q11_4, hq.2.1, if_neg (by rw [n_le (by omega) (by omega)]; omega)]
    simp only [q11_17, q11_8, q11_12, q11_15, q11_14, at_n L I J (a := 23) (n := 10) rfl (by decide) (show i < 10 by omega), hq.2.2.2.2.1 i hi, n_inj (show qDO q i < 2 ^ 31 by omega) (show s < 2 ^ 31 by omega), ob_s, tl_s, nI_1]
    rw [sureL]
    by_cases c2 : qDO q i = s
    · simp only [c2, decide_true, if_true]
      exact ih (n + 1)
    · simp only [c2, decide_false, Bool.false_eq_true, if_false]
      exact ih n
theorem sem168l {v : VT} (wv : wV v) (hv : mV v I) {s : Nat} (hs : s < 8) : ∀ k p n, p + k = vN v → am_sem 168 10 [.ref 54, .int (nI s), .int (nI n), .int (nI p)] [] (am_T L, I, J) = am_sem 168 33 [.ref 54, .int (nI s), .int (nI (sureL (fun p => (vC v p).testBit s) k p n)), .int (nI (vN v))] [] (am_T L, I, J)
  | 0, p, n, hk => by
    have hn := wv.2.2.1
    rw [q168_10, hv.2.1, if_pos (by rw [n_le (by omega) (by omega)]; omega), show p = vN v by omega]
    rfl
  | k + 1, p, n, hk => by
    have hn := wv.2.2.1
    have hp : p < vN v := by omega
    have w5 := wv.2.2.2.2.1 p
    have ih := fun n => sem168l wv hv hs k (p + 1) n (by omega)
    rw [q168_10, hv.2.1, if_neg (by rw [n_le (by omega) (by omega)]; omega)]
    simp only [q168_14, q168_25, q168_28, q168_26, q168_29, m4, nI_1, nc (show 4 * p + 1 < 2 ^ 31 by omega), am_if_t (n_in (show 4 * p + 1 < 24 by omega) (by decide)), hv.2.2.2.1 p hp, sem112 L I J (show vC v p < 2 ^ 31 by omega) (show s < 32 by omega), ob_s, tl_s, bz_0, Int32.add_zero]
    rw [sureL]
    cases (vC v p).testBit s
    · simp only [if_true, Bool.false_eq_true, if_false]
      exact ih n
    · simp only [if_true, Bool.true_eq_false, if_false]
      exact ih (n + 1)
theorem sem169l {v : VT} {g : LT} (wl : wL v g) (hl : mL g I) {s : Nat} (hs : s < 8) : ∀ k i n, i + k = lN_ g → am_sem 169 10 [.ref 54, .int (nI s), .int (nI n), .int (nI i)] [] (am_T L, I, J) = am_sem 169 36 [.ref 54, .int (nI s), .int (nI (sureL (fun i => decide (lH g i = 1) && decide (lO g i = s)) k i n)), .int (nI (lN_ g))] [] (am_T L, I, J)
  | 0, i, n, hk => by
    have h8 := wl.1
    rw [q169_10, hl.1, if_pos (by rw [n_le (by omega) (by omega)]; omega), show i = lN_ g by omega]
    rfl
  | k + 1, i, n, hk => by
    have h8 := wl.1
    have hi : i < lN_ g := by omega
    have w4 := wl.2.2.2.1 i
    have ih := fun n => sem169l wl hl hs k (i + 1) n (by omega)
    rw [q169_10, hl.1, if_neg (by rw [n_le (by omega) (by omega)]; omega)]
    simp only [q169_14, q169_31, q169_25, q169_32, q169_28, q169_29, m4, p2, nI_1, nc (show 4 * i + 2 < 2 ^ 31 by omega), am_if_t (n_in (show 4 * i + 2 < 32 by omega) (by decide)), hl.2.2.2.1 i hi, n_inj (show lO g i < 2 ^ 31 by omega) (show s < 2 ^ 31 by omega), sem133 L I J wl hl hi, ob_s, tl_s, bz_0, Int32.add_zero]
    rw [sureL]
    by_cases c2 : lO g i = s
    · by_cases c1 : lH g i = 1
      · simp only [c1, c2, decide_true, Bool.true_eq_false, if_false, if_true, Bool.and_self]
        exact ih (n + 1)
      · simp only [c1, c2, decide_true, decide_false, if_true, Bool.false_and, Bool.false_eq_true, if_false]
        exact ih n
    · simp only [c2, decide_false, Bool.and_false, Bool.false_eq_true, if_false]
      exact ih n
theorem sem170l {v : VT} {q : QT} (wq : wQ v q) (hq : mQ (vN v) q (I 58)) {s : Nat} (hs : s < 8) : ∀ k i n, i + k = qD q → am_sem 170 10 [.ref 54, .int (nI s), .int (nI n), .int (nI i)] [] (am_T L, I, J) = am_sem 170 36 [.ref 54, .int (nI s), .int (nI (sureL (fun i => decide (qDO q i = s)) k i n)), .int (nI (qD q))] [] (am_T L, I, J)
  | 0, i, n, hk => by
    have hD := wq.2.1
    rw [q170_10, hq.2.1, if_pos (by rw [n_le (by omega) (by omega)]; omega), show i = qD q by omega]
    rfl
  | k + 1, i, n, hk => by
    have hD := wq.2.1
    have hi : i < qD q := by omega
    have w5 := wq.2.2.2.2.1 i
    have ih := fun n => sem170l wq hq hs k (i + 1) n (by omega)
    rw [q170_10, hq.2.1, if_neg (by rw [n_le (by omega) (by omega)]; omega)]
    simp only [q170_16, q170_31, q170_29, q170_32, m4, c9, nI_1, show 9 + 4 * i + 1 = 10 + 4 * i by omega, nc (show 10 + 4 * i < 2 ^ 31 by omega), am_if_t (n_in (show 10 + 4 * i < 69 by omega) (by decide)), hq.2.2.2.2.1 i hi, n_inj (show qDO q i < 2 ^ 31 by omega) (show s < 2 ^ 31 by omega), Int32.add_zero]
    rw [sureL]
    by_cases c2 : qDO q i = s
    · simp only [c2, decide_true, if_true]
      exact ih (n + 1)
    · simp only [c2, decide_false, Bool.false_eq_true, if_false]
      exact ih n
def ctC (v : VT) (s : Nat) : Nat := sureL (fun p => (vC v p).testBit s) (vN v) 0 0
def ctH (g : LT) (s : Nat) : Nat := sureL (fun i => decide (lH g i = 1) && decide (lO g i = s)) (lN_ g) 0 0
def ctD (q : QT) (s : Nat) : Nat := sureL (fun i => decide (qDO q i = s)) (qD q) 0 0
theorem sem105 {v : VT} (wv : wV v) (hv : cV v I) {s : Nat} (hs : s < 8) : am_sem 105 0 [.ref 1, .int (nI s)] [] (am_T L, I, J) = some (some (.int (nI s + nI (ctC v s))), (am_T L, I, am_u J 1 7 (J 1 7 + 10 + 1))) := by
  have e := fun J => sem51l L I J wv hv hs (vN v) 0 0 (by omega)
  have e2 : ∀ J, am_sem 51 0 [.ref 10, .int (nI s), .null, .null] [] (am_T L, I, J) = some (some (.int (nI (ctC v s))), (am_T L, I, J)) := fun J => (q51_0 L I J (nI s) _ _).trans (e J)
  simp only [q105_0, q104_0, ob_s, tl_s, q105_9, e2, q105_13, am_u_x]
  refine congrArg (fun z => some (some (Value.int (nI s + nI (ctC v s))), (am_T L, I, z))) ?_
  simp only [am_u_u]
theorem sem168 {v : VT} (wv : wV v) (hv : mV v I) {s : Nat} (hs : s < 8) (d e : Value) : am_sem 168 0 [.ref 54, .int (nI s), d, e] [] (am_T L, I, J) = some (some (.int (nI s + nI (ctC v s))), (am_T L, I, am_u J 54 9 (J 54 9 + 10 + 1))) := by
  rw [q168_0]
  refine Eq.trans (sem168l L I _ wv hv hs (vN v) 0 0 (by omega)) ?_
  rw [q168_33, q167_0]
  simp only [ob_s, tl_s, q168_36, am_u_x]
  refine congrArg (fun z => some (some (Value.int (nI s + nI (ctC v s))), (am_T L, I, z))) ?_
  simp only [am_u_u]
theorem sem106 {v : VT} {g : LT} (wl : wL v g) (hl : cL g I) {s : Nat} (hs : s < 8) : am_sem 106 0 [.ref 1, .int (nI s)] [] (am_T L, I, J) = some (some (.int (nI s - nI (ctH g s))), (am_T L, I, am_u J 1 7 (J 1 7 + 100 + 1))) := by
  have e := fun J => sem27l L I J wl hl hs (lN_ g) 0 0 (by omega)
  have e2 : ∀ J, am_sem 27 0 [.ref 16, .int (nI s), .null, .null] [] (am_T L, I, J) = some (some (.int (nI (ctH g s))), (am_T L, I, J)) := fun J => (q27_0 L I J (nI s) _ _).trans (e J)
  simp only [q106_0, q104_0, ob_s, tl_s, q106_9, e2, q106_13, am_u_x]
  refine congrArg (fun z => some (some (Value.int (nI s - nI (ctH g s))), (am_T L, I, z))) ?_
  simp only [am_u_u]
theorem sem169 {v : VT} {g : LT} (wl : wL v g) (hl : mL g I) {s : Nat} (hs : s < 8) (d e : Value) : am_sem 169 0 [.ref 54, .int (nI s), d, e] [] (am_T L, I, J) = some (some (.int (nI s - nI (ctH g s))), (am_T L, I, am_u J 54 9 (J 54 9 + 100 + 1))) := by
  rw [q169_0]
  refine Eq.trans (sem169l L I _ wl hl hs (lN_ g) 0 0 (by omega)) ?_
  rw [q169_36, q167_0]
  simp only [ob_s, tl_s, q169_39, am_u_x]
  refine congrArg (fun z => some (some (Value.int (nI s - nI (ctH g s))), (am_T L, I, z))) ?_
  simp only [am_u_u]
theorem sem108 {v : VT} {g : LT} {q : QT} (wl : wL v g) (wq : wQ v q) (hl : cL g I) (hq : cQ (vN v) 21 q I) {s : Nat} (hs : s < 8) : am_sem 108 0 [.ref 1, .int (nI s)] [] (am_T L, I, J) = some (some (.int (nI s - nI (ctH g s) + nI (ctD q s))), (am_T L, I, am_u J 1 7 (J 1 7 + 10000 + 100 + 1))) := by
  have e := fun J => sem11l L I J wq hq hs (qD q) 0 0 (by omega)
  have e2 : ∀ J, am_sem 11 0 [.ref 21, .int (nI s), .null, .null] [] (am_T L, I, J) = some (some (.int (nI (ctD q s))), (am_T L, I, J)) := fun J => (q11_0 L I J (nI s) _ _).trans (e J)
  simp only [q108_0, sem106 L I _ wl hl hs, ob_s, tl_s, q108_9, e2, q108_13, am_u_x]
  refine congrArg (fun z => some (some (Value.int (nI s - nI (ctH g s) + nI (ctD q s))), (am_T L, I, z))) ?_
  simp only [am_u_u]
theorem sem170 {v : VT} {g : LT} {q : QT} (wl : wL v g) (wq : wQ v q) (hl : mL g I) (hq : mQ (vN v) q (I 58)) {s : Nat} (hs : s < 8) (d e : Value) : am_sem 170 0 [.ref 54, .int (nI s), d, e] [] (am_T L, I, J) = some (some (.int (nI s - nI (ctH g s) + nI (ctD q s))), (am_T L, I, am_u J 54 9 (J 54 9 + 10000 + 100 + 1))) := by
  rw [q170_0]
  refine Eq.trans (sem170l L I _ wq hq hs (qD q) 0 0 (by omega)) ?_
  rw [q170_36, sem169 L I _ wl hl hs]
  simp only [ob_s, tl_s, q170_39, am_u_x]
  refine congrArg (fun z => some (some (Value.int (nI s - nI (ctH g s) + nI (ctD q s))), (am_T L, I, z))) ?_
  simp only [am_u_u]
end OPS
theorem op_mark (L : Nat) (x y : Int32) : Op L 76 171 [.ref 1, .int x, .int y] [.ref 54, .int x, .int y] := fun a I J hR => by
  obtain ⟨⟨wv, wl, wq, wx, wi, wj⟩, ⟨cv, cl, cq, cx, ci, cj⟩, ⟨mv, ml, mq, mx, mi, mj⟩, ht⟩ := id hR
  have c1 := sem81n L I J x (m := 5) 5 rfl (by decide)
  have d1 := fun J => sem111n L I J x (m := 5) 5 rfl (by decide)
  cases hx : inr x 6
  · refine ⟨some (.int (-1000000)), I, J, I, J, a, ?_, ?_, hR⟩
    · simp only [q76_0, c1, hx, ob_s, tl_s, q76_3, bz_0, if_true, q76_7]
    · simp only [q171_0, d1, hx, ob_s, tl_s, q171_4, bz_0, if_true, q171_8]
  cases hy : inr y 8
  · refine ⟨some (.int (-1000000)), I, J, I, J, a, ?_, ?_, hR⟩
    · simp only [q76_0, c1, hx, hy, sem82, ob_s, tl_s, q76_3, q76_4, q76_6, bz_0, Bool.true_eq_false, if_false, if_true, q76_7]
    · simp only [q171_0, d1, hx, hy, sem114, ob_s, tl_s, q171_4, q171_5, q171_7, bz_0, Bool.true_eq_false, if_false, if_true, q171_8]
  obtain ⟨k, hk, rfl⟩ := inr_t hx (by decide)
  obtain ⟨s, hs, rfl⟩ := inr_t hy (by decide)
  have A : am_sem 76 0 [.ref 1, .int (nI k), .int (nI s)] [] (am_T L, I, J) = am_sem 76 9 [.ref 1, .int (nI k), .int (nI s)] [] (am_T L, I, J) := by
    simp only [q76_0, c1, hx, hy, sem82, ob_s, tl_s, q76_3, q76_4, q76_6, bz_0, Bool.true_eq_false, if_false]
  have B : ∀ J, am_sem 171 0 [.ref 54, .int (nI k), .int (nI s)] [] (am_T L, I, J) = am_sem 171 10 [.ref 54, .int (nI k), .int (nI s)] [] (am_T L, I, J) := fun J => by
    simp only [q171_0, d1, hx, hy, sem114, ob_s, tl_s, q171_4, q171_5, q171_7, bz_0, Bool.true_eq_false, if_false]
  have n : ∀ {k c : Nat}, k < 10 → c < 10 → k ≠ c → ¬ nI k = nI c := fun {k c} h1 h2 h3 => by rw [n_inj (by omega) (by omega)]; exact h3
  have E : ∀ (r : Value) (z : Int64), am_sem 76 9 [.ref 1, .int (nI k), .int (nI s)] [] (am_T L, I, J) = some (some r, (am_T L, I, am_u J 1 7 z)) → am_sem 171 10 [.ref 54, .int (nI k), .int (nI s)] [] (am_T L, I, am_u J 1 7 z) = some (some r, (am_T L, I, am_u (am_u J 1 7 z) 54 9 z)) → ∃ (r : Option Value) (I1 : Nat → Nat → Int32) (J1 : Nat → Nat → Int64) (I2 : Nat → Nat → Int32) (J2 : Nat → Nat → Int64) (a2 : AT), am_sem 76 0 [.ref 1, .int (nI k), .int (nI s)] [] (am_T L, I, J) = some (r, (am_T L, I1, J1)) ∧ am_sem 171 0 [.ref 54, .int (nI k), .int (nI s)] [] (am_T L, I1, J1) = some (r, (am_T L, I2, J2)) ∧ Rl a2 I2 J2 := fun r z h1 h2 => ⟨some r, I, _, I, _, a, A.trans h1, (B _).trans h2, hR.asked (by simp [am_u])⟩
  have hj : ∀ z, am_u J 1 7 z 54 9 = J 1 7 := fun z => by rw [am_u_k (by decide)]; exact ht.symm
  match k, hk with
  | 0, _ =>
    refine E (.int (nI s)) (J 1 7 + 1) ?_ ?_
    · rw [q76_9, if_neg (by decide), if_neg (by decide), if_neg (by decide), if_neg (by decide), if_neg (by decide), q76_31, q104_0]
      simp only [ob_s, tl_s, q76_34]
    · rw [q171_10, if_pos (by decide), q171_12, q167_0]
      simp only [ob_s, tl_s, q171_15, hj]
  | 1, _ =>
    refine E (.int (nI s + nI (ctC a.1 s))) (J 1 7 + 10 + 1) ?_ ?_
    · rw [q76_9, if_pos (by decide), q76_11, sem105 L I J wv cv hs]
      simp only [ob_s, tl_s, q76_14]
    · rw [q171_10, if_neg (by decide), if_pos (by decide), q171_16, sem168 L I _ wv mv hs]
      simp only [ob_s, tl_s, q171_19, hj]
  | 2, _ =>
    refine E (.int (nI s - nI (ctH a.2.1 s))) (J 1 7 + 100 + 1) ?_ ?_
    · rw [q76_9, if_neg (by decide), if_pos (by decide), q76_15, sem106 L I J wl cl hs]
      simp only [ob_s, tl_s, q76_18]
    · rw [q171_10, if_neg (by decide), if_neg (by decide), if_pos (by decide), q171_20, sem169 L I _ wl ml hs]
      simp only [ob_s, tl_s, q171_23, hj]
  | 3, _ =>
    refine E (.int ((nI s + nI (ctC a.1 s)) * 2)) (J 1 7 + 1000 + 10 + 1) ?_ ?_
    · rw [q76_9, if_neg (by decide), if_neg (by decide), if_pos (by decide), q76_19, q107_0, sem105 L I _ wv cv hs]
      simp only [ob_s, tl_s, q107_9, q76_22, am_u_x, am_u_u]
    · rw [q171_10, if_neg (by decide), if_neg (by decide), if_neg (by decide), if_pos (by decide), q171_24, sem168 L I _ wv mv hs]
      simp only [ob_s, tl_s, q171_34, hj, am_u_x, am_u_u, Int32.mul_comm]
  | 4, _ =>
    refine E (.int (nI s - nI (ctH a.2.1 s) + nI (ctD a.2.2.1 s))) (J 1 7 + 10000 + 100 + 1) ?_ ?_
    · rw [q76_9, if_neg (by decide), if_neg (by decide), if_neg (by decide), if_pos (by decide), q76_23, sem108 L I J wl wq cl cq hs]
      simp only [ob_s, tl_s, q76_26]
    · rw [q171_10, if_neg (by decide), if_neg (by decide), if_neg (by decide), if_neg (by decide), if_pos (by decide), q171_36, sem170 L I _ wl wq ml mq hs]
      simp only [ob_s, tl_s, q171_39, hj]
  | 5, _ =>
    refine E (.int (nI s + nI (qT a.2.2.1))) (J 1 7 + 100000 + 1) ?_ ?_
    · rw [q76_9, if_neg (by decide), if_neg (by decide), if_neg (by decide), if_neg (by decide), if_pos (by decide), q76_27, q109_0, q104_0]
      simp only [ob_s, tl_s, q109_9, q76_30, am_u_x, am_u_u, cq.1]
    · rw [q171_10, if_neg (by decide), if_neg (by decide), if_neg (by decide), if_neg (by decide), if_neg (by decide), q171_40, q167_0]
      simp only [ob_s, tl_s, q171_49, hj, am_u_x, am_u_u, mq.1]
