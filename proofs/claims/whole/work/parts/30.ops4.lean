/-! ===== ops: sure, together ===== -/
section OPS
variable (L : Nat)
theorem stl_not {v : VT} {g : LT} (wl : wL v g) (pl s t : Nat) : (nI (mk (fB v g pl s t) (lN_ g)) &&& (nI (mk (fun i => decide (lH g i = 1)) (lN_ g)) ^^^ (-1)) = 0) = (stl v g pl s t = false) := by
  have h8 := wl.1
  rw [bs_not (mk_lt31 _ (by omega)) (mk_lt31 _ (by omega)), ← Bool.not_eq_true, stl_iff]
  apply propext
  constructor
  · rintro h ⟨i, h1, h2, h3⟩
    have := h i (by rw [mk_bit, h3]; simp [h1])
    rw [mk_bit] at this
    simp [h2] at this
  · intro h j hj
    rw [mk_bit] at hj ⊢
    simp only [Bool.and_eq_true, decide_eq_true_eq] at hj ⊢
    exact ⟨hj.1, Decidable.byContradiction fun z => h ⟨j, hj.1, z, hj.2⟩⟩
theorem sem166l (I : Nat → Nat → Int32) (J : Nat → Nat → Int64) {v : VT} {g : LT} {q : QT} (wv : wV v) (wl : wL v g) (wq : wQ v q) (hv : mV v I) (hl : mL g I) (hq : mQ (vN v) q (I 58)) {pl s : Nat} (hpl : pl < vP v) (hs : s < 8) : ∀ k t n (d e f : Value), t + k = 41 → am_sem 166 13 [.ref 54, .int (nI pl), .int (nI s), .int (nI n), .int (nI t), d, e, f] [] (am_T L, I, J) = some (some (.int (nI (sureL (fun t => stl v g pl s t || !smB v q pl s t) k t n))), (am_T L, I, J))
  | 0, t, n, d, e, f, hk => by
    rw [q166_13, if_pos (by rw [n40 (by omega)]; omega), q166_73]
    rfl
  | k + 1, t, n, d, e, f, hk => by
    rw [q166_13, if_neg (by rw [n40 (by omega)]; omega)]
    simp only [q166_3, q166_7, q166_4, q166_6, q166_9, q166_73, q166_16, q166_21, q166_23, q166_29, q166_27, q166_30, q166_39, q166_57, q166_41, q166_60, q166_59, q166_43, q166_51, q166_56, sem134 L I J wv wl hv hl hpl hs (show t < 1000 by omega), sem135 L I J wl hl, ob_s, tl_s, stl_not wl]
    have hin := fun b => sem166i L I J wv wq hv hq hpl hs (show t < 900 by omega) (nI n) b (vN v) 0 false (by omega)
    have hsm : anyF (fun p => decide (qW q p = pl) && canB v p s t) 0 (vN v) = smB v q pl s t := rfl
    rw [sureL]
    cases c1 : stl v g pl s t
    · simp only [if_true]
      refine Eq.trans (hin true) ?_
      simp only [Bool.false_or, Bool.true_and, hsm, q166_3, q166_7, q166_4, q166_6, q166_9, q166_73, q166_16, q166_21, q166_23, q166_29, q166_27, q166_30, q166_63, q166_39, q166_68, q166_66, q166_57, q166_41, q166_69, q166_60, q166_59, q166_43, q166_51, q166_56, bz_0, nI_1, Int32.add_zero]
      cases smB v q pl s t
      · simp only [if_true, Bool.not_false]
        exact sem166l I J wv wl wq hv hl hq hpl hs k (t + 1) (n + 1) _ _ _ (by omega)
      · simp only [Bool.true_eq_false, if_false, Bool.not_true, Bool.false_eq_true]
        exact sem166l I J wv wl wq hv hl hq hpl hs k (t + 1) n _ _ _ (by omega)
    · simp only [Bool.true_eq_false, if_false]
      refine Eq.trans (hin false) ?_
      simp only [Bool.false_or, Bool.false_and, q166_3, q166_7, q166_4, q166_6, q166_9, q166_73, q166_16, q166_21, q166_23, q166_29, q166_27, q166_30, q166_63, q166_39, q166_68, q166_66, q166_57, q166_41, q166_69, q166_60, q166_59, q166_43, q166_51, q166_56, bz_0, nI_1, if_true, Bool.true_or]
      exact sem166l I J wv wl wq hv hl hq hpl hs k (t + 1) (n + 1) _ _ _ (by omega)
theorem op_sure (x y : Int32) (d1 d2 e1 e2 e3 e4 e5 : Value) : Op L 75 166 [.ref 1, .int x, .int y, d1, d2] [.ref 54, .int x, .int y, e1, e2, e3, e4, e5] := Op.ro fun a I J hR => by
  obtain ⟨⟨wv, wl, wq, wx, wi, wj⟩, ⟨cv, cl, cq, cx, ci, cj⟩, ⟨mv, ml, mq, mx, mi, mj⟩, ht⟩ := hR
  have h6 := wv.2.1
  simp only [q75_0, q75_4, q75_8, q75_5, q75_7, q75_10, q75_32, q75_17, q75_22, q75_29, q75_23, q75_30, q75_28, q166_0, q166_3, q166_7, q166_4, q166_6, q166_9, q166_73, q166_16, q166_21, q166_23, q166_29, q166_27, q166_30, q166_35, q166_63, q166_39, q166_68, q166_66, q166_57, q166_41, q166_69, q166_60, q166_59, q166_43, q166_51, q166_56, sem44 L I J (show vP a.1 < 2 ^ 31 by omega) cv.1, sem113 L I J (show vP a.1 < 2 ^ 31 by omega) mv.1, sem82, sem114, ob_s, tl_s, bz_0]
  cases hx : inr x (vP a.1)
  · exact ⟨_, rfl, rfl⟩
  cases hy : inr y 8
  · exact ⟨_, rfl, rfl⟩
  obtain ⟨pl, hpl, rfl⟩ := inr_t hx (by omega)
  obtain ⟨s, hs, rfl⟩ := inr_t hy (by omega)
  have e1 := sem75l L I J wv wl wq cv cl cq hpl hs 41 0 0 (by omega)
  have e2 := fun d e f => sem166l L I J wv wl wq mv ml mq hpl hs 41 0 0 d e f (by omega)
  simp only [Bool.true_eq_false, if_false, show (0 : Int32) = nI 0 from rfl, e1, e2]
  exact ⟨_, rfl, rfl⟩
/-- all of a set have a begin -/
def tgB (v : VT) (q : QT) (m snd pl s : Nat) : Bool := !anyF (fun p => m.testBit p && !canB v p snd (tB v q p pl s)) 0 (vN v)
theorem tg_iff {v : VT} {q : QT} {m : Nat} (wv : wV v) (hm : m < 2 ^ vN v) (snd pl s : Nat) : (nI m &&& (nI (mk (fun p => canB v p snd (tB v q p pl s)) (vN v)) ^^^ (-1)) = 0) = (tgB v q m snd pl s = true) := by
  have hn := wv.2.2.1
  have hm2 : m < 2 ^ 31 := Nat.lt_of_lt_of_le hm (Nat.pow_le_pow_right (by decide) (by omega))
  rw [bs_not hm2 (mk_lt31 _ (by omega))]
  unfold tgB
  rw [Bool.not_eq_true', ← Bool.not_eq_true, anyF_iff]
  apply propext
  constructor
  · rintro h ⟨p, -, h2, h3⟩
    simp only [Bool.and_eq_true, Bool.not_eq_true'] at h3
    have := h p h3.1
    rw [mk_bit, h3.2] at this
    simp at this
  · intro h j hj
    have hjn : j < vN v := by
      rcases Nat.lt_or_ge j (vN v) with q | q
      · exact q
      · rw [Nat.testBit_lt_two_pow (Nat.lt_of_lt_of_le hm (Nat.pow_le_pow_right (by decide) q))] at hj
        cases hj
    rw [mk_bit, decide_eq_true hjn, Bool.true_and]
    cases c : canB v j snd (tB v q j pl s)
    · exact absurd ⟨j, Nat.zero_le _, by omega, by rw [hj, c]; rfl⟩ h
    · rfl
theorem sem73l (I : Nat → Nat → Int32) (J : Nat → Nat → Int64) {v : VT} {q : QT} (wv : wV v) (wq : wQ v q) (hv : cV v I) (hq : cQ (vN v) 21 q I) {m snd pl : Nat} (hm : m < 2 ^ vN v) (hpl : pl < vP v) (hs : snd < 8) : ∀ k t, t + k = 41 → am_sem 73 21 [.ref 1, .int (nI snd), .int (nI pl), .int (nI m), .int (nI t)] [] (am_T L, I, J) = some (some (.int (upF (tgB v q m snd pl) k t)), (am_T L, I, J))
  | 0, t, hk => by
    rw [q73_21, if_pos (by rw [n40 (by omega)]; omega), q73_38]
    rfl
  | k + 1, t, hk => by
    rw [q73_21, if_neg (by rw [n40 (by omega)]; omega)]
    simp only [q73_2, q73_17, q73_3, q73_7, q73_8, q73_10, q73_19, q73_38, q73_24, q73_30, q73_36, q73_34, sem90 L I J wv wq hv hq hs hpl (show t < 900 by omega), ob_s, tl_s, nI_1, tg_iff wv hm]
    rw [upF]
    cases tgB v q m snd pl t
    · simp only [Bool.false_eq_true, if_false]
      exact sem73l I J wv wq hv hq hm hpl hs k (t + 1) (by omega)
    · simp only [if_true]
theorem sem163i (I : Nat → Nat → Int32) (J : Nat → Nat → Int64) {v : VT} {q : QT} (wv : wV v) (wq : wQ v q) (hv : mV v I) (hq : mQ (vN v) q (I 58)) {m snd pl s : Nat} (hm : m < 2 ^ 31) (hpl : pl < vP v) (hs : snd < 8) (ht : s < 900) (n : Int32) : ∀ k p (o : Bool), p + k = vN v → am_sem 163 29 [.ref 54, .int (nI snd), .int (nI pl), .int (nI m), .int n, .int (nI s), .int (bz o), .int (nI p)] [] (am_T L, I, J) = am_sem 163 53 [.ref 54, .int (nI snd), .int (nI pl), .int (nI m), .int n, .int (nI s), .int (bz (o && !anyF (fun p => m.testBit p && !canB v p snd (tB v q p pl s)) p k)), .int (nI (vN v))] [] (am_T L, I, J)
  | 0, p, o, hk => by
    have hn := wv.2.2.1
    rw [q163_29, hv.2.1, if_pos (by rw [n_le (by omega) (by omega)]; omega), show p = vN v by omega, anyF, Bool.not_false, Bool.and_true]
  | k + 1, p, o, hk => by
    have hn := wv.2.2.1
    have hp : p < vN v := by omega
    have hf := far_le wv (qW q p) pl
    have ih := fun o => sem163i I J wv wq hv hq hm hpl hs ht n k (p + 1) o (by omega)
    rw [q163_29, hv.2.1, if_neg (by rw [n_le (by omega) (by omega)]; omega)]
    simp only [q163_2, q163_17, q163_3, q163_6, q163_7, q163_16, q163_19, q163_61, q163_25, q163_33, q163_57, q163_55, q163_49, q163_35, q163_58, q163_50, q163_38, q163_47, q163_39, q163_45, bz_0, sem112 L I J hm (show p < 32 by omega), sem161 L I J wv wq hv hq hp hs hpl ht, ob_s, tl_s, nI_1]
    rw [anyF]
    cases o
    · have := ih false
      simp only [if_true, Bool.false_and] at this ⊢
      exact this
    · cases m.testBit p
      · have := ih true
        simp only [if_true, Bool.true_eq_false, if_false, Bool.true_and, Bool.false_and, Bool.false_or] at this ⊢
        exact this
      · cases canB v p snd (tB v q p pl s)
        · have := ih false
          simp only [if_true, Bool.false_eq_true, Bool.true_eq_false, if_false, Bool.true_and, Bool.false_and, Bool.not_false, Bool.true_or, Bool.not_true] at this ⊢
          exact this
        · have := ih true
          simp only [if_true, Bool.false_eq_true, Bool.true_eq_false, if_false, Bool.true_and, Bool.false_or, Bool.not_true, nm9 (show tB v q p pl s < 2 ^ 31 by unfold tB; omega)] at this ⊢
          exact this
theorem sem163l (I : Nat → Nat → Int32) (J : Nat → Nat → Int64) {v : VT} {q : QT} (wv : wV v) (wq : wQ v q) (hv : mV v I) (hq : mQ (vN v) q (I 58)) {m snd pl : Nat} (hm : m < 2 ^ vN v) (hpl : pl < vP v) (hs : snd < 8) : ∀ k (d e : Value), k ≤ 41 → am_sem 163 23 [.ref 54, .int (nI snd), .int (nI pl), .int (nI m), .int (upF (tgB v q m snd pl) (41 - k) k), .int (nI k - 1), d, e] [] (am_T L, I, J) = some (some (.int (upF (tgB v q m snd pl) 41 0)), (am_T L, I, J))
  | 0, d, e, hk => by
    rw [q163_23, if_pos (by decide), q163_61]
  | k + 1, d, e, hk => by
    have hn := wv.2.2.1
    have hm2 : m < 2 ^ 31 := Nat.lt_of_lt_of_le hm (Nat.pow_le_pow_right (by decide) (by omega))
    have hin := sem163i L I J wv wq hv hq hm2 hpl hs (show k < 900 by omega) (upF (tgB v q m snd pl) (41 - (k + 1)) (k + 1)) (vN v) 0 true (by omega)
    rw [nI_pred, q163_23, if_neg (nI_pos (by omega)), q163_25]
    refine Eq.trans hin ?_
    have hut : upF (tgB v q m snd pl) (41 - k) k = if tgB v q m snd pl k = true then nI k else upF (tgB v q m snd pl) (41 - (k + 1)) (k + 1) := by
      rw [show 41 - k = (41 - (k + 1)) + 1 by omega, upF]
    have ih := fun d e => sem163l I J wv wq hv hq hm hpl hs k d e (by omega)
    rw [hut] at ih
    rw [show (true && !anyF (fun p => m.testBit p && !canB v p snd (tB v q p pl k)) 0 (vN v)) = tgB v q m snd pl k from Bool.true_and _]
    simp only [q163_2, q163_17, q163_3, q163_6, q163_7, q163_16, q163_19, q163_61, q163_25, q163_53, q163_33, q163_57, q163_55, q163_49, q163_35, q163_58, q163_50, q163_38, q163_47, q163_39, q163_45, bz_0]
    cases c : tgB v q m snd pl k
    · simp only [c, Bool.false_eq_true, if_false] at ih
      simp only [if_true]
      rw [show nI k + (-1) = nI k - 1 from (Int32.sub_eq_add_neg _ _).symm ▸ rfl]
      exact ih _ _
    · simp only [c, if_true] at ih
      simp only [Bool.true_eq_false, if_false]
      rw [show nI k + (-1) = nI k - 1 from (Int32.sub_eq_add_neg _ _).symm ▸ rfl]
      exact ih _ _
end OPS
section OPS
variable (L : Nat)
theorem op_together (s pl x : Int32) (d e1 e2 e3 e4 : Value) : Op L 73 163 [.ref 1, .int s, .int pl, .int x, d] [.ref 54, .int s, .int pl, .int x, e1, e2, e3, e4] := Op.ro fun a I J hR => by
  obtain ⟨⟨wv, wl, wq, wx, wi, wj⟩, ⟨cv, cl, cq, cx, ci, cj⟩, ⟨mv, ml, mq, mx, mi, mj⟩, ht⟩ := hR
  have h6 := wv.2.1
  have hn := wv.2.2.1
  simp only [q73_0, q73_2, q73_17, q73_3, q73_7, q73_8, q73_10, q73_19, q73_38, q73_24, q73_30, q73_36, q73_34, q163_0, q163_2, q163_17, q163_3, q163_6, q163_7, q163_16, q163_19, q163_61, q163_25, q163_53, q163_33, q163_57, q163_55, q163_49, q163_35, q163_58, q163_50, q163_38, q163_47, q163_39, q163_45, sem44 L I J (show vP a.1 < 2 ^ 31 by omega) cv.1, sem113 L I J (show vP a.1 < 2 ^ 31 by omega) mv.1, sem82, sem114, sem111, cv.2.1, mv.2.1, bs_1 (show vN a.1 < 31 by omega), ob_s, tl_s, bz_0]
  cases hx : inr s 8
  · exact ⟨_, rfl, rfl⟩
  cases hy : inr pl (vP a.1)
  · exact ⟨_, rfl, rfl⟩
  obtain ⟨s, hs, rfl⟩ := inr_t hx (by decide)
  obtain ⟨pl, hpl, rfl⟩ := inr_t hy (by omega)
  have hpow : 2 ^ vN a.1 ≤ 2 ^ 6 := Nat.pow_le_pow_right (by decide) hn
  have hpos : 0 < 2 ^ vN a.1 := Nat.two_pow_pos _
  obtain ⟨N, hN⟩ : ∃ N, 2 ^ vN a.1 = N + 1 := ⟨2 ^ vN a.1 - 1, by omega⟩
  rw [hN, nI_pred]
  by_cases c1 : x ≤ 0
  · have c2 : decide (1 ≤ x ∧ x ≤ nI N) = false := by
      apply decide_eq_false
      rw [Int32.le_iff_toInt_le] at c1 ⊢
      rw [show (1 : Int32).toInt = 1 from rfl]
      rw [am_i0] at c1
      omega
    simp only [c1, c2, Bool.true_eq_false, if_false, if_true]
    exact ⟨_, rfl, rfl⟩
  · by_cases c3 : x < nI (N + 1)
    · have hx3 : ∃ m, m < N + 1 ∧ x = nI m := inr_t (by
        rw [← inr_lt x (by omega)]
        apply decide_eq_true
        rw [Int32.le_iff_toInt_le] at c1 ⊢
        rw [am_i0] at c1 ⊢
        exact ⟨by omega, c3⟩) (show N + 1 < 2 ^ 31 by omega)
      obtain ⟨m, hm, rfl⟩ := hx3
      have c2 : decide (1 ≤ nI m ∧ nI m ≤ nI N) = true := by
        apply decide_eq_true
        rw [show (1 : Int32) = nI 1 from rfl, n_le (by decide) (by omega), n_le (by omega) (by omega)]
        rw [show (0 : Int32) = nI 0 from rfl, n_le (by omega) (by decide)] at c1
        omega
      have e1 := sem73l L I J wv wq cv cq (m := m) (by omega) hpl hs 41 0 (by omega)
      have e2 : ∀ d e, am_sem 163 23 [.ref 54, .int (nI s), .int (nI pl), .int (nI m), .int (-9), .int 40, d, e] [] (am_T L, I, J) = some (some (.int (upF (tgB a.1 a.2.2.1 m s pl) 41 0)), (am_T L, I, J)) := fun d e => sem163l L I J wv wq mv mq (m := m) (by omega) hpl hs 41 d e (by omega)
      rw [show nI 0 = (0 : Int32) from rfl] at e1
      simp only [c1, c2, c3, Bool.true_eq_false, if_false, if_true]
      exact ⟨_, e1, e2 _ _⟩
    · have c2 : decide (1 ≤ x ∧ x ≤ nI N) = false := by
        apply decide_eq_false
        rw [Int32.lt_iff_toInt_lt, nI_toInt (by omega)] at c3
        rw [Int32.le_iff_toInt_le, Int32.le_iff_toInt_le, nI_toInt (by omega)]
        omega
      simp only [c1, c2, c3, Bool.true_eq_false, if_false, if_true]
      exact ⟨_, rfl, rfl⟩
end OPS
