/-! ===== ops: now ===== -/
section OPS
variable (L : Nat) (I : Nat → Nat → Int32) (J : Nat → Nat → Int64)
theorem sem155 {v : VT} {g : LT} {q : QT} (wv : wV v) (wl : wL v g) (wq : wQ v q) (hv : mV v I) (hl : mL g I) (hq : mQ (vN v) q (I 58)) {k : Nat} (hk : k < qD q) (d : Value) : am_sem 155 0 [.ref 54, .int (nI k), d] [] (am_T L, I, J) = some (some (.int (nI (mk (fB v g (qDL q k) (qDO q k) (qDS q k)) (lN_ g)))), (am_T L, I, J)) := by
  have hD := wq.2.1
  have w5 := wq.2.2.2.2.1 k
  have w6 := wq.2.2.2.2.2.1 k
  have w7 := wq.2.2.2.2.2.2.1 k
  simp only [q155_0, q155_26, m4, c9, nI_1, p2, p3, show 9 + 4 * k + 1 = 10 + 4 * k by omega, show 9 + 4 * k + 2 = 11 + 4 * k by omega, show 9 + 4 * k + 3 = 12 + 4 * k by omega, nc (show 10 + 4 * k < 2 ^ 31 by omega), nc (show 11 + 4 * k < 2 ^ 31 by omega), nc (show 12 + 4 * k < 2 ^ 31 by omega), hq.2.2.2.2.1 k hk, hq.2.2.2.2.2.1 k hk, hq.2.2.2.2.2.2.1 k hk, sem134 L I J wv wl hv hl w7 w5 (show qDS q k < 1000 by omega), ob_s, tl_s]
  rw [am_if_t ⟨n_in (show 12 + 4 * k < 69 by omega) (by decide), n_in (show 10 + 4 * k < 69 by omega) (by decide), n_in (show 11 + 4 * k < 69 by omega) (by decide)⟩]
theorem sem156l {v : VT} {g : LT} {q : QT} (wv : wV v) (wl : wL v g) (wq : wQ v q) (hv : mV v I) (hl : mL g I) (hq : mQ (vN v) q (I 58)) : ∀ m k (P : Nat → Bool), k + m = qD q → am_sem 156 5 [.ref 54, .int (nI (mk P (lN_ g))), .int (nI k)] [] (am_T L, I, J) = some (some (.int (nI (mk (fun i => P i && !anyF (fun k => fB v g (qDL q k) (qDO q k) (qDS q k) i) k m) (lN_ g)))), (am_T L, I, J))
  | 0, k, P, hk => by
    have hD := wq.2.1
    rw [q156_5, hq.2.1, if_pos (by rw [n_le (by omega) (by omega)]; omega), q156_21]
    simp only [anyF, Bool.not_false, Bool.and_true]
  | m + 1, k, P, hk => by
    have h8 := wl.1
    have hD := wq.2.1
    have hkD : k < qD q := by omega
    have ih := sem156l wv wl wq hv hl hq m (k + 1) (fun i => P i && !fB v g (qDL q k) (qDO q k) (qDS q k) i) (by omega)
    rw [q156_5, hq.2.1, if_neg (by rw [n_le (by omega) (by omega)]; omega), q156_11, sem155 L I J wv wl wq hv hl hq hkD]
    simp only [ob_s, tl_s, q156_15, bs_diff _ _ (show lN_ g ≤ 31 by omega), nI_1]
    rw [ih]
    simp only [anyF, Bool.not_or, Bool.and_assoc]
theorem sem156 {v : VT} {g : LT} {q : QT} (wv : wV v) (wl : wL v g) (wq : wQ v q) (hv : mV v I) (hl : mL g I) (hq : mQ (vN v) q (I 58)) (d e : Value) : am_sem 156 0 [.ref 54, d, e] [] (am_T L, I, J) = some (some (.int (nI (mk (duB v g q) (lN_ g)))), (am_T L, I, J)) := by
  rw [q156_0, sem135 L I J wl hl]
  simp only [ob_s, tl_s, q156_2]
  exact sem156l L I J wv wl wq hv hl hq (qD q) 0 _ (by omega)
theorem sem158l {v : VT} {g : LT} {q : QT} (wv : wV v) (wl : wL v g) (wq : wQ v q) (hv : mV v I) (hl : mL g I) (hq : mQ (vN v) q (I 58)) : ∀ m k, k + m = qD q → am_sem 158 4 [.ref 54, .int (nI (mk (liB v g q) k)), .int (nI k)] [] (am_T L, I, J) = some (some (.int (nI (mk (liB v g q) (qD q)))), (am_T L, I, J))
  | 0, k, hk => by
    have hD := wq.2.1
    rw [q158_4, hq.2.1, if_pos (by rw [n_le (by omega) (by omega)]; omega), q158_29, show k = qD q by omega]
  | m + 1, k, hk => by
    have h8 := wl.1
    have hD := wq.2.1
    have hkD : k < qD q := by omega
    have ih := sem158l wv wl wq hv hl hq m (k + 1) (by omega)
    rw [← mk_step _ _ (by omega), liB] at ih
    rw [q158_4, hq.2.1, if_neg (by rw [n_le (by omega) (by omega)]; omega), q158_10, sem155 L I J wv wl wq hv hl hq hkD]
    simp only [ob_s, tl_s, q158_14, sem135 L I J wl hl, q158_16, stl_not wl, q158_20, q158_22, q158_25, nI_1]
    cases c : stl v g (qDL q k) (qDO q k) (qDS q k)
    · simp only [c, Bool.false_eq_true, if_false] at ih
      simp only [if_true]
      exact ih
    · simp only [c, if_true] at ih
      simp only [Bool.true_eq_false, if_false]
      exact ih
theorem sem158 {v : VT} {g : LT} {q : QT} (wv : wV v) (wl : wL v g) (wq : wQ v q) (hv : mV v I) (hl : mL g I) (hq : mQ (vN v) q (I 58)) (d e : Value) : am_sem 158 0 [.ref 54, d, e] [] (am_T L, I, J) = some (some (.int (nI (mk (liB v g q) (qD q)))), (am_T L, I, J)) := by
  rw [q158_0]
  exact sem158l L I J wv wl wq hv hl hq (qD q) 0 (by omega)
/-- p makes the i-th by a deed from a second on -/
def fsB (v : VT) (g : LT) (q : QT) (i p s : Nat) : Bool := anyF (fun t => (mS v g q p s t).testBit i) (qT q) (41 - qT q)
theorem sem157t {v : VT} {g : LT} {q : QT} (wv : wV v) (wl : wL v g) (wq : wQ v q) (hv : mV v I) (hl : mL g I) (hq : mQ (vN v) q (I 58)) {p s : Nat} (hp : p < vN v) (hs : s < 8) : ∀ k t (P : Nat → Bool), k = 41 - t → t ≤ 61 → ∃ t' : Int32, am_sem 157 19 [.ref 54, .int (nI (mk P (lN_ g))), .int (nI p), .int (nI s), .int (nI t)] [] (am_T L, I, J) = am_sem 157 11 [.ref 54, .int (nI (mk (fun i => P i && !anyF (fun t => (mS v g q p s t).testBit i) t k) (lN_ g))), .int (nI p), .int (nI (s + 1)), .int t'] [] (am_T L, I, J)
  | 0, t, P, hk, ht => by
    refine ⟨nI t, ?_⟩
    rw [q157_19, if_pos (by rw [n40 (by omega)]; omega), q157_34, nI_1]
    simp only [anyF, Bool.not_false, Bool.and_true]
  | k + 1, t, P, hk, ht => by
    have h8 := wl.1
    have hm := mS_lt (v := v) (g := g) q wl p s t
    obtain ⟨t', ih⟩ := sem157t wv wl wq hv hl hq hp hs k (t + 1) (fun i => P i && !(mS v g q p s t).testBit i) (by omega) (by omega)
    refine ⟨t', ?_⟩
    rw [q157_19, if_neg (by rw [n40 (by omega)]; omega), q157_22, sem137 L I J wv wl wq hv hl hq hp hs (show t < 1000 by omega)]
    simp only [ob_s, tl_s, q157_28, bs_diff' _ _ (show lN_ g ≤ 31 by omega) (show mS v g q p s t < 2 ^ 31 by omega), nI_1]
    rw [ih]
    simp only [anyF, Bool.not_or, Bool.and_assoc]
theorem sem157s {v : VT} {g : LT} {q : QT} (wv : wV v) (wl : wL v g) (wq : wQ v q) (hv : mV v I) (hl : mL g I) (hq : mQ (vN v) q (I 58)) {p : Nat} (hp : p < vN v) : ∀ k s (P : Nat → Bool) (d : Value), s + k = 8 → ∃ d' e' : Value, am_sem 157 11 [.ref 54, .int (nI (mk P (lN_ g))), .int (nI p), .int (nI s), d] [] (am_T L, I, J) = am_sem 157 5 [.ref 54, .int (nI (mk (fun i => P i && !anyF (fsB v g q i p) s k) (lN_ g))), .int (nI (p + 1)), d', e'] [] (am_T L, I, J)
  | 0, s, P, d, hk => by
    refine ⟨.int (nI s), d, ?_⟩
    rw [q157_11, if_pos (by rw [show (8 : Int32) = nI 8 from rfl, n_le (by decide) (by omega)]; omega), q157_36, nI_1]
    simp only [anyF, Bool.not_false, Bool.and_true]
  | k + 1, s, P, d, hk => by
    have hT := wq.1
    obtain ⟨t', e⟩ := sem157t L I J wv wl wq hv hl hq hp (show s < 8 by omega) (41 - qT q) (qT q) P rfl (by omega)
    obtain ⟨d', e', ih⟩ := sem157s wv wl wq hv hl hq hp k (s + 1) (fun i => P i && !fsB v g q i p s) (.int t') (by omega)
    refine ⟨d', e', ?_⟩
    rw [q157_11, if_neg (by rw [show (8 : Int32) = nI 8 from rfl, n_le (by decide) (by omega)]; omega), q157_14, hq.1, e]
    refine Eq.trans ih ?_
    simp only [anyF, Bool.not_or, Bool.and_assoc]
theorem sem157p {v : VT} {g : LT} {q : QT} (wv : wV v) (wl : wL v g) (wq : wQ v q) (hv : mV v I) (hl : mL g I) (hq : mQ (vN v) q (I 58)) : ∀ k p (P : Nat → Bool) (d e : Value), p + k = vN v → am_sem 157 5 [.ref 54, .int (nI (mk P (lN_ g))), .int (nI p), d, e] [] (am_T L, I, J) = some (some (.int (nI (mk (fun i => P i && !anyF (fun p => anyF (fsB v g q i p) 0 8) p k) (lN_ g)))), (am_T L, I, J))
  | 0, p, P, d, e, hk => by
    have hn := wv.2.2.1
    rw [q157_5, hv.2.1, if_pos (by rw [n_le (by omega) (by omega)]; omega), q157_38]
    simp only [anyF, Bool.not_false, Bool.and_true]
  | k + 1, p, P, d, e, hk => by
    have hn := wv.2.2.1
    obtain ⟨d', e', h⟩ := sem157s L I J wv wl wq hv hl hq (show p < vN v by omega) 8 0 P e (by omega)
    have ih := sem157p wv wl wq hv hl hq k (p + 1) (fun i => P i && !anyF (fsB v g q i p) 0 8) d' e' (by omega)
    rw [q157_5, hv.2.1, if_neg (by rw [n_le (by omega) (by omega)]; omega), q157_9]
    refine Eq.trans h (Eq.trans ih ?_)
    simp only [anyF, Bool.not_or, Bool.and_assoc]
theorem past_eq {v : VT} {g : LT} {q : QT} (wv : wV v) (wl : wL v g) (wq : wQ v q) {i : Nat} (hi : i < lN_ g) : anyF (fun p => anyF (fsB v g q i p) 0 8) 0 (vN v) = !decide (mk (fun p => mB v g q p i && decide (qT q ≤ tM v g q p i)) (vN v) = 0) := by
  rw [Bool.eq_iff_iff, Bool.not_eq_true', decide_eq_false_iff_not, mk_0, anyF_iff]
  have l4 := wl.2.2.2.1 i
  have key : ∀ p, anyF (fsB v g q i p) 0 8 = true ↔ (mB v g q p i && decide (qT q ≤ tM v g q p i)) = true := by
    intro p
    rw [anyF_iff]
    constructor
    · rintro ⟨s, -, hs, h⟩
      rw [fsB, anyF_iff] at h
      obtain ⟨t, h1, h2, h3⟩ := h
      rw [mS_bit] at h3
      simp only [Bool.and_eq_true, decide_eq_true_eq, Bool.not_eq_true', fB] at h3
      obtain ⟨⟨⟨-, a1⟩, a2⟩, a3, a4⟩ := h3
      have e : tM v g q p i = t := a4
      simp only [Bool.and_eq_true, decide_eq_true_eq, mB, e, a3, a1, a2, Bool.not_false]
      exact ⟨⟨trivial, trivial⟩, h1⟩
    · intro h
      simp only [Bool.and_eq_true, decide_eq_true_eq, mB, Bool.not_eq_true'] at h
      obtain ⟨⟨a1, a2⟩, a3⟩ := h
      have hb := wv.2.2.2.2.2.2 p
      have h40 : tM v g q p i ≤ 40 := by
        have := a1
        unfold canB at this
        simp only [Bool.and_eq_true, decide_eq_true_eq] at this
        omega
      refine ⟨lO g i, by omega, by omega, ?_⟩
      rw [fsB, anyF_iff]
      refine ⟨tM v g q p i, a3, by omega, ?_⟩
      rw [mS_bit]
      simp only [Bool.and_eq_true, decide_eq_true_eq, Bool.not_eq_true', fB]
      exact ⟨⟨⟨hi, a1⟩, a2⟩, trivial, rfl⟩
  constructor
  · rintro ⟨p, -, h2, h3⟩ h
    have := h p (by omega)
    rw [(key p).mp h3] at this
    cases this
  · intro h
    apply Classical.byContradiction
    intro hc
    apply h
    intro p hp
    cases c : (mB v g q p i && decide (qT q ≤ tM v g q p i))
    · rfl
    · exact absurd ⟨p, by omega, by omega, (key p).mpr c⟩ hc
theorem sem157 {v : VT} {g : LT} {q : QT} (wv : wV v) (wl : wL v g) (wq : wQ v q) (hv : mV v I) (hl : mL g I) (hq : mQ (vN v) q (I 58)) (d e f h : Value) : am_sem 157 0 [.ref 54, d, e, f, h] [] (am_T L, I, J) = some (some (.int (nI (mk (paB v g q) (lN_ g)))), (am_T L, I, J)) := by
  rw [q157_0, sem156 L I J wv wl wq hv hl hq]
  simp only [ob_s, tl_s, q157_2]
  refine Eq.trans (sem157p L I J wv wl wq hv hl hq (vN v) 0 _ _ _ (by omega)) ?_
  rw [mk_cong (q := paB v g q)]
  intro i hi
  show (duB v g q i && !anyF (fun p => anyF (fsB v g q i p) 0 8) 0 (vN v)) = paB v g q i
  rw [past_eq wv wl wq hi, Bool.not_not]
  rfl
end OPS
theorem op_now (L : Nat) (x : Int32) : Op L 70 159 [.ref 1, .int x] [.ref 54, .int x] := Op.ro fun a I J hR => by
  obtain ⟨⟨wv, wl, wq, wx, wi, wj⟩, ⟨cv, cl, cq, cx, ci, cj⟩, ⟨mv, ml, mq, mx, mi, mj⟩, ht⟩ := hR
  simp only [q70_0, q70_2, q70_5, q70_8, q70_11, q70_4, q70_7, q70_10, q159_0, q159_5, q159_2, q159_11, q159_8, q159_4, q159_17, q159_14, q159_10, q159_18, q159_16, sem101 L I J wv wl wq cv cl cq, sem102 L I J wv wl wq cv cl cq, sem103 L I J wv wl wq cv cl cq, sem156 L I J wv wl wq mv ml mq, sem157 L I J wv wl wq mv ml mq, sem158 L I J wv wl wq mv ml mq, ob_s, tl_s]
  by_cases h0 : x = 0
  · subst h0
    exact ⟨_, rfl, rfl⟩
  by_cases h1 : x = 1
  · subst h1
    exact ⟨_, rfl, rfl⟩
  by_cases h2 : x = 2
  · subst h2
    exact ⟨_, rfl, rfl⟩
  simp only [h0, h1, h2, if_false]
  exact ⟨_, rfl, rfl⟩
