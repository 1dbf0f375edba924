/-! ===== odds ===== -/
theorem gcd_st {a b : Nat} : Nat.gcd a b = Nat.gcd b (a % b) := by
  rw [Nat.gcd_comm a b, Nat.gcd_rec b a, Nat.gcd_comm]
theorem rem_half {b r m : Nat} (h0 : 0 < r) (hr : r < b) (hb : b < 2 ^ (m + 1)) : b % r < 2 ^ m := by
  have h1 := Nat.mod_lt b h0
  have h2 := Nat.div_add_mod b r
  have h3 : 1 ≤ b / r := (Nat.le_div_iff_mul_le h0).mpr (by omega)
  have h4 : r * 1 ≤ r * (b / r) := Nat.mul_le_mul_left r h3
  have h5 : 2 ^ (m + 1) = 2 ^ m * 2 := Nat.pow_succ _ _
  omega
theorem and_p2 (m i : Nat) : m &&& 2 ^ i = 0 ↔ m.testBit i = false := by
  constructor
  · intro h
    have := congrArg (fun z => z.testBit i) h
    simpa [Nat.testBit_and, Nat.testBit_two_pow] using this
  · intro h
    apply Nat.eq_of_testBit_eq
    intro j
    rw [Nat.testBit_and, Nat.zero_testBit, Nat.testBit_two_pow]
    by_cases c : i = j
    · subst c
      rw [h]
      rfl
    · rw [decide_eq_false c, Bool.and_false]
theorem lI_cmp0 {n : Nat} (h : n < 2 ^ 31) : (lg_cmp (lI n) 0 = 0) = (n = 0) := propext ((lg_cmp_eq _ _).trans (lN_eq (a := n) (b := 0) h (by decide)))
theorem lI_0 {n : Nat} (h : n < 2 ^ 31) : (lI n = 0) = (n = 0) := propext (lN_eq (a := n) (b := 0) h (by decide))
theorem lI_le0 {n : Nat} (h : n < 2 ^ 31) : (lg_cmp (lI n) 0 ≤ 0) = (n ≤ 0) := propext ((lg_cmp_le _ _).trans (lN_le (a := n) (b := 0) h (by decide)))
section OPS
variable (L : Nat) (I : Nat → Nat → Int32) (J : Nat → Nat → Int64)
theorem sem87l (d0 d1 d2 d3 : Value) : ∀ m x y k (d9 d10 : Value), k + 2 * m ≤ 100 → x < 2 ^ 31 → y < 2 ^ 31 → y < 2 ^ m → am_sem 87 6 [d0, d1, d2, d3, .long (lI x), .null, .long (lI y), .null, .int (nI k), d9, d10] [] (am_T L, I, J) = some (some (.long (lI (Nat.gcd x y))), (am_T L, I, J))
  | 0, x, y, k, d9, d10, hk, hx, hy, hm => by
    have e : y = 0 := by omega
    subst e
    rw [q87_6]
    by_cases c : (100 : Int32) ≤ nI k
    · rw [if_pos c, q87_23, Nat.gcd_zero_right]
    · rw [if_neg c, q87_9, if_pos (by rw [lI_cmp0 (by omega)]), q87_23, Nat.gcd_zero_right]
  | m + 1, x, y, k, d9, d10, hk, hx, hy, hm => by
    have h100 : ∀ k, k < 100 → ¬ (100 : Int32) ≤ nI k := fun k hk => by rw [show (100 : Int32) = nI 100 from rfl, n_le (by decide) (by omega)]; omega
    rw [q87_6, if_neg (h100 k (by omega)), q87_9]
    simp only [lI_cmp0 hy]
    by_cases c : y = 0
    · rw [if_pos c, q87_23, c, Nat.gcd_zero_right]
    · have hr := Nat.mod_lt x (show 0 < y by omega)
      have er : lI x - lI x / lI y * lI y = lI (x % y) := pk_lRem (a := x) (b := y) (by omega) (by omega) (by omega)
      rw [if_neg c, q87_13, am_if_t (by rw [lI_0 hy]; exact c), er, nI_1, q87_6, gcd_st]
      by_cases c2 : x % y = 0
      · rw [c2, Nat.gcd_zero_right]
        by_cases c3 : (100 : Int32) ≤ nI (k + 1)
        · rw [if_pos c3, q87_23]
        · rw [if_neg c3, q87_9, if_pos (by rw [lI_cmp0 (by omega)]), q87_23]
      · have hr2 := rem_half (b := y) (r := x % y) (m := m) (by omega) hr hm
        have hr3 := Nat.mod_lt y (show 0 < x % y by omega)
        have er2 : lI y - lI y / lI (x % y) * lI (x % y) = lI (y % (x % y)) := pk_lRem (a := y) (b := x % y) (by omega) (by omega) (by omega)
        rw [if_neg (h100 (k + 1) (by omega)), q87_9]
        simp only [lI_cmp0 (show x % y < 2 ^ 31 by omega)]
        rw [if_neg c2, q87_13, am_if_t (by rw [lI_0 (by omega)]; exact c2), er2, nI_1, gcd_st]
        exact sem87l d0 d1 d2 d3 m _ _ (k + 1 + 1) _ _ (by omega) (by omega) (by omega) hr2
theorem sem87 {x y : Nat} (hx : x < 2 ^ 31) (hy : y < 2 ^ 31) (d4 d5 d6 d7 d8 d9 d10 : Value) : am_sem 87 0 [.long (lI x), .null, .long (lI y), .null, d4, d5, d6, d7, d8, d9, d10] [] (am_T L, I, J) = some (some (.long (lI (Nat.gcd x y))), (am_T L, I, J)) := by
  rw [q87_0]
  exact sem87l L I J _ _ _ _ 31 x y 0 _ _ (by omega) hx hy hy
theorem sem148g (d0 d1 d2 : Value) (a3 a4 a5 : Int32) : ∀ N x y (d8 : Value), y ≤ N → x < 2 ^ 31 → y < 2 ^ 31 → ∃ d7' d8', am_sem 148 52 [d0, d1, d2, .int a3, .int a4, .int a5, .int (nI x), .int (nI y), d8] [] (am_T L, I, J) = am_sem 148 63 [d0, d1, d2, .int a3, .int a4, .int a5, .int (nI (Nat.gcd x y)), d7', d8'] [] (am_T L, I, J)
  | 0, x, y, d8, hN, hx, hy => by
    have e : y = 0 := by omega
    subst e
    refine ⟨.int (nI 0), d8, ?_⟩
    rw [q148_52, if_pos (by decide), Nat.gcd_zero_right]
  | N + 1, x, y, d8, hN, hx, hy => by
    by_cases c : y = 0
    · subst c
      refine ⟨.int (nI 0), d8, ?_⟩
      rw [q148_52, if_pos (by decide), Nat.gcd_zero_right]
    · have hr := Nat.mod_lt x (show 0 < y by omega)
      obtain ⟨d7', d8', e⟩ := sem148g d0 d1 d2 a3 a4 a5 N y (x % y) (.int (nI (x % y))) (by omega) hy (by omega)
      refine ⟨d7', d8', ?_⟩
      rw [q148_52, if_neg (by rw [n_pos0 hy]; exact c), q148_54, am_if_t (by rw [n_eqc (x := 0) (c := 0) rfl hy (by decide)]; exact c), pk_rem hx (by omega) hy, gcd_st, e]
/-- how many of the fewest sets have his deed -/
theorem sem99 {v : VT} {g : LT} {q : QT} (wv : wV v) (wl : wL v g) (wq : wQ v q) (hv : cV v I) (hl : cL g I) (hq : cQ (vN v) 21 q I) {n : Nat} {num cov : Nat → Nat} (hn : n ≤ 48) (hr : rk g (lN_ g) ≤ 8) (hk : kS n num cov (rk g (lN_ g)) I) (ht : tS okT cov n n (rk g (lN_ g)) I J) {p i F W F1 W1 : Nat} (hp : p < vN v) (hi : i < lN_ g) (hF : F = Fq okT (fun k => Lm g (cov k)) n n (allH g)) (hW : W = Wq okT (fun k => Lm g (cov k)) n n (allH g)) (hF1 : F1 = Fq (fun k => !decide (num k = numO v g q p i)) (fun k => Lm g (cov k)) n n (allH g)) (hW1 : W1 = Wq (fun k => !decide (num k = numO v g q p i)) (fun k => Lm g (cov k)) n n (allH g)) (hle : F1 = F → W1 ≤ W) : ∃ I' J', am_sem 99 0 [.ref 1, .int (nI p), .int (nI i), .null, .null, .null, .null] [] (am_T L, I, J) = some (some (.long (lI (if mB v g q p i = true then (if F1 = F then W - W1 else W) else 0))), (am_T L, I', J')) ∧ (∀ c, c ≠ 51 → I' c = I c) ∧ ∀ c, c ≠ 52 → c ≠ 53 → J' c = J c := by
  have h8 := wl.1
  have hN := wv.2.2.1
  have l4 := wl.2.2.2.1 i
  have htm := tM_le (q := q) wv wl p i
  have s20 := sem20 L I J hr hk ht
  have s21 := sem21 L I J hr hk ht
  rw [FqA, ← hF] at s20
  rw [WqA, ← hW] at s21
  have e0 := sem94 L I J wv wl wq hv hl hq hp hi .null .null
  cases c : mB v g q p i
  · refine ⟨I, J, ?_, fun _ _ => rfl, fun _ _ _ => rfl⟩
    rw [q99_0, e0, c, if_neg (by decide)]
    simp only [ob_s, tl_s]
    rw [q99_4, if_pos rfl, q99_8]
    rfl
  · have hnO : numO v g q p i < 100000 := by
      unfold numO
      omega
    obtain ⟨I1, J1, e1, f1, g1, t1⟩ := sem16 (ok := fun k => !decide (num k = numO v g q p i)) L I J hn hr (-1) (nI (numO v g q p i)) (fun k hkn => by
      have h5 := hk.2.2.2.2.1 k hkn
      rw [n_inj (show num k < 2 ^ 31 by omega) (by omega)]
      constructor
      · intro h
        exact Or.inr (by simpa using h)
      · rintro (h | h)
        · exfalso
          have := congrArg Int32.toInt h
          rw [nI_toInt (by omega), show (-1 : Int32).toInt = -1 from by decide] at this
          omega
        · simp [h]) hk .null .null
    have hk1 := kS_of hk (f1 48 (by decide)) (f1 49 (by decide)) (f1 50 (by decide))
    have s20' := sem20 L I1 J1 hr hk1 t1
    have s21' := sem21 L I1 J1 hr hk1 t1
    rw [FqA, ← hF1] at s20'
    rw [WqA, ← hW1] at s21'
    have h99 : F ≤ 99 := by rw [hF]; exact Fq_99 _ _ _ _ _
    have h991 : F1 ≤ 99 := by rw [hF1]; exact Fq_99 _ _ _ _ _
    refine ⟨I1, J1, ?_, f1, g1⟩
    have e97 : (10000 : Int32) * nI p + 100 * nI (lO g i) + nI (tM v g q p i) = nI (numO v g q p i) := by
      rw [show (10000 : Int32) = nI 10000 from rfl, show (100 : Int32) = nI 100 from rfl, pk_mul, pk_mul, nI_add, nI_add]
      rfl
    rw [q99_0, e0, c, if_pos rfl]
    simp only [ob_s, tl_s]
    rw [q99_4, if_neg (nm_9 (by omega)), q99_10, s20]
    simp only [ob_s, tl_s]
    rw [q99_13, s21]
    simp only [ob_s, tl_s]
    rw [q99_17, at_n L I J (a := 19) (n := 8) rfl (by decide) (show i < 8 by omega), hl.2.2.2.1 i hi]
    simp only [ob_s, tl_s]
    refine Eq.trans (q99_27 L I J (.int (nI p)) (.int (nI i)) (nI (tM v g q p i)) (nI F) (lI W) (nI (lO g i)) (nI p) (-1)) ?_
    rw [q97_0, e97]
    simp only [ob_s, tl_s]
    refine Eq.trans (q99_29 L I J (.int (nI p)) (.int (nI i)) (.int (nI (tM v g q p i))) (nI F) (lI W) (nI (numO v g q p i)) (-1)) ?_
    rw [e1]
    simp only [ob_s, tl_n]
    rw [q99_30, s20']
    simp only [ob_s, tl_s]
    rw [q99_33]
    simp only [n_inj (show F1 < 2 ^ 31 by omega) (show F < 2 ^ 31 by omega)]
    by_cases z : F1 = F
    · rw [if_pos z, if_pos z, q99_35, s21']
      simp only [ob_s, tl_s]
      rw [q99_39, q99_42, show lI W - lI W1 = lI (W - W1) from lN_sub (hle z), if_pos trivial]
    · rw [if_neg z, if_neg z, q99_41, q99_42, if_pos trivial]
theorem op_odds (x y z : Int32) (d4 d5 d6 d7 d8 d9 e4 e5 e6 e7 e8 : Value) : Op L 64 148 [.ref 1, .int x, .int y, .int z, d4, d5, d6, d7, d8, d9] [.ref 54, .int x, .int y, .int z, e4, e5, e6, e7, e8] := fun a I J hR => by
  have hbad : ∀ (c1 : am_sem 64 0 [.ref 1, .int x, .int y, .int z, d4, d5, d6, d7, d8, d9] [] (am_T L, I, J) = am_sem 64 19 [.ref 1, .int x, .int y, .int z, d4, d5, d6, d7, d8, d9] [] (am_T L, I, J)) (c2 : am_sem 148 0 [.ref 54, .int x, .int y, .int z, e4, e5, e6, e7, e8] [] (am_T L, I, J) = am_sem 148 21 [.ref 54, .int x, .int y, .int z, e4, e5, e6, e7, e8] [] (am_T L, I, J)), ∃ (r : Option Value) (I1 : Nat → Nat → Int32) (J1 : Nat → Nat → Int64) (I2 : Nat → Nat → Int32) (J2 : Nat → Nat → Int64) (a2 : AT), am_sem 64 0 [.ref 1, .int x, .int y, .int z, d4, d5, d6, d7, d8, d9] [] (am_T L, I, J) = some (r, (am_T L, I1, J1)) ∧ am_sem 148 0 [.ref 54, .int x, .int y, .int z, e4, e5, e6, e7, e8] [] (am_T L, I1, J1) = some (r, (am_T L, I2, J2)) ∧ Rl a2 I2 J2 := fun c1 c2 => by
    refine ⟨some (.int (-1)), I, J, I, J, a, ?_, ?_, hR⟩
    · rw [c1, q64_19]
    · rw [c2, q148_21]
  obtain ⟨⟨wv, wl, wq, wx, wi, wj⟩, ⟨cv, cl, cq, cx, ci, cj⟩, ⟨mv, ml, mq, mx, mi, mj⟩, hT⟩ := id hR
  have h8 := wl.1
  have hN := wv.2.2.1
  have c4 := sem45 L I J (show vN a.1 < 2 ^ 31 by omega) cv.2.1 x
  have c9 := sem24 L I J (show lN_ a.2.1 < 2 ^ 31 by omega) cl.1 y
  have c18 := sem81n L I J z (m := 1) 1 rfl (by decide)
  have m3 := sem115 L I J (show vN a.1 < 2 ^ 31 by omega) mv.2.1 x
  have m11 : am_sem 111 0 [.int y, .int 0, .int (I 54 4 - 1)] [] (am_T L, I, J) = some (some (.int (bz (inr y (lN_ a.2.1)))), (am_T L, I, J)) := by rw [sem111, ml.1, inr_m1 y (show lN_ a.2.1 < 2 ^ 31 by omega)]
  cases hx : inr x (vN a.1)
  · apply hbad
    · rw [q64_0, c4, hx]
      simp only [ob_s, tl_s]
      rw [q64_4, if_pos (by rfl)]
    · rw [q148_0, m3, hx]
      simp only [ob_s, tl_s]
      rw [q148_3, if_pos (by rfl)]
  have C5 : am_sem 64 0 [.ref 1, .int x, .int y, .int z, d4, d5, d6, d7, d8, d9] [] (am_T L, I, J) = am_sem 64 5 [.ref 1, .int x, .int y, .int z, d4, d5, d6, d7, d8, d9] [] (am_T L, I, J) := by
    rw [q64_0, c4, hx]
    simp only [ob_s, tl_s]
    rw [q64_4, if_neg (by decide)]
  have M4 : am_sem 148 0 [.ref 54, .int x, .int y, .int z, e4, e5, e6, e7, e8] [] (am_T L, I, J) = am_sem 148 4 [.ref 54, .int x, .int y, .int z, e4, e5, e6, e7, e8] [] (am_T L, I, J) := by
    rw [q148_0, m3, hx]
    simp only [ob_s, tl_s]
    rw [q148_3, if_neg (by decide)]
  cases hy : inr y (lN_ a.2.1)
  · apply hbad
    · rw [C5, q64_5, c9, hy]
      simp only [ob_s, tl_s]
      rw [q64_9, if_pos (by rfl)]
    · rw [M4, q148_4, m11, hy]
      simp only [ob_s, tl_s]
      rw [q148_11, if_pos (by rfl)]
  obtain ⟨p, hp, rfl⟩ := inr_t hx (by omega)
  obtain ⟨i, hi, rfl⟩ := inr_t hy (by omega)
  have c14 := sem26 L I J wl cl hi
  have m15 := sem133 L I J wl ml hi
  have C10 : am_sem 64 0 [.ref 1, .int (nI p), .int (nI i), .int z, d4, d5, d6, d7, d8, d9] [] (am_T L, I, J) = am_sem 64 14 [.ref 1, .int (nI p), .int (nI i), .int z, d4, d5, d6, d7, d8, d9] [.int (bz (decide (lH a.2.1 i = 1)))] (am_T L, I, J) := by
    rw [C5, q64_5, c9, hy]
    simp only [ob_s, tl_s]
    rw [q64_9, if_neg (by decide), q64_10, c14]
    rfl
  have M12 : am_sem 148 0 [.ref 54, .int (nI p), .int (nI i), .int z, e4, e5, e6, e7, e8] [] (am_T L, I, J) = am_sem 148 15 [.ref 54, .int (nI p), .int (nI i), .int z, e4, e5, e6, e7, e8] [.int (bz (decide (lH a.2.1 i = 1)))] (am_T L, I, J) := by
    rw [M4, q148_4, m11, hy]
    simp only [ob_s, tl_s]
    rw [q148_11, if_neg (by decide), q148_12, m15]
    rfl
  rcases (Classical.em (lH a.2.1 i = 1)).symm with hh | hh
  · apply hbad
    · rw [C10, decide_eq_false hh, q64_14, if_pos (by rfl)]
    · rw [M12, decide_eq_false hh, q148_15, if_pos (by rfl)]
  rw [decide_eq_true hh] at C10 M12
  cases hz : inr z 2
  · apply hbad
    · rw [C10, q64_14, if_neg (by decide), q64_15, c18, hz]
      simp only [ob_s, tl_s]
      rw [q64_18, if_pos (by rfl)]
    · rw [M12, q148_15, if_neg (by decide), q148_16, sem111n L I J z (m := 1) 1 rfl (by decide), hz]
      simp only [ob_s, tl_s]
      rw [q148_20, if_pos (by rfl)]
  have C21 : am_sem 64 0 [.ref 1, .int (nI p), .int (nI i), .int z, d4, d5, d6, d7, d8, d9] [] (am_T L, I, J) = am_sem 64 21 [.ref 1, .int (nI p), .int (nI i), .int z, d4, d5, d6, d7, d8, d9] [] (am_T L, I, J) := by
    rw [C10, q64_14, if_neg (by decide), q64_15, c18, hz]
    simp only [ob_s, tl_s]
    rw [q64_18, if_neg (by decide)]
  -- the questions again, in the class' last world
  have M23 : ∀ (I : Nat → Nat → Int32) (J : Nat → Nat → Int64), mV a.1 I → mL a.2.1 I → am_sem 148 0 [.ref 54, .int (nI p), .int (nI i), .int z, e4, e5, e6, e7, e8] [] (am_T L, I, J) = am_sem 148 23 [.ref 54, .int (nI p), .int (nI i), .int z, e4, e5, e6, e7, e8] [] (am_T L, I, J) := fun I J mv ml => by
    have m3 := sem115 L I J (show vN a.1 < 2 ^ 31 by omega) mv.2.1 (nI p)
    have m11 : am_sem 111 0 [.int (nI i), .int 0, .int (I 54 4 - 1)] [] (am_T L, I, J) = some (some (.int (bz (inr (nI i) (lN_ a.2.1)))), (am_T L, I, J)) := by rw [sem111, ml.1, inr_m1 (nI i) (show lN_ a.2.1 < 2 ^ 31 by omega)]
    rw [q148_0, m3, hx]
    simp only [ob_s, tl_s]
    rw [q148_3, if_neg (by decide), q148_4, m11, hy]
    simp only [ob_s, tl_s]
    rw [q148_11, if_neg (by decide), q148_12, sem133 L I J wl ml hi, decide_eq_true hh]
    simp only [ob_s, tl_s]
    rw [q148_15, if_neg (by decide), q148_16, sem111n L I J z (m := 1) 1 rfl (by decide), hz]
    simp only [ob_s, tl_s]
    rw [q148_20, if_neg (by decide)]
  obtain ⟨I1, J1, n, num, cov, e1, R1, hn, hk, ht, hD, hr⟩ := fnd2 L I J hR
  obtain ⟨-, ⟨cv1, cl1, cq1, -, -, -⟩, ⟨mv1, ml1, mq1, -, -, -⟩, -⟩ := id R1
  have hall := allH_lt wl
  obtain ⟨F, hF⟩ : ∃ F, F = Fq okT (fun k => Lm a.2.1 (cov k)) n n (allH a.2.1) := ⟨_, rfl⟩
  obtain ⟨W, hW⟩ : ∃ W, W = Wq okT (fun k => Lm a.2.1 (cov k)) n n (allH a.2.1) := ⟨_, rfl⟩
  have h99 : F ≤ 99 := by rw [hF]; exact Fq_99 _ _ _ _ _
  have s19 := sem19 L I1 J1 hr hk ht
  rw [FqA, ← hF] at s19
  have s21 := sem21 L I1 J1 hr hk ht
  rw [WqA, ← hW] at s21
  have C26 : am_sem 64 0 [.ref 1, .int (nI p), .int (nI i), .int z, d4, d5, d6, d7, d8, d9] [] (am_T L, I, J) = if bz (decide (F < 99)) = 0 then am_sem 64 27 [.ref 1, .int (nI p), .int (nI i), .int z, d4, d5, d6, d7, d8, d9] [] (am_T L, I1, J1) else am_sem 64 29 [.ref 1, .int (nI p), .int (nI i), .int z, d4, d5, d6, d7, d8, d9] [] (am_T L, I1, J1) := by
    rw [C21, q64_21, e1]
    simp only [ob_s, tl_n]
    rw [q64_23, s19]
    simp only [ob_s, tl_s]
    rw [q64_26]
  rcases (Classical.em (F < 99)).symm with c | c
  · obtain ⟨I3, e3, f3, k3, t3, h3⟩ := sem143 L I1 J1 wv wl wq hn hk.2.2.2.2.1 hD mv1 ml1 mq1 .null
    rw [← hF] at e3
    refine ⟨some (.int (-9)), I1, J1, I3, J1, a, ?_, ?_, R1.fd (fun c _ h1 h2 h3 h4 => f3.1 c h1 h2 h3 h4) f3.2 (fun _ _ _ => rfl)⟩
    · rw [C26, if_pos (by rw [decide_eq_false c]; rfl), q64_27]
    · rw [M23 I1 J1 mv1 ml1, q148_23, e3]
      simp only [ob_s, tl_s]
      rw [q148_25, if_pos (by rw [decide_eq_false c]; rfl), q148_26]
  rw [if_neg (by rw [decide_eq_true c]; decide)] at C26
  obtain ⟨b1, b2, b3⟩ := Fq_sp okT (fun k => Lm a.2.1 (cov k)) hn n (allH a.2.1) (Nat.le_refl _)
  rw [Nat.sub_self, ← hF, ← hW] at b2
  obtain ⟨b21, b22, b23⟩ := b2 c
  have hF8 : F ≤ 8 := by
    have := Fq_8 okT (fun k => Lm a.2.1 (cov k)) n n (allH a.2.1) hall (by rw [← hF]; exact c)
    have h88 := c8_le (allH a.2.1)
    omega
  have hW31 : W < 700000000 := by
    rw [← b22]
    exact RR_31 _ _ 0 hn hF8 _
  obtain ⟨F1, hF1⟩ : ∃ F1, F1 = Fq (fun k => !decide (num k = numO a.1 a.2.1 a.2.2.1 p i)) (fun k => Lm a.2.1 (cov k)) n n (allH a.2.1) := ⟨_, rfl⟩
  obtain ⟨W1, hW1⟩ : ∃ W1, W1 = Wq (fun k => !decide (num k = numO a.1 a.2.1 a.2.2.1 p i)) (fun k => Lm a.2.1 (cov k)) n n (allH a.2.1) := ⟨_, rfl⟩
  have hat := RR_at (ok := fun k => !decide (num k = numO a.1 a.2.1 a.2.2.1 p i)) (cov := fun k => Lm a.2.1 (cov k)) (w := allH a.2.1) hn (by rw [← hF]; exact c)
  rw [← hF, ← hF1, ← hW1] at hat
  have hmono := RR_mono (ok := okT) (ok' := fun k => !decide (num k = numO a.1 a.2.1 a.2.2.1 p i)) (cov := fun k => Lm a.2.1 (cov k)) (fun _ _ => rfl) 0 n F (allH a.2.1)
  rw [b22] at hmono
  have hle : F1 = F → W1 ≤ W := fun z => by
    rw [hat, if_pos z] at hmono
    exact hmono
  obtain ⟨I2, J2, e2, f2, g2⟩ := sem99 L I1 J1 wv wl wq cv1 cl1 cq1 hn hr hk ht hp hi hF hW hF1 hW1 hle
  obtain ⟨his, hhis⟩ : ∃ his, his = if mB a.1 a.2.1 a.2.2.1 p i = true then (if F1 = F then W - W1 else W) else 0 := ⟨_, rfl⟩
  rw [← hhis] at e2
  have hhisW : his ≤ W := by
    rw [hhis]
    split
    · split
      · exact Nat.sub_le _ _
      · exact Nat.le_refl _
    · exact Nat.zero_le _
  have R2 : Rl a I2 J2 := R1.fd (fun c hc _ _ _ _ => f2 c (by omega)) (fun j _ _ => by rw [f2 54 (by decide)]) g2
  obtain ⟨-, -, ⟨mv2, ml2, mq2, -, -, -⟩, -⟩ := id R2
  obtain ⟨I3, e3, f3, k3, t3, h3⟩ := sem143 L I2 J2 wv wl wq hn hk.2.2.2.2.1 hD mv2 ml2 mq2 .null
  rw [← hF] at e3 h3
  obtain ⟨-, h27⟩ := h3 c
  have R3 : Rl a I3 J2 := R2.fd (fun c _ h1 h2 h3 h4 => f3.1 c h1 h2 h3 h4) f3.2 (fun _ _ _ => rfl)
  have ml3 := R3.2.2.1.2.1
  -- the reference without his deeds for it
  have hnumD : ∀ k, k < n → ∃ p' s' t', p' < vN a.1 ∧ s' < 8 ∧ t' ≤ 40 ∧ num k = 10000 * p' + 100 * s' + t' ∧ num k / 10000 = p' ∧ ∀ b, (Lm a.2.1 (cov k)).testBit b = (decide (b < lN_ a.2.1) && canB a.1 p' s' t' && !stl a.1 a.2.1 (qW a.2.2.1 p') s' t' && fB a.1 a.2.1 (qW a.2.2.1 p') s' t' b) := fun k hkn => by
    obtain ⟨p', s', t', a1, a2, a3, a4, a5, a6⟩ := hD.2.1 k hkn
    refine ⟨p', s', t', a1, a2, a3, a4, by omega, fun b => ?_⟩
    rw [show Lm a.2.1 (cov k) = mS a.1 a.2.1 a.2.2.1 p' s' t' from a5, mS_bit]
  have htm := tM_le (q := a.2.2.1) wv wl p i
  have l4 := wl.2.2.2.1 i
  have hsh : (1 : Int32) <<< (nI i &&& 31) = nI (2 ^ i) := bs_1 (by omega)
  have hmask : ∀ k, nI (Lm a.2.1 (cov k)) &&& nI (2 ^ i) = 0 ↔ (Lm a.2.1 (cov k)).testBit i = false := fun k => by
    have h1 : Lm a.2.1 (cov k) &&& 2 ^ i ≤ 2 ^ i := Nat.and_le_right
    have h2 : 2 ^ i ≤ 2 ^ 8 := Nat.pow_le_pow_right (by decide) (by omega)
    rw [bs_and, n_eqc (x := 0) (c := 0) rfl (by omega) (by decide), and_p2]
  have e144 : ∃ I4, am_sem 144 0 [.ref 54, .int (nI p), .int (nI (2 ^ i))] [] (am_T L, I3, J2) = some (some (.int (nI (W - his))), (am_T L, I4, J2)) ∧ ∀ c, c ≠ 67 → I4 c = I3 c := by
    cases hm : mB a.1 a.2.1 a.2.2.1 p i
    · have hm0 : his = 0 := by rw [hhis, hm, if_neg (by decide)]
      obtain ⟨I4, e4, f4⟩ := sem144 L I3 J2 wl hn hk.2.2.2.2.1 hD ml3 k3 hF8 h27 okT (nI p) (nI (2 ^ i)) (fun k hkn => by
        have h5 := hk.2.2.2.2.1 k hkn
        obtain ⟨p', s', t', a1, a2, a3, a4, a5, a6⟩ := hnumD k hkn
        refine ⟨fun _ => ?_, fun _ => rfl⟩
        rw [hmask, n_inj (by omega) (by omega), a5]
        by_cases z : p' = p
        · refine Or.inr ?_
          rw [a6]
          cases hf : fB a.1 a.2.1 (qW a.2.2.1 p') s' t' i
          · rw [Bool.and_false]
          · unfold fB at hf
            rw [Bool.and_eq_true, decide_eq_true_eq, decide_eq_true_eq] at hf
            unfold mB at hm
            rw [hf.1, show tM a.1 a.2.1 a.2.2.1 p i = t' by unfold tM tB; rw [← z]; exact hf.2, ← z] at hm
            rw [Bool.and_true, Bool.and_assoc, hm, Bool.and_false]
        · exact Or.inl z)
      rw [b22] at e4
      exact ⟨I4, by rw [hm0, Nat.sub_zero]; exact e4, f4⟩
    · have hm0 : his = if F1 = F then W - W1 else W := by rw [hhis, hm, if_pos rfl]
      obtain ⟨I4, e4, f4⟩ := sem144 L I3 J2 wl hn hk.2.2.2.2.1 hD ml3 k3 hF8 h27 (fun k => !decide (num k = numO a.1 a.2.1 a.2.2.1 p i)) (nI p) (nI (2 ^ i)) (fun k hkn => by
        have h5 := hk.2.2.2.2.1 k hkn
        obtain ⟨p', s', t', a1, a2, a3, a4, a5, a6⟩ := hnumD k hkn
        rw [hmask, n_inj (by omega) (by omega), a5, a6, Bool.not_eq_true', decide_eq_false_iff_not]
        unfold mB at hm
        rw [Bool.and_eq_true] at hm
        constructor
        · intro hne
          by_cases z : p' = p
          · refine Or.inr ?_
            cases hf : fB a.1 a.2.1 (qW a.2.2.1 p') s' t' i
            · rw [Bool.and_false]
            · exfalso
              unfold fB at hf
              rw [Bool.and_eq_true, decide_eq_true_eq, decide_eq_true_eq] at hf
              apply hne
              unfold numO
              rw [a4, hf.1, show tM a.1 a.2.1 a.2.2.1 p i = t' by unfold tM tB; rw [← z]; exact hf.2, z]
          · exact Or.inl z
        · rintro hor he
          have hd : p' = p ∧ s' = lO a.2.1 i ∧ t' = tM a.1 a.2.1 a.2.2.1 p i := by
            unfold numO at he
            omega
          obtain ⟨z1, z2, z3⟩ := hd
          rcases hor with hor | hor
          · exact hor z1
          · have hf : fB a.1 a.2.1 (qW a.2.2.1 p) (lO a.2.1 i) (tM a.1 a.2.1 a.2.2.1 p i) i = true := by
              unfold fB tM tB
              simp
            rw [z1, z2, z3, hf, hm.1, hm.2, decide_eq_true hi] at hor
            cases hor)
      rw [hat] at e4
      refine ⟨I4, ?_, f4⟩
      have : W - his = if F1 = F then W1 else 0 := by
        rw [hm0]
        by_cases z : F1 = F
        · rw [if_pos z, if_pos z]
          have := hle z
          omega
        · rw [if_neg z, if_neg z]
          omega
      rw [this]
      exact e4
  obtain ⟨I4, k4, f4⟩ := e144
  have hgp : 0 < Nat.gcd W his := Nat.gcd_pos_of_pos_left _ b23
  have hgl : Nat.gcd W his ≤ W := Nat.gcd_le_left _ b23
  have hix : (256 : Int32) * nI F + nI (allH a.2.1) = nI (256 * F + allH a.2.1) := by rw [show (256 : Int32) = nI 256 from rfl, pk_mul, nI_add]
  obtain ⟨d7', d8', e52⟩ := sem148g L I4 J2 (.ref 54) (.int (nI p)) (.int (nI i)) z (nI W) (nI his) W his W e8 (Nat.le_refl _) (by omega) (by omega)
  rw [Nat.gcd_comm] at e52
  have M63 : am_sem 148 0 [.ref 54, .int (nI p), .int (nI i), .int z, e4, e5, e6, e7, e8] [] (am_T L, I2, J2) = am_sem 148 63 [.ref 54, .int (nI p), .int (nI i), .int z, .int (nI W), .int (nI his), .int (nI (Nat.gcd W his)), d7', d8'] [] (am_T L, I4, J2) := by
    rw [M23 I2 J2 mv2 ml2, q148_23, e3]
    simp only [ob_s, tl_s]
    rw [q148_25, if_neg (by rw [decide_eq_true c]; decide), q148_28, sem135 L I3 J2 wl ml3]
    simp only [ob_s, tl_s]
    rw [h27]
    refine Eq.trans (q148_36 L I3 J2 (nI p) (nI i) z e4 e5 e6 e7 e8 (nI (allH a.2.1)) (256 * nI F)) ?_
    rw [hix, am_if_t (n_in (show 256 * F + allH a.2.1 < 2304 by omega) (by decide)), nc (show 256 * F + allH a.2.1 < 2 ^ 31 by omega), t3 F _ hF8 hall, cw_RR 0 n F (fun i _ h2 => (isD_c wl hD (by omega)).2.2), b22, hsh, k4]
    simp only [ob_s, tl_s]
    refine Eq.trans (q148_46 L I4 J2 (.ref 54) (.int (nI p)) (.int (nI i)) z (nI W) e5 e6 e7 e8 (nI (W - his)) (nI W)) ?_
    rw [pk_sub (Nat.sub_le _ _), show W - (W - his) = his by omega]
    exact e52
  have C46 : am_sem 64 0 [.ref 1, .int (nI p), .int (nI i), .int z, d4, d5, d6, d7, d8, d9] [] (am_T L, I, J) = am_sem 64 46 [.ref 1, .int (nI p), .int (nI i), .int z, .long (lI W), .null, .long (lI his), .null, .long (lI (Nat.gcd W his)), .null] [] (am_T L, I2, J2) := by
    rw [C26, q64_29, s21]
    simp only [ob_s, tl_s]
    rw [q64_32, e2]
    simp only [ob_s, tl_s]
    rw [q64_37, sem87 L I2 J2 (by omega) (by omega)]
    simp only [ob_s, tl_s]
    rw [q64_41, if_neg (by rw [lI_le0 (by omega)]; omega)]
  have hg0 : ¬ lI (Nat.gcd W his) = 0 := by rw [lI_0 (by omega)]; omega
  have hg1 : ¬ nI (Nat.gcd W his) = 0 := by rw [n_eqc (x := 0) (c := 0) rfl (by omega) (by decide)]; omega
  have hdl : ∀ m, m ≤ W → (lI m / lI (Nat.gcd W his)).toInt32 = nI (m / Nat.gcd W his) := fun m hm => by
    rw [show lI m / lI (Nat.gcd W his) = lI (m / Nat.gcd W his) from pk_lDiv (by omega) hgp (by omega)]
    exact lN_i _
  refine ⟨some (.int (nI ((if z = 0 then his else W) / Nat.gcd W his))), I2, J2, I4, J2, a, ?_, ?_, R3.fd (fun c _ _ _ _ h4 => f4 c h4) (fun j _ _ => by rw [f4 54 (by decide)]) (fun _ _ _ => rfl)⟩
  · rw [C46, q64_46]
    by_cases q : z = 0
    · rw [if_pos q, if_pos q, q64_48, q64_51, am_if_t hg0, hdl _ hhisW, q64_56]
    · rw [if_neg q, if_neg q, q64_50, q64_51, am_if_t hg0, hdl _ (Nat.le_refl _), q64_56]
  · rw [M63, q148_63]
    by_cases q : z = 0
    · rw [if_pos q, if_pos q, q148_65, q148_68, am_if_t hg1, pk_div (by omega) hgp (by omega)]
    · rw [if_neg q, if_neg q, q148_67, q148_68, am_if_t hg1, pk_div (by omega) hgp (by omega)]
end OPS
