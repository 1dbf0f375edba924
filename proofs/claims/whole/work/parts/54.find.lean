/-! ===== the class finds its deeds ===== -/
def rk (g : LT) (i : Nat) : Nat := sureL (fun i => decide (lH g i = 1)) i 0 0
theorem rk_s (g : LT) (i : Nat) : rk g (i + 1) = rk g i + if lH g i = 1 then 1 else 0 := by
  unfold rk
  rw [sureL_add, Nat.zero_add, sureL, sureL]
  by_cases h : lH g i = 1 <;> simp [h]
theorem rk_le (g : LT) : ∀ i, rk g i ≤ i
  | 0 => Nat.le_refl _
  | i + 1 => by
    have := rk_le g i
    rw [rk_s]
    split <;> omega
theorem rk_mono (g : LT) (i : Nat) : ∀ k, rk g i ≤ rk g (i + k)
  | 0 => Nat.le_refl _
  | k + 1 => by
    have := rk_mono g i k
    rw [show i + (k + 1) = i + k + 1 by omega, rk_s]
    omega
theorem rk_lt (g : LT) {i j : Nat} (h : i < j) (hi : lH g i = 1) : rk g i < rk g j := by
  have := rk_mono g (i + 1) (j - (i + 1))
  rw [show i + 1 + (j - (i + 1)) = j by omega, rk_s, if_pos hi] at this
  omega
theorem rk_inj (g : LT) {i j : Nat} (hi : lH g i = 1) (hj : lH g j = 1) (h : rk g i = rk g j) : i = j := by
  rcases Nat.lt_trichotomy i j with q | q | q
  · have := rk_lt g q hi
    omega
  · exact q
  · have := rk_lt g q hj
    omega
theorem rk_sur (g : LT) : ∀ n r, r < rk g n → ∃ i, i < n ∧ lH g i = 1 ∧ rk g i = r
  | 0, r, h => absurd h (Nat.not_lt_zero _)
  | n + 1, r, h => by
    rw [rk_s] at h
    by_cases c : lH g n = 1
    · rw [if_pos c] at h
      by_cases q : r = rk g n
      · exact ⟨n, by omega, c, q.symm⟩
      · obtain ⟨i, h1, h2⟩ := rk_sur g n r (by omega)
        exact ⟨i, by omega, h2⟩
    · rw [if_neg c] at h
      obtain ⟨i, h1, h2⟩ := rk_sur g n r h
      exact ⟨i, by omega, h2⟩
def numO (v : VT) (g : LT) (q : QT) (p i : Nat) : Nat := 10000 * p + 100 * lO g i + tM v g q p i
def Sx (v : VT) (g : LT) (q : QT) (i p : Nat) (y r : Nat) : Prop := ∃ i' p', (i' < i ∨ (i' = i ∧ p' < p)) ∧ p' < vN v ∧ lH g i' = 1 ∧ mB v g q p' i' = true ∧ y = numO v g q p' i' ∧ r = rk g i'
theorem IN_of {n : Nat} {num cov : Nat → Nat} {S S' : Nat → Nat → Prop} (h : IN n num cov S) (e : ∀ y r, S y r ↔ S' y r) : IN n num cov S' := by
  obtain ⟨h1, h2, h3⟩ := h
  exact ⟨h1, fun y => (h2 y).trans ⟨fun ⟨r, hr⟩ => ⟨r, (e y r).mp hr⟩, fun ⟨r, hr⟩ => ⟨r, (e y r).mpr hr⟩⟩, fun k hk r => (h3 k hk r).trans (e _ r)⟩
section OPS
variable (L : Nat) (I : Nat → Nat → Int32) (J : Nat → Nat → Int64)
theorem sem96p {v : VT} {g : LT} {q : QT} (wv : wV v) (wl : wL v g) (wq : wQ v q) {i : Nat} (hi : i < lN_ g) (hh : lH g i = 1) (hg : rk g i < 8) : ∀ m p n num cov (I : Nat → Nat → Int32) (d4 : Value), p + m = vN v → n ≤ 6 * i + p → cV v I → cL g I → cQ (vN v) 21 q I → kS n num cov (rk g i + 1) I → IN n num cov (Sx v g q i p) → ∃ I' n' num' cov' d3' d4', am_sem 96 23 [.ref 1, .int (nI i), .int (nI (2 ^ rk g i)), .int (nI p), d4] [] (am_T L, I, J) = am_sem 96 52 [.ref 1, .int (nI i), .int (nI (2 ^ rk g i)), d3', d4'] [] (am_T L, I', J) ∧ (∀ c, c ≠ 48 → c ≠ 49 → c ≠ 50 → I' c = I c) ∧ n' ≤ 6 * i + vN v ∧ kS n' num' cov' (rk g i + 1) I' ∧ IN n' num' cov' (Sx v g q i (vN v))
  | 0, p, n, num, cov, I, d4, hp, hn, hv, hl, hq, hk, hI => by
    have hN := wv.2.2.1
    have e : p = vN v := by omega
    subst e
    refine ⟨I, n, num, cov, .int (nI (vN v)), d4, ?_, fun _ _ _ _ => rfl, hn, hk, hI⟩
    rw [q96_23, hv.2.1, if_pos (by rw [n_le (by omega) (by omega)]; omega)]
  | m + 1, p, n, num, cov, I, d4, hp, hn, hv, hl, hq, hk, hI => by
    have hN := wv.2.2.1
    have h8 := wl.1
    have hpN : p < vN v := by omega
    have hpow : 2 ^ rk g i < 256 := Nat.lt_of_le_of_lt (Nat.pow_le_pow_right (by decide) (show rk g i ≤ 7 by omega)) (by decide)
    have hpos : 0 < 2 ^ rk g i := Nat.two_pow_pos _
    have l4 := wl.2.2.2.1 i
    have ht := tM_le (q := q) wv wl p i
    have e0 : am_sem 96 23 [.ref 1, .int (nI i), .int (nI (2 ^ rk g i)), .int (nI p), d4] [] (am_T L, I, J) = am_sem 96 34 [.ref 1, .int (nI i), .int (nI (2 ^ rk g i)), .int (nI p), d4] [.int (if mB v g q p i = true then nI (tM v g q p i) else -9)] (am_T L, I, J) := by
      rw [q96_23, hv.2.1, if_neg (by rw [n_le (by omega) (by omega)]; omega), q96_28, if_neg (by rw [show (0 : Int32) = nI 0 from rfl, n_inj (by omega) (by decide)]; omega), q96_30, sem94 L I J wv wl wq hv hl hq hpN hi]
      rfl
    cases c : mB v g q p i
    · have hS : ∀ y r, Sx v g q i p y r ↔ Sx v g q i (p + 1) y r := fun y r => by
        constructor
        · rintro ⟨i', p', h1, h2⟩
          exact ⟨i', p', by omega, h2⟩
        · rintro ⟨i', p', h1, h2, h3, h4, h5⟩
          refine ⟨i', p', ?_, h2, h3, h4, h5⟩
          rcases h1 with h1 | ⟨h1, h1'⟩
          · exact Or.inl h1
          · by_cases z : p' = p
            · rw [z, h1, c] at h4
              cases h4
            · exact Or.inr ⟨h1, by omega⟩
      obtain ⟨I', n', num', cov', d3', d4', e, r⟩ := sem96p wv wl wq hi hh hg m (p + 1) n num cov I (.int (-9)) (by omega) (by omega) hv hl hq hk (IN_of hI hS)
      refine ⟨I', n', num', cov', d3', d4', ?_, r⟩
      rw [e0, c, if_neg (by decide), q96_34, if_pos rfl, q96_50, nI_1, e]
    · have hx : numO v g q p i < 100000 := by
        unfold numO
        omega
      obtain ⟨I1, n1, num1, cov1, e1, f1, b1, k1, i1⟩ := sem15 L I J (by omega) hk hI hx hg .null .null
      have hS : ∀ y r, (Sx v g q i p y r ∨ (y = numO v g q p i ∧ r = rk g i)) ↔ Sx v g q i (p + 1) y r := fun y r => by
        constructor
        · rintro (⟨i', p', h1, h2⟩ | ⟨h1, h2⟩)
          · exact ⟨i', p', by omega, h2⟩
          · exact ⟨i, p, by omega, hpN, hh, c, h1, h2⟩
        · rintro ⟨i', p', h1, h2, h3, h4, h5⟩
          rcases h1 with h1 | ⟨h1, h1'⟩
          · exact Or.inl ⟨i', p', Or.inl h1, h2, h3, h4, h5⟩
          · by_cases z : p' = p
            · subst z
              subst h1
              exact Or.inr h5
            · exact Or.inl ⟨i', p', Or.inr ⟨h1, by omega⟩, h2, h3, h4, h5⟩
      obtain ⟨I', n', num', cov', d3', d4', e, g1, r⟩ := sem96p wv wl wq hi hh hg m (p + 1) n1 num1 cov1 I1 (.int (nI (tM v g q p i))) (by omega) (by omega) (cV_of hv fun k h1 h2 => f1 k (by omega) (by omega) (by omega)) (cL_of hl fun k h1 h2 => f1 k (by omega) (by omega) (by omega)) (cQ_of hq fun k h1 h2 => f1 k (by omega) (by omega) (by omega)) k1 (IN_of i1 hS)
      refine ⟨I', n', num', cov', d3', d4', ?_, fun c h1 h2 h3 => (g1 c h1 h2 h3).trans (f1 c h1 h2 h3), r⟩
      have e97 : (10000 : Int32) * nI p + 100 * nI (lO g i) + nI (tM v g q p i) = nI (numO v g q p i) := by
        rw [show (10000 : Int32) = nI 10000 from rfl, show (100 : Int32) = nI 100 from rfl, pk_mul, pk_mul, nI_add, nI_add]
        rfl
      rw [e0, c, if_pos rfl, q96_34, if_neg (by rw [nm9 (by omega)]; exact id), q96_38, at_n L I J (a := 19) (n := 8) rfl (by decide) (show i < 8 by omega), hl.2.2.2.1 i hi]
      simp only [ob_s, tl_s, q96_46, q97_0, q96_48, e97, e1, tl_n]
      rw [q96_50, nI_1, e]
theorem sem96i {v : VT} {g : LT} {q : QT} (wv : wV v) (wl : wL v g) (wq : wQ v q) : ∀ m i n num cov (I : Nat → Nat → Int32) (d2 d3 d4 : Value), i + m = lN_ g → n ≤ 6 * i → cV v I → cL g I → cQ (vN v) 21 q I → kS n num cov (rk g i) I → IN n num cov (Sx v g q i 0) → ∃ I' n' num' cov' d1' d2' d3' d4', am_sem 96 5 [.ref 1, .int (nI i), d2, d3, d4] [] (am_T L, I, J) = am_sem 96 54 [.ref 1, d1', d2', d3', d4'] [] (am_T L, I', J) ∧ (∀ c, c ≠ 48 → c ≠ 49 → c ≠ 50 → I' c = I c) ∧ n' ≤ 6 * lN_ g ∧ kS n' num' cov' (rk g (lN_ g)) I' ∧ IN n' num' cov' (Sx v g q (lN_ g) 0)
  | 0, i, n, num, cov, I, d2, d3, d4, hi, hn, hv, hl, hq, hk, hI => by
    have h8 := wl.1
    have e : i = lN_ g := by omega
    subst e
    refine ⟨I, n, num, cov, .int (nI (lN_ g)), d2, d3, d4, ?_, fun _ _ _ _ => rfl, hn, hk, hI⟩
    rw [q96_5, hl.1, if_pos (by rw [n_le (by omega) (by omega)]; omega)]
  | m + 1, i, n, num, cov, I, d2, d3, d4, hi, hn, hv, hl, hq, hk, hI => by
    have h8 := wl.1
    have hN := wv.2.2.1
    have hiN : i < lN_ g := by omega
    have hr := rk_le g i
    have hrg : rk g i < 8 := by omega
    have hpow : 2 ^ rk g i ≤ 2 ^ 7 := Nat.pow_le_pow_right (by decide) (by omega)
    have hpos : 0 < 2 ^ rk g i := Nat.two_pow_pos _
    have hps : 2 ^ (rk g i + 1) = 2 ^ rk g i * 2 := Nat.pow_succ _ _
    rw [q96_5, hl.1, if_neg (by rw [n_le (by omega) (by omega)]; omega), q96_10, sem26 L I J wl hl hiN]
    simp only [ob_s, tl_s, q96_14, bz_0]
    by_cases c : lH g i = 1
    · rw [decide_eq_true c, if_neg (by decide), q96_15]
      obtain ⟨I1, hI1⟩ : ∃ I1, I1 = am_u I 48 1 (nI (2 ^ (rk g i + 1) - 1)) := ⟨_, rfl⟩
      have e14 : am_sem 14 0 [.ref 48, .null] [] (am_T L, I, J) = some (some (.int (nI (2 ^ rk g i))), (am_T L, I1, J)) := by
        have e1 : nI (2 ^ rk g i - 1) + 1 = nI (2 ^ rk g i) := by rw [nI_1, show 2 ^ rk g i - 1 + 1 = 2 ^ rk g i by omega]
        rw [q14_0, hk.2.1, e1, nI_add, if_pos (by rw [show (256 : Int32) = nI 256 from rfl, n_lt (by omega) (by decide)]; omega), q14_13, hk.2.1, nI_add, show 2 ^ rk g i - 1 + 2 ^ rk g i = 2 ^ (rk g i + 1) - 1 by omega, hI1]
      have f1 : ∀ c, c ≠ 48 → I1 c = I c := fun c hc => by rw [hI1, am_u_n _ _ _ hc]
      have k1 : kS n num cov (rk g i + 1) I1 := by
        refine ⟨?_, ?_, ?_, ?_, hk.2.2.2.2.1, hk.2.2.2.2.2⟩
        · rw [hI1, am_u_j (by decide)]
          exact hk.1
        · rw [hI1, am_u_x]
        · rw [f1 49 (by decide)]
          exact hk.2.2.1
        · rw [f1 50 (by decide)]
          exact hk.2.2.2.1
      have hv1 := cV_of hv fun k h1 h2 => f1 k (by omega)
      have hl1 := cL_of hl fun k h1 h2 => f1 k (by omega)
      have hq1 := cQ_of hq fun k h1 h2 => f1 k (by omega)
      obtain ⟨I2, n2, num2, cov2, d3', d4', e2, f2, b2, k2, i2⟩ := sem96p L J wv wl wq hiN c hrg (vN v) 0 n num cov I1 d4 (by omega) (by omega) hv1 hl1 hq1 k1 hI
      have f2' : ∀ c, c ≠ 48 → c ≠ 49 → c ≠ 50 → I2 c = I c := fun c h1 h2 h3 => (f2 c h1 h2 h3).trans (f1 c h1)
      have hS : ∀ y r, Sx v g q i (vN v) y r ↔ Sx v g q (i + 1) 0 y r := fun y r => by
        constructor
        · rintro ⟨i', p', h1, h2⟩
          exact ⟨i', p', by omega, h2⟩
        · rintro ⟨i', p', h1, h2, h3⟩
          exact ⟨i', p', by omega, h2, h3⟩
      have kk : kS n2 num2 cov2 (rk g (i + 1)) I2 := by
        rw [rk_s, if_pos c]
        exact k2
      obtain ⟨I', n', num', cov', d1', d2', d3', d4', e, g1, r⟩ := sem96i wv wl wq m (i + 1) n2 num2 cov2 I2 (.int (nI (2 ^ rk g i))) d3' d4' (by omega) (by omega) (cV_of hv fun k h1 h2 => f2' k (by omega) (by omega) (by omega)) (cL_of hl fun k h1 h2 => f2' k (by omega) (by omega) (by omega)) (cQ_of hq fun k h1 h2 => f2' k (by omega) (by omega) (by omega)) kk (IN_of i2 hS)
      refine ⟨I', n', num', cov', d1', d2', d3', d4', ?_, fun c h1 h2 h3 => (g1 c h1 h2 h3).trans (f2' c h1 h2 h3), r⟩
      have e2 : am_sem 96 23 [.ref 1, .int (nI i), .int (nI (2 ^ rk g i)), .int 0, d4] [] (am_T L, I1, J) = _ := e2
      rw [e14]
      simp only [ob_s, tl_s, q96_18, q96_20]
      rw [e2, q96_52, nI_1, e]
    · rw [decide_eq_false c, if_pos rfl, q96_19, q96_20]
      have hS : ∀ y r, Sx v g q i 0 y r ↔ Sx v g q (i + 1) 0 y r := fun y r => by
        constructor
        · rintro ⟨i', p', h1, h2⟩
          exact ⟨i', p', by omega, h2⟩
        · rintro ⟨i', p', h1, h2, h3, h4⟩
          refine ⟨i', p', ?_, h2, h3, h4⟩
          by_cases z : i' = i
          · subst z
            exact absurd h3 c
          · omega
      have kk : kS n num cov (rk g (i + 1)) I := by
        rw [rk_s, if_neg c]
        exact hk
      obtain ⟨I', n', num', cov', d1', d2', d3', d4', e, g1, r⟩ := sem96i wv wl wq m (i + 1) n num cov I (.int 0) (.int 0) d4 (by omega) (by omega) hv hl hq kk (IN_of hI hS)
      refine ⟨I', n', num', cov', d1', d2', d3', d4', ?_, g1, r⟩
      have e52 : am_sem 96 52 [.ref 1, .int (nI i), .int 0, .int 0, d4] [] (am_T L, I, J) = am_sem 96 5 [.ref 1, .int (nI (i + 1)), .int 0, .int 0, d4] [] (am_T L, I, J) := by
        rw [q96_52, nI_1]
      rw [q96_23, q96_28, if_pos rfl, e52, ite_self]
      exact e
theorem sem96 {v : VT} {g : LT} {q : QT} (wv : wV v) (wl : wL v g) (wq : wQ v q) (hv : cV v I) (hl : cL g I) (hq : cQ (vN v) 21 q I) (d1 d2 d3 d4 : Value) : ∃ I' J' n num cov, am_sem 96 0 [.ref 1, d1, d2, d3, d4] [] (am_T L, I, J) = some (none, (am_T L, I', J')) ∧ (∀ c, (c < 48 ∨ 51 < c) → I' c = I c) ∧ (∀ c, c ≠ 52 → c ≠ 53 → J' c = J c) ∧ n ≤ 48 ∧ kS n num cov (rk g (lN_ g)) I' ∧ IN n num cov (Sx v g q (lN_ g) 0) ∧ tS (fun _ => true) cov n n (rk g (lN_ g)) I' J' := by
  have h8 := wl.1
  have hr := rk_le g (lN_ g)
  obtain ⟨I1, hI1⟩ : ∃ I1, I1 = am_u (am_u I 48 0 0) 48 1 0 := ⟨_, rfl⟩
  have f1 : ∀ c, c ≠ 48 → I1 c = I c := fun c hc => by rw [hI1, am_u_n _ _ _ hc, am_u_n _ _ _ hc]
  have k1 : kS 0 (fun _ => 0) (fun _ => 0) (rk g 0) I1 := ⟨by rw [hI1, am_u_j (by decide), am_u_x]; rfl, by rw [hI1, am_u_x]; rfl, fun k hk => absurd hk (Nat.not_lt_zero _), fun k hk => absurd hk (Nat.not_lt_zero _), fun k hk => absurd hk (Nat.not_lt_zero _), fun k hk => absurd hk (Nat.not_lt_zero _)⟩
  have i1 : IN 0 (fun _ => 0) (fun _ => 0) (Sx v g q 0 0) := by
    refine ⟨fun i j _ h => absurd h (Nat.not_lt_zero _), fun y => ⟨fun ⟨k, hk, _⟩ => absurd hk (Nat.not_lt_zero _), fun ⟨r, i', p', h, _⟩ => ?_⟩, fun k hk => absurd hk (Nat.not_lt_zero _)⟩
    omega
  obtain ⟨I2, n, num, cov, d1', d2', d3', d4', e2, f2, b2, k2, i2⟩ := sem96i L J wv wl wq (lN_ g) 0 0 _ _ I1 d2 d3 d4 (by omega) (Nat.zero_le _) (cV_of hv fun k h1 h2 => f1 k (by omega)) (cL_of hl fun k h1 h2 => f1 k (by omega)) (cQ_of hq fun k h1 h2 => f1 k (by omega)) k1 i1
  have hn : n ≤ 48 := by omega
  obtain ⟨I3, J3, e3, f3, g3, t3⟩ := sem16 (ok := fun _ => true) L I2 J hn (show rk g (lN_ g) ≤ 8 by omega) (-1) (-1) (fun k hk => by
    have hnum := k2.2.2.2.2.1 k hk
    constructor
    · intro h
      cases h
    · intro h
      exfalso
      rcases h with h | h
      · have := congrArg Int32.toInt h
        rw [nI_toInt (by omega), show (-1 : Int32).toInt = -1 from by decide] at this
        omega
      · have := congrArg Int32.toInt h
        rw [nI_toInt (by omega), show (-1 : Int32).toInt = -1 from by decide] at this
        omega) k2 .null .null
  refine ⟨I3, J3, n, num, cov, ?_, fun c hc => ?_, g3, hn, kS_of k2 (f3 48 (by decide)) (f3 49 (by decide)) (f3 50 (by decide)), i2, t3⟩
  · have e2 : am_sem 96 5 [.ref 1, .int 0, d2, d3, d4] [] (am_T L, I1, J) = _ := e2
    rw [q96_0, q13_0]
    simp only [ob_s, tl_n, q96_3]
    rw [← hI1, e2, q96_54, e3]
    simp only [ob_s, tl_n, q96_59]
  · rw [f3 c (by omega), f2 c (by omega) (by omega) (by omega), f1 c (by omega)]
end OPS
/-- ranks to the log -/
def Lm (g : LT) (w : Nat) : Nat := mk (fun i => decide (lH g i = 1) && w.testBit (rk g i)) (lN_ g)
theorem Lm_bit (g : LT) (w i : Nat) : (Lm g w).testBit i = (decide (i < lN_ g) && (decide (lH g i = 1) && w.testBit (rk g i))) := mk_bit _ _ _
theorem Lm_dif (g : LT) (w c : Nat) : Lm g (dif w c) = dif (Lm g w) (Lm g c) := by
  apply Nat.eq_of_testBit_eq
  intro i
  rw [Lm_bit, dif_bit, dif_bit, Lm_bit, Lm_bit]
  generalize decide (i < lN_ g) = a
  generalize decide (lH g i = 1) = b
  generalize w.testBit (rk g i) = e
  generalize c.testBit (rk g i) = f
  cases a <;> cases b <;> cases e <;> cases f <;> rfl
theorem Lm_0 (g : LT) {w : Nat} (hw : w < 2 ^ rk g (lN_ g)) : Lm g w = 0 ↔ w = 0 := by
  constructor
  · intro h
    apply Nat.eq_of_testBit_eq
    intro r
    rw [Nat.zero_testBit]
    cases hb : w.testBit r
    · rfl
    · have hr : r < rk g (lN_ g) := by
        apply Classical.byContradiction
        intro q
        rw [Nat.testBit_lt_two_pow (Nat.lt_of_lt_of_le hw (Nat.pow_le_pow_right (by decide) (by omega)))] at hb
        cases hb
      obtain ⟨i, h1, h2, h3⟩ := rk_sur g _ r hr
      have := Lm_bit g w i
      rw [h, Nat.zero_testBit, decide_eq_true h1, decide_eq_true h2, h3, hb] at this
      cases this
  · intro h
    subst h
    apply Nat.eq_of_testBit_eq
    intro i
    rw [Lm_bit, Nat.zero_testBit, Nat.zero_testBit, Bool.and_false, Bool.and_false]
theorem Lm_all (g : LT) : Lm g (2 ^ rk g (lN_ g) - 1) = mk (fun i => decide (lH g i = 1)) (lN_ g) := by
  apply mk_cong
  intro i hi
  show (decide (lH g i = 1) && (2 ^ rk g (lN_ g) - 1).testBit (rk g i)) = decide (lH g i = 1)
  by_cases c : lH g i = 1
  · rw [Nat.testBit_two_pow_sub_one, decide_eq_true (rk_lt g hi c), Bool.and_true]
  · rw [decide_eq_false c]
    rfl
section LM
variable (ok : Nat → Bool) (cov : Nat → Nat) (g : LT) (n : Nat)
theorem Fq_Lm : ∀ k w, w < 2 ^ rk g (lN_ g) → Fq ok cov n k w = Fq ok (fun k => Lm g (cov k)) n k (Lm g w)
  | 0, w, hw => by
    rw [Fq, Fq]
    by_cases c : w = 0
    · rw [if_pos c, if_pos ((Lm_0 g hw).mpr c)]
    · rw [if_neg c, if_neg (fun h => c ((Lm_0 g hw).mp h))]
  | k + 1, w, hw => by
    have h1 := Fq_Lm k w hw
    have h2 := Fq_Lm k (dif w (cov (n - (k + 1)))) (dif_lt _ hw)
    rw [Lm_dif] at h2
    rw [Fq, Fq]
    unfold Cq
    rw [h1, h2]
theorem Cq_Lm (k : Nat) {w : Nat} (hw : w < 2 ^ rk g (lN_ g)) (j : Nat) : Cq ok cov n (Fq ok cov n k) j w = Cq ok (fun k => Lm g (cov k)) n (Fq ok (fun k => Lm g (cov k)) n k) j (Lm g w) := by
  unfold Cq
  rw [Fq_Lm ok cov g n k w hw, Fq_Lm ok cov g n k (dif w (cov j)) (dif_lt _ hw), Lm_dif]
theorem Wq_Lm : ∀ k w, w < 2 ^ rk g (lN_ g) → Wq ok cov n k w = Wq ok (fun k => Lm g (cov k)) n k (Lm g w)
  | 0, w, hw => by
    rw [Wq, Wq]
    by_cases c : w = 0
    · rw [if_pos c, if_pos ((Lm_0 g hw).mpr c)]
    · rw [if_neg c, if_neg (fun h => c ((Lm_0 g hw).mp h))]
  | k + 1, w, hw => by
    have h1 := Wq_Lm k w hw
    have h2 := Wq_Lm k (dif w (cov (n - (k + 1)))) (dif_lt _ hw)
    have h3 := Fq_Lm ok cov g n k w hw
    have h4 := Fq_Lm ok cov g n k (dif w (cov (n - (k + 1)))) (dif_lt _ hw)
    rw [Lm_dif] at h2 h4
    rw [Wq, Wq, Cq_Lm ok cov g n k hw, h1, h2, h3, h4]
theorem Sq_Lm : ∀ k w i, w < 2 ^ rk g (lN_ g) → Sq ok cov n k w i = Sq ok (fun k => Lm g (cov k)) n k (Lm g w) i
  | 0, w, i, hw => rfl
  | k + 1, w, i, hw => by
    have h1 := Sq_Lm k w i hw
    have h2 := Sq_Lm k (dif w (cov (n - (k + 1)))) (i - 1) (dif_lt _ hw)
    rw [Lm_dif] at h2
    rw [Sq, Sq, Cq_Lm ok cov g n k hw, h1, h2]
end LM
/-- the deeds by their numbers: what each makes of the log -/
def isD (v : VT) (g : LT) (q : QT) (n : Nat) (num cM : Nat → Nat) : Prop := (∀ i j, i < j → j < n → num i < num j) ∧ (∀ k, k < n → ∃ p s t, p < vN v ∧ s < 8 ∧ t ≤ 40 ∧ num k = 10000 * p + 100 * s + t ∧ cM k = mS v g q p s t ∧ mS v g q p s t ≠ 0) ∧ ∀ p s t, p < vN v → s < 8 → t ≤ 40 → mS v g q p s t ≠ 0 → ∃ k, k < n ∧ num k = 10000 * p + 100 * s + t
theorem mS_ne {v : VT} {g : LT} {q : QT} {p s t : Nat} (h : mS v g q p s t ≠ 0) : ∃ i, i < lN_ g ∧ lH g i = 1 ∧ lO g i = s ∧ tM v g q p i = t ∧ canB v p s t = true ∧ stl v g (qW q p) s t = false := by
  have hex : ∃ i, (mS v g q p s t).testBit i = true := by
    apply Classical.byContradiction
    intro hn
    apply h
    apply Nat.eq_of_testBit_eq
    intro i
    rw [Nat.zero_testBit]
    cases hb : (mS v g q p s t).testBit i
    · rfl
    · exact absurd ⟨i, hb⟩ hn
  obtain ⟨i, hi⟩ := hex
  rw [mS_bit] at hi
  simp only [Bool.and_eq_true, decide_eq_true_eq, Bool.not_eq_true', fB] at hi
  obtain ⟨⟨⟨h1, h2⟩, h3⟩, h4, h5⟩ := hi
  refine ⟨i, h1, ?_, h4, h5, h2, h3⟩
  apply Classical.byContradiction
  intro hn
  have : stl v g (qW q p) s t = true := (stl_iff v g (qW q p) s t).mpr ⟨i, h1, hn, by simp [fB, h4, h5]⟩
  rw [this] at h3
  cases h3
theorem isD_of {v : VT} {g : LT} {q : QT} {n : Nat} {num cov : Nat → Nat} (wv : wV v) (wl : wL v g) (h : IN n num cov (Sx v g q (lN_ g) 0)) : isD v g q n num (fun k => Lm g (cov k)) := by
  obtain ⟨h1, h2, h3⟩ := h
  have hdec : ∀ {p s t p' s' t' : Nat}, s < 8 → s' < 8 → t < 100 → t' < 100 → 10000 * p + 100 * s + t = 10000 * p' + 100 * s' + t' → p = p' ∧ s = s' ∧ t = t' := fun {p s t p' s' t'} a b c d e => by omega
  refine ⟨h1, fun k hk => ?_, fun p s t hp hs ht hm => ?_⟩
  · obtain ⟨r, i, p, hi, hp, hh, hm, hy, hr⟩ := (h2 (num k)).mp ⟨k, hk, rfl⟩
    have hiN : i < lN_ g := by omega
    have l4 := wl.2.2.2.1 i
    have htm := tM_le (q := q) wv wl p i
    have hmm := hm
    unfold mB at hmm
    rw [Bool.and_eq_true, Bool.not_eq_true'] at hmm
    obtain ⟨m1, m2⟩ := hmm
    have hb := wv.2.2.2.2.2.2 p
    have h40 : tM v g q p i ≤ 40 := by
      have := m1
      unfold canB at this
      simp only [Bool.and_eq_true, decide_eq_true_eq] at this
      omega
    have hbit : ∀ j, (Lm g (cov k)).testBit j = (mS v g q p (lO g i) (tM v g q p i)).testBit j := fun j => by
      rw [Lm_bit, mS_bit, m1, m2, Bool.and_true, Bool.not_false, Bool.and_true, Bool.eq_iff_iff]
      simp only [Bool.and_eq_true, decide_eq_true_eq]
      constructor
      · rintro ⟨a1, a2, a3⟩
        obtain ⟨i', p', -, b2, b3, b4, b5, b6⟩ := (h3 k hk _).mp a3
        have := rk_inj g a2 b3 b6
        subst this
        have := hdec (wl.2.2.2.1 j) l4 (by have := tM_le (q := q) wv wl p' j; omega) (by omega) (b5.symm.trans hy)
        obtain ⟨c1, c2, c3⟩ := this
        subst c1
        refine ⟨a1, ?_⟩
        unfold fB
        rw [Bool.and_eq_true, decide_eq_true_eq, decide_eq_true_eq]
        exact ⟨c2, c3⟩
      · rintro ⟨a1, a2⟩
        have a3 := a2
        unfold fB at a2
        rw [Bool.and_eq_true, decide_eq_true_eq, decide_eq_true_eq] at a2
        have hj : lH g j = 1 := by
          apply Classical.byContradiction
          intro hn
          have : stl v g (qW q p) (lO g i) (tM v g q p i) = true := (stl_iff _ _ _ _ _).mpr ⟨j, a1, hn, a3⟩
          rw [this] at m2
          cases m2
        refine ⟨a1, hj, (h3 k hk _).mpr ⟨j, p, Or.inl a1, hp, hj, ?_, ?_, rfl⟩⟩
        · unfold mB
          have e : tM v g q p j = tM v g q p i := a2.2
          rw [e, a2.1, m1, m2]
          rfl
        · have e : tM v g q p j = tM v g q p i := a2.2
          rw [hy]
          unfold numO
          rw [e, a2.1]
    refine ⟨p, lO g i, tM v g q p i, hp, l4, h40, hy, Nat.eq_of_testBit_eq hbit, ?_⟩
    intro h0
    have := hbit i
    rw [h0, Nat.zero_testBit, Lm_bit, decide_eq_true hiN, decide_eq_true hh] at this
    have h4 := (h3 k hk (rk g i)).mpr ⟨i, p, hi, hp, hh, hm, hy, rfl⟩
    rw [h4] at this
    cases this
  · obtain ⟨i, a1, a2, a3, a4, a5, a6⟩ := mS_ne hm
    refine (h2 _).mpr ⟨rk g i, i, p, Or.inl a1, hp, a2, ?_, ?_, rfl⟩
    · unfold mB
      rw [a3, a4, a5, a6]
      rfl
    · unfold numO
      rw [a3, a4]
