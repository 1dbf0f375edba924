/-! ===== first ===== -/
section OPS
variable (L : Nat) (I : Nat → Nat → Int32) (J : Nat → Nat → Int64)
/-- is there one that, with what is made, makes all -/
theorem sem146l {U : List Nat} {m all made : Nat} (hm : m ≤ 8) (hall : all < 256) (hmade : made < 256) (hU : ∀ c, cw U c < 700000000) (d1 : Value) (ht : ∀ c, c < 256 → I 67 (256 * m + c) = nI (cw U c)) : ∀ k c (b : Bool), c + k = 256 → am_sem 146 12 [.ref 54, d1, .int (nI m), .int (nI made), .int (nI all), .int (bz b), .int (nI c)] [] (am_T L, I, J) = some (some (.int (bz (b || anyF (fun c => decide (c ||| made = all) && decide (0 < cw U c)) c k))), (am_T L, I, J))
  | 0, c, b, hc => by
    have e : c = 256 := by omega
    subst e
    rw [q146_12, if_pos (by decide), q146_37, am_if_t (bz_01 b), anyF, Bool.or_false]
  | k + 1, c, b, hc => by
    have hor : c ||| made < 256 := Nat.or_lt_two_pow (n := 8) (by omega) hmade
    have hix : (256 : Int32) * nI m + nI c = nI (256 * m + c) := by rw [show (256 : Int32) = nI 256 from rfl, pk_mul, nI_add]
    have ih1 := sem146l hm hall hmade hU d1 ht k (c + 1) true (by omega)
    have ih2 := sem146l hm hall hmade hU d1 ht k (c + 1) b (by omega)
    have hcw := hU c
    rw [q146_12, if_neg (by rw [show (256 : Int32) = nI 256 from rfl, n_le (by decide) (by omega)]; omega), q146_15, anyF]
    cases b
    · rw [if_pos (by rfl), q146_17, bs_or, Bool.false_or]
      simp only [n_inj (show c ||| made < 2 ^ 31 by omega) (show all < 2 ^ 31 by omega)]
      by_cases h1 : c ||| made = all
      · rw [if_pos h1, q146_22, hix, am_if_t (n_in (show 256 * m + c < 2304 by omega) (by decide)), nc (show 256 * m + c < 2 ^ 31 by omega), ht c (by omega)]
        simp only [n_pos0 (show cw U c < 2 ^ 31 by omega)]
        by_cases h2 : cw U c = 0
        · rw [if_pos h2, q146_33, q146_34, nI_1]
          rw [show (decide (c ||| made = all) && decide (0 < cw U c)) = false by rw [h2]; simp, Bool.false_or]
          exact ih2
        · rw [if_neg h2, q146_31, q146_34, nI_1]
          rw [show (decide (c ||| made = all) && decide (0 < cw U c)) = true by simp [h1]; omega]
          exact ih1
      · rw [if_neg h1, q146_33, q146_34, nI_1, decide_eq_false h1, Bool.false_and, Bool.false_or]
        exact ih2
    · rw [if_neg (by decide), q146_31, q146_34, nI_1, Bool.true_or]
      rw [Bool.true_or] at ih1
      exact ih1
theorem sem146 {v : VT} {g : LT} {q : QT} (wl : wL v g) {n a m made : Nat} {num cM : Nat → Nat} (hn : n ≤ 48) (ha : a ≤ n) (hnum : ∀ k, k < n → num k < 100000) (hD : isD v g q n num cM) (hl : mL g I) (hk : mK n num cM I) (hm : m ≤ 8) (hmd : dif made (allH g) = 0) (d4 d5 d6 : Value) : ∃ I', am_sem 146 0 [.ref 54, .int (nI a), .int (nI m), .int (nI made), d4, d5, d6] [] (am_T L, I, J) = some (some (.int (bz (decide (0 < RR okT cM a (n - a) m (dif (allH g) made))))), (am_T L, I', J)) ∧ (∀ c, c ≠ 67 → I' c = I c) := by
  have hall := allH_lt wl
  have hmade : made < 256 := by
    apply Nat.lt_pow_two_of_testBit (n := 8)
    intro i hi
    have h1 := congrArg (fun z => z.testBit i) hmd
    simp only [dif_bit, Nat.zero_testBit, Nat.testBit_lt_two_pow (Nat.lt_of_lt_of_le hall (show 2 ^ 8 ≤ 2 ^ i from Nat.pow_le_pow_right (by decide) hi)), Bool.not_false, Bool.and_true] at h1
    exact h1
  obtain ⟨I2, e2, f2, t2⟩ := sem142 L I J (a := a) (ok := okT) hn ha (fun k hk => (isD_c wl hD hk).1) hnum (-9) 0 (fun k hk => ⟨fun _ => Or.inl (nm_9 (by have := hnum k hk; omega)), fun _ => rfl⟩) hk .null .null .null .null
  have hl2 : mL g I2 := mL_of hl (by rw [f2 54 (by decide)]) (f2 57 (by decide))
  refine ⟨I2, ?_, f2⟩
  rw [q146_0, e2]
  simp only [ob_s, tl_n]
  rw [q146_5, sem135 L I2 J wl hl2]
  simp only [ob_s, tl_s]
  rw [q146_7]
  refine Eq.trans (sem146l L I2 J (U := UL okT cM a (n - a) m) hm hall hmade (fun c => cw_31 a (by omega) hm c) (.int (nI a)) (fun c hc => t2 m c hm hc) 256 0 false (by omega)) ?_
  rw [Bool.false_or]
  have e : anyF (fun c => decide (c ||| made = allH g) && decide (0 < cw (UL okT cM a (n - a) m) c)) 0 256 = decide (0 < RR okT cM a (n - a) m (dif (allH g) made)) := by
    rw [Bool.eq_iff_iff, anyF_iff, decide_eq_true_eq, ← UL_goes (ok := okT) a (n - a) m (fun i h1 h2 => (isD_c wl hD (by omega)).2.2) hmd]
    constructor
    · rintro ⟨c, h1, h2, h3⟩
      rw [Bool.and_eq_true, decide_eq_true_eq, decide_eq_true_eq] at h3
      unfold cw at h3
      rw [List.countP_pos_iff] at h3
      obtain ⟨h4, x, hx, h5⟩ := h3
      have h5 := of_decide_eq_true h5
      subst h5
      exact ⟨x, hx, h4⟩
    · rintro ⟨c, h1, h2⟩
      have hc : c < 256 := UL_in (P := fun x => x < 256) (by decide) (fun a b ha hb => Nat.or_lt_two_pow (n := 8) ha hb) a (n - a) m (fun i h1 h2 => (isD_c wl hD (by omega)).1) c h1
      refine ⟨c, Nat.zero_le _, by omega, ?_⟩
      rw [Bool.and_eq_true, decide_eq_true_eq, decide_eq_true_eq]
      refine ⟨h2, ?_⟩
      unfold cw
      rw [List.countP_pos_iff]
      exact ⟨c, h1, decide_eq_true rfl⟩
  rw [e]
/-- the first row, deed by deed -/
theorem sem147l {v : VT} {g : LT} {q : QT} (wl : wL v g) {n F i : Nat} {num cM : Nat → Nat} (hn : n ≤ 48) (hnum : ∀ k, k < n → num k < 100000) (hD : isD v g q n num cM) (hF8 : F ≤ 8) (hi : i < F) : ∀ k made j (d4 : Value) (I : Nat → Nat → Int32), k ≤ n → j ≤ i → Fq okT cM n k (dif (allH g) made) = F - j → dif made (allH g) = 0 → mL g I → mK n num cM I → I 54 27 = nI F → ∃ I', am_sem 147 26 [.ref 54, .int (nI i), .int (nI made), .int (nI (n - k)), d4, .int (nI j)] [] (am_T L, I, J) = some (some (.int (nI (num (Sq okT cM n k (dif (allH g) made) (i - j))))), (am_T L, I', J)) ∧ (∀ c, c ≠ 67 → I' c = I c)
  | 0, made, j, d4, I, hk, hj, hFq, hmd, hl, hK, h27 => by
    rw [Fq] at hFq
    by_cases c : dif (allH g) made = 0
    · rw [if_pos c] at hFq
      omega
    · rw [if_neg c] at hFq
      omega
  | k + 1, made, j, d4, I, hk, hj, hFq, hmd, hl, hK, h27 => by
    have hall := allH_lt wl
    have ha : n - (k + 1) < n := by omega
    have hc := isD_c wl hD ha
    have v64 : vp_in (nI (n - (k + 1))) 64 := n_in (by omega) (by decide)
    have hmd2 : dif (made ||| cM (n - (k + 1))) (allH g) = 0 := by
      apply Nat.eq_of_testBit_eq
      intro b
      have h1 := congrArg (fun z => z.testBit b) hmd
      have h2 := congrArg (fun z => z.testBit b) hc.2.2
      simp only [dif_bit, Nat.zero_testBit] at h1 h2 ⊢
      rw [Nat.testBit_or]
      cases hx : made.testBit b <;> cases hy : (cM (n - (k + 1))).testBit b <;> cases hz : (allH g).testBit b <;> simp_all
    have hdd : dif (allH g) (made ||| cM (n - (k + 1))) = dif (dif (allH g) made) (cM (n - (k + 1))) := by rw [dif_or, dif_c]
    obtain ⟨I1, e1, f1⟩ := sem146 L I J (a := n - (k + 1) + 1) (m := F - j - 1) (made := made ||| cM (n - (k + 1))) wl hn (by omega) hnum hD hl hK (by omega) hmd2 .null .null .null
    rw [show n - (n - (k + 1) + 1) = k by omega, hdd] at e1
    have hon := Cq_on (ok := okT) (cov := cM) (n := n) (k := k) (w := dif (allH g) made) hn hk (by omega) (by omega) rfl
    rw [hFq] at hon
    have hon2 : decide (0 < RR okT cM (n - (k + 1) + 1) k (F - j - 1) (dif (dif (allH g) made) (cM (n - (k + 1))))) = Cq okT cM n (Fq okT cM n k) (n - (k + 1)) (dif (allH g) made) := by
      rw [Bool.eq_iff_iff, decide_eq_true_eq, ← hon, show n - (k + 1) + 1 = n - k by omega]
    rw [hon2] at e1
    have hl1 : mL g I1 := mL_of hl (by rw [f1 54 (by decide)]) (f1 57 (by decide))
    have hK1 : mK n num cM I1 := by
      unfold mK
      rw [f1 54 (by decide), f1 65 (by decide), f1 66 (by decide)]
      exact hK
    have h271 : I1 54 27 = nI F := by rw [f1 54 (by decide), h27]
    have hsub : nI F - nI j - 1 = nI (F - j - 1) := by
      rw [pk_sub (by omega), show (1 : Int32) = nI 1 from rfl, pk_sub (by omega)]
    have e26 : am_sem 147 26 [.ref 54, .int (nI i), .int (nI made), .int (nI (n - (k + 1))), d4, .int (nI j)] [] (am_T L, I, J) = if bz (Cq okT cM n (Fq okT cM n k) (n - (k + 1)) (dif (allH g) made)) = 0 then am_sem 147 44 [.ref 54, .int (nI i), .int (nI made), .int (nI (n - (k + 1))), d4, .int (nI j)] [] (am_T L, I1, J) else am_sem 147 46 [.ref 54, .int (nI i), .int (nI made), .int (nI (n - (k + 1))), d4, .int (nI j)] [] (am_T L, I1, J) := by
      rw [q147_26, am_if_t v64, h27, hsub, nc (show n - (k + 1) < 2 ^ 31 by omega), hK.2.2 _ ha, bs_or, nI_1, e1]
      simp only [ob_s, tl_s]
      rw [q147_43]
    have ek : n - (k + 1) + 1 = n - k := by omega
    rw [Fq] at hFq
    rw [e26, Sq]
    cases hC : Cq okT cM n (Fq okT cM n k) (n - (k + 1)) (dif (allH g) made)
    · rw [hC, if_neg (by decide)] at hFq
      obtain ⟨I', e, f2⟩ := sem147l wl hn hnum hD hF8 hi k made j d4 I1 (by omega) hj hFq hmd hl1 hK1 h271
      refine ⟨I', ?_, fun c hc => (f2 c hc).trans (f1 c hc)⟩
      rw [if_pos (by rfl), q147_44, nI_1, ek, e]
      rfl
    · rw [hC, if_pos rfl] at hFq
      have e46 : am_sem 147 46 [.ref 54, .int (nI i), .int (nI made), .int (nI (n - (k + 1))), d4, .int (nI j)] [] (am_T L, I1, J) = if i < j + 1 then some (some (.int (nI (num (n - (k + 1))))), (am_T L, I1, J)) else am_sem 147 26 [.ref 54, .int (nI i), .int (nI (made ||| cM (n - (k + 1)))), .int (nI (n - k)), .int (nI (num (n - (k + 1)))), .int (nI (j + 1))] [] (am_T L, I1, J) := by
        rw [q147_46, am_if_t ⟨v64, v64⟩, nc (show n - (k + 1) < 2 ^ 31 by omega), hK1.2.2 _ ha, hK1.2.1 _ ha, bs_or, nI_1, nI_1, ek, q147_23]
        simp only [n_lt (show i < 2 ^ 31 by omega) (show j + 1 < 2 ^ 31 by omega), q147_61]
      rw [if_neg (by decide), e46, if_pos rfl]
      by_cases z : i < j + 1
      · rw [if_pos z, if_pos (by omega)]
        exact ⟨I1, rfl, f1⟩
      · obtain ⟨I', e, f2⟩ := sem147l wl hn hnum hD hF8 hi k (made ||| cM (n - (k + 1))) (j + 1) (.int (nI (num (n - (k + 1))))) I1 (by omega) (by omega) (by rw [hdd]; omega) hmd2 hl1 hK1 h271
        rw [hdd] at e
        refine ⟨I', ?_, fun c hc => (f2 c hc).trans (f1 c hc)⟩
        rw [if_neg z, if_neg (by omega), e, show i - j - 1 = i - (j + 1) by omega]
theorem op_first (x : Int32) (d2 d3 d4 d5 : Value) : Op L 63 147 [.ref 1, .int x] [.ref 54, .int x, d2, d3, d4, d5] := fun a I J hR => by
  by_cases hx : 0 ≤ x
  · obtain ⟨I1, J1, n, num, cov, e1, R1, hn, hk, ht, hD, hr⟩ := fnd2 L I J hR
    obtain ⟨⟨wv, wl, wq, wx, wi, wj⟩, ⟨cv, cl, cq, cx, ci, cj⟩, ⟨mv, ml, mq, mx, mi, mj⟩, hT⟩ := id R1
    have hall := allH_lt wl
    have eA := FqA okT cov a.2.1 n
    obtain ⟨F, hF⟩ : ∃ F, F = Fq okT (fun k => Lm a.2.1 (cov k)) n n (allH a.2.1) := ⟨_, rfl⟩
    have h99 : F ≤ 99 := by rw [hF]; exact Fq_99 _ _ _ _ _
    have s19 := sem19 L I1 J1 hr hk ht
    have s20 := sem20 L I1 J1 hr hk ht
    rw [eA, ← hF] at s19 s20
    obtain ⟨I3, e3, f3, k3, t3, h3⟩ := sem143 L I1 J1 wv wl wq hn hk.2.2.2.2.1 hD mv ml mq .null
    rw [← hF] at e3 h3
    have R3 : Rl a I3 J1 := R1.fd (fun c _ h1 h2 h3 h4 => f3.1 c h1 h2 h3 h4) f3.2 (fun _ _ _ => rfl)
    have c9 : am_sem 63 0 [.ref 1, .int x] [] (am_T L, I, J) = if bz (decide (F < 99)) = 0 then am_sem 63 10 [.ref 1, .int x] [] (am_T L, I1, J1) else am_sem 63 12 [.ref 1, .int x] [] (am_T L, I1, J1) := by
      rw [q63_0, if_pos hx, q63_4, e1]
      simp only [ob_s, tl_n]
      rw [q63_6, s19]
      simp only [ob_s, tl_s]
      rw [q63_9]
    have m6 : am_sem 147 0 [.ref 54, .int x, d2, d3, d4, d5] [] (am_T L, I1, J1) = if bz (decide (F < 99)) = 0 then am_sem 147 7 [.ref 54, .int x, d2, d3, d4, d5] [] (am_T L, I3, J1) else am_sem 147 9 [.ref 54, .int x, d2, d3, d4, d5] [] (am_T L, I3, J1) := by
      rw [q147_0, if_pos hx, q147_4, e3]
      simp only [ob_s, tl_s]
      rw [q147_6]
    by_cases c : F < 99
    · rw [if_neg (by rw [decide_eq_true c]; decide)] at c9 m6
      obtain ⟨h8, h27⟩ := h3 c
      have s12 : am_sem 63 12 [.ref 1, .int x] [] (am_T L, I1, J1) = if nI F ≤ x then am_sem 63 22 [.ref 1, .int x] [] (am_T L, I1, J1) else am_sem 63 17 [.ref 1, .int x] [] (am_T L, I1, J1) := by
        rw [q63_12, s20]
        simp only [ob_s, tl_s]
        exact q63_16 L I1 J1 x (nI F) x
      by_cases z : nI F ≤ x
      · refine ⟨some (.int (-5)), I1, J1, I3, J1, a, ?_, ?_, R3⟩
        · rw [c9, s12, if_pos z, q63_22, q63_23]
        · rw [m6, q147_9, h27, if_neg (le_nn z), q147_13]
      · have hlt := nle_n z
        have hin : inr x F = true := by
          unfold inr
          rw [decide_eq_true_eq]
          rw [Int32.le_iff_toInt_le, am_i0] at hx
          rw [Int32.lt_iff_toInt_lt, nI_toInt (by omega)] at hlt
          exact ⟨hx, hlt⟩
        obtain ⟨i, hi, rfl⟩ := inr_t hin (by omega)
        have hcl := R3.2.2.1.2.1
        obtain ⟨I4, e4, f4⟩ := sem147l L J1 wl hn hk.2.2.2.2.1 hD h8 hi n 0 0 (.int (-9)) I3 (Nat.le_refl _) (Nat.zero_le _) (by rw [dif_n, ← hF, Nat.sub_zero]) (dif_0 _) hcl k3 h27
        rw [dif_n, Nat.sub_self, Nat.sub_zero] at e4
        have s22 := sem22 L I1 J1 hn hr hk ht (i := i) (by rw [eA, ← hF]; exact hi) (by rw [eA, ← hF]; exact c) .null .null .null .null
        rw [SqA] at s22
        refine ⟨some (.int (nI (num (Sq okT (fun k => Lm a.2.1 (cov k)) n n (allH a.2.1) i)))), I1, J1, I4, J1, a, ?_, ?_, R3.fd (fun c _ _ _ _ h4 => f4 c h4) (fun j _ _ => by rw [f4 54 (by decide)]) (fun _ _ _ => rfl)⟩
        · rw [c9, s12, if_neg z, q63_17, s22]
          simp only [ob_s, tl_s]
          rw [q63_21, q63_23]
        · have e4 : am_sem 147 26 [.ref 54, .int (nI i), .int 0, .int 0, .int (-9), .int 0] [] (am_T L, I3, J1) = _ := e4
          rw [m6, q147_9, h27, if_pos hlt, q147_15, q147_23, if_neg (nI_pos (by omega))]
          exact e4
    · rw [if_pos (by rw [decide_eq_false c]; rfl)] at c9 m6
      refine ⟨some (.int (-9)), I1, J1, I3, J1, a, ?_, ?_, R3⟩
      · rw [c9, q63_10]
      · rw [m6, q147_7]
  · refine ⟨some (.int (-1)), I, J, I, J, a, ?_, ?_, hR⟩
    · rw [q63_0, if_neg hx, q63_2]
    · rw [q147_0, if_neg hx, q147_2]
end OPS
