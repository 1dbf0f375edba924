/-! ===== deeds ===== -/
theorem Rl.fd {a : AT} {I I' : Nat → Nat → Int32} {J J' : Nat → Nat → Int64} (h : Rl a I J) (e : ∀ c, (c < 48 ∨ 51 < c) → c ≠ 54 → c ≠ 65 → c ≠ 66 → c ≠ 67 → I' c = I c) (e4 : ∀ j, j ≠ 23 → j ≠ 27 → I' 54 j = I 54 j) (ej : ∀ c, c ≠ 52 → c ≠ 53 → J' c = J c) : Rl a I' J' := by
  obtain ⟨w, ⟨cv, cl, cq, cx, ci, cj⟩, ⟨mv, ml, mq, mx, mi, mj⟩, ht⟩ := h
  have e0 : ∀ c, c < 48 → I' c = I c := fun c hc => e c (Or.inl hc) (by omega) (by omega) (by omega) (by omega)
  have e1 : ∀ c, 54 < c → c < 65 → I' c = I c := fun c h1 h2 => e c (Or.inr (by omega)) (by omega) (by omega) (by omega) (by omega)
  refine ⟨w, ⟨cV_of cv fun k h1 h2 => e0 k (by omega), cL_of cl fun k h1 h2 => e0 k (by omega), cQ_of cq fun k h1 h2 => e0 k (by omega), cX_of cx (by rw [e0 2 (by decide)]) (e0 9 (by decide)), cI_of ci fun k h1 h2 => e0 k (by omega), cI_of cj fun k h1 h2 => e0 k (by omega)⟩, ⟨mV_of mv (e4 0 (by decide) (by decide)) (e4 2 (by decide) (by decide)) (e1 55 (by decide) (by decide)) (e1 56 (by decide) (by decide)), mL_of ml (e4 4 (by decide) (by decide)) (e1 57 (by decide) (by decide)), ?_, mX_of mx (e4 11 (by decide) (by decide)) (e1 61 (by decide) (by decide)), mI_of mi (e1 60 (by decide) (by decide)) (e1 59 (by decide) (by decide)), mI_of mj (e1 60 (by decide) (by decide)) (e1 59 (by decide) (by decide))⟩, ?_⟩
  · rw [e1 58 (by decide) (by decide)]
    exact mq
  · rw [ej 1 (by decide) (by decide), ej 54 (by decide) (by decide)]
    exact ht
section LM
variable (ok : Nat → Bool) (cov : Nat → Nat) (g : LT) (n : Nat)
theorem FqA : Fq ok cov n n (2 ^ rk g (lN_ g) - 1) = Fq ok (fun k => Lm g (cov k)) n n (allH g) := by
  have := Nat.two_pow_pos (rk g (lN_ g))
  rw [Fq_Lm ok cov g n n _ (by omega), Lm_all]
  rfl
theorem WqA : Wq ok cov n n (2 ^ rk g (lN_ g) - 1) = Wq ok (fun k => Lm g (cov k)) n n (allH g) := by
  have := Nat.two_pow_pos (rk g (lN_ g))
  rw [Wq_Lm ok cov g n n _ (by omega), Lm_all]
  rfl
theorem SqA (i : Nat) : Sq ok cov n n (2 ^ rk g (lN_ g) - 1) i = Sq ok (fun k => Lm g (cov k)) n n (allH g) i := by
  have := Nat.two_pow_pos (rk g (lN_ g))
  rw [Sq_Lm ok cov g n n _ i (by omega), Lm_all]
  rfl
end LM
section OPS
variable (L : Nat) (I : Nat → Nat → Int32) (J : Nat → Nat → Int64)
/-- both have found their deeds -/
theorem fnd2 {a : AT} (hR : Rl a I J) : ∃ (I1 : Nat → Nat → Int32) (J1 : Nat → Nat → Int64) (n : Nat) (num cov : Nat → Nat), am_sem 96 0 [.ref 1, .null, .null, .null, .null] [] (am_T L, I, J) = some (none, (am_T L, I1, J1)) ∧ Rl a I1 J1 ∧ n ≤ 48 ∧ kS n num cov (rk a.2.1 (lN_ a.2.1)) I1 ∧ tS okT cov n n (rk a.2.1 (lN_ a.2.1)) I1 J1 ∧ isD a.1 a.2.1 a.2.2.1 n num (fun k => Lm a.2.1 (cov k)) ∧ rk a.2.1 (lN_ a.2.1) ≤ 8 := by
  obtain ⟨⟨wv, wl, wq, wx, wi, wj⟩, ⟨cv, cl, cq, cx, ci, cj⟩, ⟨mv, ml, mq, mx, mi, mj⟩, ht⟩ := id hR
  obtain ⟨I1, J1, n, num, cov, e, f, g, h1, h2, h3, h4⟩ := sem96 L I J wv wl wq cv cl cq .null .null .null .null
  have h8 := wl.1
  have hr := rk_le a.2.1 (lN_ a.2.1)
  exact ⟨I1, J1, n, num, cov, e, hR.fd (fun c hc _ _ _ _ => f c hc) (fun j _ _ => by rw [f 54 (by omega)]) g, h1, h2, h4, isD_of wv wl h3, by omega⟩
theorem sem98l {v : VT} (wv : wV v) {n g F : Nat} {num cov : Nat → Nat} (hn : n ≤ 48) (hg : g ≤ 8) (hF : F ≤ 99) : ∀ m p (I : Nat → Nat → Int32) (J : Nat → Nat → Int64), p + m = vN v → cV v I → kS n num cov g I → ∃ I' J', am_sem 98 8 [.ref 1, .int (nI F), .int (nI (mk (fun p => !decide (Fq (fun k => !decide (num k / 10000 = p)) cov n n (2 ^ g - 1) = F)) p)), .int (nI p)] [] (am_T L, I, J) = some (some (.int (nI (mk (fun p => !decide (Fq (fun k => !decide (num k / 10000 = p)) cov n n (2 ^ g - 1) = F)) (vN v)))), (am_T L, I', J')) ∧ (∀ c, c ≠ 51 → I' c = I c) ∧ ∀ c, c ≠ 52 → c ≠ 53 → J' c = J c
  | 0, p, I, J, hp, hv, hk => by
    have hN := wv.2.2.1
    have e : p = vN v := by omega
    subst e
    refine ⟨I, J, ?_, fun _ _ => rfl, fun _ _ _ => rfl⟩
    rw [q98_8, hv.2.1, if_pos (by rw [n_le (by omega) (by omega)]; omega), q98_31]
  | m + 1, p, I, J, hp, hv, hk => by
    have hN := wv.2.2.1
    obtain ⟨I1, J1, e1, f1, g1, t1⟩ := sem16 (ok := fun k => !decide (num k / 10000 = p)) L I J hn hg (nI p) (-1) (fun k hkn => by
      have h5 := hk.2.2.2.2.1 k hkn
      rw [n_inj (by omega) (by omega)]
      constructor
      · intro h
        exact Or.inl (by simpa using h)
      · rintro (h | h)
        · simp [h]
        · exfalso
          have := congrArg Int32.toInt h
          rw [nI_toInt (by omega), show (-1 : Int32).toInt = -1 from by decide] at this
          omega) hk .null .null
    have hk1 := kS_of hk (f1 48 (by decide)) (f1 49 (by decide)) (f1 50 (by decide))
    have h99 := Fq_99 (fun k => !decide (num k / 10000 = p)) cov n n (2 ^ g - 1)
    obtain ⟨I', J', e, f2, g2⟩ := sem98l wv hn hg hF m (p + 1) I1 J1 (by omega) (cV_of hv fun k h1 h2 => f1 k (by omega)) hk1
    refine ⟨I', J', ?_, fun c hc => (f2 c hc).trans (f1 c hc), fun c h1 h2 => (g2 c h1 h2).trans (g1 c h1 h2)⟩
    rw [← mk_step _ _ (by omega)] at e
    rw [q98_8, hv.2.1, if_neg (by rw [n_le (by omega) (by omega)]; omega), q98_13, e1]
    simp only [ob_s, tl_n]
    rw [q98_18, sem20 L I1 J1 hg hk1 t1]
    simp only [ob_s, tl_s]
    rw [q98_21]
    simp only [n_inj (show Fq (fun k => !decide (num k / 10000 = p)) cov n n (2 ^ g - 1) < 2 ^ 31 by omega) (show F < 2 ^ 31 by omega)]
    by_cases c : Fq (fun k => !decide (num k / 10000 = p)) cov n n (2 ^ g - 1) = F
    · rw [if_neg (by simp [c]), show (0 : Int32) = nI 0 from rfl, bs_or, Nat.or_zero] at e
      rw [if_pos c, q98_29, nI_1, e]
    · rw [if_pos (by simp [c])] at e
      rw [if_neg c, q98_23, q98_29, nI_1, e]
theorem sem145l {v : VT} {g : LT} {q : QT} (wv : wV v) (wl : wL v g) {n : Nat} {num cM : Nat → Nat} (hn : n ≤ 48) (hnum : ∀ k, k < n → num k < 100000) (hD : isD v g q n num cM) (h99 : Fq okT cM n n (allH g) < 99) (h8 : Fq okT cM n n (allH g) ≤ 8) (d1 : Value) : ∀ m p (I : Nat → Nat → Int32), p + m = vN v → mV v I → mL g I → mK n num cM I → I 54 27 = nI (Fq okT cM n n (allH g)) → ∃ I', am_sem 145 35 [.ref 54, d1, .int (nI (mk (fun p => !decide (Fq (fun k => !decide (num k / 10000 = p)) cM n n (allH g) = Fq okT cM n n (allH g))) p)), .int (nI p)] [] (am_T L, I, J) = some (some (.int (nI (mk (fun p => !decide (Fq (fun k => !decide (num k / 10000 = p)) cM n n (allH g) = Fq okT cM n n (allH g))) (vN v)))), (am_T L, I', J)) ∧ (∀ c, c ≠ 67 → I' c = I c)
  | 0, p, I, hp, hv, hl, hk, h27 => by
    have hN := wv.2.2.1
    have e : p = vN v := by omega
    subst e
    refine ⟨I, ?_, fun _ _ => rfl⟩
    rw [q145_35, hv.2.1, if_pos (by rw [n_le (by omega) (by omega)]; omega), q145_54]
  | m + 1, p, I, hp, hv, hl, hk, h27 => by
    have hN := wv.2.2.1
    obtain ⟨I1, e1, f1⟩ := sem144 L I J wl hn hnum hD hl hk h8 h27 (fun k => !decide (num k / 10000 = p)) (nI p) 255 (fun k hkn => by
      have h5 := hnum k hkn
      obtain ⟨c1, c2, c3⟩ := isD_c wl hD hkn
      have hc : ¬ nI (cM k) &&& 255 = 0 := by
        rw [show (255 : Int32) = nI 255 from rfl, bs_and, show cM k &&& 255 = cM k from (Nat.and_two_pow_sub_one_eq_mod (cM k) 8).trans (Nat.mod_eq_of_lt c1), show (0 : Int32) = nI 0 from rfl, n_inj (by omega) (by decide)]
        exact c2
      rw [n_inj (by omega) (by omega)]
      constructor
      · intro h
        exact Or.inl (by simpa using h)
      · rintro (h | h)
        · simp [h]
        · exact absurd h hc)
    rw [RR_at hn h99] at e1
    obtain ⟨b1, b2, b3⟩ := Fq_sp (fun k => !decide (num k / 10000 = p)) cM hn n (allH g) (Nat.le_refl _)
    rw [Nat.sub_self] at b2
    have hk1 : mK n num cM I1 := by
      unfold mK
      rw [f1 54 (by decide), f1 65 (by decide), f1 66 (by decide)]
      exact hk
    obtain ⟨I', e, f2⟩ := sem145l wv wl hn hnum hD h99 h8 d1 m (p + 1) I1 (by omega) (mV_of hv (by rw [f1 54 (by decide)]) (by rw [f1 54 (by decide)]) (f1 55 (by decide)) (f1 56 (by decide))) (mL_of hl (by rw [f1 54 (by decide)]) (f1 57 (by decide))) hk1 (by rw [f1 54 (by decide)]; exact h27)
    refine ⟨I', ?_, fun c hc => (f2 c hc).trans (f1 c hc)⟩
    rw [← mk_step _ _ (by omega)] at e
    rw [q145_35, hv.2.1, if_neg (by rw [n_le (by omega) (by omega)]; omega), q145_39, e1]
    simp only [ob_s, tl_s]
    have e44 := fun s0 s1 => q145_44 L I1 J d1 (.int (nI (mk (fun p => !decide (Fq (fun k => !decide (num k / 10000 = p)) cM n n (allH g) = Fq okT cM n n (allH g))) p))) (nI p) s0 s1
    refine Eq.trans (e44 _ _) ?_
    by_cases c : Fq (fun k => !decide (num k / 10000 = p)) cM n n (allH g) = Fq okT cM n n (allH g)
    · have hW := b2 (by omega)
      have h31 := RR_31 (fun k => !decide (num k / 10000 = p)) cM 0 hn h8 (allH g)
      rw [← c, hW.2.1] at h31
      rw [if_neg (by simp [c]), show (0 : Int32) = nI 0 from rfl] at e
      rw [if_pos c, if_neg (by rw [n_eqc (x := 0) (c := 0) rfl (by omega) (by decide)]; omega), q145_49, q145_50, nI_1]
      exact e
    · rw [if_pos (by simp [c])] at e
      rw [if_neg c, if_pos (by rfl), q145_45, q145_50, nI_1]
      exact e
theorem op_deeds (x : Int32) (d e : Value) : Op L 62 145 [.ref 1, .int x] [.ref 54, .int x, d, e] := fun a I J hR => by
  obtain ⟨I1, J1, n, num, cov, e1, R1, hn, hk, ht, hD, hr⟩ := fnd2 L I J hR
  obtain ⟨⟨wv, wl, wq, wx, wi, wj⟩, ⟨cv, cl, cq, cx, ci, cj⟩, ⟨mv, ml, mq, mx, mi, mj⟩, hT⟩ := id R1
  have hall := allH_lt wl
  have hN := wv.2.2.1
  cases hx : inr x 3
  · refine ⟨some (.int (-1)), I, J, I, J, a, ?_, ?_, hR⟩
    · rw [q62_0, sem81n L I J x (m := 2) 2 rfl (by decide), hx]
      simp only [ob_s, tl_s]
      rw [q62_3, if_pos (by rfl), q62_4]
    · rw [q145_0, sem111n L I J x (m := 2) 2 rfl (by decide), hx]
      simp only [ob_s, tl_s]
      rw [q145_4, if_pos (by rfl), q145_5]
  · have eA := FqA okT cov a.2.1 n
    obtain ⟨F, hF⟩ : ∃ F, F = Fq okT (fun k => Lm a.2.1 (cov k)) n n (allH a.2.1) := ⟨_, rfl⟩
    have h99 : F ≤ 99 := by rw [hF]; exact Fq_99 _ _ _ _ _
    have s19 := sem19 L I1 J1 hr hk ht
    have s20 := sem20 L I1 J1 hr hk ht
    have s21 := sem21 L I1 J1 hr hk ht
    rw [eA, ← hF] at s19 s20
    rw [WqA okT cov a.2.1 n] at s21
    have c11 : am_sem 62 0 [.ref 1, .int x] [] (am_T L, I, J) = if bz (decide (F < 99)) = 0 then am_sem 62 12 [.ref 1, .int x] [] (am_T L, I1, J1) else am_sem 62 14 [.ref 1, .int x] [] (am_T L, I1, J1) := by
      rw [q62_0, sem81n L I J x (m := 2) 2 rfl (by decide), hx]
      simp only [ob_s, tl_s]
      rw [q62_3, if_neg (by decide), q62_6, e1]
      simp only [ob_s, tl_n]
      rw [q62_8, s19]
      simp only [ob_s, tl_s]
      rw [q62_11]
    by_cases c : F < 99
    · rw [if_neg (by rw [decide_eq_true c]; decide)] at c11
      -- the reference behind any world of the class
      have mod : ∀ (I2 : Nat → Nat → Int32) (J2 : Nat → Nat → Int64), Rl a I2 J2 → ∃ I3, am_sem 145 0 [.ref 54, .int x, d, e] [] (am_T L, I2, J2) = am_sem 145 12 [.ref 54, .int x, d, e] [] (am_T L, I3, J2) ∧ Rl a I3 J2 ∧ mK n num (fun k => Lm a.2.1 (cov k)) I3 ∧ tW (UL okT (fun k => Lm a.2.1 (cov k)) 0 n) I3 ∧ F ≤ 8 ∧ I3 54 27 = nI F := fun I2 J2 R2 => by
        obtain ⟨-, -, ⟨mv, ml, mq, mx, mi, mj⟩, -⟩ := id R2
        obtain ⟨I3, e3, f3, k3, t3, h3⟩ := sem143 L I2 J2 wv wl wq hn hk.2.2.2.2.1 hD mv ml mq .null
        rw [← hF] at e3 h3
        refine ⟨I3, ?_, R2.fd (fun c _ h1 h2 h3 h4 => f3.1 c h1 h2 h3 h4) f3.2 (fun _ _ _ => rfl), k3, t3, h3 c⟩
        rw [q145_0, sem111n L I2 J2 x (m := 2) 2 rfl (by decide), hx]
        simp only [ob_s, tl_s]
        rw [q145_4, if_neg (by decide), q145_7, e3]
        simp only [ob_s, tl_s]
        rw [q145_9, if_neg (by rw [decide_eq_true c]; decide)]
      obtain ⟨w, hw, rfl⟩ := inr_t hx (by decide)
      obtain ⟨a1, a2, a3⟩ := Fq_sp okT (fun k => Lm a.2.1 (cov k)) hn n (allH a.2.1) (Nat.le_refl _)
      rw [Nat.sub_self, ← hF] at a2
      obtain ⟨b1, b2, b3⟩ := a2 c
      rcases (show w = 0 ∨ w = 1 ∨ w = 2 by omega) with rfl | rfl | rfl
      · obtain ⟨I3, m1, R3, k3, t3, h8, h27⟩ := mod I1 J1 R1
        refine ⟨some (.int (nI F)), I1, J1, I3, J1, a, ?_, ?_, R3⟩
        · rw [c11, q62_14, if_pos (by rfl), q62_16, s20]
          simp only [ob_s, tl_s]
          rw [q62_19]
        · rw [m1, q145_12, if_neg (by decide), q145_15, if_pos (by rfl), q145_17, q145_30, h27]
      · obtain ⟨I3, m1, R3, k3, t3, h8, h27⟩ := mod I1 J1 R1
        have ml3 := R3.2.2.1.2.1
        refine ⟨some (.int (nI (Wq okT (fun k => Lm a.2.1 (cov k)) n n (allH a.2.1)))), I1, J1, I3, J1, a, ?_, ?_, R3⟩
        · rw [c11, q62_14, if_neg (by decide), q62_20, if_pos (by rfl), q62_23, s21]
          simp only [ob_s, tl_s]
          rw [q62_26, q62_30]
          rw [show (lI (Wq okT (fun k => Lm a.2.1 (cov k)) n n (allH a.2.1))).toInt32 = nI (Wq okT (fun k => Lm a.2.1 (cov k)) n n (allH a.2.1)) from lN_i _]
        · have hix : (256 : Int32) * nI F + nI (allH a.2.1) = nI (256 * F + allH a.2.1) := by rw [show (256 : Int32) = nI 256 from rfl, pk_mul, nI_add]
          rw [m1, q145_12, if_neg (by decide), q145_15, if_neg (by decide), q145_20, sem135 L I3 J1 wl ml3]
          simp only [ob_s, tl_s]
          rw [h27]
          refine Eq.trans (q145_28 L I3 J1 (.ref 54) (.int (nI 1)) d e (nI (allH a.2.1)) (256 * nI F)) ?_
          rw [hix, am_if_t (n_in (show 256 * F + allH a.2.1 < 2304 by omega) (by decide)), nc (show 256 * F + allH a.2.1 < 2 ^ 31 by omega), t3 F _ h8 hall, cw_RR 0 n F (fun i _ h2 => (isD_c wl hD (by omega)).2.2), b2, q145_30]
      · obtain ⟨I2, J2, e2, f2, g2⟩ := sem98l L wv (F := F) hn hr h99 (vN a.1) 0 I1 J1 (by omega) cv hk
        have R2 : Rl a I2 J2 := R1.fd (fun c hc _ _ _ _ => f2 c (by omega)) (fun j _ _ => by rw [f2 54 (by decide)]) g2
        obtain ⟨I3, m1, R3, k3, t3, h8, h27⟩ := mod I2 J2 R2
        obtain ⟨-, -, ⟨mv3, ml3, mq3, mx3, mi3, mj3⟩, -⟩ := id R3
        obtain ⟨I4, e4, f4⟩ := sem145l L J2 wv wl hn hk.2.2.2.2.1 hD (by rw [← hF]; exact c) (by rw [← hF]; exact h8) (.int (nI 2)) (vN a.1) 0 I3 (by omega) mv3 ml3 k3 (by rw [← hF]; exact h27)
        rw [← hF] at e4
        have hmk : mk (fun p => !decide (Fq (fun k => !decide (num k / 10000 = p)) cov n n (2 ^ rk a.2.1 (lN_ a.2.1) - 1) = F)) (vN a.1) = mk (fun p => !decide (Fq (fun k => !decide (num k / 10000 = p)) (fun k => Lm a.2.1 (cov k)) n n (allH a.2.1) = F)) (vN a.1) := mk_cong fun p _ => by rw [FqA]
        refine ⟨some (.int (nI (mk (fun p => !decide (Fq (fun k => !decide (num k / 10000 = p)) (fun k => Lm a.2.1 (cov k)) n n (allH a.2.1) = F)) (vN a.1)))), I2, J2, I4, J2, a, ?_, ?_, R3.fd (fun c _ _ _ _ h4 => f4 c h4) (fun j _ _ => by rw [f4 54 (by decide)]) (fun _ _ _ => rfl)⟩
        · have e2 : am_sem 98 8 [.ref 1, .int (nI F), .int 0, .int 0] [] (am_T L, I1, J1) = _ := e2
          rw [c11, q62_14, if_neg (by decide), q62_20, if_neg (by decide), q62_28, q98_0, s20]
          simp only [ob_s, tl_s]
          rw [q98_3, e2]
          simp only [ob_s, tl_s]
          rw [q62_30, hmk]
        · have e4 : am_sem 145 35 [.ref 54, .int (nI 2), .int 0, .int 0] [] (am_T L, I3, J2) = _ := e4
          rw [m1, q145_12, if_pos (by decide), q145_31]
          exact e4
    · rw [if_pos (by rw [decide_eq_false c]; rfl)] at c11
      obtain ⟨I3, e3, f3, k3, t3, h3⟩ := sem143 L I1 J1 wv wl wq hn hk.2.2.2.2.1 hD mv ml mq .null
      rw [← hF] at e3
      refine ⟨some (.int (-9)), I1, J1, I3, J1, a, ?_, ?_, R1.fd (fun c _ h1 h2 h3 h4 => f3.1 c h1 h2 h3 h4) f3.2 (fun _ _ _ => rfl)⟩
      · rw [c11, q62_12]
      · rw [q145_0, sem111n L I1 J1 x (m := 2) 2 rfl (by decide), hx]
        simp only [ob_s, tl_s]
        rw [q145_4, if_neg (by decide), q145_7, e3]
        simp only [ob_s, tl_s]
        rw [q145_9, if_pos (by rw [decide_eq_false c]; rfl), q145_10]
end OPS
