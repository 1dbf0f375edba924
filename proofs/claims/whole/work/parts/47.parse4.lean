/-! ===== items: far, people, the reference ===== -/
section OPS
variable (L : Nat) (I : Nat → Nat → Int32) (J : Nat → Nat → Int64)
theorem wr_must (h17 : I 54 17 = 1) (a : Int32) : am_sem 121 0 [.ref 54, .int a] [] (am_T L, I, J) = some (none, (am_T L, I, J)) := by
  rw [sem121f L I J a (Or.inr (by rw [h17]; decide)), am_u_id h17]
theorem w124_32 (h17 : I 54 17 = 1) (v : Int32) : am_sem 124 32 [.ref 54] [.int v] (am_T L, I, J) = some (none, (am_T L, I, J)) := by
  have e : ∀ a : Int32, am_sem 124 41 [.ref 54] [.int a, .ref 54] (am_T L, I, J) = some (none, (am_T L, I, J)) := fun a => by
    rw [q124_41, wr_must L I J h17]
    simp only [ob_s, tl_n, q124_42, h17]
    rw [if_neg (by decide), q124_81]
  rw [q124_32, q124_38, q124_40, e, e]
  exact ite_self _
theorem w124_24 (h17 : I 54 17 = 1) (v : Int32) : am_sem 124 24 [.ref 54] [.int v] (am_T L, I, J) = some (none, (am_T L, I, J)) := by
  obtain ⟨u, e⟩ := sem122w L I J 64 (Or.inr rfl) h17 2 0 9 .null
  rw [q124_24, e]
  simp only [ob_s, tl_s, w124_32 L I J h17]
theorem w124_13 (h17 : I 54 17 = 1) (v : Int32) : am_sem 124 13 [.ref 54] [.int v] (am_T L, I, J) = some (none, (am_T L, I, J)) := by
  obtain ⟨u, e⟩ := sem122w L I J 64 (Or.inr rfl) h17 1 0 (I 54 18 - 1) .null
  rw [q124_13, e]
  simp only [ob_s, tl_s, w124_24 L I J h17]
theorem sem124 {x : XT} (wx : wX x) (hx : mX x I) {p : Nat} (hp : MS x p I J) (h17 : I 54 17 = 0) {d : DT} (w : wD d) (hd : mD d I) : ∃ I' J', am_sem 124 0 [.ref 54] [] (am_T L, I, J) = some (none, (am_T L, I', J')) ∧ Fm I J I' J' ∧ mR x (pF x (lxE x p) d) I' J' := by
  have hP2 := w.1.1
  have hP6 := w.1.2.1
  have r64 : ∀ {I J I' J'}, Ft (fun c => c = 64) I J I' J' → Fm I J I' J' := fun f => f.m (fun c h => Or.inr (Or.inr h))
  obtain ⟨I1, J1, e1, f1, g1, z1⟩ := sem121t L I J wx hx hp h17 (r := fun c => c = 64)
  rw [q124_0, e1]
  simp only [ob_s, tl_n]
  have hx1 := f1.x (by decide) hx
  have hd1 := f1.d (by decide) (by decide) hd
  have eP1 : I1 54 18 - 1 = nI (vP d.1 - 1) := by rw [hd1.1, show (1 : Int32) = nI 1 from rfl, pk_sub (by omega)]
  obtain ⟨s1, s2⟩ := sem122a L I1 J1 wx hx1 g1 z1 (k := 0) (lo := 0) (hi := vP d.1 - 1) (by decide) (by decide) (by omega) .null
  rw [show nI 0 = (0 : Int32) from rfl] at s1 s2
  rw [q124_3, eP1]
  unfold pF pF2
  cases h1 : nmB x (lxE x p) 0 (vP d.1 - 1)
  · obtain ⟨v, e2⟩ := s2 h1
    rw [e2]
    simp only [ob_s, tl_s]
    refine ⟨_, J1, w124_13 L _ J1 am_u_x v, r64 (f1.t Ft17), am_u_x, (am_u_j (by decide)).trans g1.2.1⟩
  obtain ⟨I2, J2, e2, f2, g2, z2, v2, -⟩ := s1 h1
  rw [if_pos rfl, e2]
  simp only [ob_s, tl_s]
  have f12 := f1.t f2
  have hx2 := f12.x (by decide) hx
  have hd2 := f12.d (by decide) (by decide) hd
  have eP2 : I2 54 18 - 1 = nI (vP d.1 - 1) := by rw [hd2.1, show (1 : Int32) = nI 1 from rfl, pk_sub (by omega)]
  obtain ⟨s1, s2⟩ := sem122a L I2 J2 wx hx2 g2 z2 (k := 1) (lo := 0) (hi := vP d.1 - 1) (by decide) (by decide) (by omega) .null
  rw [show nI 0 = (0 : Int32) from rfl, show nI 1 = (1 : Int32) from rfl] at s1 s2
  rw [q124_13, eP2]
  cases h2 : nmB x (lxE x (lxE x p)) 0 (vP d.1 - 1)
  · obtain ⟨v, e3⟩ := s2 h2
    rw [e3]
    simp only [ob_s, tl_s]
    refine ⟨_, J2, w124_24 L _ J2 am_u_x v, r64 (f12.t Ft17), am_u_x, (am_u_j (by decide)).trans g2.2.1⟩
  obtain ⟨I3, J3, e3, f3, g3, z3, v3, k3⟩ := s1 h2
  rw [if_pos rfl, e3]
  simp only [ob_s, tl_s]
  have f123 := f12.t f3
  have hx3 := f123.x (by decide) hx
  obtain ⟨s1, s2⟩ := sem122a L I3 J3 wx hx3 g3 z3 (k := 2) (lo := 0) (hi := 9) (by decide) (by decide) (by decide) .null
  have s1 : nmB x (lxE x (lxE x (lxE x p))) 0 9 = true → ∃ I' J', am_sem 122 0 [.ref 54, .ref 64, .int 2, .int 0, .int 9, .null] [] (am_T L, I3, J3) = _ ∧ _ := s1
  have s2 : nmB x (lxE x (lxE x (lxE x p))) 0 9 = false → ∃ v, am_sem 122 0 [.ref 54, .ref 64, .int 2, .int 0, .int 9, .null] [] (am_T L, I3, J3) = _ := s2
  rw [q124_24]
  cases h3 : nmB x (lxE x (lxE x (lxE x p))) 0 9
  · obtain ⟨v, e4⟩ := s2 h3
    rw [e4]
    simp only [ob_s, tl_s]
    refine ⟨_, J3, w124_32 L _ J3 am_u_x v, r64 (f123.t Ft17), am_u_x, (am_u_j (by decide)).trans g3.2.1⟩
  obtain ⟨I4, J4, e4, f4, g4, z4, v4, k4⟩ := s1 h3
  rw [if_pos rfl, e4]
  simp only [ob_s, tl_s]
  have f1234 := f123.t f4
  have hx4 := f1234.x (by decide) hx
  obtain ⟨I5, J5, e5, f50, k5, w5⟩ := sem121s L I4 J4 wx hx4 g4 z4 (r := fun _ => False)
  have f5 := f50.w (r' := fun c => c = 64) (fun c h => h.elim)
  have f15 := f1234.t f5
  have e55 : am_sem 124 32 [.ref 54] [.int (nI (lxV x (lxE x (lxE x (lxE x p)))))] (am_T L, I4, J4) = am_sem 124 42 [.ref 54] [] (am_T L, I5, J5) := by
    have hkk := lxK_le x (lxE x (lxE x (lxE x (lxE x p))))
    rw [q124_32, g4.2.2.2.1]
    simp only [n_eqc (x := 3) (c := 3) rfl (show lxK x (lxE x (lxE x (lxE x (lxE x p)))) < 2 ^ 31 by omega) (by decide)]
    by_cases c : lxK x (lxE x (lxE x (lxE x (lxE x p)))) = 3
    · rw [decide_eq_true c] at e5
      have e5 : am_sem 121 0 [.ref 54, .int 1] [] (am_T L, I4, J4) = _ := e5
      rw [if_pos c, q124_38, q124_41, e5]
      rfl
    · rw [decide_eq_false c] at e5
      have e5 : am_sem 121 0 [.ref 54, .int 0] [] (am_T L, I4, J4) = _ := e5
      rw [if_neg c, q124_40, q124_41, e5]
      rfl
  rw [e55, q124_42]
  have b0 : I5 64 0 = nI (lxV x (lxE x p)) := by
    rw [f50.1 64 (by decide) id, k4 0 (by decide), k3 0 (by decide), v2]
  have b1 : I5 64 1 = nI (lxV x (lxE x (lxE x p))) := by
    rw [f50.1 64 (by decide) id, k4 1 (by decide), v3]
  have b2 : I5 64 2 = nI (lxV x (lxE x (lxE x (lxE x p)))) := by
    rw [f50.1 64 (by decide) id, v4]
  by_cases c : lxK x (lxE x (lxE x (lxE x (lxE x p)))) = 3
  · obtain ⟨g6, z6⟩ := k5 c
    have ka := (nmB_2 h1).2.2
    have kb := (nmB_2 h2).2.2
    rw [if_pos z6, q124_45, b0, b1, b2, m6, m6, nI_add, nI_add, nc (by omega), nc (by omega), am_if_t ⟨n_in (by omega) (by decide), n_in (by omega) (by decide)⟩, q124_81, if_pos c]
    generalize ha : lxV x (lxE x p) = a at *
    generalize hb : lxV x (lxE x (lxE x p)) = b at *
    generalize hv : lxV x (lxE x (lxE x (lxE x p))) = v at *
    refine ⟨_, _, rfl, (r64 f15).t ⟨fun c h1 h2 h3 h4 => by rw [am_u_n _ _ _ h2, am_u_n _ _ _ h2], fun j hj => by rw [am_u_k (by decide), am_u_k (by decide)], fun _ _ _ => rfl⟩, g6.o (by rw [am_u_n _ _ _ (by decide), am_u_n _ _ _ (by decide)]), by rw [am_u_k (by decide), am_u_k (by decide)]; exact z6, ?_⟩
    have hd5 := f15.d (by decide) (by decide) hd
    have y : ∀ c, c ≠ 62 → am_u (am_u I5 62 (6 * a + b) (nI v)) 62 (6 * b + a) (nI v) c = I5 c := fun c hc => by rw [am_u_n _ _ _ hc, am_u_n _ _ _ hc]
    refine ⟨by rw [y _ (by decide)]; exact hd5.1, by rw [y _ (by decide)]; exact hd5.2.1, fun k hk => ?_, ?_, ?_, ?_, ?_⟩
    · show am_u (am_u I5 62 (6 * a + b) (nI v)) 62 (6 * b + a) (nI v) 62 k = nI (if k = 6 * b + a then v else if k = 6 * a + b then v else vF d.1 k)
      by_cases c1 : k = 6 * b + a
      · rw [c1, am_u_x, if_pos rfl]
      · rw [am_u_j c1, if_neg c1]
        by_cases c2 : k = 6 * a + b
        · rw [c2, am_u_x, if_pos rfl]
        · rw [am_u_j c2, if_neg c2]
          exact hd5.2.2.1 k hk
    · rw [y _ (by decide)]
      exact hd5.2.2.2.1
    · rw [y _ (by decide)]
      exact hd5.2.2.2.2.1
    · rw [y _ (by decide)]
      exact hd5.2.2.2.2.2.1
    · rw [y _ (by decide)]
      exact hd5.2.2.2.2.2.2
  · obtain ⟨z6, g6⟩ := w5 c
    rw [if_neg (by rw [z6]; decide), q124_81, if_neg c]
    exact ⟨_, _, rfl, r64 f15, z6, g6⟩
/-- sounds -/
theorem sem125l {x : XT} (wx : wX x) (a1 : Int32) (d2 : Value) : ∀ j p m (I : Nat → Nat → Int32) (J : Nat → Nat → Int64) (d5 : Value), c8 m + j = 9 → m < 256 → ¬ lxK x p = 3 → mX x I → MS x p I J → I 54 17 = 0 → ∃ I' J' m' d4' d5', am_sem 125 53 [.ref 54, .int a1, d2, .int (nI m), .int 1, d5] [] (am_T L, I, J) = am_sem 125 108 [.ref 54, .int a1, d2, .int (nI m'), d4', d5'] [] (am_T L, I', J') ∧ Ft (fun _ => False) I J I' J' ∧ match pS x j p m with
    | (e, some m2) => m' = m2 ∧ MS x e I' J' ∧ I' 54 17 = 0
    | (s, none) => I' 54 17 = 1 ∧ I' 54 13 = nI s
  | 0, p, m, I, J, d5, hc, hm, hk, hx, hp, h17 => by
    have := c8_le m
    omega
  | j + 1, p, m, I, J, d5, hc, hm, hk, hx, hp, h17 => by
    have hkk := lxK_le x p
    have hv := lxV_le x p wx
    -- the question
    have e0 : am_sem 125 53 [.ref 54, .int a1, d2, .int (nI m), .int 1, d5] [] (am_T L, I, J) = am_sem 125 78 [.ref 54, .int a1, d2, .int (nI m), .int 1, .int (I 54 15)] [.int (bz (decide (lxK x p = 2) && (decide (lxV x p < 8) && !m.testBit (lxV x p)))), .ref 54] (am_T L, I, J) := by
      rw [q125_53, if_pos h17, q125_56, if_neg (by decide), q125_58, hp.2.2.2.1]
      simp only [n_eqc (x := 2) (c := 2) rfl (show lxK x p < 2 ^ 31 by omega) (by decide)]
      by_cases c1 : lxK x p = 2
      · rw [if_pos c1, decide_eq_true c1, hp.2.2.2.2.1 c1, q125_66, sem111n L I J _ (m := 7) 7 rfl (by decide)]
        simp only [ob_s, tl_s, q125_70, bz_0]
        rw [inr_n (show lxV x p < 2 ^ 31 by omega)]
        by_cases c2 : lxV x p < 8
        · rw [decide_eq_true c2, if_neg (by decide), q125_71, sem112 L I J (show m < 2 ^ 31 by omega) (show lxV x p < 32 by omega)]
          simp only [ob_s, tl_s, q125_74, bz_0]
          cases m.testBit (lxV x p)
          · rw [if_pos rfl, q125_75]
            rfl
          · rw [if_neg (by decide), q125_77]
            rfl
        · rw [decide_eq_false c2, if_pos rfl, q125_77]
          rfl
      · rw [if_neg c1, decide_eq_false c1, q125_77]
        rfl
    rw [pS, if_neg hk]
    rw [e0]
    cases hq : (decide (lxK x p = 2) && (decide (lxV x p < 8) && !m.testBit (lxV x p)))
    · rw [if_neg (by decide)]
      refine ⟨am_u I 54 17 1, J, m, .int 1, .int (I 54 15), ?_, Ft17, am_u_x, (am_u_j (by decide)).trans hp.2.1⟩
      · show am_sem 125 78 [.ref 54, .int a1, d2, .int (nI m), .int 1, .int (I 54 15)] [.int 0, .ref 54] (am_T L, I, J) = _
        rw [q125_78, sem121f L I J 0 (Or.inl rfl)]
        simp only [ob_s, tl_n, q125_79, am_u_x]
        have k14 : am_u I 54 17 1 54 14 = nI (lxK x p) := (am_u_j (by decide)).trans hp.2.2.2.1
        have k3 : ¬ nI (lxK x p) = 3 := by
          rw [show (3 : Int32) = nI 3 from rfl, n_inj (by omega) (by decide)]
          exact hk
        rw [if_neg (by decide), q125_83, q125_88, k14, if_neg k3, show nI m ||| 0 = nI m from Int32.or_zero, q125_94, q125_97, q125_53, am_u_x, if_neg (by decide), q125_99, k14, if_neg k3, q125_106, q125_107, wr_must L _ J am_u_x]
        rfl
    · have hq2 := hq
      simp only [Bool.and_eq_true, decide_eq_true_eq, Bool.not_eq_true'] at hq2
      have hs := c8_s m hm _ hq2.2.1 hq2.2.2
      rw [if_pos rfl]
      obtain ⟨I1, J1, e1, f1, g1, z1⟩ := sem121t L I J wx hx hp h17 (r := fun _ => False)
      have hx1 := f1.x id hx
      have hkk1 := lxK_le x (lxE x p)
      have hb : am_sem 125 78 [.ref 54, .int a1, d2, .int (nI m), .int 1, .int (I 54 15)] [.int (bz true), .ref 54] (am_T L, I, J) = if lxK x (lxE x p) = 3 then am_sem 125 96 [.ref 54, .int a1, d2, .int (nI (m ||| 2 ^ lxV x p)), .int 1, .int (nI (lxV x p))] [] (am_T L, I1, J1) else am_sem 125 94 [.ref 54, .int a1, d2, .int (nI (m ||| 2 ^ lxV x p)), .int 1, .int (nI (lxV x p))] [] (am_T L, I1, J1) := by
        show am_sem 125 78 [.ref 54, .int a1, d2, .int (nI m), .int 1, .int (I 54 15)] [.int 1, .ref 54] (am_T L, I, J) = _
        rw [hp.2.2.2.2.1 hq2.1, q125_78, e1]
        simp only [ob_s, tl_n, q125_79]
        rw [if_pos z1, q125_85, q125_88, g1.2.2.2.1, bs_1 (show lxV x p < 31 by omega), bs_or]
        simp only [n_eqc (x := 3) (c := 3) rfl (show lxK x (lxE x p) < 2 ^ 31 by omega) (by decide)]
      rw [hb]
      by_cases c3 : lxK x (lxE x p) = 3
      · obtain ⟨I2, J2, e2, f2, g2, z2⟩ := sem121t L I1 J1 wx hx1 g1 z1 (r := fun _ => False)
        have hj : ∃ i, j = i + 1 := ⟨j - 1, by have := c8_le (m ||| 2 ^ lxV x p); omega⟩
        obtain ⟨i, rfl⟩ := hj
        rw [if_pos c3, pS, if_pos c3]
        refine ⟨I2, J2, m ||| 2 ^ lxV x p, .int 0, .int (nI (lxV x p)), ?_, f1.t f2, rfl, g2, z2⟩
        rw [q125_96, q125_97, q125_53, if_pos z1, q125_56, if_pos rfl, q125_99, g1.2.2.2.1, c3, if_pos (by decide), q125_104, q125_107, e2]
        rfl
      · obtain ⟨I2, J2, m', d4', d5', e2, f2, r2⟩ := sem125l wx a1 d2 j (lxE x p) (m ||| 2 ^ lxV x p) I1 J1 (.int (nI (lxV x p))) (by omega) hs.2.1 c3 hx1 g1 z1
        rw [if_neg c3, q125_94, q125_97, e2]
        exact ⟨I2, J2, m', d4', d5', rfl, f1.t f2, r2⟩
end OPS
