/-! ===== items: people in the reference, an item, all items ===== -/
section OPS
variable (L : Nat) (I : Nat → Nat → Int32) (J : Nat → Nat → Int64)
theorem w125_99 (h17 : I 54 17 = 1) (a1 a3 : Int32) (d2 d4 d5 : Value) : am_sem 125 99 [.ref 54, .int a1, d2, .int a3, d4, d5] [] (am_T L, I, J) = some (none, (am_T L, I, J)) := by
  have e : ∀ s : Int32, am_sem 125 107 [.ref 54, .int a1, d2, .int a3, d4, d5] [.int s, .ref 54] (am_T L, I, J) = some (none, (am_T L, I, J)) := fun s => by
    rw [q125_107, wr_must L I J h17]
    simp only [ob_s, tl_n, q125_108, h17]
    rw [if_neg (by decide), q125_124]
  rw [q125_99, q125_104, q125_106, e, e]
  exact ite_self _
theorem w125_53 (h17 : I 54 17 = 1) (a1 a3 a4 : Int32) (d2 d5 : Value) : am_sem 125 53 [.ref 54, .int a1, d2, .int a3, .int a4, d5] [] (am_T L, I, J) = some (none, (am_T L, I, J)) := by
  rw [q125_53, h17, if_neg (by decide), w125_99 L I J h17]
theorem w125_38 (h17 : I 54 17 = 1) (a1 v : Int32) (d2 d3 d4 d5 : Value) : am_sem 125 38 [.ref 54, .int a1, d2, d3, d4, d5] [.int v] (am_T L, I, J) = some (none, (am_T L, I, J)) := by
  obtain ⟨u, e⟩ := sem122w L I J 63 (Or.inl rfl) h17 (a1 + 3) v 40 .null
  rw [q125_38, e]
  simp only [ob_s, tl_s, q125_48, w125_53 L I J h17]
theorem w125_28 (h17 : I 54 17 = 1) (a1 v : Int32) (d2 d3 d4 d5 : Value) : am_sem 125 28 [.ref 54, .int a1, d2, d3, d4, d5] [.int v] (am_T L, I, J) = some (none, (am_T L, I, J)) := by
  obtain ⟨u, e⟩ := sem122w L I J 63 (Or.inl rfl) h17 (a1 + 2) 0 40 .null
  rw [q125_28, e]
  simp only [ob_s, tl_s, w125_38 L I J h17]
theorem sem125 {x : XT} (wx : wX x) (hx : mX x I) {p : Nat} (hp : MS x p I J) (h17 : I 54 17 = 0) {d : DT} (w : wD d) (hd : mD d I) (d1 d2 d3 d4 d5 : Value) : ∃ I' J', am_sem 125 0 [.ref 54, d1, d2, d3, d4, d5] [] (am_T L, I, J) = some (none, (am_T L, I', J')) ∧ Fm I J I' J' ∧ mR x (if vN d.1 < 6 then pP x (lxE x p) d else (lxS x p, none)) I' J' := by
  have hP2 := w.1.1
  have hP6 := w.1.2.1
  have hN6 := w.1.2.2.1
  have r63 : ∀ {I J I' J'}, Ft (fun c => c = 63) I J I' J' → Fm I J I' J' := fun f => f.m (fun c h => Or.inr (Or.inl h))
  rw [q125_0, hd.2.1]
  simp only [show (6 : Int32) = nI 6 from rfl, n_le (show 6 < 2 ^ 31 by decide) (show vN d.1 < 2 ^ 31 by omega)]
  by_cases hN : vN d.1 < 6
  · rw [if_neg (by omega), if_pos hN, q125_5, q125_8]
    obtain ⟨I1, J1, e1, f1', g1, z1⟩ := sem121t L I J wx hx hp h17 (r := fun _ => False)
    have f1 := f1'.w (r' := fun c => c = 63) (fun c h => h.elim)
    rw [e1]
    simp only [ob_s, tl_n, q125_9]
    rw [if_pos z1, q125_13]
    have hx1 := f1.x (by decide) hx
    obtain ⟨N, hNN⟩ : ∃ N, N = vN d.1 := ⟨_, rfl⟩
    have f10 : I1 54 20 = nI N := (f1.2.1 20 (by omega)).trans (hd.2.1.trans (by rw [hNN]))
    have f18 : I1 54 18 - 1 = nI (vP d.1 - 1) := by rw [f1.2.1 18 (by omega), hd.1, show (1 : Int32) = nI 1 from rfl, pk_sub (by omega)]
    have hN6 : N < 6 := by omega
    rw [f10, m4, f18]
    obtain ⟨s1, s2⟩ := sem122b L I1 J1 wx hx1 g1 z1 (k := 4 * N) (lo := 0) (hi := vP d.1 - 1) (by omega) (by decide) (by omega) .null
    rw [show nI 0 = (0 : Int32) from rfl] at s1 s2
    unfold pP pP2
    cases h1 : nmB x (lxE x p) 0 (vP d.1 - 1)
    · obtain ⟨v, e2⟩ := s2 h1
      rw [e2]
      simp only [ob_s, tl_s]
      refine ⟨_, J1, w125_28 L _ J1 am_u_x _ v _ _ _ _, r63 (f1.t Ft17), am_u_x, (am_u_j (by decide)).trans g1.2.1⟩
    obtain ⟨I2, J2, e2, f2, g2, z2, v2, k2⟩ := s1 h1
    rw [if_pos rfl, e2]
    simp only [ob_s, tl_s]
    have f12 := f1.t f2
    have hx2 := f12.x (by decide) hx
    obtain ⟨s1, s2⟩ := sem122b L I2 J2 wx hx2 g2 z2 (k := 4 * N + 2) (lo := 0) (hi := 40) (by omega) (by decide) (by decide) .null
    have s1 : nmB x (lxE x (lxE x p)) 0 40 = true → ∃ I' J', am_sem 122 0 [.ref 54, .ref 63, .int (nI (4 * N + 2)), .int 0, .int 40, .null] [] (am_T L, I2, J2) = _ ∧ _ := s1
    have s2 : nmB x (lxE x (lxE x p)) 0 40 = false → ∃ v, am_sem 122 0 [.ref 54, .ref 63, .int (nI (4 * N + 2)), .int 0, .int 40, .null] [] (am_T L, I2, J2) = _ := s2
    rw [q125_28, p2]
    cases h2 : nmB x (lxE x (lxE x p)) 0 40
    · obtain ⟨v, e3⟩ := s2 h2
      rw [e3]
      simp only [ob_s, tl_s]
      refine ⟨_, J2, w125_38 L _ J2 am_u_x _ v _ _ _ _, r63 (f12.t Ft17), am_u_x, (am_u_j (by decide)).trans g2.2.1⟩
    obtain ⟨I3, J3, e3, f3, g3, z3, v3, k3⟩ := s1 h2
    rw [if_pos rfl, e3]
    simp only [ob_s, tl_s]
    have f123 := f12.t f3
    have hx3 := f123.x (by decide) hx
    have kk2 := (nmB_2 h2).2.2
    obtain ⟨s1, s2⟩ := sem122b L I3 J3 wx hx3 g3 z3 (k := 4 * N + 3) (lo := lxV x (lxE x (lxE x p))) (hi := 40) (by omega) (by omega) (by decide) .null
    have s1 : nmB x (lxE x (lxE x (lxE x p))) (lxV x (lxE x (lxE x p))) 40 = true → ∃ I' J', am_sem 122 0 [.ref 54, .ref 63, .int (nI (4 * N + 3)), .int (nI (lxV x (lxE x (lxE x p)))), .int 40, .null] [] (am_T L, I3, J3) = _ ∧ _ := s1
    have s2 : nmB x (lxE x (lxE x (lxE x p))) (lxV x (lxE x (lxE x p))) 40 = false → ∃ v, am_sem 122 0 [.ref 54, .ref 63, .int (nI (4 * N + 3)), .int (nI (lxV x (lxE x (lxE x p)))), .int 40, .null] [] (am_T L, I3, J3) = _ := s2
    rw [q125_38, p3]
    cases h3 : nmB x (lxE x (lxE x (lxE x p))) (lxV x (lxE x (lxE x p))) 40
    · obtain ⟨v, e4⟩ := s2 h3
      rw [e4]
      simp only [ob_s, tl_s, q125_48]
      refine ⟨_, J3, w125_53 L _ J3 am_u_x _ _ _ _ _, r63 (f123.t Ft17), am_u_x, (am_u_j (by decide)).trans g3.2.1⟩
    obtain ⟨I4, J4, e4, f4, g4, z4, v4, k4⟩ := s1 h3
    rw [if_pos rfl, e4]
    simp only [ob_s, tl_s, q125_48]
    have f1234 := f123.t f4
    have hx4 := f1234.x (by decide) hx
    have hkk := lxK_le x (lxE x (lxE x (lxE x (lxE x p))))
    by_cases c : lxK x (lxE x (lxE x (lxE x (lxE x p)))) = 3
    · rw [if_pos c, q125_53, if_pos z4, q125_56, if_neg (by decide), q125_58, g4.2.2.2.1, c, if_neg (by decide), q125_77, q125_78, sem121f L I4 J4 0 (Or.inl rfl)]
      simp only [ob_s, tl_n, q125_79, am_u_x]
      have k14 : am_u I4 54 17 1 54 14 = 3 := (am_u_j (by decide)).trans (g4.2.2.2.1.trans (by rw [c]; rfl))
      rw [if_neg (by decide), q125_83, q125_88, k14, if_pos rfl, q125_96, q125_97]
      refine ⟨_, J4, w125_53 L _ J4 am_u_x _ _ _ _ _, r63 (f1234.t Ft17), am_u_x, (am_u_j (by decide)).trans g4.2.1⟩
    · obtain ⟨I5, J5, m', d4', d5', e5, f50, r5⟩ := sem125l L wx (nI (4 * N)) (.int (nI (lxV x (lxE x (lxE x p))))) 9 (lxE x (lxE x (lxE x (lxE x p)))) 0 I4 J4 d5 (by decide) (by decide) c hx4 g4 z4
      have f5 := f50.w (r' := fun c => c = 63) (fun c h => h.elim)
      have f15 := f1234.t f5
      have e5 : am_sem 125 53 [.ref 54, .int (nI (4 * N)), .int (nI (lxV x (lxE x (lxE x p)))), .int 0, .int 1, d5] [] (am_T L, I4, J4) = _ := e5
      rw [if_neg c]
      cases hps : pS x 9 (lxE x (lxE x (lxE x (lxE x p)))) 0 with
      | mk q o =>
        rw [hps] at r5
        cases o with
        | none =>
          obtain ⟨z5, g5⟩ := r5
          refine ⟨I5, J5, ?_, r63 f15, z5, g5⟩
          rw [e5, q125_108, z5, if_neg (by decide), q125_124]
        | some m =>
          obtain ⟨rfl, g5, z5⟩ := r5
          rw [e5, q125_108, if_pos z5, q125_111, nI_1, nc (show 4 * N + 1 < 2 ^ 31 by omega), am_if_t (n_in (show 4 * N + 1 < 24 by omega) (by decide)), f15.2.1 20 (by omega), hd.2.1, q125_124, nI_1]
          have y63 : ∀ j, j ≠ 4 * N → j ≠ 4 * N + 2 → j ≠ 4 * N + 3 → I5 63 j = I 63 j := fun j h1 h2 h3 => by
            rw [f50.1 63 (by decide) id, k4 j h3, k3 j h2, k2 j h1, f1'.1 63 (by decide) id]
          have b0 : I5 63 (4 * N) = nI (lxV x (lxE x p)) := by
            rw [f50.1 63 (by decide) id, k4 _ (by omega), k3 _ (by omega), v2]
          have b2 : I5 63 (4 * N + 2) = nI (lxV x (lxE x (lxE x p))) := by
            rw [f50.1 63 (by decide) id, k4 _ (by omega), v3]
          have b3 : I5 63 (4 * N + 3) = nI (lxV x (lxE x (lxE x (lxE x p)))) := by
            rw [f50.1 63 (by decide) id, v4]
          have y : ∀ j, j ≠ 4 * N + 1 → am_u (am_u I5 63 (4 * N + 1) (nI m')) 54 20 (nI (vN d.1 + 1)) 63 j = I5 63 j := fun j hj => by rw [am_u_k (by decide), am_u_j hj]
          have y54 : ∀ j, j ≠ 20 → am_u (am_u I5 63 (4 * N + 1) (nI m')) 54 20 (nI (vN d.1 + 1)) 54 j = I5 54 j := fun j hj => by rw [am_u_j hj, am_u_k (by decide)]
          refine ⟨_, _, rfl, (r63 f15).t ⟨fun c h1 h2 h3 h4 => by rw [am_u_n _ _ _ h1, am_u_n _ _ _ h3], fun j hj => y54 j (by omega), fun _ _ _ => rfl⟩, ?_, (y54 17 (by decide)).trans z5, ?_⟩
          · unfold MS
            rw [y54 13 (by decide), y54 12 (by decide), y54 14 (by decide), y54 15 (by decide)]
            exact g5
          · refine ⟨(y54 18 (by decide)).trans ((f15.2.1 18 (by omega)).trans hd.1), am_u_x, ?_, fun i hi => ?_, fun i hi => ?_, fun i hi => ?_, fun i hi => ?_⟩
            · rw [am_u_n _ _ _ (by decide), am_u_n _ _ _ (by decide), f15.1 62 (by decide) (by decide)]
              exact hd.2.2.1
            · have hi : i < vN d.1 + 1 := hi
              show _ = nI (if i = vN d.1 then lxV x (lxE x p) else d.2 i)
              rw [y _ (by omega), ← hNN]
              by_cases q : i = N
              · rw [if_pos q, q, b0]
              · rw [if_neg q, y63 _ (by omega) (by omega) (by omega)]
                exact hd.2.2.2.1 i (by omega)
            · have hi : i < vN d.1 + 1 := hi
              show _ = nI (if i = vN d.1 then m' else vC d.1 i)
              have hi : i < N + 1 := by omega
              by_cases q : i = N
              · rw [if_pos (show i = vN d.1 by omega), q, am_u_k (by decide), am_u_x]
              · rw [if_neg (show ¬ i = vN d.1 by omega), y _ (by omega), y63 _ (by omega) (by omega) (by omega)]
                exact hd.2.2.2.2.1 i (by omega)
            · have hi : i < vN d.1 + 1 := hi
              show _ = nI (if i = vN d.1 then lxV x (lxE x (lxE x p)) else vA d.1 i)
              rw [y _ (by omega), ← hNN]
              by_cases q : i = N
              · rw [if_pos q, q, b2]
              · rw [if_neg q, y63 _ (by omega) (by omega) (by omega)]
                exact hd.2.2.2.2.2.1 i (by omega)
            · have hi : i < vN d.1 + 1 := hi
              show _ = nI (if i = vN d.1 then lxV x (lxE x (lxE x (lxE x p))) else vB d.1 i)
              rw [y _ (by omega), ← hNN]
              by_cases q : i = N
              · rw [if_pos q, q, b3]
              · rw [if_neg q, y63 _ (by omega) (by omega) (by omega)]
                exact hd.2.2.2.2.2.2 i (by omega)
  · rw [if_pos (by omega), if_neg hN, q125_7, q125_8, sem121f L I J 0 (Or.inl rfl)]
    simp only [ob_s, tl_n, q125_9, am_u_x]
    rw [if_neg (by decide), q125_12]
    exact ⟨_, _, rfl, r63 Ft17, am_u_x, (am_u_j (by decide)).trans hp.2.1⟩
theorem sem126 {x : XT} (wx : wX x) (hx : mX x I) {p : Nat} (hp : MS x p I J) (h17 : I 54 17 = 0) {d : DT} (w : wD d) (hd : mD d I) (b : Bool) : ∃ I' J', am_sem 126 0 [.ref 54, .int (bz b), .null, .null] [] (am_T L, I, J) = some (none, (am_T L, I', J')) ∧ Fm I J I' J' ∧ mR x (pI x b p d) I' J' := by
  have hkk := lxK_le x p
  have wr : am_sem 126 31 [.ref 54, .int (bz b), .long (J 54 16), .null] [] (am_T L, I, J) = some (none, (am_T L, am_u I 54 17 1, J)) := by rw [q126_31, q126_34]
  have wr0 : am_sem 126 31 [.ref 54, .int (bz b), .long 0, .null] [] (am_T L, I, J) = some (none, (am_T L, am_u I 54 17 1, J)) := by rw [q126_31, q126_34]
  have fw : Fm I J (am_u I 54 17 1) J := Ft17 (r := fun _ => False) |>.m (fun c h => h.elim)
  have rw_ : am_u I 54 17 1 54 17 = 1 ∧ am_u I 54 17 1 54 13 = nI (lxS x p) := ⟨am_u_x, (am_u_j (by decide)).trans hp.2.1⟩
  rw [q126_0, hp.2.2.2.1]
  simp only [n_eqc (x := 1) (c := 1) rfl (show lxK x p < 2 ^ 31 by omega) (by decide)]
  unfold pI
  by_cases c1 : lxK x p = 1
  · obtain ⟨w1, w2, w3⟩ := hp.2.2.2.2.2 c1
    rw [if_pos c1, q126_4, q126_8]
    simp only [lg_cmp_eq, q126_17, q126_24]
    by_cases c2 : lxE x p = lxS x p + 1
    · rw [if_pos (show lxK x p = 1 ∧ lxE x p = lxS x p + 1 from ⟨c1, c2⟩)]
      by_cases a1 : x.2 (lxS x p) = 110
      · rw [if_pos (w1.mpr ⟨c2, a1⟩), if_pos a1, q126_13]
        obtain ⟨I1, J1, e, f, r⟩ := sem123 L I J wx hx hp h17 hd b
        rw [e]
        simp only [ob_s, tl_n, q126_16, q126_34]
        exact ⟨I1, J1, rfl, f, r⟩
      · rw [if_neg (fun h => a1 (w1.mp h).2), if_neg a1]
        by_cases a2 : x.2 (lxS x p) = 102
        · rw [if_pos (w2.mpr ⟨c2, a2⟩), if_pos a2, q126_21]
          obtain ⟨I1, J1, e, f, r⟩ := sem124 L I J wx hx hp h17 w hd
          rw [e]
          simp only [ob_s, tl_n, q126_23, q126_34]
          exact ⟨I1, J1, rfl, f, r⟩
        · rw [if_neg (fun h => a2 (w2.mp h).2), if_neg a2]
          by_cases a3 : x.2 (lxS x p) = 112
          · rw [if_pos (w3.mpr ⟨c2, a3⟩), if_pos a3, q126_28]
            obtain ⟨I1, J1, e, f, r⟩ := sem125 L I J wx hx hp h17 w hd .null .null .null .null .null
            rw [e]
            simp only [ob_s, tl_n, q126_30, q126_34]
            exact ⟨I1, J1, rfl, f, r⟩
          · rw [if_neg (fun h => a3 (w3.mp h).2), if_neg a3, wr]
            exact ⟨_, _, rfl, fw, rw_⟩
    · rw [if_neg (show ¬ (lxK x p = 1 ∧ lxE x p = lxS x p + 1) from fun h => c2 h.2), if_neg (fun h => c2 (w1.mp h).1), if_neg (fun h => c2 (w2.mp h).1), if_neg (fun h => c2 (w3.mp h).1), wr]
      exact ⟨_, _, rfl, fw, rw_⟩
  · rw [if_neg c1, if_neg (show ¬ (lxK x p = 1 ∧ lxE x p = lxS x p + 1) from fun h => c1 h.1), q126_7, q126_8, if_neg (by decide), q126_17, if_neg (by decide), q126_24, if_neg (by decide), wr0]
    exact ⟨_, _, rfl, fw, rw_⟩
theorem sem127l {x : XT} (wx : wX x) (d2 : Value) : ∀ f p k (d : DT) (I : Nat → Nat → Int32) (J : Nat → Nat → Int64), x.1 < p + f → k ≤ p → mX x I → MS x p I J → I 54 17 = 0 → wD d → (k = 0 → ∀ p, d.2 p = 0) → mD d I → ∃ I' J', Fm I J I' J' ∧ match pL x f p k d with
    | .inl s => am_sem 127 37 [.ref 54, .int (nI k), d2] [] (am_T L, I, J) = some (some (.int (-10 - nI s)), (am_T L, I', J'))
    | .inr (n, d') => am_sem 127 37 [.ref 54, .int (nI k), d2] [] (am_T L, I, J) = am_sem 127 60 [.ref 54, .int (nI n), d2] [] (am_T L, I', J') ∧ mD d' I' ∧ wD d' ∧ n ≤ 200
  | 0, p, k, d, I, J, hf, hkp, hx, hp, h17, w, w0, hd => by
    have := hp.1
    omega
  | f + 1, p, k, d, I, J, hf, hkp, hx, hp, h17, w, w0, hd => by
    have h200 := wx.1
    have hpn := hp.1
    have hkk := lxK_le x p
    rw [pL, q127_37, hp.2.2.2.1]
    simp only [n_eqc (x := 0) (c := 0) rfl (show lxK x p < 2 ^ 31 by omega) (by decide)]
    by_cases c : lxK x p = 0
    · rw [if_pos c, if_pos c]
      refine ⟨I, J, ⟨fun _ _ _ _ _ => rfl, fun _ _ => rfl, fun _ _ _ => rfl⟩, ?_, hd, w, by omega⟩
      rw [q127_52, if_pos h17]
    · rw [if_neg c, if_neg c, q127_40, if_pos h17, q127_43]
      obtain ⟨I2, J2, e2, g2, r2⟩ := sem126 L I J wx hx hp h17 w hd (decide (k = 0))
      have hok := fun d' h => pI_ok (d' := d') (b := decide (k = 0)) hpn w (fun h => w0 (of_decide_eq_true h)) h
      have e3 : (if nI k = 0 then am_sem 127 46 [.ref 54, .int (nI k), d2] [.ref 54] (am_T L, I, J) else am_sem 127 48 [.ref 54, .int (nI k), d2] [.ref 54] (am_T L, I, J)) = am_sem 127 37 [.ref 54, .int (nI (k + 1)), d2] [] (am_T L, I2, J2) := by
        simp only [n_eqc (x := 0) (c := 0) rfl (show k < 2 ^ 31 by omega) (by decide)]
        by_cases q : k = 0
        · rw [decide_eq_true q] at e2
          have e2 : am_sem 126 0 [.ref 54, .int 1, .null, .null] [] (am_T L, I, J) = _ := e2
          rw [if_pos q, q127_46, q127_49, e2]
          simp only [ob_s, tl_n, q127_50, nI_1]
        · rw [decide_eq_false q] at e2
          have e2 : am_sem 126 0 [.ref 54, .int 0, .null, .null] [] (am_T L, I, J) = _ := e2
          rw [if_neg q, q127_48, q127_49, e2]
          simp only [ob_s, tl_n, q127_50, nI_1]
      rw [e3]
      cases hpi : pI x (decide (k = 0)) p d with
      | mk q o =>
        rw [hpi] at r2 hok
        cases o with
        | none =>
          obtain ⟨z, s⟩ := r2
          refine ⟨I2, J2, g2, ?_⟩
          show am_sem 127 37 [.ref 54, .int (nI (k + 1)), d2] [] (am_T L, I2, J2) = some (some (.int (-10 - nI q)), (am_T L, I2, J2))
          have e5 : am_sem 127 52 [.ref 54, .int (nI (k + 1)), d2] [] (am_T L, I2, J2) = some (some (.int (-10 - nI q)), (am_T L, I2, J2)) := by
            have s : I2 54 13 = nI q := s
            rw [q127_52, if_neg (by rw [z]; decide), q127_55, s]
          have hz : ¬ I2 54 17 = 0 := by rw [z]; decide
          rw [q127_37, q127_40, if_neg hz, e5]
          exact ite_self _
        | some d' =>
          obtain ⟨g3, z3, hd3⟩ := r2
          have hq := hok d' rfl
          obtain ⟨I3, J3, f3, h3⟩ := sem127l wx d2 f q (k + 1) d' I2 J2 (by omega) (by omega) (g2.x hx) g3 z3 hq.2.2 (fun h => by omega) hd3
          exact ⟨I3, J3, g2.t f3, h3⟩
end OPS
