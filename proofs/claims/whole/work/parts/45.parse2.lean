/-! ===== items: people, all items, the class' reading ===== -/
theorem lx_S {x : XT} {p : Nat} (h : p ≤ x.1) (hk : lxK x p ≠ 0) : p < lxE x p ∧ lxE x p ≤ x.1 := by
  have hE := lxE_le h
  have hS := lxS_le h
  have hc : lxS x p < x.1 := by
    apply Classical.byContradiction
    intro q
    exact hk (lxK_0.mpr q)
  have := hE.2.2 hc
  exact ⟨by omega, hE.2.1⟩
theorem lxS_st {x : XT} {p : Nat} (h : p ≤ x.1) : lxS x p ≤ x.1 := (lxS_le h).2
theorem wD_N {x : XT} {d : DT} {v : Nat} (w : wD d) (hv : 2 ≤ v ∧ v ≤ 6) (h0 : ∀ p, d.2 p = 0) : wD ((v, d.1.2), d.2) := by
  obtain ⟨⟨w1, w2, w3, w4, w5, w6, w7⟩, w8⟩ := w
  exact ⟨⟨hv.1, hv.2, w3, w4, w5, w6, w7⟩, fun p => by show d.2 p < v; rw [h0 p]; omega⟩
theorem wD_F {d : DT} {a b v : Nat} (w : wD d) (hv : v ≤ 9) : wD (dF d a b v) := by
  obtain ⟨⟨w1, w2, w3, w4, w5, w6, w7⟩, w8⟩ := w
  refine ⟨⟨w1, w2, w3, fun k => ?_, w5, w6, w7⟩, w8⟩
  show (if k = 6 * b + a then v else if k = 6 * a + b then v else vF d.1 k) ≤ 9
  split
  · exact hv
  · split
    · exact hv
    · exact w4 k
theorem wD_P {d : DT} {h c a b : Nat} (w : wD d) (hN : vN d.1 < 6) (hh : h < vP d.1) (hc : c < 256) (ha : a ≤ 40) (hb : b ≤ 40) : wD (dP d h c a b) := by
  obtain ⟨⟨w1, w2, w3, w4, w5, w6, w7⟩, w8⟩ := w
  refine ⟨⟨w1, w2, hN, w4, fun k => ?_, fun k => ?_, fun k => ?_⟩, fun k => ?_⟩
  · show (if k = vN d.1 then c else vC d.1 k) < 256
    split
    · exact hc
    · exact w5 k
  · show (if k = vN d.1 then a else vA d.1 k) ≤ 40
    split
    · exact ha
    · exact w6 k
  · show (if k = vN d.1 then b else vB d.1 k) ≤ 40
    split
    · exact hb
    · exact w7 k
  · show (if k = vN d.1 then h else d.2 k) < vP d.1
    split
    · exact hh
    · exact w8 k
theorem pN_ok {x : XT} {p : Nat} {d d' : DT} (hp : p ≤ x.1) (w : wD d) (h0 : ∀ p, d.2 p = 0) (h : (pN x p d).2 = some d') : p < (pN x p d).1 ∧ (pN x p d).1 ≤ x.1 ∧ wD d' := by
  unfold pN at h ⊢
  by_cases c : nmB x p 2 6 = true
  · rw [if_pos c] at h ⊢
    have k := nmB_2 c
    have e1 := lx_S hp (by omega)
    by_cases c2 : lxK x (lxE x p) = 3
    · rw [if_pos c2] at h ⊢
      have e2 := lx_S e1.2 (by omega)
      injection h with h
      subst h
      exact ⟨by show p < lxE x (lxE x p); omega, e2.2, wD_N (x := x) w k.2 h0⟩
    · rw [if_neg c2] at h
      cases h
  · rw [if_neg c] at h
    cases h
theorem pF_ok {x : XT} {p : Nat} {d d' : DT} (hp : p ≤ x.1) (w : wD d) (h : (pF x p d).2 = some d') : p < (pF x p d).1 ∧ (pF x p d).1 ≤ x.1 ∧ wD d' := by
  unfold pF pF2 at h ⊢
  by_cases c1 : nmB x p 0 (vP d.1 - 1) = true
  · rw [if_pos c1] at h ⊢
    have k1 := nmB_2 c1
    have e1 := lx_S hp (by omega)
    by_cases c2 : nmB x (lxE x p) 0 (vP d.1 - 1) = true
    · rw [if_pos c2] at h ⊢
      have k2 := nmB_2 c2
      have e2 := lx_S e1.2 (by omega)
      by_cases c3 : nmB x (lxE x (lxE x p)) 0 9 = true
      · rw [if_pos c3] at h ⊢
        have k3 := nmB_2 c3
        have e3 := lx_S e2.2 (by omega)
        by_cases c4 : lxK x (lxE x (lxE x (lxE x p))) = 3
        · rw [if_pos c4] at h ⊢
          have e4 := lx_S e3.2 (by omega)
          injection h with h
          subst h
          exact ⟨by show p < lxE x (lxE x (lxE x (lxE x p))); omega, e4.2, wD_F w k3.2.2⟩
        · rw [if_neg c4] at h
          cases h
      · rw [if_neg c3] at h
        cases h
    · rw [if_neg c2] at h
      cases h
  · rw [if_neg c1] at h
    cases h
theorem pP_ok {x : XT} {p : Nat} {d d' : DT} (hp : p ≤ x.1) (w : wD d) (hN : vN d.1 < 6) (h : (pP x p d).2 = some d') : p < (pP x p d).1 ∧ (pP x p d).1 ≤ x.1 ∧ wD d' := by
  have hP := w.1.1
  unfold pP pP2 at h ⊢
  by_cases c1 : nmB x p 0 (vP d.1 - 1) = true
  · rw [if_pos c1] at h ⊢
    have k1 := nmB_2 c1
    have e1 := lx_S hp (by omega)
    by_cases c2 : nmB x (lxE x p) 0 40 = true
    · rw [if_pos c2] at h ⊢
      have k2 := nmB_2 c2
      have e2 := lx_S e1.2 (by omega)
      by_cases c3 : nmB x (lxE x (lxE x p)) (lxV x (lxE x p)) 40 = true
      · rw [if_pos c3] at h ⊢
        have k3 := nmB_2 c3
        have e3 := lx_S e2.2 (by omega)
        by_cases c4 : lxK x (lxE x (lxE x (lxE x p))) = 3
        · rw [if_pos c4] at h
          cases h
        · rw [if_neg c4] at h ⊢
          cases hm : (pS x 9 (lxE x (lxE x (lxE x p))) 0).2 with
          | none =>
            rw [hm] at h
            cases h
          | some m =>
            rw [hm] at h
            have := pS_le x 9 _ 0 e3.2 (by decide) m hm
            injection h with h
            subst h
            exact ⟨by show p < (pS x 9 (lxE x (lxE x (lxE x p))) 0).1; omega, this.2.1, wD_P w hN (by omega) this.2.2.1 k2.2.2 k3.2.2⟩
      · rw [if_neg c3] at h
        cases h
    · rw [if_neg c2] at h
      cases h
  · rw [if_neg c1] at h
    cases h
theorem pI_ok {x : XT} {p : Nat} {b : Bool} {d d' : DT} (hp : p ≤ x.1) (w : wD d) (h0 : b = true → ∀ p, d.2 p = 0) (h : (pI x b p d).2 = some d') : p < (pI x b p d).1 ∧ (pI x b p d).1 ≤ x.1 ∧ wD d' := by
  unfold pI at h ⊢
  by_cases c : lxK x p = 1 ∧ lxE x p = lxS x p + 1
  · rw [if_pos c] at h ⊢
    have e1 := lx_S hp (by omega)
    by_cases c1 : x.2 (lxS x p) = 110
    · rw [if_pos c1] at h ⊢
      cases b
      · rw [if_neg (by decide)] at h
        cases h
      · rw [if_pos rfl] at h ⊢
        have := pN_ok e1.2 w (h0 rfl) h
        exact ⟨by omega, this.2⟩
    · rw [if_neg c1] at h ⊢
      by_cases c2 : x.2 (lxS x p) = 102
      · rw [if_pos c2] at h ⊢
        have := pF_ok e1.2 w h
        exact ⟨by omega, this.2⟩
      · rw [if_neg c2] at h ⊢
        by_cases c3 : x.2 (lxS x p) = 112
        · rw [if_pos c3] at h ⊢
          by_cases c4 : vN d.1 < 6
          · rw [if_pos c4] at h ⊢
            have := pP_ok e1.2 w c4 h
            exact ⟨by omega, this.2⟩
          · rw [if_neg c4] at h
            cases h
        · rw [if_neg c3] at h
          cases h
  · rw [if_neg c] at h
    cases h
section OPS
variable (L : Nat) (I : Nat → Nat → Int32) (J : Nat → Nat → Int64)
theorem sem35 {x : XT} (wx : wX x) {p : Nat} (hp : p ≤ x.1) (hx : cX x I) (h4 : I 2 4 = nI p) (d1 d2 : Value) : ∃ I', am_sem 35 0 [.ref 2, d1, d2] [] (am_T L, I, J) = some (some (.int (nI ((pS x 9 p 0).2.getD 0))), (am_T L, I', J)) ∧ Fr I I' ∧ ((pS x 9 p 0).2 = none → I' 2 3 = nI (pS x 9 p 0).1) ∧ ((pS x 9 p 0).2 ≠ none → I' 2 4 = nI (pS x 9 p 0).1) ∧ (lxK x p = 3 → I' 2 3 = nI (lxS x p)) := by
  obtain ⟨I', e, f, a, b⟩ := sem35l L J wx 9 0 p 0 I (by omega) (by decide) (by decide) hp hx h4
  by_cases c : lxK x p = 3
  · obtain ⟨I1, e1, f1, f2, f3, f4, f5, f6⟩ := sem38 L I J wx hx hp h4
    have hps : pS x 9 p 0 = (lxE x p, some 0) := by rw [pS, if_pos c]
    refine ⟨I1, ?_, ⟨f1, f2⟩, fun h => ?_, fun _ => ?_, fun _ => f3⟩
    · rw [q35_0, q35_4, if_neg (by decide), q35_7, e1]
      simp only [ob_s, tl_n, q35_9, f5]
      rw [c, if_pos (by decide), q35_13, hps]
      rfl
    · rw [hps] at h
      cases h
    · rw [hps]
      exact f4
  · refine ⟨I', ?_, f, a, b, fun h => absurd h c⟩
    rw [q35_0]
    exact e
theorem sem34 {x : XT} (wx : wX x) (hx : cX x I) {p : Nat} (hp : p ≤ x.1) (h4 : I 2 4 = nI p) {d : DT} (w : wD d) (hN : vN d.1 < 6) (hd : cD d I) (d1 d2 d3 d4 : Value) : ∃ I', am_sem 34 0 [.ref 2, d1, d2, d3, d4] [] (am_T L, I, J) = some (some (.int (bz (pP x p d).2.isSome)), (am_T L, I', J)) ∧ Fc I I' ∧ cR (pP x p d) I' := by
  have hP2 := w.1.1
  have hP6 := w.1.2.1
  obtain ⟨I1, e1, f1, s1, t1, v1⟩ := sem36 L I J wx hx hp h4 (lo := 0) (hi := vP d.1 - 1) (by decide) (by omega)
  have eP : I 3 0 - 1 = nI (vP d.1 - 1) := by rw [hd.1, show (1 : Int32) = nI 1 from rfl, pk_sub (by omega)]
  rw [q34_0, eP]
  rw [show nI 0 = (0 : Int32) from rfl] at e1
  rw [e1]
  simp only [ob_s, tl_s, q34_8, bz_0]
  unfold pP pP2
  cases h1 : nmB x p 0 (vP d.1 - 1)
  · refine ⟨I1, ?_, f1.c, s1⟩
    rw [if_pos rfl, q34_9]
    rfl
  have hp2 := lxE_n hp
  have hp3 := lxE_n hp2
  have hp4 := lxE_n hp3
  obtain ⟨I2, e2, f2, s2, t2, v2⟩ := sem36 L I1 J wx (f1.c.x hx) hp2 t1 (lo := 0) (hi := 40) (by decide) (by decide)
  have e2 : am_sem 36 0 [.ref 2, .int 0, .int 40] [] (am_T L, I1, J) = _ := e2
  rw [if_neg (by decide), if_pos rfl, q34_11, e2, v1 h1]
  simp only [ob_s, tl_s, q34_18, bz_0]
  cases h2 : nmB x (lxE x p) 0 40
  · refine ⟨I2, ?_, (f1.t f2).c, s2⟩
    rw [if_pos rfl, q34_19]
    rfl
  have k2 := (nmB_2 h2).2.2
  obtain ⟨I3, e3, f3, s3, t3, v3⟩ := sem36 L I2 J wx ((f1.t f2).c.x hx) hp3 t2 (lo := lxV x (lxE x p)) (hi := 40) (by omega) (by decide)
  have e3 : am_sem 36 0 [.ref 2, .int (nI (lxV x (lxE x p))), .int 40] [] (am_T L, I2, J) = _ := e3
  rw [if_neg (by decide), if_pos rfl, q34_21, v2 h2, e3]
  simp only [ob_s, tl_s, q34_28, bz_0]
  cases h3 : nmB x (lxE x (lxE x p)) (lxV x (lxE x p)) 40
  · refine ⟨I3, ?_, ((f1.t f2).t f3).c, s3⟩
    rw [if_pos rfl, q34_29]
    rfl
  have k3 := (nmB_2 h3).2.2
  have f123 := (f1.t f2).t f3
  obtain ⟨I4, e4, f4, a4, b4, c4⟩ := sem35 L I3 J wx hp4 (f123.c.x hx) t3 .null .null
  have f1234 := f123.t f4
  rw [if_neg (by decide), if_pos rfl, q34_31, e4, v3 h3]
  simp only [ob_s, tl_s, q34_36]
  by_cases c : lxK x (lxE x (lxE x (lxE x p))) = 3
  · have hps : pS x 9 (lxE x (lxE x (lxE x p))) 0 = (lxE x (lxE x (lxE x (lxE x p))), some 0) := by rw [pS, if_pos c]
    rw [if_pos c, hps]
    refine ⟨I4, ?_, f1234.c, c4 c⟩
    rw [if_pos (by exact rfl), q34_39]
    rfl
  · rw [if_neg c]
    cases hm : (pS x 9 (lxE x (lxE x (lxE x p))) 0).2 with
    | none =>
      refine ⟨I4, ?_, f1234.c, a4 hm⟩
      rw [if_pos (by decide), q34_39]
      rfl
    | some m =>
      have hml := pS_le x 9 _ 0 hp4 (by decide) m hm
      have hm0 : m ≠ 0 := by
        rw [pS, if_neg c] at hm
        by_cases c2 : (decide (lxK x (lxE x (lxE x (lxE x p))) = 2) && (decide (lxV x (lxE x (lxE x (lxE x p))) < 8) && !(0 : Nat).testBit (lxV x (lxE x (lxE x (lxE x p)))))) = true
        · rw [if_pos c2] at hm
          have c3 := c2
          simp only [Bool.and_eq_true, decide_eq_true_eq, Bool.not_eq_true'] at c3
          have hs := c8_s 0 (by decide) _ c3.2.1 c3.2.2
          exact (pS_le x 8 _ _ (lxE_n hp4) hs.2.1 m hm).2.2.2 hs.2.2
        · rw [if_neg c2] at hm
          cases hm
      have hd4 := f1234.d hd
      obtain ⟨N, hNN⟩ : ∃ N, N = vN d.1 := ⟨_, rfl⟩
      have n4 : I4 3 1 = nI N := hd4.2.1.trans (by rw [hNN])
      have hN6 : N < 6 := by omega
      have vv : vp_in (nI N) 6 := n_in hN6 (by decide)
      obtain ⟨I5, hI5⟩ : ∃ I5, I5 = am_u (am_u (am_u (am_u (am_u I4 5 N (nI (lxV x p))) 6 N (nI m)) 7 N (nI (lxV x (lxE x p)))) 8 N (nI (lxV x (lxE x (lxE x p))))) 3 1 (nI (N + 1)) := ⟨_, rfl⟩
      have s48 : am_sem 48 0 [.ref 3, .int (nI (lxV x p)), .int (nI m), .int (nI (lxV x (lxE x p))), .int (nI (lxV x (lxE x (lxE x p))))] [] (am_T L, I4, J) = some (none, (am_T L, I5, J)) := by
        rw [q48_0, n4, if_neg (nI_pos (by omega)), q48_3, n4, if_neg (by rw [show (6 : Int32) = nI 6 from rfl, n_le (by decide) (by omega)]; omega), q48_7, n4, am_if_t ⟨vv, vv, vv, vv⟩, nc (show N < 2 ^ 31 by omega), q48_37, hI5]
        simp only [am_u_k (show 3 ≠ 8 by decide), am_u_k (show 3 ≠ 7 by decide), am_u_k (show 3 ≠ 6 by decide), am_u_k (show 3 ≠ 5 by decide), n4, nI_1]
      have y : ∀ c, c ≠ 3 → c ≠ 5 → c ≠ 6 → c ≠ 7 → c ≠ 8 → I5 c = I4 c := fun c h1 h2 h3 h4 h5 => by rw [hI5, am_u_n _ _ _ h1, am_u_n _ _ _ h5, am_u_n _ _ _ h4, am_u_n _ _ _ h3, am_u_n _ _ _ h2]
      refine ⟨I5, ?_, f1234.c.t ⟨fun c hc => y c (by omega) (by omega) (by omega) (by omega) (by omega), fun j hj => by rw [y 2 (by decide) (by decide) (by decide) (by decide) (by decide)]⟩, ?_, ?_⟩
      · have hm0' : ¬ nI m = 0 := by
          rw [show (0 : Int32) = nI 0 from rfl, n_inj (by omega) (by decide)]
          exact hm0
        show (if nI m = 0 then _ else am_sem 34 41 [.ref 2, .int (nI (lxV x p)), .int (nI (lxV x (lxE x p))), .int (nI (lxV x (lxE x (lxE x p)))), .int (nI m)] [] (am_T L, I4, J)) = _
        rw [if_neg hm0', q34_41, s48]
        simp only [ob_s, tl_n, q34_48]
        rfl
      · rw [y 2 (by decide) (by decide) (by decide) (by decide) (by decide)]
        exact b4 (by rw [hm]; simp)
      · refine ⟨?_, ?_, ?_, fun i hi => ?_, fun i hi => ?_, fun i hi => ?_, fun i hi => ?_⟩
        · rw [hI5, am_u_j (by decide), am_u_k (by decide), am_u_k (by decide), am_u_k (by decide), am_u_k (by decide)]
          exact hd4.1
        · rw [hI5, am_u_x, hNN]
          rfl
        · rw [y 4 (by decide) (by decide) (by decide) (by decide) (by decide)]
          exact hd4.2.2.1
        · have hi : i < vN d.1 + 1 := hi
          show I5 5 i = nI (if i = vN d.1 then lxV x p else d.2 i)
          rw [hI5, am_u_k (by decide), am_u_k (by decide), am_u_k (by decide), am_u_k (by decide), ← hNN]
          by_cases q : i = N
          · rw [q, am_u_x, if_pos rfl]
          · rw [am_u_j q, if_neg q]
            exact hd4.2.2.2.1 i (by omega)
        · have hi : i < vN d.1 + 1 := hi
          show I5 6 i = nI (if i = vN d.1 then m else vC d.1 i)
          rw [hI5, am_u_k (by decide), am_u_k (by decide), am_u_k (by decide), ← hNN]
          by_cases q : i = N
          · rw [q, am_u_x, if_pos rfl]
          · rw [am_u_j q, am_u_k (by decide), if_neg q]
            exact hd4.2.2.2.2.1 i (by omega)
        · have hi : i < vN d.1 + 1 := hi
          show I5 7 i = nI (if i = vN d.1 then lxV x (lxE x p) else vA d.1 i)
          rw [hI5, am_u_k (by decide), am_u_k (by decide), ← hNN]
          by_cases q : i = N
          · rw [q, am_u_x, if_pos rfl]
          · rw [am_u_j q, am_u_k (by decide), am_u_k (by decide), if_neg q]
            exact hd4.2.2.2.2.2.1 i (by omega)
        · have hi : i < vN d.1 + 1 := hi
          show I5 8 i = nI (if i = vN d.1 then lxV x (lxE x (lxE x p)) else vB d.1 i)
          rw [hI5, am_u_k (by decide), ← hNN]
          by_cases q : i = N
          · rw [q, am_u_x, if_pos rfl]
          · rw [am_u_j q, am_u_k (by decide), am_u_k (by decide), am_u_k (by decide), if_neg q]
            exact hd4.2.2.2.2.2.2 i (by omega)
/-- an item, its first token read -/
theorem sem31 {x : XT} (wx : wX x) (hx : cX x I) {p k : Nat} (hp : p ≤ x.1) (hk : k < 1000) (h3 : I 2 3 = nI (lxS x p)) (h4 : I 2 4 = nI (lxE x p)) (h5 : I 2 5 = nI (lxK x p)) {d : DT} (w : wD d) (hd : cD d I) : ∃ I', am_sem 31 0 [.ref 2, .int (nI k)] [] (am_T L, I, J) = some (some (.int (bz (pI x (decide (k = 0)) p d).2.isSome)), (am_T L, I', J)) ∧ Fc I I' ∧ cR (pI x (decide (k = 0)) p d) I' := by
  have hkk := lxK_le x p
  have hS := lxS_le hp
  have hE := lxE_le hp
  have h200 := wx.1
  have fr : Fc I I := ⟨fun _ _ => rfl, fun _ _ => rfl⟩
  have nof : am_sem 31 11 [.ref 2, .int (nI k)] [] (am_T L, I, J) = some (some (.int (bz false)), (am_T L, I, J)) := by
    rw [q31_11]
    rfl
  rw [q31_0, h5]
  simp only [n_eqc (x := 1) (c := 1) rfl (show lxK x p < 2 ^ 31 by omega) (by decide)]
  unfold pI
  by_cases c1 : lxK x p = 1
  · rw [if_pos c1, q31_4, h3, h4, pk_sub hE.1]
    simp only [n_eqc (x := 1) (c := 1) rfl (show lxE x p - lxS x p < 2 ^ 31 by omega) (by decide)]
    by_cases c2 : lxE x p = lxS x p + 1
    · rw [if_pos (by omega), if_pos ⟨c1, c2⟩, q31_13, h3, at_n L I J (a := 9) (n := 200) rfl (by decide) (show lxS x p < 200 by omega), hx.2 _ (show lxS x p < x.1 by omega)]
      have hb := wx.2 (lxS x p)
      simp only [ob_s, tl_s, q31_18, n_eqc (x := 102) (c := 102) rfl (show x.2 (lxS x p) < 2 ^ 31 by omega) (by decide), n_eqc (x := 110) (c := 110) rfl (show x.2 (lxS x p) < 2 ^ 31 by omega) (by decide), n_eqc (x := 112) (c := 112) rfl (show x.2 (lxS x p) < 2 ^ 31 by omega) (by decide)]
      by_cases a1 : x.2 (lxS x p) = 110
      · rw [if_neg (by omega), if_pos a1, if_pos a1, q31_19]
        simp only [n_eqc (x := 0) (c := 0) rfl (show k < 2 ^ 31 by omega) (by decide)]
        by_cases a2 : k = 0
        · rw [if_pos a2, decide_eq_true a2, if_pos rfl, q31_21]
          obtain ⟨I1, e1, f1, r1⟩ := sem32 L I J wx hx (lxE_n hp) h4 hd
          refine ⟨I1, ?_, f1, r1⟩
          rw [e1]
          simp only [ob_s, tl_s, q31_23, bz_0]
          cases (pN x (lxE x p) d).2.isSome
          · rw [if_pos rfl, q31_26, q31_27, am_if_t (Or.inl rfl)]
            rfl
          · rw [if_neg (by decide), q31_24, q31_27, am_if_t (Or.inr rfl)]
            rfl
        · rw [if_neg a2, decide_eq_false a2, if_neg (by decide), q31_26, q31_27, am_if_t (Or.inl rfl)]
          exact ⟨I, rfl, fr, h3⟩
      · simp only [if_neg a1]
        by_cases a2 : x.2 (lxS x p) = 102
        · simp only [if_pos a2]
          rw [q31_28]
          obtain ⟨I1, e1, f1, r1⟩ := sem33 L I J wx hx (lxE_n hp) h4 w hd .null .null
          refine ⟨I1, ?_, f1, r1⟩
          rw [e1]
          simp only [ob_s, tl_s, q31_30]
          rw [am_if_t (bz_01 _)]
        · simp only [if_neg a2]
          by_cases a3 : x.2 (lxS x p) = 112
          · simp only [if_pos a3]
            rw [q31_31, hd.2.1]
            have hN6 := w.1.2.2.1
            simp only [show (6 : Int32) = nI 6 from rfl, n_le (show 6 < 2 ^ 31 by decide) (show vN d.1 < 2 ^ 31 by omega)]
            by_cases a4 : vN d.1 < 6
            · rw [if_neg (by omega), if_pos a4, q31_36]
              obtain ⟨I1, e1, f1, r1⟩ := sem34 L I J wx hx (lxE_n hp) h4 w a4 hd .null .null .null .null
              refine ⟨I1, ?_, f1, r1⟩
              rw [e1]
              simp only [ob_s, tl_s, q31_38, bz_0]
              cases (pP x (lxE x p) d).2.isSome
              · rw [if_pos rfl, q31_41, q31_42, am_if_t (Or.inl rfl)]
                rfl
              · rw [if_neg (by decide), q31_39, q31_42, am_if_t (Or.inr rfl)]
                rfl
            · rw [if_pos (by omega), if_neg a4, q31_41, q31_42, am_if_t (Or.inl rfl)]
              exact ⟨I, rfl, fr, h3⟩
          · simp only [if_neg a3]
            rw [q31_43]
            exact ⟨I, rfl, fr, h3⟩
    · rw [if_neg (by omega), if_neg (fun h => c2 h.2), nof]
      exact ⟨I, rfl, fr, h3⟩
  · rw [if_neg c1, if_neg (fun h => c1 h.1), nof]
    exact ⟨I, rfl, fr, h3⟩
/-- what a text tells: how many items and what they tell, or where it fails -/
def pL (x : XT) : Nat → Nat → Nat → DT → Nat ⊕ (Nat × DT)
  | 0, _, k, d => .inr (k, d)
  | f + 1, p, k, d => if lxK x p = 0 then .inr (k, d) else match pI x (decide (k = 0)) p d with
    | (q, some d') => pL x f q (k + 1) d'
    | (s, none) => .inl s
theorem sem30l {x : XT} (wx : wX x) : ∀ f p k (d : DT) (I : Nat → Nat → Int32), x.1 < p + f → p ≤ x.1 → k ≤ p → cX x I → I 2 4 = nI p → wD d → (k = 0 → ∀ p, d.2 p = 0) → cD d I → ∃ I', Fc I I' ∧ match pL x f p k d with
    | .inl s => am_sem 30 8 [.ref 2, .int (nI k)] [] (am_T L, I, J) = some (some (.int (-10 - nI s)), (am_T L, I', J))
    | .inr (n, d') => am_sem 30 8 [.ref 2, .int (nI k)] [] (am_T L, I, J) = some (some (.int (nI n)), (am_T L, I', J)) ∧ cD d' I' ∧ wD d' ∧ n ≤ 200
  | 0, p, k, d, I, hf, hp, hkp, hx, h4, w, w0, hd => by omega
  | f + 1, p, k, d, I, hf, hp, hkp, hx, h4, w, w0, hd => by
    have h200 := wx.1
    obtain ⟨I1, e1, f1, f2, f3, f4, f5, f6⟩ := sem38 L I J wx hx hp h4
    have fr : Fr I I1 := ⟨f1, f2⟩
    have hkk := lxK_le x p
    have e0 : am_sem 30 8 [.ref 2, .int (nI k)] [] (am_T L, I, J) = if lxK x p = 0 then am_sem 30 17 [.ref 2, .int (nI k)] [] (am_T L, I1, J) else am_sem 30 19 [.ref 2, .int (nI k)] [] (am_T L, I1, J) := by
      rw [q30_8, hx.1, if_neg (by rw [n_lt (by omega) (by omega)]; omega), q30_12, e1]
      simp only [ob_s, tl_n, q30_14, f5, n_eqc (x := 0) (c := 0) rfl (show lxK x p < 2 ^ 31 by omega) (by decide)]
    rw [pL]
    by_cases c : lxK x p = 0
    · rw [if_pos c] at e0 ⊢
      refine ⟨I1, fr.c, ?_, fr.d hd, w, by omega⟩
      rw [e0, q30_17]
    · rw [if_neg c] at e0 ⊢
      obtain ⟨I2, e2, g2, r2⟩ := sem31 L I1 J wx (fr.c.x hx) hp (show k < 1000 by omega) f3 f4 f5 w (fr.d hd)
      rw [q30_19, e2] at e0
      simp only [ob_s, tl_s, q30_22, bz_0] at e0
      have g := fr.c.t g2
      have hok := fun d' h => pI_ok (d' := d') (b := decide (k = 0)) hp w (fun h => w0 (of_decide_eq_true h)) h
      cases hpi : pI x (decide (k = 0)) p d with
      | mk q o =>
        rw [hpi] at e0 r2 hok
        cases o with
        | none =>
          refine ⟨I2, g, ?_⟩
          have r2 : I2 2 3 = nI q := r2
          show am_sem 30 8 [.ref 2, .int (nI k)] [] (am_T L, I, J) = some (some (.int (-10 - nI q)), (am_T L, I2, J))
          rw [e0]
          rw [if_pos (by exact rfl), q30_23, q30_26, r2]
        | some d' =>
          have r2 : I2 2 4 = nI q ∧ cD d' I2 := r2
          have hq := hok d' rfl
          obtain ⟨I3, g3, h3⟩ := sem30l wx f q (k + 1) d' I2 (by omega) hq.2.1 (by omega) (g.x hx) r2.1 hq.2.2 (fun h => by omega) r2.2
          have e0 : am_sem 30 8 [.ref 2, .int (nI k)] [] (am_T L, I, J) = am_sem 30 8 [.ref 2, .int (nI (k + 1))] [] (am_T L, I2, J) := by
            rw [e0]
            rw [if_neg (by intro h; cases h), q30_24, nI_1]
          rw [e0]
          exact ⟨I3, g.t g3, h3⟩
end OPS
