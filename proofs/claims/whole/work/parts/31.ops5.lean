/-! ===== ops: nobody; the course remembers ===== -/
section OPS
variable (L : Nat)
/-- the first of the log, and NONE -/
def nbB (a : AT) (i : Nat) : Bool := decide (lH a.2.1 i = 1) && decide (mk (fun p => mB a.1 a.2.1 a.2.2.1 p i) (vN a.1) = 0)
theorem sem61l (I : Nat → Nat → Int32) (J : Nat → Nat → Int64) {a : AT} (wv : wV a.1) (wl : wL a.1 a.2.1) (wq : wQ a.1 a.2.2.1) (hv : cV a.1 I) (hl : cL a.2.1 I) (hq : cQ (vN a.1) 21 a.2.2.1 I) : ∀ k i, i + k = lN_ a.2.1 → am_sem 61 2 [.ref 1, .int (nI i)] [] (am_T L, I, J) = some (some (.int (upF (nbB a) k i)), (am_T L, I, J))
  | 0, i, hk => by
    have h8 := wl.1
    rw [q61_2, hl.1, if_pos (by rw [n_le (by omega) (by omega)]; omega), q61_21]
    rfl
  | k + 1, i, hk => by
    have h8 := wl.1
    have hn := wv.2.2.1
    have hi : i < lN_ a.2.1 := by omega
    have e0 : (fun p => mB a.1 a.2.1 a.2.2.1 p i && decide (0 ≤ tM a.1 a.2.1 a.2.2.1 p i)) = fun p => mB a.1 a.2.1 a.2.2.1 p i := by funext p; simp
    have e95 := sem95 L I J wv wl wq hv hl hq hi (show 0 < 1000 by omega) .null .null .null
    rw [e0, show nI 0 = (0 : Int32) from rfl] at e95
    have ih := sem61l I J wv wl wq hv hl hq k (i + 1) (by omega)
    have hm := mk_lt31 (fun p => mB a.1 a.2.1 a.2.2.1 p i) (show vN a.1 ≤ 31 by omega)
    rw [q61_2, hl.1, if_neg (by rw [n_le (by omega) (by omega)]; omega)]
    simp only [q61_21, q61_7, q61_11, q61_19, q61_12, q61_16, q61_17, sem26 L I J wl hl hi, e95, ob_s, tl_s, nI_1, bz_0, n_eqc (x := 0) (c := 0) rfl hm (by decide)]
    rw [upF, nbB]
    by_cases c1 : lH a.2.1 i = 1
    · by_cases c2 : mk (fun p => mB a.1 a.2.1 a.2.2.1 p i) (vN a.1) = 0
      · simp [c1, c2]
      · simp [c1, c2, ih]
    · simp [c1, ih]
theorem sem140l (I : Nat → Nat → Int32) (J : Nat → Nat → Int64) {a : AT} (wv : wV a.1) (wl : wL a.1 a.2.1) (wq : wQ a.1 a.2.2.1) (hv : mV a.1 I) (hl : mL a.2.1 I) (hq : mQ (vN a.1) a.2.2.1 (I 58)) : ∀ k m, k + m = lN_ a.2.1 → am_sem 140 7 [.ref 54, .int (upF (nbB a) m k), .int (nI k - 1)] [] (am_T L, I, J) = some (some (.int (upF (nbB a) (lN_ a.2.1) 0)), (am_T L, I, J))
  | 0, m, hk => by
    rw [q140_7, if_pos (by decide), q140_23, show m = lN_ a.2.1 by omega]
  | k + 1, m, hk => by
    have h8 := wl.1
    have hn := wv.2.2.1
    have hi : k < lN_ a.2.1 := by omega
    have ih := sem140l I J wv wl wq hv hl hq k (m + 1) (by omega)
    have hm := mk_lt31 (fun p => mB a.1 a.2.1 a.2.2.1 p k) (show vN a.1 ≤ 31 by omega)
    rw [upF] at ih
    rw [nI_pred, q140_7, if_neg (nI_pos (by omega))]
    simp only [q140_23, q140_9, q140_12, q140_19, q140_13, q140_20, q140_16, q140_17, sem133 L I J wl hl hi, sem138 L I J wv wl wq hv hl hq hi, ob_s, tl_s, bz_0]
    rw [show nI k + (-1) = nI k - 1 from (Int32.sub_eq_add_neg _ _).symm ▸ rfl]
    rw [nbB] at ih
    by_cases c1 : lH a.2.1 k = 1
    · simp only [if_pos c1, n_eqc (x := 0) (c := 0) rfl hm (by decide)]
      by_cases c2 : mk (fun p => mB a.1 a.2.1 a.2.2.1 p k) (vN a.1) = 0
      · simp only [c1, c2, decide_true, Bool.and_self, if_true] at ih
        simp only [c1, c2, decide_true, Bool.true_eq_false, if_false, if_true]
        exact ih
      · simp only [c2, decide_false, Bool.and_false, Bool.false_eq_true, if_false] at ih
        simp only [c1, c2, decide_true, Bool.true_eq_false, if_false]
        exact ih
    · simp only [c1, decide_false, Bool.false_and, Bool.false_eq_true, if_false] at ih
      simp only [c1, decide_false, if_true]
      exact ih
theorem op_nobody (d e f : Value) : Op L 61 140 [.ref 1, d] [.ref 54, e, f] := Op.ro fun a I J hR => by
  obtain ⟨⟨wv, wl, wq, wx, wi, wj⟩, ⟨cv, cl, cq, cx, ci, cj⟩, ⟨mv, ml, mq, mx, mi, mj⟩, ht⟩ := hR
  refine ⟨_, (q61_0 L I J d).trans (sem61l L I J wv wl wq cv cl cq (lN_ a.2.1) 0 (by omega)), ?_⟩
  rw [q140_0, ml.1]
  exact sem140l L I J wv wl wq mv ml mq (lN_ a.2.1) 0 (by omega)
/-- the course with one more that may be undone -/
def rem (q : QT) (k p l : Nat) : QT := (qT q, qD q, qDP q, qDO q, qDS q, qDL q, qW q, min (qU q) 9 + 1, fun i => if i = min (qU q) 9 then k else qUK q (i + (qU q - 9)), fun i => if i = min (qU q) 9 then p else qUP q (i + (qU q - 9)), fun i => if i = min (qU q) 9 then l else qUL q (i + (qU q - 9)))
theorem sem9l (J : Nat → Nat → Int64) : ∀ m a (I : Nat → Nat → Int32), a + m = 10 → 1 ≤ a → ∃ I', am_sem 9 2 [.ref 21, .int (nI a)] [] (am_T L, I, J) = some (none, (am_T L, I', J)) ∧ (∀ k, k ≠ 21 → k ≠ 27 → k ≠ 28 → k ≠ 29 → I' k = I k) ∧ (∀ j, j ≠ 3 → I' 21 j = I 21 j) ∧ I' 21 3 = 9 ∧ (∀ i, i < 9 → a ≤ i + 1 → I' 27 i = I 27 (i + 1) ∧ I' 28 i = I 28 (i + 1) ∧ I' 29 i = I 29 (i + 1)) ∧ ∀ i, i + 1 < a → I' 27 i = I 27 i ∧ I' 28 i = I 28 i ∧ I' 29 i = I 29 i
  | 0, a, I, hk, h1 => by
    refine ⟨am_u I 21 3 9, ?_, fun k h1 h2 h3 h4 => am_u_n _ _ _ h1, fun j hj => am_u_j hj, am_u_x, fun i h2 h3 => by omega, fun i h2 => ⟨am_u_k (by omega), am_u_k (by omega), am_u_k (by omega)⟩⟩
    rw [q9_2, if_pos (by rw [show (10 : Int32) = nI 10 from rfl, n_le (by decide) (by omega)]; omega), q9_37]
  | m + 1, a, I, hk, h1 => by
    obtain ⟨b, rfl⟩ : ∃ b, a = b + 1 := ⟨a - 1, by omega⟩
    obtain ⟨I', e, f1, f2, f3, f4, f5⟩ := sem9l J m (b + 2) (am_u (am_u (am_u I 27 b (I 27 (b + 1))) 28 b (I 28 (b + 1))) 29 b (I 29 (b + 1))) (by omega) (by omega)
    refine ⟨I', ?_, fun k h1 h2 h3 h4 => ?_, fun j hj => ?_, f3, fun i h2 h3 => ?_, fun i h2 => ?_⟩
    · rw [q9_2, if_neg (by rw [show (10 : Int32) = nI 10 from rfl, n_le (by decide) (by omega)]; omega), q9_5, nI_pred, nc (show b < 2 ^ 31 by omega), nc (show b + 1 < 2 ^ 31 by omega), am_if_t, nI_1]
      · exact e
      · have k1 : vp_in (nI (b + 1)) 10 := n_in (by omega) (by decide)
        have k2 : vp_in (nI b) 10 := n_in (by omega) (by decide)
        exact ⟨k1, k2, k1, k2, k1, k2⟩
    · rw [f1 k h1 h2 h3 h4, am_u_n _ _ _ h4, am_u_n _ _ _ h3, am_u_n _ _ _ h2]
    · rw [f2 j hj, am_u_k (by omega), am_u_k (by omega), am_u_k (by omega)]
    · by_cases c : b + 2 ≤ i + 1
      · obtain ⟨g1, g2, g3⟩ := f4 i h2 c
        rw [g1, g2, g3]
        simp [am_u, show ¬ i + 1 = b by omega]
      · obtain ⟨g1, g2, g3⟩ := f5 i (by omega)
        rw [g1, g2, g3]
        have : i = b := by omega
        subst this
        simp [am_u]
    · obtain ⟨g1, g2, g3⟩ := f5 i (by omega)
      rw [g1, g2, g3]
      simp [am_u, show ¬ i = b by omega]
theorem rem_c (I : Nat → Nat → Int32) (J : Nat → Nat → Int64) {v : VT} {q : QT} (wv : wV v) (wq : wQ v q) (hq : cQ (vN v) 21 q I) {k p l : Nat} (hk : k ≤ 2) (hp : p < 6) (hl : k = 2 → p < vN v ∧ l = qW q p) : ∃ I', am_sem 8 0 [.ref 21, .int (nI k), .int (nI p)] [] (am_T L, I, J) = some (none, (am_T L, I', J)) ∧ cQ (vN v) 21 (rem q k p l) I' ∧ ∀ c, (c < 21 ∨ 29 < c) → I' c = I c := by
  have hn := wv.2.2.1
  have w3 := wq.2.2.1
  obtain ⟨h1, h2, h3, h4, h5, h6, h7, h8, h9, h10, h11⟩ := hq
  have A : ∃ I1, am_sem 8 0 [.ref 21, .int (nI k), .int (nI p)] [] (am_T L, I, J) = am_sem 8 6 [.ref 21, .int (nI k), .int (nI p)] [] (am_T L, I1, J) ∧ (∀ c, c ≠ 21 → c ≠ 27 → c ≠ 28 → c ≠ 29 → I1 c = I c) ∧ (∀ j, j ≠ 3 → I1 21 j = I 21 j) ∧ I1 21 3 = nI (min (qU q) 9) ∧ ∀ i, i < min (qU q) 9 → I1 27 i = I 27 (i + (qU q - 9)) ∧ I1 28 i = I 28 (i + (qU q - 9)) ∧ I1 29 i = I 29 (i + (qU q - 9)) := by
    by_cases c : qU q = 10
    · obtain ⟨I', e, f1, f2, f3, f4, f5⟩ := sem9l L J 9 1 I (by omega) (by omega)
      refine ⟨I', ?_, f1, f2, ?_, fun i hi => ?_⟩
      · rw [q8_0, h3, c, if_neg (by decide), q8_4, q9_0]
        have e : am_sem 9 2 [.ref 21, .int 1] [] (am_T L, I, J) = some (none, (am_T L, I', J)) := e
        rw [e]
        rfl
      · rw [f3, c]
        rfl
      · rw [c]
        exact f4 i (by omega) (by omega)
    · refine ⟨I, ?_, fun c _ _ _ _ => rfl, fun j _ => rfl, ?_, fun i hi => ?_⟩
      · rw [q8_0, h3, if_pos (by rw [show (10 : Int32) = nI 10 from rfl, n_lt (by omega) (by decide)]; omega)]
      · rw [h3, show min (qU q) 9 = qU q by omega]
      · rw [show qU q - 9 = 0 by omega]
        exact ⟨rfl, rfl, rfl⟩
  obtain ⟨I1, eA, f1, f2, f3, f4⟩ := A
  obtain ⟨u, hu⟩ : ∃ u, u = min (qU q) 9 := ⟨_, rfl⟩
  rw [← hu] at f3 f4
  have hu9 : u ≤ 9 := by omega
  have hpv : k = 2 → I1 26 p = nI l := fun hk2 => by
    rw [f1 26 (by omega) (by omega) (by omega) (by omega), (hl hk2).2]
    exact h8 p (hl hk2).1
  refine ⟨am_u (am_u (am_u (am_u I1 27 u (nI k)) 28 u (nI p)) 29 u (I1 26 p)) 21 3 (nI u + 1), ?_, ?_, ?_⟩
  · rw [eA, q8_6, f3, if_neg (nI_pos (by omega)), q8_9, f3, if_neg (by rw [show (10 : Int32) = nI 10 from rfl, n_le (by decide) (by omega)]; omega), q8_13, f3, nc (show u < 2 ^ 31 by omega)]
    have k1 : vp_in (nI u) 10 := n_in (by omega) (by decide)
    rw [am_if_t ⟨k1, k1⟩]
    simp only [q4_0, q4_4, at_n L _ J (a := 26) (n := 6) rfl (by decide) hp, ob_s, tl_s, q8_32, q8_39, am_if_t k1, nc (show u < 2 ^ 31 by omega)]
    simp only [am_u_k (show 21 ≠ 28 by decide), am_u_k (show 21 ≠ 27 by decide), am_u_k (show 26 ≠ 28 by decide), am_u_k (show 26 ≠ 27 by decide), am_u_k (show 21 ≠ 29 by decide), f3]
  · have g : ∀ c, c ≠ 21 → c ≠ 27 → c ≠ 28 → c ≠ 29 → am_u (am_u (am_u (am_u I1 27 u (nI k)) 28 u (nI p)) 29 u (I1 26 p)) 21 3 (nI u + 1) c = I c := fun c c1 c2 c3 c4 => by
      rw [am_u_n _ _ _ c1, am_u_n _ _ _ c4, am_u_n _ _ _ c3, am_u_n _ _ _ c2, f1 c c1 c2 c3 c4]
    have g2 : ∀ j, j ≠ 3 → am_u (am_u (am_u (am_u I1 27 u (nI k)) 28 u (nI p)) 29 u (I1 26 p)) 21 3 (nI u + 1) 21 j = I 21 j := fun j hj => by
      rw [am_u_j hj, am_u_k (by decide), am_u_k (by decide), am_u_k (by decide), f2 j hj]
    refine ⟨(g2 1 (by decide)).trans h1, (g2 2 (by decide)).trans h2, am_u_x.trans (by rw [nI_1, hu]; rfl), ?_, ?_, ?_, ?_, ?_, fun i hi => ?_, fun i hi hk2 => ?_, fun i hi hk2 => ?_⟩
    · rw [g _ (by decide) (by decide) (by decide) (by decide)]
      exact h4
    · rw [g _ (by decide) (by decide) (by decide) (by decide)]
      exact h5
    · rw [g _ (by decide) (by decide) (by decide) (by decide)]
      exact h6
    · rw [g _ (by decide) (by decide) (by decide) (by decide)]
      exact h7
    · rw [g _ (by decide) (by decide) (by decide) (by decide)]
      exact h8
    · have hi : i < min (qU q) 9 + 1 := hi
      show am_u _ 21 3 _ 27 i = nI (if i = min (qU q) 9 then k else qUK q (i + (qU q - 9)))
      rw [am_u_k (by decide), am_u_k (by decide), am_u_k (by decide), ← hu]
      by_cases c : i = u
      · rw [c, am_u_x, if_pos rfl]
      · rw [am_u_j c, if_neg c, (f4 i (by omega)).1]
        exact h9 _ (by omega)
    · have hi : i < min (qU q) 9 + 1 := hi
      have hk2 : (if i = min (qU q) 9 then k else qUK q (i + (qU q - 9))) = 2 := hk2
      show am_u _ 21 3 _ 28 i = nI (if i = min (qU q) 9 then p else qUP q (i + (qU q - 9)))
      rw [am_u_k (by decide), am_u_k (by decide)]
      rw [← hu] at hk2 ⊢
      by_cases c : i = u
      · rw [c, am_u_x, if_pos rfl]
      · rw [if_neg c] at hk2
        rw [am_u_j c, if_neg c, am_u_k (by decide), (f4 i (by omega)).2.1]
        exact h10 _ (by omega) hk2
    · have hi : i < min (qU q) 9 + 1 := hi
      have hk2 : (if i = min (qU q) 9 then k else qUK q (i + (qU q - 9))) = 2 := hk2
      show am_u _ 21 3 _ 29 i = nI (if i = min (qU q) 9 then l else qUL q (i + (qU q - 9)))
      rw [am_u_k (by decide)]
      rw [← hu] at hk2 ⊢
      by_cases c : i = u
      · rw [if_pos c] at hk2
        rw [c, am_u_x, if_pos rfl, hpv hk2]
      · rw [if_neg c] at hk2
        rw [am_u_j c, if_neg c, am_u_k (by decide), am_u_k (by decide), (f4 i (by omega)).2.2]
        exact h11 _ (by omega) hk2
  · intro c hc
    rw [am_u_n _ _ _ (by omega), am_u_n _ _ _ (by omega), am_u_n _ _ _ (by omega), am_u_n _ _ _ (by omega), f1 c (by omega) (by omega) (by omega) (by omega)]
end OPS
