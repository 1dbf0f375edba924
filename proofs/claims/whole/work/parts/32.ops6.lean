/-! ===== the reference remembers ===== -/
section OPS
variable (L : Nat)
theorem m2 (i : Nat) : (2 : Int32) * nI i = nI (2 * i) := by rw [show (2 : Int32) = nI 2 from rfl, pk_mul]
theorem c49 (i : Nat) : (49 : Int32) + nI i = nI (49 + i) := by rw [show (49 : Int32) = nI 49 from rfl, nI_add]
theorem c9 (i : Nat) : (9 : Int32) + nI i = nI (9 + i) := by rw [show (9 : Int32) = nI 9 from rfl, nI_add]
theorem sem149l (J : Nat → Nat → Int64) (w z : Int32) : ∀ m a (I : Nat → Nat → Int32), a + m = 18 → ∃ I', am_sem 149 8 [.ref 54, .int w, .int z, .int (nI a)] [] (am_T L, I, J) = am_sem 149 35 [.ref 54, .int w, .int z, .int (nI 18)] [] (am_T L, I', J) ∧ (∀ k, k ≠ 58 → I' k = I k) ∧ (∀ j, j ≠ 2 → j < 49 → I' 58 j = I 58 j) ∧ I' 58 2 = I 58 2 - 1 ∧ (∀ i, a ≤ i → i < 18 → I' 58 (49 + i) = I 58 (51 + i)) ∧ ∀ i, i < a → I' 58 (49 + i) = I 58 (49 + i)
  | 0, a, I, hk => by
    refine ⟨am_u I 58 2 (I 58 2 - 1), ?_, fun k h1 => am_u_n _ _ _ h1, fun j hj h2 => am_u_j hj, am_u_x, fun i h2 h3 => by omega, fun i h2 => am_u_j (by omega)⟩
    rw [q149_8, if_pos (by rw [show (18 : Int32) = nI 18 from rfl, n_le (by decide) (by omega)]; omega), q149_27, show a = 18 by omega]
  | m + 1, a, I, hk => by
    obtain ⟨I', e, f1, f2, f3, f4, f5⟩ := sem149l J w z m (a + 1) (am_u I 58 (49 + a) (I 58 (49 + a + 2))) (by omega)
    refine ⟨I', ?_, fun k h1 => ?_, fun j hj h2 => ?_, ?_, fun i h2 h3 => ?_, fun i h2 => ?_⟩
    · rw [q149_8, if_neg (by rw [show (18 : Int32) = nI 18 from rfl, n_le (by decide) (by omega)]; omega), q149_11, c49, p2, nc (show 49 + a < 2 ^ 31 by omega), nc (show 49 + a + 2 < 2 ^ 31 by omega), am_if_t ⟨n_in (show 49 + a + 2 < 69 by omega) (by decide), n_in (show 49 + a < 69 by omega) (by decide)⟩, nI_1]
      exact e
    · rw [f1 k h1, am_u_n _ _ _ h1]
    · rw [f2 j hj h2, am_u_j (by omega)]
    · rw [f3, am_u_j (by omega)]
    · by_cases c : a + 1 ≤ i
      · rw [f4 i c h3, am_u_j (by omega)]
      · rw [f5 i (by omega), show i = a by omega, am_u_x, show 49 + a + 2 = 51 + a by omega]
    · rw [f5 i (by omega), am_u_j (by omega)]
theorem rem_m (I : Nat → Nat → Int32) (J : Nat → Nat → Int64) {v : VT} {q : QT} (wv : wV v) (wq : wQ v q) (hq : mQ (vN v) q (I 58)) {k p l : Nat} {w z : Int32} (hw : w = if k = 0 then -1 else if k = 1 then -2 else nI p) (hz : k = 2 → z = nI l) (d : Value) : ∃ I', am_sem 149 0 [.ref 54, .int w, .int z, d] [] (am_T L, I, J) = some (none, (am_T L, I', J)) ∧ mQ (vN v) (rem q k p l) (I' 58) ∧ ∀ c, c ≠ 58 → I' c = I c := by
  have hn := wv.2.2.1
  have w2 := wq.2.1
  have w3 := wq.2.2.1
  obtain ⟨h1, h2, h3, h4, h5, h6, h7, h8, h9, h10⟩ := hq
  have A : ∃ I1 d', am_sem 149 0 [.ref 54, .int w, .int z, d] [] (am_T L, I, J) = am_sem 149 35 [.ref 54, .int w, .int z, d'] [] (am_T L, I1, J) ∧ (∀ c, c ≠ 58 → I1 c = I c) ∧ (∀ j, j ≠ 2 → j < 49 → I1 58 j = I 58 j) ∧ I1 58 2 = nI (min (qU q) 9) ∧ ∀ i, i < min (qU q) 9 → I1 58 (49 + 2 * i) = I 58 (49 + 2 * (i + (qU q - 9))) ∧ I1 58 (50 + 2 * i) = I 58 (50 + 2 * (i + (qU q - 9))) := by
    by_cases c : qU q = 10
    · obtain ⟨I', e, f1, f2, f3, f4, f5⟩ := sem149l L J w z 18 0 I (by omega)
      refine ⟨I', .int (nI 18), ?_, f1, f2, ?_, fun i hi => ?_⟩
      · rw [q149_0, h3, c, if_pos (by decide), q149_6]
        exact e
      · rw [f3, h3, c]
        rfl
      · rw [c]
        refine ⟨?_, ?_⟩
        · rw [f4 (2 * i) (by omega) (by omega)]
          exact congrArg _ (by omega)
        · have := f4 (2 * i + 1) (by omega) (by omega)
          rw [show 49 + (2 * i + 1) = 50 + 2 * i by omega] at this
          rw [this]
          exact congrArg _ (by omega)
    · refine ⟨I, d, ?_, fun c _ => rfl, fun j _ _ => rfl, ?_, fun i hi => ?_⟩
      · rw [q149_0, h3, if_neg (by rw [show (10 : Int32) = nI 10 from rfl, n_inj (by omega) (by decide)]; omega)]
      · rw [h3, show min (qU q) 9 = qU q by omega]
      · rw [show qU q - 9 = 0 by omega]
        exact ⟨rfl, rfl⟩
  obtain ⟨I1, d', eA, f1, f2, f3, f4⟩ := A
  obtain ⟨u, hu⟩ : ∃ u, u = min (qU q) 9 := ⟨_, rfl⟩
  rw [← hu] at f3 f4
  have hu9 : u ≤ 9 := by omega
  refine ⟨am_u (am_u (am_u I1 58 (49 + 2 * u) w) 58 (50 + 2 * u) z) 58 2 (nI (u + 1)), ?_, ?_, ?_⟩
  · rw [eA, q149_35]
    simp only [f3, m2, c49, nc (show 49 + 2 * u < 2 ^ 31 by omega), am_u_j (show 2 ≠ 49 + 2 * u by omega), nI_1, show 49 + 2 * u + 1 = 50 + 2 * u by omega, nc (show 50 + 2 * u < 2 ^ 31 by omega), am_u_j (show 2 ≠ 50 + 2 * u by omega)]
    rw [am_if_t ⟨n_in (show 49 + 2 * u < 69 by omega) (by decide), n_in (show 50 + 2 * u < 69 by omega) (by decide)⟩]
  · have g : ∀ j, j ≠ 2 → j < 49 → am_u (am_u (am_u I1 58 (49 + 2 * u) w) 58 (50 + 2 * u) z) 58 2 (nI (u + 1)) 58 j = I 58 j := fun j hj h => by
      rw [am_u_j hj, am_u_j (by omega), am_u_j (by omega), f2 j hj h]
    refine ⟨(g 0 (by decide) (by decide)).trans h1, (g 1 (by decide) (by decide)).trans h2, am_u_x.trans (by rw [hu]; rfl), fun i hi => ?_, fun i hi => ?_, fun i hi => ?_, fun i hi => ?_, fun i hi => ?_, fun i hi => ?_, fun i hi hk2 => ?_⟩
    · have hi : i < qD q := hi
      exact (g _ (by omega) (by omega)).trans (h4 i hi)
    · have hi : i < qD q := hi
      exact (g _ (by omega) (by omega)).trans (h5 i hi)
    · have hi : i < qD q := hi
      exact (g _ (by omega) (by omega)).trans (h6 i hi)
    · have hi : i < qD q := hi
      exact (g _ (by omega) (by omega)).trans (h7 i hi)
    · exact (g _ (by omega) (by omega)).trans (h8 i hi)
    · have hi : i < min (qU q) 9 + 1 := hi
      show am_u _ 58 2 _ 58 (49 + 2 * i) = if (if i = min (qU q) 9 then k else qUK q (i + (qU q - 9))) = 0 then -1 else if (if i = min (qU q) 9 then k else qUK q (i + (qU q - 9))) = 1 then -2 else nI (if i = min (qU q) 9 then p else qUP q (i + (qU q - 9)))
      rw [am_u_j (by omega), am_u_j (by omega), ← hu]
      by_cases c : i = u
      · simp only [c, am_u_x, if_true]
        exact hw
      · rw [am_u_j (by omega)]
        simp only [if_neg c]
        rw [(f4 i (by omega)).1]
        exact h9 _ (by omega)
    · have hi : i < min (qU q) 9 + 1 := hi
      have hk2 : (if i = min (qU q) 9 then k else qUK q (i + (qU q - 9))) = 2 := hk2
      show am_u _ 58 2 _ 58 (50 + 2 * i) = nI (if i = min (qU q) 9 then l else qUL q (i + (qU q - 9)))
      rw [← hu] at hk2 ⊢
      rw [am_u_j (by omega)]
      by_cases c : i = u
      · rw [if_pos c] at hk2
        rw [c, am_u_x, if_pos rfl]
        exact hz hk2
      · rw [if_neg c] at hk2
        rw [am_u_j (by omega), am_u_j (by omega), if_neg c, (f4 i (by omega)).2]
        exact h10 _ (by omega) hk2
  · intro c hc
    rw [am_u_n _ _ _ hc, am_u_n _ _ _ hc, am_u_n _ _ _ hc, f1 c hc]
end OPS
theorem cnt_cong {f g : Nat → Nat} {c : Nat} : ∀ n, (∀ i, i < n → f i = g i) → cnt f c n = cnt g c n
  | 0, _ => rfl
  | n + 1, h => by rw [cnt, cnt, h n (by omega), cnt_cong n fun i hi => h i (by omega)]
theorem cnt_sh (f : Nat → Nat) (c : Nat) : ∀ n, cnt (fun i => f (i + 1)) c n ≤ cnt f c (n + 1)
  | 0 => Nat.zero_le _
  | n + 1 => by
    have := cnt_sh f c n
    rw [cnt, cnt]
    omega
theorem cnt_rem {v : VT} {q : QT} (wq : wQ v q) (k p l c : Nat) : cnt (qUK (rem q k p l)) c (qU (rem q k p l)) ≤ cnt (qUK q) c (qU q) + if k = c then 1 else 0 := by
  have w3 := wq.2.2.1
  show cnt (fun i => if i = min (qU q) 9 then k else qUK q (i + (qU q - 9))) c (min (qU q) 9 + 1) ≤ _
  rw [cnt, if_pos rfl]
  have e : cnt (fun i => if i = min (qU q) 9 then k else qUK q (i + (qU q - 9))) c (min (qU q) 9) = cnt (fun i => qUK q (i + (qU q - 9))) c (min (qU q) 9) := cnt_cong _ fun i hi => by simp [show ¬ i = min (qU q) 9 by omega]
  rw [e]
  by_cases hc : qU q = 10
  · rw [hc]
    have : cnt (fun i => qUK q (i + 1)) c 9 ≤ cnt (qUK q) c 10 := cnt_sh (qUK q) c 9
    show cnt (fun i => qUK q (i + 1)) c 9 + _ ≤ _
    omega
  · rw [show qU q - 9 = 0 by omega, show min (qU q) 9 = qU q by omega]
    exact Nat.le_refl _
theorem wQ_rem {v : VT} {q : QT} (wq : wQ v q) {k p l : Nat} (hk : k ≤ 2) (hp : k = 2 → p < vN v) (hl : l < vP v) : qU (rem q k p l) ≤ 10 ∧ (∀ i, qUK (rem q k p l) i ≤ 2) ∧ (∀ i, i < qU (rem q k p l) → qUK (rem q k p l) i = 2 → qUP (rem q k p l) i < vN v) ∧ ∀ i, qUL (rem q k p l) i < vP v := by
  obtain ⟨w1, w2, w3, w4, w5, w6, w7, w8, w9, w10, w11, -⟩ := wq
  refine ⟨by show min (qU q) 9 + 1 ≤ 10; omega, fun i => ?_, fun i hi h2 => ?_, fun i => ?_⟩
  · show (if i = min (qU q) 9 then k else qUK q (i + (qU q - 9))) ≤ 2
    split
    · exact hk
    · exact w9 _
  · have hi : i < min (qU q) 9 + 1 := hi
    have h2 : (if i = min (qU q) 9 then k else qUK q (i + (qU q - 9))) = 2 := h2
    show (if i = min (qU q) 9 then p else qUP q (i + (qU q - 9))) < vN v
    by_cases c : i = min (qU q) 9
    · rw [if_pos c] at h2 ⊢
      exact hp h2
    · rw [if_neg c] at h2 ⊢
      exact w10 _ (by omega) h2
  · show (if i = min (qU q) 9 then l else qUL q (i + (qU q - 9))) < vP v
    split
    · exact hl
    · exact w11 _
