/-! ===== ops: copies, keep, back ===== -/
def cp (I : Nat → Nat → Int32) (s t n : Nat) : Nat → Nat → Int32 := fun c i => if c = t then (if i < n then I s i else I c i) else I c i
theorem cp_n {I : Nat → Nat → Int32} {s t n c : Nat} (h : c ≠ t) : cp I s t n c = I c := by
  funext i
  simp [cp, h]
theorem cp_x {I : Nat → Nat → Int32} {s t n i : Nat} (h : i < n) : cp I s t n t i = I s i := by simp [cp, h]
section OPS
variable (L : Nat) (I : Nat → Nat → Int32) (J : Nat → Nat → Int64)
theorem cpy_b1 {s t n : Nat} (ht : (am_T L)[t]? = some (0, n, [])) (c : Int32) : am_sem 84 2 [.ref s, .ref t, .int c] [] (am_T L, I, J) = if nI n ≤ c then am_sem 84 18 [.ref s, .ref t, .int c] [] (am_T L, I, J) else am_sem 84 6 [.ref s, .ref t, .int c] [] (am_T L, I, J) := by
  refine (am_sem_g0 (i' := 4) (ls' := [.ref s, .ref t, .int c]) (st' := [.ref t, .int c]) 2 rfl).trans ?_
  refine (am_sem_pl (i := 4) (ps := []) (i' := 5) (ls' := [.ref s, .ref t, .int c]) (st' := [.int (nI n), .int c]) (M' := (am_T L, I, J)) rfl rfl ?_).trans ?_
  · show am_len 4 [.ref s, .ref t, .int c] [.ref t, .int c] (am_T L, I, J) = _
    simp only [am_len, ht]
    rfl
  · rw [am_if_t (p := am_all []) trivial]
    exact (am_sem_g0 1 rfl).trans am_sem_bif
theorem cpy_b2 {s t n : Nat} (hs : (am_T L)[s]? = some (0, n, [])) (c : Int32) : am_sem 84 6 [.ref s, .ref t, .int c] [] (am_T L, I, J) = if nI n ≤ c then am_sem 84 18 [.ref s, .ref t, .int c] [] (am_T L, I, J) else am_sem 84 10 [.ref s, .ref t, .int c] [] (am_T L, I, J) := by
  refine (am_sem_g0 (i' := 8) (ls' := [.ref s, .ref t, .int c]) (st' := [.ref s, .int c]) 2 rfl).trans ?_
  refine (am_sem_pl (i := 8) (ps := []) (i' := 9) (ls' := [.ref s, .ref t, .int c]) (st' := [.int (nI n), .int c]) (M' := (am_T L, I, J)) rfl rfl ?_).trans ?_
  · show am_len 8 [.ref s, .ref t, .int c] [.ref s, .int c] (am_T L, I, J) = _
    simp only [am_len, hs]
    rfl
  · rw [am_if_t (p := am_all []) trivial]
    exact (am_sem_g0 1 rfl).trans am_sem_bif
theorem cpy_b3 {s t n j : Nat} (hs : (am_T L)[s]? = some (0, n, [])) (ht : (am_T L)[t]? = some (0, n, [])) (hn : n < 2 ^ 31) (hj : j < n) : am_sem 84 10 [.ref s, .ref t, .int (nI j)] [] (am_T L, I, J) = am_sem 84 2 [.ref s, .ref t, .int (nI (j + 1))] [] (am_T L, am_u I t j (I s j), J) := by
  have hv : vp_in (nI j) n := n_in hj hn
  refine (am_sem_g0 (i' := 14) (ls' := [.ref s, .ref t, .int (nI j)]) (st' := [.int (nI j), .ref s, .int (nI j), .ref t]) 4 rfl).trans ?_
  refine (am_sem_pl (i := 14) (ps := [vp_in (nI j) n]) (i' := 15) (ls' := [.ref s, .ref t, .int (nI j)]) (st' := [.int (I s j), .int (nI j), .ref t]) (M' := (am_T L, I, J)) rfl rfl ?_).trans ?_
  · show am_iald 0 14 [.ref s, .ref t, .int (nI j)] [.int (nI j), .ref s, .int (nI j), .ref t] (am_T L, I, J) = _
    simp only [am_iald, hs, nc (show j < 2 ^ 31 by omega)]
    rfl
  rw [am_if_t (p := am_all [vp_in (nI j) n]) hv]
  refine (am_sem_pl (i := 15) (ps := [vp_in (nI j) n]) (i' := 16) (ls' := [.ref s, .ref t, .int (nI j)]) (st' := []) (M' := (am_T L, am_u I t j (I s j), J)) rfl rfl ?_).trans ?_
  · show am_iast 15 [.ref s, .ref t, .int (nI j)] [.int (I s j), .int (nI j), .ref t] (am_T L, I, J) = _
    simp only [am_iast, ht, nc (show j < 2 ^ 31 by omega)]
    rfl
  rw [am_if_t (p := am_all [vp_in (nI j) n]) hv, ← nI_1]
  exact am_sem_g0 2 rfl
theorem cpy_l {s t n : Nat} (hs : (am_T L)[s]? = some (0, n, [])) (ht : (am_T L)[t]? = some (0, n, [])) (hn : n < 2 ^ 31) (hst : s ≠ t) : ∀ k j, j + k = n → am_sem 84 2 [.ref s, .ref t, .int (nI j)] [] (am_T L, cp I s t j, J) = some (none, (am_T L, cp I s t n, J))
  | 0, j, hk => by
    rw [cpy_b1 L _ J ht, if_pos (by rw [n_le (by omega) (by omega)]; omega), show j = n by omega]
    exact am_sem_r0 rfl rfl rfl
  | k + 1, j, hk => by
    have ih := cpy_l hs ht hn hst k (j + 1) (by omega)
    have e : am_u (cp I s t j) t j (cp I s t j s j) = cp I s t (j + 1) := by
      funext c i
      simp only [am_u, cp]
      by_cases h1 : c = t
      · subst h1
        by_cases h2 : i = j
        · subst h2
          simp [hst]
        · have : (i < j + 1) = (i < j) := propext ⟨fun h => by omega, fun h => by omega⟩
          simp [h2, this]
      · simp [h1]
    rw [cpy_b1 L _ J ht, if_neg (by rw [n_le (by omega) (by omega)]; omega), cpy_b2 L _ J hs, if_neg (by rw [n_le (by omega) (by omega)]; omega), cpy_b3 L _ J hs ht hn (by omega), e]
    exact ih
theorem cp_0 (s t : Nat) : cp I s t 0 = I := by
  funext c i
  simp [cp]
theorem sem84 {s t n : Nat} (hs : (am_T L)[s]? = some (0, n, [])) (ht : (am_T L)[t]? = some (0, n, [])) (hn : n < 2 ^ 31) (hst : s ≠ t) (d : Value) : am_sem 84 0 [.ref s, .ref t, d] [] (am_T L, I, J) = some (none, (am_T L, cp I s t n, J)) := by
  have e := cpy_l L I J hs ht hn hst n 0 (by omega)
  rw [cp_0] at e
  exact (am_sem_g0 (i' := 2) (ls' := [.ref s, .ref t, .int 0]) (st' := []) 2 rfl).trans e
theorem sem3_30_21 : ∃ I', am_sem 3 0 [.ref 30, .ref 21] [] (am_T L, I, J) = some (none, (am_T L, I', J)) ∧ (∀ k, (k < 30 ∨ 38 < k) → I' k = I k) ∧ (∀ j, j < 4 → I' 30 j = if j = 0 then I 30 0 else I 21 j) ∧ (∀ i, i < 10 → I' 31 i = I 22 i) ∧ (∀ i, i < 10 → I' 32 i = I 23 i) ∧ (∀ i, i < 10 → I' 33 i = I 24 i) ∧ (∀ i, i < 10 → I' 34 i = I 25 i) ∧ (∀ i, i < 6 → I' 35 i = I 26 i) ∧ (∀ i, i < 10 → I' 36 i = I 27 i) ∧ (∀ i, i < 10 → I' 37 i = I 28 i) ∧ (∀ i, i < 10 → I' 38 i = I 29 i) := by
  refine ⟨(cp (cp (cp (cp (cp (cp (cp (cp (am_u (am_u (am_u I 30 1 (I 21 1)) 30 2 (I 21 2)) 30 3 (I 21 3)) 22 31 10) 23 32 10) 24 33 10) 25 34 10) 26 35 6) 27 36 10) 28 37 10) 29 38 10), ?_, fun k hk => ?_, fun j hj => ?_, fun i hi => ?_, fun i hi => ?_, fun i hi => ?_, fun i hi => ?_, fun i hi => ?_, fun i hi => ?_, fun i hi => ?_, fun i hi => ?_⟩
  · simp only [q3a_0, q3a_17, q3a_22, q3a_27, q3a_32, q3a_37, q3a_42, q3a_47, q3a_52, sem84 L _ J (s := 22) (t := 31) (n := 10) rfl rfl (by decide) (by decide), sem84 L _ J (s := 23) (t := 32) (n := 10) rfl rfl (by decide) (by decide), sem84 L _ J (s := 24) (t := 33) (n := 10) rfl rfl (by decide) (by decide), sem84 L _ J (s := 25) (t := 34) (n := 10) rfl rfl (by decide) (by decide), sem84 L _ J (s := 26) (t := 35) (n := 6) rfl rfl (by decide) (by decide), sem84 L _ J (s := 27) (t := 36) (n := 10) rfl rfl (by decide) (by decide), sem84 L _ J (s := 28) (t := 37) (n := 10) rfl rfl (by decide) (by decide), sem84 L _ J (s := 29) (t := 38) (n := 10) rfl rfl (by decide) (by decide), ob_s, tl_n, am_u_j (show 2 ≠ 1 by decide), am_u_k (show 21 ≠ 30 by decide), am_u_j (show 3 ≠ 1 by decide), am_u_k (show 21 ≠ 30 by decide), am_u_j (show 3 ≠ 2 by decide), am_u_k (show 21 ≠ 30 by decide)]
  · rw [cp_n (by omega), cp_n (by omega), cp_n (by omega), cp_n (by omega), cp_n (by omega), cp_n (by omega), cp_n (by omega), cp_n (by omega), am_u_n _ _ _ (by omega), am_u_n _ _ _ (by omega), am_u_n _ _ _ (by omega)]
  · rw [cp_n (by decide), cp_n (by decide), cp_n (by decide), cp_n (by decide), cp_n (by decide), cp_n (by decide), cp_n (by decide), cp_n (by decide)]
    simp only [am_u]
    by_cases h3 : j = 3
    · simp [h3]
    · by_cases h2 : j = 2
      · simp [h2]
      · by_cases h1 : j = 1
        · simp [h1]
        · simp [show j = 0 by omega]
  · rw [cp_n (by decide), cp_n (by decide), cp_n (by decide), cp_n (by decide), cp_n (by decide), cp_n (by decide), cp_n (by decide), cp_x hi, am_u_n _ _ _ (by decide), am_u_n _ _ _ (by decide), am_u_n _ _ _ (by decide)]
  · rw [cp_n (by decide), cp_n (by decide), cp_n (by decide), cp_n (by decide), cp_n (by decide), cp_n (by decide), cp_x hi, cp_n (by decide), am_u_n _ _ _ (by decide), am_u_n _ _ _ (by decide), am_u_n _ _ _ (by decide)]
  · rw [cp_n (by decide), cp_n (by decide), cp_n (by decide), cp_n (by decide), cp_n (by decide), cp_x hi, cp_n (by decide), cp_n (by decide), am_u_n _ _ _ (by decide), am_u_n _ _ _ (by decide), am_u_n _ _ _ (by decide)]
  · rw [cp_n (by decide), cp_n (by decide), cp_n (by decide), cp_n (by decide), cp_x hi, cp_n (by decide), cp_n (by decide), cp_n (by decide), am_u_n _ _ _ (by decide), am_u_n _ _ _ (by decide), am_u_n _ _ _ (by decide)]
  · rw [cp_n (by decide), cp_n (by decide), cp_n (by decide), cp_x hi, cp_n (by decide), cp_n (by decide), cp_n (by decide), cp_n (by decide), am_u_n _ _ _ (by decide), am_u_n _ _ _ (by decide), am_u_n _ _ _ (by decide)]
  · rw [cp_n (by decide), cp_n (by decide), cp_x hi, cp_n (by decide), cp_n (by decide), cp_n (by decide), cp_n (by decide), cp_n (by decide), am_u_n _ _ _ (by decide), am_u_n _ _ _ (by decide), am_u_n _ _ _ (by decide)]
  · rw [cp_n (by decide), cp_x hi, cp_n (by decide), cp_n (by decide), cp_n (by decide), cp_n (by decide), cp_n (by decide), cp_n (by decide), am_u_n _ _ _ (by decide), am_u_n _ _ _ (by decide), am_u_n _ _ _ (by decide)]
  · rw [cp_x hi, cp_n (by decide), cp_n (by decide), cp_n (by decide), cp_n (by decide), cp_n (by decide), cp_n (by decide), cp_n (by decide), am_u_n _ _ _ (by decide), am_u_n _ _ _ (by decide), am_u_n _ _ _ (by decide)]
theorem sem3_39_21 : ∃ I', am_sem 3 0 [.ref 39, .ref 21] [] (am_T L, I, J) = some (none, (am_T L, I', J)) ∧ (∀ k, (k < 39 ∨ 47 < k) → I' k = I k) ∧ (∀ j, j < 4 → I' 39 j = if j = 0 then I 39 0 else I 21 j) ∧ (∀ i, i < 10 → I' 40 i = I 22 i) ∧ (∀ i, i < 10 → I' 41 i = I 23 i) ∧ (∀ i, i < 10 → I' 42 i = I 24 i) ∧ (∀ i, i < 10 → I' 43 i = I 25 i) ∧ (∀ i, i < 6 → I' 44 i = I 26 i) ∧ (∀ i, i < 10 → I' 45 i = I 27 i) ∧ (∀ i, i < 10 → I' 46 i = I 28 i) ∧ (∀ i, i < 10 → I' 47 i = I 29 i) := by
  refine ⟨(cp (cp (cp (cp (cp (cp (cp (cp (am_u (am_u (am_u I 39 1 (I 21 1)) 39 2 (I 21 2)) 39 3 (I 21 3)) 22 40 10) 23 41 10) 24 42 10) 25 43 10) 26 44 6) 27 45 10) 28 46 10) 29 47 10), ?_, fun k hk => ?_, fun j hj => ?_, fun i hi => ?_, fun i hi => ?_, fun i hi => ?_, fun i hi => ?_, fun i hi => ?_, fun i hi => ?_, fun i hi => ?_, fun i hi => ?_⟩
  · simp only [q3b_0, q3b_17, q3b_22, q3b_27, q3b_32, q3b_37, q3b_42, q3b_47, q3b_52, sem84 L _ J (s := 22) (t := 40) (n := 10) rfl rfl (by decide) (by decide), sem84 L _ J (s := 23) (t := 41) (n := 10) rfl rfl (by decide) (by decide), sem84 L _ J (s := 24) (t := 42) (n := 10) rfl rfl (by decide) (by decide), sem84 L _ J (s := 25) (t := 43) (n := 10) rfl rfl (by decide) (by decide), sem84 L _ J (s := 26) (t := 44) (n := 6) rfl rfl (by decide) (by decide), sem84 L _ J (s := 27) (t := 45) (n := 10) rfl rfl (by decide) (by decide), sem84 L _ J (s := 28) (t := 46) (n := 10) rfl rfl (by decide) (by decide), sem84 L _ J (s := 29) (t := 47) (n := 10) rfl rfl (by decide) (by decide), ob_s, tl_n, am_u_j (show 2 ≠ 1 by decide), am_u_k (show 21 ≠ 39 by decide), am_u_j (show 3 ≠ 1 by decide), am_u_k (show 21 ≠ 39 by decide), am_u_j (show 3 ≠ 2 by decide), am_u_k (show 21 ≠ 39 by decide)]
  · rw [cp_n (by omega), cp_n (by omega), cp_n (by omega), cp_n (by omega), cp_n (by omega), cp_n (by omega), cp_n (by omega), cp_n (by omega), am_u_n _ _ _ (by omega), am_u_n _ _ _ (by omega), am_u_n _ _ _ (by omega)]
  · rw [cp_n (by decide), cp_n (by decide), cp_n (by decide), cp_n (by decide), cp_n (by decide), cp_n (by decide), cp_n (by decide), cp_n (by decide)]
    simp only [am_u]
    by_cases h3 : j = 3
    · simp [h3]
    · by_cases h2 : j = 2
      · simp [h2]
      · by_cases h1 : j = 1
        · simp [h1]
        · simp [show j = 0 by omega]
  · rw [cp_n (by decide), cp_n (by decide), cp_n (by decide), cp_n (by decide), cp_n (by decide), cp_n (by decide), cp_n (by decide), cp_x hi, am_u_n _ _ _ (by decide), am_u_n _ _ _ (by decide), am_u_n _ _ _ (by decide)]
  · rw [cp_n (by decide), cp_n (by decide), cp_n (by decide), cp_n (by decide), cp_n (by decide), cp_n (by decide), cp_x hi, cp_n (by decide), am_u_n _ _ _ (by decide), am_u_n _ _ _ (by decide), am_u_n _ _ _ (by decide)]
  · rw [cp_n (by decide), cp_n (by decide), cp_n (by decide), cp_n (by decide), cp_n (by decide), cp_x hi, cp_n (by decide), cp_n (by decide), am_u_n _ _ _ (by decide), am_u_n _ _ _ (by decide), am_u_n _ _ _ (by decide)]
  · rw [cp_n (by decide), cp_n (by decide), cp_n (by decide), cp_n (by decide), cp_x hi, cp_n (by decide), cp_n (by decide), cp_n (by decide), am_u_n _ _ _ (by decide), am_u_n _ _ _ (by decide), am_u_n _ _ _ (by decide)]
  · rw [cp_n (by decide), cp_n (by decide), cp_n (by decide), cp_x hi, cp_n (by decide), cp_n (by decide), cp_n (by decide), cp_n (by decide), am_u_n _ _ _ (by decide), am_u_n _ _ _ (by decide), am_u_n _ _ _ (by decide)]
  · rw [cp_n (by decide), cp_n (by decide), cp_x hi, cp_n (by decide), cp_n (by decide), cp_n (by decide), cp_n (by decide), cp_n (by decide), am_u_n _ _ _ (by decide), am_u_n _ _ _ (by decide), am_u_n _ _ _ (by decide)]
  · rw [cp_n (by decide), cp_x hi, cp_n (by decide), cp_n (by decide), cp_n (by decide), cp_n (by decide), cp_n (by decide), cp_n (by decide), am_u_n _ _ _ (by decide), am_u_n _ _ _ (by decide), am_u_n _ _ _ (by decide)]
  · rw [cp_x hi, cp_n (by decide), cp_n (by decide), cp_n (by decide), cp_n (by decide), cp_n (by decide), cp_n (by decide), cp_n (by decide), am_u_n _ _ _ (by decide), am_u_n _ _ _ (by decide), am_u_n _ _ _ (by decide)]
theorem sem3_21_30 : ∃ I', am_sem 3 0 [.ref 21, .ref 30] [] (am_T L, I, J) = some (none, (am_T L, I', J)) ∧ (∀ k, (k < 21 ∨ 29 < k) → I' k = I k) ∧ (∀ j, j < 4 → I' 21 j = if j = 0 then I 21 0 else I 30 j) ∧ (∀ i, i < 10 → I' 22 i = I 31 i) ∧ (∀ i, i < 10 → I' 23 i = I 32 i) ∧ (∀ i, i < 10 → I' 24 i = I 33 i) ∧ (∀ i, i < 10 → I' 25 i = I 34 i) ∧ (∀ i, i < 6 → I' 26 i = I 35 i) ∧ (∀ i, i < 10 → I' 27 i = I 36 i) ∧ (∀ i, i < 10 → I' 28 i = I 37 i) ∧ (∀ i, i < 10 → I' 29 i = I 38 i) := by
  refine ⟨(cp (cp (cp (cp (cp (cp (cp (cp (am_u (am_u (am_u I 21 1 (I 30 1)) 21 2 (I 30 2)) 21 3 (I 30 3)) 31 22 10) 32 23 10) 33 24 10) 34 25 10) 35 26 6) 36 27 10) 37 28 10) 38 29 10), ?_, fun k hk => ?_, fun j hj => ?_, fun i hi => ?_, fun i hi => ?_, fun i hi => ?_, fun i hi => ?_, fun i hi => ?_, fun i hi => ?_, fun i hi => ?_, fun i hi => ?_⟩
  · simp only [q3c_0, q3c_17, q3c_22, q3c_27, q3c_32, q3c_37, q3c_42, q3c_47, q3c_52, sem84 L _ J (s := 31) (t := 22) (n := 10) rfl rfl (by decide) (by decide), sem84 L _ J (s := 32) (t := 23) (n := 10) rfl rfl (by decide) (by decide), sem84 L _ J (s := 33) (t := 24) (n := 10) rfl rfl (by decide) (by decide), sem84 L _ J (s := 34) (t := 25) (n := 10) rfl rfl (by decide) (by decide), sem84 L _ J (s := 35) (t := 26) (n := 6) rfl rfl (by decide) (by decide), sem84 L _ J (s := 36) (t := 27) (n := 10) rfl rfl (by decide) (by decide), sem84 L _ J (s := 37) (t := 28) (n := 10) rfl rfl (by decide) (by decide), sem84 L _ J (s := 38) (t := 29) (n := 10) rfl rfl (by decide) (by decide), ob_s, tl_n, am_u_j (show 2 ≠ 1 by decide), am_u_k (show 30 ≠ 21 by decide), am_u_j (show 3 ≠ 1 by decide), am_u_k (show 30 ≠ 21 by decide), am_u_j (show 3 ≠ 2 by decide), am_u_k (show 30 ≠ 21 by decide)]
  · rw [cp_n (by omega), cp_n (by omega), cp_n (by omega), cp_n (by omega), cp_n (by omega), cp_n (by omega), cp_n (by omega), cp_n (by omega), am_u_n _ _ _ (by omega), am_u_n _ _ _ (by omega), am_u_n _ _ _ (by omega)]
  · rw [cp_n (by decide), cp_n (by decide), cp_n (by decide), cp_n (by decide), cp_n (by decide), cp_n (by decide), cp_n (by decide), cp_n (by decide)]
    simp only [am_u]
    by_cases h3 : j = 3
    · simp [h3]
    · by_cases h2 : j = 2
      · simp [h2]
      · by_cases h1 : j = 1
        · simp [h1]
        · simp [show j = 0 by omega]
  · rw [cp_n (by decide), cp_n (by decide), cp_n (by decide), cp_n (by decide), cp_n (by decide), cp_n (by decide), cp_n (by decide), cp_x hi, am_u_n _ _ _ (by decide), am_u_n _ _ _ (by decide), am_u_n _ _ _ (by decide)]
  · rw [cp_n (by decide), cp_n (by decide), cp_n (by decide), cp_n (by decide), cp_n (by decide), cp_n (by decide), cp_x hi, cp_n (by decide), am_u_n _ _ _ (by decide), am_u_n _ _ _ (by decide), am_u_n _ _ _ (by decide)]
  · rw [cp_n (by decide), cp_n (by decide), cp_n (by decide), cp_n (by decide), cp_n (by decide), cp_x hi, cp_n (by decide), cp_n (by decide), am_u_n _ _ _ (by decide), am_u_n _ _ _ (by decide), am_u_n _ _ _ (by decide)]
  · rw [cp_n (by decide), cp_n (by decide), cp_n (by decide), cp_n (by decide), cp_x hi, cp_n (by decide), cp_n (by decide), cp_n (by decide), am_u_n _ _ _ (by decide), am_u_n _ _ _ (by decide), am_u_n _ _ _ (by decide)]
  · rw [cp_n (by decide), cp_n (by decide), cp_n (by decide), cp_x hi, cp_n (by decide), cp_n (by decide), cp_n (by decide), cp_n (by decide), am_u_n _ _ _ (by decide), am_u_n _ _ _ (by decide), am_u_n _ _ _ (by decide)]
  · rw [cp_n (by decide), cp_n (by decide), cp_x hi, cp_n (by decide), cp_n (by decide), cp_n (by decide), cp_n (by decide), cp_n (by decide), am_u_n _ _ _ (by decide), am_u_n _ _ _ (by decide), am_u_n _ _ _ (by decide)]
  · rw [cp_n (by decide), cp_x hi, cp_n (by decide), cp_n (by decide), cp_n (by decide), cp_n (by decide), cp_n (by decide), cp_n (by decide), am_u_n _ _ _ (by decide), am_u_n _ _ _ (by decide), am_u_n _ _ _ (by decide)]
  · rw [cp_x hi, cp_n (by decide), cp_n (by decide), cp_n (by decide), cp_n (by decide), cp_n (by decide), cp_n (by decide), cp_n (by decide), am_u_n _ _ _ (by decide), am_u_n _ _ _ (by decide), am_u_n _ _ _ (by decide)]
theorem sem3_21_39 : ∃ I', am_sem 3 0 [.ref 21, .ref 39] [] (am_T L, I, J) = some (none, (am_T L, I', J)) ∧ (∀ k, (k < 21 ∨ 29 < k) → I' k = I k) ∧ (∀ j, j < 4 → I' 21 j = if j = 0 then I 21 0 else I 39 j) ∧ (∀ i, i < 10 → I' 22 i = I 40 i) ∧ (∀ i, i < 10 → I' 23 i = I 41 i) ∧ (∀ i, i < 10 → I' 24 i = I 42 i) ∧ (∀ i, i < 10 → I' 25 i = I 43 i) ∧ (∀ i, i < 6 → I' 26 i = I 44 i) ∧ (∀ i, i < 10 → I' 27 i = I 45 i) ∧ (∀ i, i < 10 → I' 28 i = I 46 i) ∧ (∀ i, i < 10 → I' 29 i = I 47 i) := by
  refine ⟨(cp (cp (cp (cp (cp (cp (cp (cp (am_u (am_u (am_u I 21 1 (I 39 1)) 21 2 (I 39 2)) 21 3 (I 39 3)) 40 22 10) 41 23 10) 42 24 10) 43 25 10) 44 26 6) 45 27 10) 46 28 10) 47 29 10), ?_, fun k hk => ?_, fun j hj => ?_, fun i hi => ?_, fun i hi => ?_, fun i hi => ?_, fun i hi => ?_, fun i hi => ?_, fun i hi => ?_, fun i hi => ?_, fun i hi => ?_⟩
  · simp only [q3d_0, q3d_17, q3d_22, q3d_27, q3d_32, q3d_37, q3d_42, q3d_47, q3d_52, sem84 L _ J (s := 40) (t := 22) (n := 10) rfl rfl (by decide) (by decide), sem84 L _ J (s := 41) (t := 23) (n := 10) rfl rfl (by decide) (by decide), sem84 L _ J (s := 42) (t := 24) (n := 10) rfl rfl (by decide) (by decide), sem84 L _ J (s := 43) (t := 25) (n := 10) rfl rfl (by decide) (by decide), sem84 L _ J (s := 44) (t := 26) (n := 6) rfl rfl (by decide) (by decide), sem84 L _ J (s := 45) (t := 27) (n := 10) rfl rfl (by decide) (by decide), sem84 L _ J (s := 46) (t := 28) (n := 10) rfl rfl (by decide) (by decide), sem84 L _ J (s := 47) (t := 29) (n := 10) rfl rfl (by decide) (by decide), ob_s, tl_n, am_u_j (show 2 ≠ 1 by decide), am_u_k (show 39 ≠ 21 by decide), am_u_j (show 3 ≠ 1 by decide), am_u_k (show 39 ≠ 21 by decide), am_u_j (show 3 ≠ 2 by decide), am_u_k (show 39 ≠ 21 by decide)]
  · rw [cp_n (by omega), cp_n (by omega), cp_n (by omega), cp_n (by omega), cp_n (by omega), cp_n (by omega), cp_n (by omega), cp_n (by omega), am_u_n _ _ _ (by omega), am_u_n _ _ _ (by omega), am_u_n _ _ _ (by omega)]
  · rw [cp_n (by decide), cp_n (by decide), cp_n (by decide), cp_n (by decide), cp_n (by decide), cp_n (by decide), cp_n (by decide), cp_n (by decide)]
    simp only [am_u]
    by_cases h3 : j = 3
    · simp [h3]
    · by_cases h2 : j = 2
      · simp [h2]
      · by_cases h1 : j = 1
        · simp [h1]
        · simp [show j = 0 by omega]
  · rw [cp_n (by decide), cp_n (by decide), cp_n (by decide), cp_n (by decide), cp_n (by decide), cp_n (by decide), cp_n (by decide), cp_x hi, am_u_n _ _ _ (by decide), am_u_n _ _ _ (by decide), am_u_n _ _ _ (by decide)]
  · rw [cp_n (by decide), cp_n (by decide), cp_n (by decide), cp_n (by decide), cp_n (by decide), cp_n (by decide), cp_x hi, cp_n (by decide), am_u_n _ _ _ (by decide), am_u_n _ _ _ (by decide), am_u_n _ _ _ (by decide)]
  · rw [cp_n (by decide), cp_n (by decide), cp_n (by decide), cp_n (by decide), cp_n (by decide), cp_x hi, cp_n (by decide), cp_n (by decide), am_u_n _ _ _ (by decide), am_u_n _ _ _ (by decide), am_u_n _ _ _ (by decide)]
  · rw [cp_n (by decide), cp_n (by decide), cp_n (by decide), cp_n (by decide), cp_x hi, cp_n (by decide), cp_n (by decide), cp_n (by decide), am_u_n _ _ _ (by decide), am_u_n _ _ _ (by decide), am_u_n _ _ _ (by decide)]
  · rw [cp_n (by decide), cp_n (by decide), cp_n (by decide), cp_x hi, cp_n (by decide), cp_n (by decide), cp_n (by decide), cp_n (by decide), am_u_n _ _ _ (by decide), am_u_n _ _ _ (by decide), am_u_n _ _ _ (by decide)]
  · rw [cp_n (by decide), cp_n (by decide), cp_x hi, cp_n (by decide), cp_n (by decide), cp_n (by decide), cp_n (by decide), cp_n (by decide), am_u_n _ _ _ (by decide), am_u_n _ _ _ (by decide), am_u_n _ _ _ (by decide)]
  · rw [cp_n (by decide), cp_x hi, cp_n (by decide), cp_n (by decide), cp_n (by decide), cp_n (by decide), cp_n (by decide), cp_n (by decide), am_u_n _ _ _ (by decide), am_u_n _ _ _ (by decide), am_u_n _ _ _ (by decide)]
  · rw [cp_x hi, cp_n (by decide), cp_n (by decide), cp_n (by decide), cp_n (by decide), cp_n (by decide), cp_n (by decide), cp_n (by decide), am_u_n _ _ _ (by decide), am_u_n _ _ _ (by decide), am_u_n _ _ _ (by decide)]
end OPS
