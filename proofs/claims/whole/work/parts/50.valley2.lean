/-! ===== ops: valley, to the end ===== -/
theorem neg10 : ∀ s, s < 201 → ¬ (0 : Int32) ≤ -10 - nI s := by decide +kernel
section OPS
variable (L : Nat) (I : Nat → Nat → Int32) (J : Nat → Nat → Int64)
theorem sem55s {d : DT} (hN : vN d.1 ≤ 6) (hd : cD d I) (n : Nat) : ∃ I', am_sem 55 8 [.ref 1, .int (nI n)] [] (am_T L, I, J) = some (some (.int (nI n)), (am_T L, I', J)) ∧ (∀ c, 54 ≤ c → I' c = I c) ∧ I' 2 0 = 0 ∧ I' 16 0 = 0 ∧ I' 30 0 = 0 ∧ I' 39 0 = 0 ∧ I' 21 1 = 0 ∧ I' 21 2 = 0 ∧ I' 21 3 = 0 ∧ cV d.1 I' ∧ ∀ p, p < vN d.1 → I' 26 p = nI (d.2 p) := by
  obtain ⟨X1, h1⟩ : ∃ X1, X1 = cp (cp (cp (cp (cp (am_u (am_u I 10 0 (I 3 0)) 10 1 (I 3 1)) 4 11 36) 5 12 6) 6 13 6) 7 14 6) 8 15 6 := ⟨_, rfl⟩
  obtain ⟨X2, h2⟩ : ∃ X2, X2 = am_u (am_u X1 2 0 0) 16 0 0 := ⟨_, rfl⟩
  obtain ⟨X3, h3⟩ : ∃ X3, X3 = cp (am_u (am_u (am_u X2 21 1 0) 21 2 0) 21 3 0) 12 26 6 := ⟨_, rfl⟩
  have e43 : am_sem 43 0 [.ref 10, .ref 3] [] (am_T L, I, J) = some (none, (am_T L, X1, J)) := by
    rw [h1]
    simp only [q43_0, q43_13, q43_18, q43_23, q43_28, q43_33, sem84 L _ J (s := 4) (t := 11) (n := 36) rfl rfl (by decide) (by decide), sem84 L _ J (s := 5) (t := 12) (n := 6) rfl rfl (by decide) (by decide), sem84 L _ J (s := 6) (t := 13) (n := 6) rfl rfl (by decide) (by decide), sem84 L _ J (s := 7) (t := 14) (n := 6) rfl rfl (by decide) (by decide), sem84 L _ J (s := 8) (t := 15) (n := 6) rfl rfl (by decide) (by decide), ob_s, tl_n, am_u_k (show 3 ≠ 10 by decide)]
  have e2 : am_sem 2 0 [.ref 21, .ref 10] [] (am_T L, X2, J) = some (none, (am_T L, X3, J)) := by
    rw [h3]
    simp only [q2_0, q2_14, sem84 L _ J (s := 12) (t := 26) (n := 6) rfl rfl (by decide) (by decide), ob_s, tl_n]
  refine ⟨am_u (am_u X3 30 0 0) 39 0 0, ?_, fun c hc => ?_, ?_, ?_, ?_, ?_, ?_, ?_, ?_, ⟨?_, ?_, fun k hk => ?_, fun p hp => ?_, fun p hp => ?_, fun p hp => ?_⟩, fun p hp => ?_⟩
  · rw [q55_8, e43]
    simp only [ob_s, tl_n, q55_14]
    rw [← h2, e2]
    simp only [ob_s, tl_n, q55_27]
  · rw [am_u_n _ _ _ (by omega), am_u_n _ _ _ (by omega), h3, cp_n (by omega), am_u_n _ _ _ (by omega), am_u_n _ _ _ (by omega), am_u_n _ _ _ (by omega), h2, am_u_n _ _ _ (by omega), am_u_n _ _ _ (by omega), h1, cp_n (by omega), cp_n (by omega), cp_n (by omega), cp_n (by omega), cp_n (by omega), am_u_n _ _ _ (by omega), am_u_n _ _ _ (by omega)]
  · rw [am_u_k (by decide), am_u_k (by decide), h3, cp_n (by decide), am_u_k (by decide), am_u_k (by decide), am_u_k (by decide), h2, am_u_k (by decide), am_u_x]
  · rw [am_u_k (by decide), am_u_k (by decide), h3, cp_n (by decide), am_u_k (by decide), am_u_k (by decide), am_u_k (by decide), h2, am_u_x]
  · rw [am_u_k (by decide), am_u_x]
  · rw [am_u_x]
  · rw [am_u_k (by decide), am_u_k (by decide), h3, cp_n (by decide), am_u_j (by decide), am_u_j (by decide), am_u_x]
  · rw [am_u_k (by decide), am_u_k (by decide), h3, cp_n (by decide), am_u_j (by decide), am_u_x]
  · rw [am_u_k (by decide), am_u_k (by decide), h3, cp_n (by decide), am_u_x]
  · rw [am_u_k (by decide), am_u_k (by decide), h3, cp_n (by decide), am_u_k (by decide), am_u_k (by decide), am_u_k (by decide), h2, am_u_k (by decide), am_u_k (by decide), h1, cp_n (by decide), cp_n (by decide), cp_n (by decide), cp_n (by decide), cp_n (by decide), am_u_j (by decide), am_u_x]
    exact hd.1
  · rw [am_u_k (by decide), am_u_k (by decide), h3, cp_n (by decide), am_u_k (by decide), am_u_k (by decide), am_u_k (by decide), h2, am_u_k (by decide), am_u_k (by decide), h1, cp_n (by decide), cp_n (by decide), cp_n (by decide), cp_n (by decide), cp_n (by decide), am_u_x]
    exact hd.2.1
  · rw [am_u_k (by decide), am_u_k (by decide), h3, cp_n (by decide), am_u_k (by decide), am_u_k (by decide), am_u_k (by decide), h2, am_u_k (by decide), am_u_k (by decide), h1, cp_n (by decide), cp_n (by decide), cp_n (by decide), cp_n (by decide), cp_x hk, am_u_k (by decide), am_u_k (by decide)]
    exact hd.2.2.1 k hk
  · rw [am_u_k (by decide), am_u_k (by decide), h3, cp_n (by decide), am_u_k (by decide), am_u_k (by decide), am_u_k (by decide), h2, am_u_k (by decide), am_u_k (by decide), h1, cp_n (by decide), cp_n (by decide), cp_x (show p < 6 by omega), cp_n (by decide), cp_n (by decide), am_u_k (by decide), am_u_k (by decide)]
    exact hd.2.2.2.2.1 p hp
  · rw [am_u_k (by decide), am_u_k (by decide), h3, cp_n (by decide), am_u_k (by decide), am_u_k (by decide), am_u_k (by decide), h2, am_u_k (by decide), am_u_k (by decide), h1, cp_n (by decide), cp_x (show p < 6 by omega), cp_n (by decide), cp_n (by decide), cp_n (by decide), am_u_k (by decide), am_u_k (by decide)]
    exact hd.2.2.2.2.2.1 p hp
  · rw [am_u_k (by decide), am_u_k (by decide), h3, cp_n (by decide), am_u_k (by decide), am_u_k (by decide), am_u_k (by decide), h2, am_u_k (by decide), am_u_k (by decide), h1, cp_x (show p < 6 by omega), cp_n (by decide), cp_n (by decide), cp_n (by decide), cp_n (by decide), am_u_k (by decide), am_u_k (by decide)]
    exact hd.2.2.2.2.2.2 p hp
  · rw [am_u_k (by decide), am_u_k (by decide), h3, cp_x (show p < 6 by omega), am_u_k (by decide), am_u_k (by decide), am_u_k (by decide), h2, am_u_k (by decide), am_u_k (by decide), h1, cp_n (by decide), cp_n (by decide), cp_n (by decide), cp_x (show p < 6 by omega), cp_n (by decide), am_u_k (by decide), am_u_k (by decide)]
    exact hd.2.2.2.1 p hp
theorem sem127a (d : Value) : ∀ m k (d : Value), k + m = 36 → am_sem 127 14 [.ref 54, .int (nI k), d] [] (am_T L, cpn I 62 k (fun k => nI (f0 k)), J) = am_sem 127 33 [.ref 54, .int (nI 36), d] [] (am_T L, cpn I 62 36 (fun k => nI (f0 k)), J)
  | 0, k, d, hk => by
    rw [q127_14, if_pos (by rw [show (36 : Int32) = nI 36 from rfl, n_le (by decide) (by omega)]; omega), show k = 36 by omega]
  | m + 1, k, d, hk => by
    have ih := fun d => sem127a d m (k + 1) d (by omega)
    rw [q127_14, if_neg (by rw [show (36 : Int32) = nI 36 from rfl, n_le (by decide) (by omega)]; omega), q127_17]
    simp only [f0_q (show k < 36 by omega), q127_27, q127_29, q127_30, nc (show k < 2 ^ 31 by omega), am_if_t (n_in (show k < 36 by omega) (by decide)), nI_1]
    have e := cpn_s I 62 k (fun k => nI (f0 k))
    by_cases c : k / 6 = k % 6
    · have c0 : f0 k = 1 := if_pos c
      simp only [c0] at e
      rw [if_pos c, show (1 : Int32) = nI 1 from rfl, e]
      exact ih _
    · have c0 : f0 k = 3 := if_neg c
      simp only [c0] at e
      rw [if_neg c, show (3 : Int32) = nI 3 from rfl, e]
      exact ih _
theorem sem127b (a : Value) (b : Int32) (ha : a = .int b) : ∀ m k, k + m = 69 → am_sem 127 62 [.ref 54, a, .int (nI k)] [] (am_T L, cpn I 58 k (fun _ => 0), J) = am_sem 127 72 [.ref 54, a, .int (nI 69)] [] (am_T L, cpn I 58 69 (fun _ => 0), J)
  | 0, k, hk => by
    subst ha
    rw [q127_62, if_pos (by rw [show (69 : Int32) = nI 69 from rfl, n_le (by decide) (by omega)]; omega), show k = 69 by omega]
  | m + 1, k, hk => by
    have ih := sem127b a b ha m (k + 1) (by omega)
    have e := cpn_s I 58 k (fun _ => (0 : Int32))
    subst ha
    rw [q127_62, if_neg (by rw [show (69 : Int32) = nI 69 from rfl, n_le (by decide) (by omega)]; omega), q127_65, nc (show k < 2 ^ 31 by omega), am_if_t (n_in (show k < 69 by omega) (by decide)), nI_1, e]
    exact ih
theorem sem127c (b : Int32) : ∀ m k, k + m = 36 → am_sem 127 82 [.ref 54, .int b, .int (nI k)] [] (am_T L, cpn I 55 k (I 62), J) = am_sem 127 95 [.ref 54, .int b, .int (nI 36)] [] (am_T L, cpn I 55 36 (I 62), J)
  | 0, k, hk => by
    rw [q127_82, if_pos (by rw [show (36 : Int32) = nI 36 from rfl, n_le (by decide) (by omega)]; omega), show k = 36 by omega]
  | m + 1, k, hk => by
    have ih := sem127c b m (k + 1) (by omega)
    have e := cpn_s I 55 k (I 62)
    have v : vp_in (nI k) 36 := n_in (by omega) (by decide)
    rw [q127_82, if_neg (by rw [show (36 : Int32) = nI 36 from rfl, n_le (by decide) (by omega)]; omega), q127_85, nc (show k < 2 ^ 31 by omega), am_if_t ⟨v, v⟩, nI_1, show cpn I 55 k (I 62) 62 k = I 62 k by rw [cpn_n (by decide)], e]
    exact ih
theorem sem127d (b : Int32) : ∀ m k, k + m = 24 → am_sem 127 97 [.ref 54, .int b, .int (nI k)] [] (am_T L, cpn I 56 k (I 63), J) = am_sem 127 110 [.ref 54, .int b, .int (nI 24)] [] (am_T L, cpn I 56 24 (I 63), J)
  | 0, k, hk => by
    rw [q127_97, if_pos (by rw [show (24 : Int32) = nI 24 from rfl, n_le (by decide) (by omega)]; omega), show k = 24 by omega]
  | m + 1, k, hk => by
    have ih := sem127d b m (k + 1) (by omega)
    have e := cpn_s I 56 k (I 63)
    have v : vp_in (nI k) 24 := n_in (by omega) (by decide)
    rw [q127_97, if_neg (by rw [show (24 : Int32) = nI 24 from rfl, n_le (by decide) (by omega)]; omega), q127_100, nc (show k < 2 ^ 31 by omega), am_if_t ⟨v, v⟩, nI_1, show cpn I 56 k (I 63) 63 k = I 63 k by rw [cpn_n (by decide)], e]
    exact ih
def wpn (I : Nat → Nat → Int32) (j : Nat) : Nat → Nat → Int32 := fun c i => if c = 58 then (if 3 ≤ i ∧ i < 3 + j then I 56 (4 * (i - 3)) else I c i) else I c i
theorem wpn_n {j c : Nat} (h : c ≠ 58) : wpn I j c = I c := by
  funext i
  simp [wpn, h]
theorem sem127e (b : Int32) {n : Nat} (hn : n ≤ 6) (h2 : I 54 2 = nI n) : ∀ m k, k + m = n → am_sem 127 112 [.ref 54, .int b, .int (nI k)] [] (am_T L, wpn I k, J) = am_sem 127 130 [.ref 54, .int b, .int (nI n)] [] (am_T L, wpn I n, J)
  | 0, k, hk => by
    rw [q127_112, wpn_n I (by decide), h2, if_pos (by rw [n_le (by omega) (by omega)]; omega), show k = n by omega]
  | m + 1, k, hk => by
    have ih := sem127e b hn h2 m (k + 1) (by omega)
    have e : am_u (wpn I k) 58 (3 + k) (I 56 (4 * k)) = wpn I (k + 1) := by
      funext c i
      simp only [am_u, wpn]
      by_cases h1 : c = 58
      · by_cases h2 : i = 3 + k
        · rw [if_pos h1, if_pos h2, if_pos h1, if_pos (by omega), show i - 3 = k by omega]
        · have : (3 ≤ i ∧ i < 3 + (k + 1)) = (3 ≤ i ∧ i < 3 + k) := propext ⟨fun h => by omega, fun h => by omega⟩
          simp [h1, h2, this]
      · simp [h1]
    rw [q127_112, wpn_n I (by decide), h2, if_neg (by rw [n_le (by omega) (by omega)]; omega), q127_116, m4, c3, nc (show 4 * k < 2 ^ 31 by omega), nc (show 3 + k < 2 ^ 31 by omega), am_if_t ⟨n_in (show 4 * k < 24 by omega) (by decide), n_in (show 3 + k < 69 by omega) (by decide)⟩, nI_1, wpn_n I (show 56 ≠ 58 by decide), e]
    exact ih
theorem wpn_0 : wpn I 0 = I := by
  funext c i
  simp only [wpn]
  by_cases h : c = 58
  · rw [if_pos h, if_neg (by omega)]
  · rw [if_neg h]
theorem sem127s {d : DT} (w : wD d) (hd : mD d I) (n : Nat) (d2 : Value) : ∃ I', am_sem 127 60 [.ref 54, .int (nI n), d2] [] (am_T L, I, J) = some (some (.int (nI n)), (am_T L, I', J)) ∧ (∀ c, c < 54 → I' c = I c) ∧ I' 54 4 = 0 ∧ I' 54 11 = 0 ∧ I' 60 0 = 0 ∧ I' 60 1 = 0 ∧ I' 58 0 = 0 ∧ I' 58 1 = 0 ∧ I' 58 2 = 0 ∧ mV d.1 I' ∧ ∀ p, p < vN d.1 → I' 58 (3 + p) = nI (d.2 p) := by
  have hN := w.1.2.2.1
  obtain ⟨X1, h1⟩ : ∃ X1, X1 = cpn I 58 69 (fun _ => 0) := ⟨_, rfl⟩
  obtain ⟨X2, h2⟩ : ∃ X2, X2 = am_u (am_u X1 54 0 (X1 54 18)) 54 2 (X1 54 20) := ⟨_, rfl⟩
  obtain ⟨X3, h3⟩ : ∃ X3, X3 = cpn X2 55 36 (X2 62) := ⟨_, rfl⟩
  obtain ⟨X4, h4⟩ : ∃ X4, X4 = cpn X3 56 24 (X3 63) := ⟨_, rfl⟩
  obtain ⟨X5, h5⟩ : ∃ X5, X5 = wpn X4 (vN d.1) := ⟨_, rfl⟩
  have e1 := sem127b L I J (.int (nI n)) (nI n) rfl 69 0 (by omega)
  have e2 := sem127c L X2 J (nI n) 36 0 (by omega)
  have e3 := sem127d L X3 J (nI n) 24 0 (by omega)
  have k2 : X4 54 2 = nI (vN d.1) := by rw [h4, cpn_n (by decide), h3, cpn_n (by decide), h2, am_u_x, h1, cpn_n (by decide)]; exact hd.2.1
  have e4 := sem127e L X4 J (nI n) hN k2 (vN d.1) 0 (by omega)
  rw [cpn_0] at e1 e2 e3
  rw [wpn_0] at e4
  rw [← h1] at e1
  rw [← h3] at e2
  rw [← h4] at e3
  rw [← h5] at e4
  refine ⟨am_u (am_u (am_u (am_u X5 54 4 0) 60 0 0) 60 1 0) 54 11 0, ?_, fun c hc => ?_, ?_, ?_, ?_, ?_, ?_, ?_, ?_, ⟨?_, ?_, fun k hk => ?_, fun p hp => ?_, fun p hp => ?_, fun p hp => ?_⟩, fun p hp => ?_⟩
  · have e1 : am_sem 127 62 [.ref 54, .int (nI n), .int 0] [] (am_T L, I, J) = _ := e1
    have e2 : am_sem 127 82 [.ref 54, .int (nI n), .int 0] [] (am_T L, X2, J) = _ := e2
    have e3 : am_sem 127 97 [.ref 54, .int (nI n), .int 0] [] (am_T L, X3, J) = _ := e3
    have e4 : am_sem 127 112 [.ref 54, .int (nI n), .int 0] [] (am_T L, X4, J) = _ := e4
    rw [q127_60, e1, q127_72, ← h2, e2, q127_95, e3, q127_110, e4, q127_130]
  · rw [am_u_n _ _ _ (by omega), am_u_n _ _ _ (by omega), am_u_n _ _ _ (by omega), am_u_n _ _ _ (by omega), h5, wpn_n _ (by omega), h4, cpn_n (by omega), h3, cpn_n (by omega), h2, am_u_n _ _ _ (by omega), am_u_n _ _ _ (by omega), h1, cpn_n (by omega)]
  · rw [am_u_j (by decide), am_u_k (by decide), am_u_k (by decide), am_u_x]
  · rw [am_u_x]
  · rw [am_u_k (by decide), am_u_j (by decide), am_u_x]
  · rw [am_u_k (by decide), am_u_x]
  · rw [am_u_k (by decide), am_u_k (by decide), am_u_k (by decide), am_u_k (by decide), h5]
    show (if 3 ≤ 0 ∧ 0 < 3 + vN d.1 then X4 56 (4 * (0 - 3)) else X4 58 0) = 0
    rw [if_neg (by omega), h4, cpn_n (by decide), h3, cpn_n (by decide), h2, am_u_k (by decide), am_u_k (by decide), h1, cpn_x (by decide)]
  · rw [am_u_k (by decide), am_u_k (by decide), am_u_k (by decide), am_u_k (by decide), h5]
    show (if 3 ≤ 1 ∧ 1 < 3 + vN d.1 then X4 56 (4 * (1 - 3)) else X4 58 1) = 0
    rw [if_neg (by omega), h4, cpn_n (by decide), h3, cpn_n (by decide), h2, am_u_k (by decide), am_u_k (by decide), h1, cpn_x (by decide)]
  · rw [am_u_k (by decide), am_u_k (by decide), am_u_k (by decide), am_u_k (by decide), h5]
    show (if 3 ≤ 2 ∧ 2 < 3 + vN d.1 then X4 56 (4 * (2 - 3)) else X4 58 2) = 0
    rw [if_neg (by omega), h4, cpn_n (by decide), h3, cpn_n (by decide), h2, am_u_k (by decide), am_u_k (by decide), h1, cpn_x (by decide)]
  · rw [am_u_j (by decide), am_u_k (by decide), am_u_k (by decide), am_u_j (by decide), h5, wpn_n _ (by decide), h4, cpn_n (by decide), h3, cpn_n (by decide), h2, am_u_j (by decide), am_u_x, h1, cpn_n (by decide)]
    exact hd.1
  · rw [am_u_j (by decide), am_u_k (by decide), am_u_k (by decide), am_u_j (by decide), h5, wpn_n _ (by decide)]
    exact k2
  · rw [am_u_k (by decide), am_u_k (by decide), am_u_k (by decide), am_u_k (by decide), h5, wpn_n _ (by decide), h4, cpn_n (by decide), h3, cpn_x hk, h2, am_u_k (by decide), am_u_k (by decide), h1, cpn_n (by decide)]
    exact hd.2.2.1 k hk
  · rw [am_u_k (by decide), am_u_k (by decide), am_u_k (by decide), am_u_k (by decide), h5, wpn_n _ (by decide), h4, cpn_x (by omega), h3, cpn_n (by decide), h2, am_u_k (by decide), am_u_k (by decide), h1, cpn_n (by decide)]
    exact hd.2.2.2.2.1 p hp
  · rw [am_u_k (by decide), am_u_k (by decide), am_u_k (by decide), am_u_k (by decide), h5, wpn_n _ (by decide), h4, cpn_x (by omega), h3, cpn_n (by decide), h2, am_u_k (by decide), am_u_k (by decide), h1, cpn_n (by decide)]
    exact hd.2.2.2.2.2.1 p hp
  · rw [am_u_k (by decide), am_u_k (by decide), am_u_k (by decide), am_u_k (by decide), h5, wpn_n _ (by decide), h4, cpn_x (by omega), h3, cpn_n (by decide), h2, am_u_k (by decide), am_u_k (by decide), h1, cpn_n (by decide)]
    exact hd.2.2.2.2.2.2 p hp
  · rw [am_u_k (by decide), am_u_k (by decide), am_u_k (by decide), am_u_k (by decide), h5]
    show (if 3 ≤ 3 + p ∧ 3 + p < 3 + vN d.1 then X4 56 (4 * (3 + p - 3)) else X4 58 (3 + p)) = _
    rw [if_pos (by omega), show 3 + p - 3 = p by omega, h4, cpn_x (by omega), h3, cpn_n (by decide), h2, am_u_k (by decide), am_u_k (by decide), h1, cpn_n (by decide)]
    exact hd.2.2.2.1 p hp
theorem sem127 {x : XT} (wx : wX x) (hx : mX x I) (d1 d2 : Value) : ∃ I' J', (∀ c j, (c ≠ 54 ∨ j ≠ 16) → J' c j = J c j) ∧ match pL x (x.1 + 1) 0 0 d0 with
    | .inl s => am_sem 127 0 [.ref 54, d1, d2] [] (am_T L, I, J) = some (some (.int (-10 - nI s)), (am_T L, I', J')) ∧ Fm I J I' J'
    | .inr (n, d) => am_sem 127 0 [.ref 54, d1, d2] [] (am_T L, I, J) = some (some (.int (nI n)), (am_T L, I', J')) ∧ (∀ c, c < 54 → I' c = I c) ∧ I' 54 4 = 0 ∧ I' 54 11 = 0 ∧ I' 60 0 = 0 ∧ I' 60 1 = 0 ∧ I' 58 0 = 0 ∧ I' 58 1 = 0 ∧ I' 58 2 = 0 ∧ mV d.1 I' ∧ ∀ p, p < vN d.1 → I' 58 (3 + p) = nI (d.2 p) := by
  obtain ⟨X1, h1⟩ : ∃ X1, X1 = cpn (am_u (am_u (am_u (am_u I 54 12 0) 54 17 0) 54 18 4) 54 20 0) 62 36 (fun k => nI (f0 k)) := ⟨_, rfl⟩
  have e1 := sem127a L (am_u (am_u (am_u (am_u I 54 12 0) 54 17 0) 54 18 4) 54 20 0) J .null 36 0 d2 (by omega)
  rw [cpn_0, ← h1] at e1
  have e1 : am_sem 127 14 [.ref 54, .int 0, d2] [] _ = _ := e1
  have g1 : Fm I J X1 J := by
    rw [h1]
    exact ⟨fun c c1 c2 c3 c4 => by rw [cpn_n c2, am_u_n _ _ _ c1, am_u_n _ _ _ c1, am_u_n _ _ _ c1, am_u_n _ _ _ c1], fun j hj => by rw [cpn_n (by decide), am_u_j (by omega), am_u_j (by omega), am_u_j (by omega), am_u_j (by omega)], fun _ _ _ => rfl⟩
  have x54 : ∀ j, X1 54 j = if j = 20 then 0 else if j = 18 then 4 else if j = 17 then 0 else if j = 12 then 0 else I 54 j := fun j => by
    rw [h1, cpn_n (by decide)]
    simp only [am_u, if_true]
  obtain ⟨I2, J2, e2, f1, f2, f3, k13, k12, k14, k15, k16⟩ := sem120 L X1 J wx (g1.x hx) (Nat.zero_le x.1) (x54 12) .null
  have g2 : Fm X1 J I2 J2 := ⟨fun c c1 _ _ _ => f1 c c1, fun j hj => f2 j (by omega), f3⟩
  have hd : mD d0 I2 := by
    refine ⟨(f2 18 (by omega)).trans (x54 18), (f2 20 (by omega)).trans (x54 20), fun k hk => ?_, fun p hp => absurd hp (Nat.not_lt_zero _), fun p hp => absurd hp (Nat.not_lt_zero _), fun p hp => absurd hp (Nat.not_lt_zero _), fun p hp => absurd hp (Nat.not_lt_zero _)⟩
    rw [f1 62 (by decide), h1, cpn_x hk]
    rfl
  obtain ⟨I3, J3, f4, h3⟩ := sem127l L wx d2 (x.1 + 1) 0 0 d0 I2 J2 (by omega) (Nat.le_refl _) (g2.x (g1.x hx)) ⟨Nat.zero_le _, k13, k12, k14, k15, k16⟩ ((f2 17 (by omega)).trans (x54 17)) wD_0 (fun _ _ => rfl) hd
  have g : Fm I J I3 J3 := (g1.t g2).t f4
  have e0 : am_sem 127 0 [.ref 54, d1, d2] [] (am_T L, I, J) = am_sem 127 37 [.ref 54, .int (nI 0), d2] [] (am_T L, I2, J2) := by
    rw [q127_0, e1, q127_33, e2]
    simp only [ob_s, tl_n]
    rfl
  rw [e0]
  cases hp : pL x (x.1 + 1) 0 0 d0 with
  | inl s =>
    rw [hp] at h3
    exact ⟨I3, J3, g.2.2, h3, g⟩
  | inr r =>
    obtain ⟨n, d⟩ := r
    rw [hp] at h3
    obtain ⟨h4, h5, h6, h7⟩ := h3
    obtain ⟨I4, e4, c4, r⟩ := sem127s L I3 J3 h6 h5 n d2
    exact ⟨I4, J3, g.2.2, h4.trans e4, fun c hc => (c4 c hc).trans (g.1 c (by omega) (by omega) (by omega) (by omega)), r⟩
theorem op_valley (d e1 e2 : Value) : Op L 55 127 [.ref 1, d] [.ref 54, e1, e2] := fun a I J hR => by
  obtain ⟨⟨wv, wl, wq, wx, wi, wj⟩, ⟨cv, cl, cq, cx, ci, cj⟩, ⟨mv, ml, mq, mx, mi, mj⟩, ht⟩ := id hR
  have h200 := wx.1
  obtain ⟨I1, f1, h1⟩ := sem30 L I J wx cx .null
  cases hp : pL a.2.2.2.1 (a.2.2.2.1.1 + 1) 0 0 d0 with
  | inl s =>
    have hs := pL_s _ _ _ _ _ _ (Nat.zero_le _) wD_0 (fun _ _ => rfl) hp
    rw [hp] at h1
    have mx1 : mX a.2.2.2.1 I1 := mX_of mx (by rw [f1.1 54 (by omega)]) (f1.1 61 (by omega))
    obtain ⟨I2, J2, j2, h2⟩ := sem127 L I1 J wx mx1 e1 e2
    rw [hp] at h2
    refine ⟨some (.int (-10 - nI s)), I1, J, I2, J2, a, ?_, h2.1, hR.parse (fun k k1 k2 k3 k4 k5 => ?_) ?_ (fun j hj => ?_) j2⟩
    · rw [q55_0, h1]
      simp only [ob_s, tl_s, q55_3]
      rw [if_neg (neg10 s (by omega)), q55_6]
    · rw [h2.2.1 k k2 k3 k4 k5, f1.1 k k1]
    · rw [h2.2.1 2 (by decide) (by decide) (by decide) (by decide), f1.2 0 (by omega)]
    · rw [h2.2.2.1 j hj, f1.1 54 (by omega)]
  | inr r =>
    obtain ⟨n, dd⟩ := r
    rw [hp] at h1
    obtain ⟨h1, hd, w, hn⟩ := h1
    obtain ⟨I2, s2, c2, t1, t2, t3, t4, t5, t6, t7, t8, t9⟩ := sem55s L I1 J w.1.2.2.1 hd n
    have mx1 : mX a.2.2.2.1 I2 := mX_of mx (by rw [c2 54 (by omega), f1.1 54 (by omega)]) (by rw [c2 61 (by omega), f1.1 61 (by omega)])
    obtain ⟨I3, J3, j3, h3⟩ := sem127 L I2 J wx mx1 e1 e2
    rw [hp] at h3
    obtain ⟨h3, y1, y2, y3, y4, y5, y6, y7, y8, y9, y10⟩ := h3
    have hP := w.1.1
    refine ⟨some (.int (nI n)), I2, J, I3, J3, (dd.1, (0, (fun _ => 0), (fun _ => 0), (fun _ => 0), fun _ => 0), (0, 0, (fun _ => 0), (fun _ => 0), (fun _ => 0), (fun _ => 0), dd.2, 0, (fun _ => 0), (fun _ => 0), (fun _ => 0)), (0, a.2.2.2.1.2), none, none), ?_, h3, ⟨w.1, ⟨Nat.zero_le _, fun _ => Nat.zero_le _, fun _ => ?_, fun _ => ?_, fun _ => Nat.zero_le _⟩, ⟨Nat.zero_le _, Nat.zero_le _, Nat.zero_le _, fun _ => ?_, fun _ => ?_, fun _ => Nat.zero_le _, fun _ => ?_, w.2, fun _ => Nat.zero_le _, fun k hk => absurd hk (Nat.not_lt_zero _), fun _ => ?_, Nat.le_refl _, Nat.le_refl _⟩, ⟨Nat.zero_le _, wx.2⟩, trivial, trivial⟩, ⟨cV_of t8 (fun k k1 k2 => y1 k (by omega)), cL_0 (g := (0, (fun _ => 0), (fun _ => 0), (fun _ => 0), fun _ => 0)) (by rw [y1 16 (by omega)]; exact t2), ⟨by rw [y1 21 (by omega)]; exact t5, by rw [y1 21 (by omega)]; exact t6, by rw [y1 21 (by omega)]; exact t7, fun k hk => absurd hk (Nat.not_lt_zero _), fun k hk => absurd hk (Nat.not_lt_zero _), fun k hk => absurd hk (Nat.not_lt_zero _), fun k hk => absurd hk (Nat.not_lt_zero _), fun p hp => ?_, fun k hk => absurd hk (Nat.not_lt_zero _), fun k hk => absurd hk (Nat.not_lt_zero _), fun k hk => absurd hk (Nat.not_lt_zero _)⟩, ⟨by rw [y1 2 (by omega)]; exact t1, fun k hk => absurd hk (Nat.not_lt_zero _)⟩, by show I3 30 0 = 0; rw [y1 30 (by omega)]; exact t3, by show I3 39 0 = 0; rw [y1 39 (by omega)]; exact t4⟩, ⟨y9, mL_0 (g := (0, (fun _ => 0), (fun _ => 0), (fun _ => 0), fun _ => 0)) y2, ⟨y6, y7, y8, fun k hk => absurd hk (Nat.not_lt_zero _), fun k hk => absurd hk (Nat.not_lt_zero _), fun k hk => absurd hk (Nat.not_lt_zero _), fun k hk => absurd hk (Nat.not_lt_zero _), y10, fun k hk => absurd hk (Nat.not_lt_zero _), fun k hk => absurd hk (Nat.not_lt_zero _)⟩, ⟨y3, fun k hk => absurd hk (Nat.not_lt_zero _)⟩, y4, y5⟩, ?_⟩
    · rw [q55_0, h1]
      simp only [ob_s, tl_s, q55_3]
      rw [if_pos (by rw [n_nn (by omega)]; trivial), s2]
    · show 0 < vP dd.1
      omega
    · show 0 < 8
      decide
    · show 0 < 6
      decide
    · show 0 < 8
      decide
    · show 0 < vP dd.1
      omega
    · show 0 < vP dd.1
      omega
    · show I3 26 p = nI (dd.2 p)
      rw [y1 26 (by omega)]
      exact t9 p hp
    · rw [j3 1 7 (Or.inl (by decide)), j3 54 9 (Or.inr (by decide))]
      exact ht
end OPS
