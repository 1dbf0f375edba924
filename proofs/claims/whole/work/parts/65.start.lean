/-! ===== the start: what the constructors make ===== -/
theorem am_z_n {α : Type} (f : Nat → Nat → α) {k a : Nat} (v : α) (h : a ≠ k) : am_z f k v a = f a := by
  funext b
  unfold am_z
  rw [if_neg h]
theorem am_z_x {α : Type} (f : Nat → Nat → α) (k : Nat) (v : α) : am_z f k v k = fun _ => v := by
  funext b
  unfold am_z
  rw [if_pos rfl]
/-- at first: 1 to itself, else 3 -/
def fd (j : Nat) : Nat := if j / 6 = j % 6 then 1 else 3
theorem st_c {k : Nat} (hk : k < 36) : (nI k / 6 = nI k - nI k / 6 * 6) = (k / 6 = k % 6) := by
  rw [show (6 : Int32) = nI 6 from rfl, pk_rem (by omega) (by decide) (by decide), pk_div (by omega) (by decide) (by decide), n_inj (by omega) (by omega)]
theorem st_36 {k : Nat} (hk : k < 36) : ¬ (36 : Int32) ≤ nI k := by
  rw [show (36 : Int32) = nI 36 from rfl, n_le (by decide) (by omega)]
  omega
section ST
variable (L : Nat)
theorem st4 (J : Nat → Nat → Int64) : ∀ f k (I : Nat → Nat → Int32) (d2 : Value), k + f = 36 → ∃ I' : Nat → Nat → Int32, am_sem 42 8 [.ref 3, .int (nI k), d2] [] (tT_4 L, I, J) = some (none, (tT_4 L, I', J)) ∧ ∀ c, c ≠ 4 → I' c = I c
  | 0, k, I, d2, hk => by
    have e : k = 36 := by omega
    subst e
    refine ⟨I, ?_, fun _ _ => rfl⟩
    rw [k4_8, if_pos (by decide), k4_35]
  | f + 1, k, I, d2, hk => by
    by_cases c : k / 6 = k % 6
    · obtain ⟨I', e, f1⟩ := st4 J f (k + 1) (am_u I 4 k 1) (.int 1) (by omega)
      refine ⟨I', ?_, fun c hc => (f1 c hc).trans (am_u_n _ _ _ hc)⟩
      rw [k4_8, if_neg (st_36 (by omega)), k4_13, if_pos (by rw [st_c (by omega)]; exact c), k4_20, k4_23, if_neg (by decide), k4_29, k4_32, am_if_t (n_in (by omega) (by decide)), nc (by omega), nI_1, e]
    · obtain ⟨I', e, f1⟩ := st4 J f (k + 1) (am_u I 4 k 3) (.int 0) (by omega)
      refine ⟨I', ?_, fun c hc => (f1 c hc).trans (am_u_n _ _ _ hc)⟩
      rw [k4_8, if_neg (st_36 (by omega)), k4_13, if_neg (by rw [st_c (by omega)]; exact c), k4_22, k4_23, if_pos rfl, k4_31, k4_32, am_if_t (n_in (by omega) (by decide)), nc (by omega), nI_1, e]
theorem st6 (J : Nat → Nat → Int64) : ∀ f k (I : Nat → Nat → Int32) (d2 : Value), k + f = 36 → ∃ I' : Nat → Nat → Int32, am_sem 42 8 [.ref 10, .int (nI k), d2] [] (tT_7 L, I, J) = some (none, (tT_7 L, I', J)) ∧ (∀ c, c ≠ 11 → I' c = I c) ∧ (∀ j, j < k → I' 11 j = I 11 j) ∧ ∀ j, k ≤ j → j < 36 → I' 11 j = nI (fd j)
  | 0, k, I, d2, hk => by
    have e : k = 36 := by omega
    subst e
    refine ⟨I, ?_, fun _ _ => rfl, fun _ _ => rfl, fun j h1 h2 => by omega⟩
    rw [k6_8, if_pos (by decide), k6_35]
  | f + 1, k, I, d2, hk => by
    have key : ∀ (I' : Nat → Nat → Int32) (y : Int32), y = nI (fd k) → (∀ j, j < k + 1 → I' 11 j = am_u I 11 k y 11 j) → (∀ j, k + 1 ≤ j → j < 36 → I' 11 j = nI (fd j)) → (∀ j, j < k → I' 11 j = I 11 j) ∧ ∀ j, k ≤ j → j < 36 → I' 11 j = nI (fd j) := fun I' y hy h1 h2 => by
      refine ⟨fun j hj => ?_, fun j hj hj2 => ?_⟩
      · rw [h1 j (by omega), am_u_j (by omega)]
      · by_cases q : j = k
        · rw [q, h1 k (by omega), am_u_x, hy]
        · exact h2 j (by omega) hj2
    by_cases c : k / 6 = k % 6
    · obtain ⟨I', e, f1, f2, f3⟩ := st6 J f (k + 1) (am_u I 11 k 1) (.int 1) (by omega)
      refine ⟨I', ?_, fun c hc => (f1 c hc).trans (am_u_n _ _ _ hc), key I' 1 (by unfold fd; rw [if_pos c]; rfl) f2 f3⟩
      rw [k6_8, if_neg (st_36 (by omega)), k6_13, if_pos (by rw [st_c (by omega)]; exact c), k6_20, k6_23, if_neg (by decide), k6_29, k6_32, am_if_t (n_in (by omega) (by decide)), nc (by omega), nI_1, e]
    · obtain ⟨I', e, f1, f2, f3⟩ := st6 J f (k + 1) (am_u I 11 k 3) (.int 0) (by omega)
      refine ⟨I', ?_, fun c hc => (f1 c hc).trans (am_u_n _ _ _ hc), key I' 3 (by unfold fd; rw [if_neg c]; rfl) f2 f3⟩
      rw [k6_8, if_neg (st_36 (by omega)), k6_13, if_neg (by rw [st_c (by omega)]; exact c), k6_22, k6_23, if_pos rfl, k6_31, k6_32, am_if_t (n_in (by omega) (by decide)), nc (by omega), nI_1, e]
theorem st12 (J : Nat → Nat → Int64) : ∀ f k (I : Nat → Nat → Int32), k + f = 36 → ∃ I' : Nat → Nat → Int32, am_sem 110 59 [.ref 54, .int (nI k)] [] (am_T L, I, J) = some (none, (am_T L, I', J)) ∧ (∀ c, c ≠ 55 → I' c = I c) ∧ (∀ j, j < k → I' 55 j = I 55 j) ∧ ∀ j, k ≤ j → j < 36 → I' 55 j = nI (fd j)
  | 0, k, I, hk => by
    have e : k = 36 := by omega
    subst e
    refine ⟨I, ?_, fun _ _ => rfl, fun _ _ => rfl, fun j h1 h2 => by omega⟩
    rw [k12_59, if_pos (by decide), k12_78]
  | f + 1, k, I, hk => by
    have key : ∀ (I' : Nat → Nat → Int32) (y : Int32), y = nI (fd k) → (∀ j, j < k + 1 → I' 55 j = am_u I 55 k y 55 j) → (∀ j, k + 1 ≤ j → j < 36 → I' 55 j = nI (fd j)) → (∀ j, j < k → I' 55 j = I 55 j) ∧ ∀ j, k ≤ j → j < 36 → I' 55 j = nI (fd j) := fun I' y hy h1 h2 => by
      refine ⟨fun j hj => ?_, fun j hj hj2 => ?_⟩
      · rw [h1 j (by omega), am_u_j (by omega)]
      · by_cases q : j = k
        · rw [q, h1 k (by omega), am_u_x, hy]
        · exact h2 j (by omega) hj2
    by_cases c : k / 6 = k % 6
    · obtain ⟨I', e, f1, f2, f3⟩ := st12 J f (k + 1) (am_u I 55 k 1) (by omega)
      refine ⟨I', ?_, fun c hc => (f1 c hc).trans (am_u_n _ _ _ hc), key I' 1 (by unfold fd; rw [if_pos c]; rfl) f2 f3⟩
      rw [k12_59, if_neg (st_36 (by omega)), k12_62, if_pos (by rw [st_c (by omega)]; exact c), k12_72, k12_75, am_if_t (n_in (by omega) (by decide)), nc (by omega), nI_1, e]
    · obtain ⟨I', e, f1, f2, f3⟩ := st12 J f (k + 1) (am_u I 55 k 3) (by omega)
      refine ⟨I', ?_, fun c hc => (f1 c hc).trans (am_u_n _ _ _ hc), key I' 3 (by unfold fd; rw [if_neg c]; rfl) f2 f3⟩
      rw [k12_59, if_neg (st_36 (by omega)), k12_62, if_neg (by rw [st_c (by omega)]; exact c), k12_74, k12_75, am_if_t (n_in (by omega) (by decide)), nc (by omega), nI_1, e]
theorem st_tx (I : Nat → Nat → Int32) (J : Nat → Nat → Int64) : ∃ (I' : Nat → Nat → Int32) (J' : Nat → Nat → Int64), am_sem 28 0 [.ref 2] [] (tT_2 L, I, J) = some (none, (tT_5 L, I', J')) ∧ (∀ c, (c < 3 ∨ 9 < c) → I' c = I c) ∧ ∀ c, (c < 3 ∨ 9 < c) → J' c = J c := by
  obtain ⟨I1, e1, f1⟩ := st4 L (am_z (am_z (am_z (am_z (am_z (am_z J 3 0) 4 0) 5 0) 6 0) 7 0) 8 0) 36 0 (am_u (am_u (am_z (am_z (am_z (am_z (am_z (am_z I 3 0) 4 0) 5 0) 6 0) 7 0) 8 0) 3 0 4) 3 1 0) .null (by omega)
  have e1 : am_sem 42 8 [.ref 3, .int 0, .null] [] _ = _ := e1
  refine ⟨am_z I1 9 0, am_z (am_z (am_z (am_z (am_z (am_z (am_z J 3 0) 4 0) 5 0) 6 0) 7 0) 8 0) 9 0, ?_, fun c hc => ?_, fun c hc => ?_⟩
  · rw [k2_0, k3_0, k4_0, e1]
    simp only [ob_s, tl_n]
    rw [k3_24]
    simp only [ob_s, tl_n]
    rw [k2_6]
  · rw [am_z_n _ _ (by omega), f1 c (by omega), am_u_n _ _ _ (by omega), am_u_n _ _ _ (by omega), am_z_n _ _ (by omega), am_z_n _ _ (by omega), am_z_n _ _ (by omega), am_z_n _ _ (by omega), am_z_n _ _ (by omega), am_z_n _ _ (by omega)]
  · rw [am_z_n _ _ (by omega), am_z_n _ _ (by omega), am_z_n _ _ (by omega), am_z_n _ _ (by omega), am_z_n _ _ (by omega), am_z_n _ _ (by omega), am_z_n _ _ (by omega)]
theorem st_vl (I : Nat → Nat → Int32) (J : Nat → Nat → Int64) : ∃ (I' : Nat → Nat → Int32) (J' : Nat → Nat → Int64), am_sem 41 0 [.ref 10] [] (tT_6 L, I, J) = some (none, (tT_7 L, I', J')) ∧ (∀ c, (c < 10 ∨ 15 < c) → I' c = I c) ∧ (∀ c, (c < 10 ∨ 15 < c) → J' c = J c) ∧ I' 10 0 = 4 ∧ I' 10 1 = 0 ∧ ∀ j, j < 36 → I' 11 j = nI (fd j) := by
  obtain ⟨I1, e1, f1, f2, f3⟩ := st6 L (am_z (am_z (am_z (am_z (am_z J 11 0) 12 0) 13 0) 14 0) 15 0) 36 0 (am_u (am_u (am_z (am_z (am_z (am_z (am_z I 11 0) 12 0) 13 0) 14 0) 15 0) 10 0 4) 10 1 0) .null (by omega)
  have e1 : am_sem 42 8 [.ref 10, .int 0, .null] [] _ = _ := e1
  refine ⟨I1, am_z (am_z (am_z (am_z (am_z J 11 0) 12 0) 13 0) 14 0) 15 0, ?_, fun c hc => ?_, fun c hc => ?_, ?_, ?_, fun j hj => f3 j (Nat.zero_le _) hj⟩
  · rw [k5_0, k6_0, e1]
    simp only [ob_s, tl_n]
    rw [k5_24]
  · rw [f1 c (by omega), am_u_n _ _ _ (by omega), am_u_n _ _ _ (by omega), am_z_n _ _ (by omega), am_z_n _ _ (by omega), am_z_n _ _ (by omega), am_z_n _ _ (by omega), am_z_n _ _ (by omega)]
  · rw [am_z_n _ _ (by omega), am_z_n _ _ (by omega), am_z_n _ _ (by omega), am_z_n _ _ (by omega), am_z_n _ _ (by omega)]
  · rw [f1 10 (by decide), am_u_j (by decide), am_u_x]
  · rw [f1 10 (by decide), am_u_x]
/-- Log, Courses, DeedSets: what they are not, stays -/
theorem st_lg (I : Nat → Nat → Int32) (J : Nat → Nat → Int64) : ∃ (I' : Nat → Nat → Int32) (J' : Nat → Nat → Int64), am_sem 23 0 [.ref 16] [] (tT_8 L, I, J) = some (none, (tT_9 L, I', J')) ∧ (∀ c, (c < 17 ∨ 20 < c) → I' c = I c) ∧ ∀ c, (c < 17 ∨ 20 < c) → J' c = J c :=
  ⟨_, _, k7_0 L I J, fun c hc => by rw [am_z_n _ _ (by omega), am_z_n _ _ (by omega), am_z_n _ _ (by omega), am_z_n _ _ (by omega)], fun c hc => by rw [am_z_n _ _ (by omega), am_z_n _ _ (by omega), am_z_n _ _ (by omega), am_z_n _ _ (by omega)]⟩
theorem st_c0 (I : Nat → Nat → Int32) (J : Nat → Nat → Int64) : ∃ (I' : Nat → Nat → Int32) (J' : Nat → Nat → Int64), am_sem 1 0 [.ref 21] [] (tT_10 L, I, J) = some (none, (tT_11 L, I', J')) ∧ (∀ c, (c < 22 ∨ 29 < c) → I' c = I c) ∧ ∀ c, (c < 22 ∨ 29 < c) → J' c = J c :=
  ⟨_, _, k8_0 L I J, fun c hc => by rw [am_z_n _ _ (by omega), am_z_n _ _ (by omega), am_z_n _ _ (by omega), am_z_n _ _ (by omega), am_z_n _ _ (by omega), am_z_n _ _ (by omega), am_z_n _ _ (by omega), am_z_n _ _ (by omega)], fun c hc => by rw [am_z_n _ _ (by omega), am_z_n _ _ (by omega), am_z_n _ _ (by omega), am_z_n _ _ (by omega), am_z_n _ _ (by omega), am_z_n _ _ (by omega), am_z_n _ _ (by omega), am_z_n _ _ (by omega)]⟩
theorem st_c1 (I : Nat → Nat → Int32) (J : Nat → Nat → Int64) : ∃ (I' : Nat → Nat → Int32) (J' : Nat → Nat → Int64), am_sem 1 0 [.ref 30] [] (tT_12 L, I, J) = some (none, (tT_13 L, I', J')) ∧ (∀ c, (c < 31 ∨ 38 < c) → I' c = I c) ∧ ∀ c, (c < 31 ∨ 38 < c) → J' c = J c :=
  ⟨_, _, k9_0 L I J, fun c hc => by rw [am_z_n _ _ (by omega), am_z_n _ _ (by omega), am_z_n _ _ (by omega), am_z_n _ _ (by omega), am_z_n _ _ (by omega), am_z_n _ _ (by omega), am_z_n _ _ (by omega), am_z_n _ _ (by omega)], fun c hc => by rw [am_z_n _ _ (by omega), am_z_n _ _ (by omega), am_z_n _ _ (by omega), am_z_n _ _ (by omega), am_z_n _ _ (by omega), am_z_n _ _ (by omega), am_z_n _ _ (by omega), am_z_n _ _ (by omega)]⟩
theorem st_c2 (I : Nat → Nat → Int32) (J : Nat → Nat → Int64) : ∃ (I' : Nat → Nat → Int32) (J' : Nat → Nat → Int64), am_sem 1 0 [.ref 39] [] (tT_14 L, I, J) = some (none, (tT_15 L, I', J')) ∧ (∀ c, (c < 40 ∨ 47 < c) → I' c = I c) ∧ ∀ c, (c < 40 ∨ 47 < c) → J' c = J c :=
  ⟨_, _, k10_0 L I J, fun c hc => by rw [am_z_n _ _ (by omega), am_z_n _ _ (by omega), am_z_n _ _ (by omega), am_z_n _ _ (by omega), am_z_n _ _ (by omega), am_z_n _ _ (by omega), am_z_n _ _ (by omega), am_z_n _ _ (by omega)], fun c hc => by rw [am_z_n _ _ (by omega), am_z_n _ _ (by omega), am_z_n _ _ (by omega), am_z_n _ _ (by omega), am_z_n _ _ (by omega), am_z_n _ _ (by omega), am_z_n _ _ (by omega), am_z_n _ _ (by omega)]⟩
theorem st_ds (I : Nat → Nat → Int32) (J : Nat → Nat → Int64) : ∃ (I' : Nat → Nat → Int32) (J' : Nat → Nat → Int64), am_sem 12 0 [.ref 48] [] (tT_16 L, I, J) = some (none, (tT_17 L, I', J')) ∧ (∀ c, (c < 49 ∨ 53 < c) → I' c = I c) ∧ ∀ c, (c < 49 ∨ 53 < c) → J' c = J c :=
  ⟨_, _, k11_0 L I J, fun c hc => by rw [am_z_n _ _ (by omega), am_z_n _ _ (by omega), am_z_n _ _ (by omega), am_z_n _ _ (by omega), am_z_n _ _ (by omega)], fun c hc => by rw [am_z_n _ _ (by omega), am_z_n _ _ (by omega), am_z_n _ _ (by omega), am_z_n _ _ (by omega), am_z_n _ _ (by omega)]⟩
/-- the class' constructor -/
theorem st_x (I : Nat → Nat → Int32) (J : Nat → Nat → Int64) : ∃ (I' : Nat → Nat → Int32) (J' : Nat → Nat → Int64), am_sem 52 0 [.ref 1] [] (tT_1 L, I, J) = some (none, (tT_18 L, I', J')) ∧ J' 1 = J 1 ∧ I' 2 0 = 0 ∧ I' 10 0 = 4 ∧ I' 10 1 = 0 ∧ (∀ j, j < 36 → I' 11 j = nI (fd j)) ∧ I' 16 0 = 0 ∧ (∀ j, I' 21 j = 0) ∧ I' 30 0 = 0 ∧ I' 39 0 = 0 := by
  obtain ⟨I1, J1, e1, f1, g1⟩ := st_tx L (am_z I 2 0) (am_z J 2 0)
  obtain ⟨I2, J2, e2, f2, g2, v0, v1, v2⟩ := st_vl L (am_z I1 10 0) (am_z J1 10 0)
  obtain ⟨I3, J3, e3, f3, g3⟩ := st_lg L (am_z I2 16 0) (am_z J2 16 0)
  obtain ⟨I4, J4, e4, f4, g4⟩ := st_c0 L (am_z I3 21 0) (am_z J3 21 0)
  obtain ⟨I5, J5, e5, f5, g5⟩ := st_c1 L (am_z I4 30 0) (am_z J4 30 0)
  obtain ⟨I6, J6, e6, f6, g6⟩ := st_c2 L (am_z I5 39 0) (am_z J5 39 0)
  obtain ⟨I7, J7, e7, f7, g7⟩ := st_ds L (am_z I6 48 0) (am_z J6 48 0)
  have h6 : ∀ c, c < 48 → I7 c = I6 c := fun c hc => by rw [f7 c (by omega), am_z_n _ _ (by omega)]
  have h5 : ∀ c, c < 39 → I7 c = I5 c := fun c hc => by rw [h6 c (by omega), f6 c (by omega), am_z_n _ _ (by omega)]
  have h4 : ∀ c, c < 30 → I7 c = I4 c := fun c hc => by rw [h5 c (by omega), f5 c (by omega), am_z_n _ _ (by omega)]
  have h3 : ∀ c, c < 21 → I7 c = I3 c := fun c hc => by rw [h4 c (by omega), f4 c (by omega), am_z_n _ _ (by omega)]
  have h2 : ∀ c, c < 16 → I7 c = I2 c := fun c hc => by rw [h3 c (by omega), f3 c (by omega), am_z_n _ _ (by omega)]
  have h1 : ∀ c, c < 10 → I7 c = I1 c := fun c hc => by rw [h2 c (by omega), f2 c (by omega), am_z_n _ _ (by omega)]
  refine ⟨I7, J7, ?_, ?_, ?_, ?_, ?_, fun j hj => ?_, ?_, fun j => ?_, ?_, ?_⟩
  · rw [k1_0, e1]
    simp only [ob_s, tl_n]
    rw [k1_6, e2]
    simp only [ob_s, tl_n]
    rw [k1_11, e3]
    simp only [ob_s, tl_n]
    rw [k1_16, e4]
    simp only [ob_s, tl_n]
    rw [k1_21, e5]
    simp only [ob_s, tl_n]
    rw [k1_26, e6]
    simp only [ob_s, tl_n]
    rw [k1_31, e7]
    simp only [ob_s, tl_n]
    rw [k1_36]
  · rw [g7 1 (by omega), am_z_n _ _ (by omega), g6 1 (by omega), am_z_n _ _ (by omega), g5 1 (by omega), am_z_n _ _ (by omega), g4 1 (by omega), am_z_n _ _ (by omega), g3 1 (by omega), am_z_n _ _ (by omega), g2 1 (by omega), am_z_n _ _ (by omega), g1 1 (by omega), am_z_n _ _ (by omega)]
  · rw [h1 2 (by omega), f1 2 (by omega), am_z_x]
  · rw [h2 10 (by omega), v0]
  · rw [h2 10 (by omega), v1]
  · rw [h2 11 (by omega), v2 j hj]
  · rw [h3 16 (by omega), f3 16 (by omega), am_z_x]
  · rw [h4 21 (by omega), f4 21 (by omega), am_z_x]
  · rw [h5 30 (by omega), f5 30 (by omega), am_z_x]
  · rw [h6 39 (by omega), f6 39 (by omega), am_z_x]
/-- the reference's -/
theorem st_m (I : Nat → Nat → Int32) (J : Nat → Nat → Int64) : ∃ (I' : Nat → Nat → Int32) (J' : Nat → Nat → Int64), am_sem 110 0 [.ref 54, .null] [] (tT_19 L, am_z I 54 0, am_z J 54 0) = some (none, (am_T L, I', J')) ∧ (∀ c, c < 54 → I' c = I c) ∧ (∀ c, c < 54 → J' c = J c) ∧ J' 54 9 = 0 ∧ I' 54 0 = 4 ∧ (∀ j, j ≠ 0 → I' 54 j = 0) ∧ (∀ j, j < 36 → I' 55 j = nI (fd j)) ∧ (∀ j, I' 58 j = 0) ∧ ∀ j, I' 60 j = 0 := by
  obtain ⟨J0, hJ0⟩ : ∃ J0, J0 = am_z (am_z (am_z (am_z (am_z (am_z (am_z (am_z (am_z (am_z (am_z (am_z (am_z (am_z J 54 0) 55 0) 56 0) 57 0) 58 0) 59 0) 60 0) 61 0) 62 0) 63 0) 64 0) 65 0) 66 0) 67 0 := ⟨_, rfl⟩
  obtain ⟨I0, hI0⟩ : ∃ I0, I0 = am_z (am_z (am_z (am_z (am_z (am_z (am_z (am_z (am_z (am_z (am_z (am_z (am_z (am_u (am_z I 54 0) 54 0 4) 55 0) 56 0) 57 0) 58 0) 59 0) 60 0) 61 0) 62 0) 63 0) 64 0) 65 0) 66 0) 67 0 := ⟨_, rfl⟩
  obtain ⟨I1, e1, f1, f2, f3⟩ := st12 L J0 36 0 I0 (by omega)
  have e1 : am_sem 110 59 [.ref 54, .int 0] [] _ = _ := e1
  have hlow : ∀ c, c ≤ 54 → I0 c = am_u (am_z I 54 0) 54 0 4 c := fun c hc => by rw [hI0, am_z_n _ _ (by omega), am_z_n _ _ (by omega), am_z_n _ _ (by omega), am_z_n _ _ (by omega), am_z_n _ _ (by omega), am_z_n _ _ (by omega), am_z_n _ _ (by omega), am_z_n _ _ (by omega), am_z_n _ _ (by omega), am_z_n _ _ (by omega), am_z_n _ _ (by omega), am_z_n _ _ (by omega), am_z_n _ _ (by omega)]
  have jlow : ∀ c, c ≤ 54 → J0 c = am_z J 54 0 c := fun c hc => by rw [hJ0, am_z_n _ _ (by omega), am_z_n _ _ (by omega), am_z_n _ _ (by omega), am_z_n _ _ (by omega), am_z_n _ _ (by omega), am_z_n _ _ (by omega), am_z_n _ _ (by omega), am_z_n _ _ (by omega), am_z_n _ _ (by omega), am_z_n _ _ (by omega), am_z_n _ _ (by omega), am_z_n _ _ (by omega), am_z_n _ _ (by omega)]
  refine ⟨I1, J0, ?_, fun c hc => ?_, fun c hc => ?_, ?_, ?_, fun j hj => ?_, fun j hj => f3 j (Nat.zero_le _) hj, fun j => ?_, fun j => ?_⟩
  · rw [k12_0, ← hI0, ← hJ0, e1]
  · rw [f1 c (by omega), hlow c (by omega), am_u_n _ _ _ (by omega), am_z_n _ _ (by omega)]
  · rw [jlow c (by omega), am_z_n _ _ (by omega)]
  · rw [jlow 54 (by omega), am_z_x]
  · rw [f1 54 (by omega), hlow 54 (by omega), am_u_x]
  · rw [f1 54 (by omega), hlow 54 (by omega), am_u_j hj, am_z_x]
  · rw [f1 58 (by omega), hI0, am_z_n _ _ (by omega), am_z_n _ _ (by omega), am_z_n _ _ (by omega), am_z_n _ _ (by omega), am_z_n _ _ (by omega), am_z_n _ _ (by omega), am_z_n _ _ (by omega), am_z_n _ _ (by omega), am_z_n _ _ (by omega), am_z_x]
  · rw [f1 60 (by omega), hI0, am_z_n _ _ (by omega), am_z_n _ _ (by omega), am_z_n _ _ (by omega), am_z_n _ _ (by omega), am_z_n _ _ (by omega), am_z_n _ _ (by omega), am_z_n _ _ (by omega), am_z_x]
def a_0 : AT := ((4, 0, fd, fun _ => 0, fun _ => 0, fun _ => 0), (0, fun _ => 0, fun _ => 0, fun _ => 0, fun _ => 0), (0, 0, fun _ => 0, fun _ => 0, fun _ => 0, fun _ => 0, fun _ => 0, 0, fun _ => 0, fun _ => 0, fun _ => 0), (0, fun _ => 0), none, none)
theorem a_0w : wA_ a_0 := by
  have hf : ∀ k, fd k ≤ 9 := fun k => by unfold fd; split <;> decide
  refine ⟨⟨by decide, by decide, by decide, hf, fun _ => Nat.le_of_ble_eq_true rfl, fun _ => Nat.le_of_ble_eq_true rfl, fun _ => Nat.le_of_ble_eq_true rfl⟩, ⟨by decide, fun _ => Nat.le_of_ble_eq_true rfl, fun _ => Nat.le_of_ble_eq_true rfl, fun _ => Nat.le_of_ble_eq_true rfl, fun _ => Nat.le_of_ble_eq_true rfl⟩, ⟨by decide, by decide, by decide, fun _ => Nat.le_of_ble_eq_true rfl, fun _ => Nat.le_of_ble_eq_true rfl, fun _ => Nat.le_of_ble_eq_true rfl, fun _ => Nat.le_of_ble_eq_true rfl, fun _ => Nat.le_of_ble_eq_true rfl, fun _ => Nat.le_of_ble_eq_true rfl, fun k hk => absurd hk (Nat.not_lt_zero k), fun _ => Nat.le_of_ble_eq_true rfl, by decide, by decide⟩, ⟨by decide, fun _ => Nat.le_of_ble_eq_true rfl⟩, trivial, trivial⟩
theorem law_start (I : Nat → Nat → Int32) (d1 d2 d3 : Value) : ∃ (I' : Nat → Nat → Int32) (J' : Nat → Nat → Int64), Rl a_0 I' J' ∧ am_sem 0 0 [.ref 0, d1, d2, d3] [] (tT_0 L, I, fun _ _ => 0) = am_sem 0 10 [.ref 0, .ref 1, .ref 54, .int 0] [] (am_T L, I', J') := by
  obtain ⟨I1, J1, e1, j1, x2, x10, x101, x11, x16, x21, x30, x39⟩ := st_x L (am_z I 1 0) (am_z (fun _ _ => 0) 1 0)
  obtain ⟨I2, J2, e2, f2, g2, j9, m0, m1, m55, m58, m60⟩ := st_m L I1 J1
  have n0 : ∀ k, ¬ k < 0 := fun k => Nat.not_lt_zero k
  refine ⟨I2, J2, ⟨a_0w, ⟨⟨(by rw [f2 10 (by decide)]; exact x10), (by rw [f2 10 (by decide)]; exact x101), fun k hk => (by rw [f2 11 (by decide)]; exact x11 k hk), fun p hp => absurd hp (n0 p), fun p hp => absurd hp (n0 p), fun p hp => absurd hp (n0 p)⟩, ⟨(by rw [f2 16 (by decide)]; exact x16), fun p hp => absurd hp (n0 p), fun p hp => absurd hp (n0 p), fun p hp => absurd hp (n0 p), fun p hp => absurd hp (n0 p)⟩, ⟨(by rw [f2 21 (by decide)]; exact x21 1), (by rw [f2 21 (by decide)]; exact x21 2), (by rw [f2 21 (by decide)]; exact x21 3), fun p hp => absurd hp (n0 p), fun p hp => absurd hp (n0 p), fun p hp => absurd hp (n0 p), fun p hp => absurd hp (n0 p), fun p hp => absurd hp (n0 p), fun p hp => absurd hp (n0 p), fun p hp => absurd hp (n0 p), fun p hp => absurd hp (n0 p)⟩, ⟨(by rw [f2 2 (by decide)]; exact x2), fun p hp => absurd hp (n0 p)⟩, (by show I2 30 0 = 0; rw [f2 30 (by decide)]; exact x30), (by show I2 39 0 = 0; rw [f2 39 (by decide)]; exact x39)⟩, ⟨⟨m0, m1 2 (by decide), m55, fun p hp => absurd hp (n0 p), fun p hp => absurd hp (n0 p), fun p hp => absurd hp (n0 p)⟩, ⟨m1 4 (by decide), fun p hp => absurd hp (n0 p), fun p hp => absurd hp (n0 p), fun p hp => absurd hp (n0 p), fun p hp => absurd hp (n0 p)⟩, ⟨m58 0, m58 1, m58 2, fun p hp => absurd hp (n0 p), fun p hp => absurd hp (n0 p), fun p hp => absurd hp (n0 p), fun p hp => absurd hp (n0 p), fun p hp => absurd hp (n0 p), fun p hp => absurd hp (n0 p), fun p hp => absurd hp (n0 p)⟩, ⟨m1 11 (by decide), fun p hp => absurd hp (n0 p)⟩, m60 0, m60 1⟩, ?_⟩, ?_⟩
  · rw [g2 1 (by decide), j1, am_z_x, j9]
  · rw [k0_0, e1]
    simp only [ob_s, tl_n]
    rw [k0_3, e2]
    simp only [ob_s, tl_n]
    rw [k0_7]
end ST
