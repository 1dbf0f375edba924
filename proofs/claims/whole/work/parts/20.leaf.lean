/-! ===== the small methods, as values ===== -/
def bz (b : Bool) : Int32 := bif b then 1 else 0
theorem bz_t : bz true = 1 := rfl
theorem bz_f : bz false = 0 := rfl
theorem bz_0 (b : Bool) : (bz b = 0) = (b = false) := by cases b <;> simp [bz] <;> decide
theorem bz_1 (b : Bool) : (bz b = 1) = (b = true) := by cases b <;> simp [bz] <;> decide
theorem bz_01 (b : Bool) : bz b = 0 ∨ bz b = 1 := by cases b <;> simp [bz]
theorem bz_r {α : Type} (b : Bool) (v : Option α) : am_if (bz b = 0 ∨ bz b = 1) v = v := am_if_t (bz_01 b) v
theorem ob_s {α β : Type} (v : α) (f : α → Option β) : (some v).bind f = f v := rfl
theorem tl_s (v : Value) (r : List Value) : (some v).toList ++ r = v :: r := rfl
theorem tl_n (r : List Value) : (none : Option Value).toList ++ r = r := rfl
/-- 0 ≤ x < n -/
def inr (x : Int32) (n : Nat) : Bool := decide (0 ≤ x.toInt ∧ x.toInt < (n : Int))
theorem inr_f {x : Int32} {n : Nat} (h : inr x n = false) (hn : n < 2 ^ 31) : x < 0 ∨ nI n ≤ x := by
  unfold inr at h
  have h := of_decide_eq_false h
  rw [Int32.lt_iff_toInt_lt, Int32.le_iff_toInt_le, nI_toInt hn]
  have : (0 : Int32).toInt = 0 := rfl
  omega
theorem inr_t {x : Int32} {n : Nat} (h : inr x n = true) (hn : n < 2 ^ 31) : ∃ k, k < n ∧ x = nI k := by
  unfold inr at h
  have h := of_decide_eq_true h
  refine ⟨x.toInt.toNat, by omega, ?_⟩
  apply Int32.toInt_inj.mp
  rw [nI_toInt (by omega)]
  omega
theorem inr_n {k n : Nat} (hk : k < 2 ^ 31) : inr (nI k) n = decide (k < n) := by
  unfold inr
  rw [nI_toInt hk]
  apply decide_eq_decide.mpr
  omega
theorem am_if_tr {α : Type} (v : Option α) : am_if True v = v := am_if_t trivial v
theorem am_i0 : (0 : Int32).toInt = 0 := rfl
theorem nl_0 {x : Int32} (h : ¬ x < 0) : 0 ≤ x := by rw [Int32.le_iff_toInt_le]; rw [Int32.lt_iff_toInt_lt] at h; omega
theorem lt_0n {x : Int32} (h : x < 0) : ¬ 0 ≤ x := by rw [Int32.le_iff_toInt_le]; rw [Int32.lt_iff_toInt_lt] at h; omega
theorem nl_n {x y : Int32} (h : ¬ x < y) : y ≤ x := by rw [Int32.le_iff_toInt_le]; rw [Int32.lt_iff_toInt_lt] at h; omega
theorem lt_nn {x y : Int32} (h : x < y) : ¬ y ≤ x := by rw [Int32.le_iff_toInt_le]; rw [Int32.lt_iff_toInt_lt] at h; omega
theorem nle_n {x y : Int32} (h : ¬ x ≤ y) : y < x := by rw [Int32.lt_iff_toInt_lt]; rw [Int32.le_iff_toInt_le] at h; omega
theorem le_nn {x y : Int32} (h : x ≤ y) : ¬ y < x := by rw [Int32.lt_iff_toInt_lt]; rw [Int32.le_iff_toInt_le] at h; omega
theorem inr_lt {n : Nat} (x : Int32) (hn : n < 2 ^ 31) : decide (0 ≤ x ∧ x < nI n) = inr x n := by
  unfold inr
  apply decide_eq_decide.mpr
  rw [Int32.le_iff_toInt_le, Int32.lt_iff_toInt_lt, nI_toInt hn, am_i0]
theorem inr_le {n : Nat} (x : Int32) (hn : n + 1 < 2 ^ 31) : decide (0 ≤ x ∧ x ≤ nI n) = inr x (n + 1) := by
  unfold inr
  apply decide_eq_decide.mpr
  rw [Int32.le_iff_toInt_le, Int32.le_iff_toInt_le, nI_toInt (by omega), am_i0]
  omega
section LEAF
variable (L : Nat) (I : Nat → Nat → Int32) (J : Nat → Nat → Int64)
theorem sem81 (x m : Int32) : am_sem 81 0 [.int x, .int m] [] (am_T L, I, J) = some (some (.int (bz (decide (0 ≤ x ∧ x ≤ m)))), (am_T L, I, J)) := by
  simp only [q81_0, q81_7, q81_2, q81_8, q81_5, ob_s, tl_s, tl_n]
  by_cases h1 : x < 0
  · simp [h1, lt_0n h1, bz, am_if_tr]
  · by_cases h3 : m < x
    · simp [h1, nl_0 h1, h3, lt_nn h3, bz, am_if_tr]
    · simp [h1, nl_0 h1, h3, nl_n h3, bz, am_if_tr]
/-- isWithin against a number -/
theorem sem81n (x : Int32) {m : Int32} (n : Nat) (hm : m = nI n) (hn : n + 1 < 2 ^ 31) : am_sem 81 0 [.int x, .int m] [] (am_T L, I, J) = some (some (.int (bz (inr x (n + 1)))), (am_T L, I, J)) := by
  rw [sem81, hm, inr_le x hn]
theorem sem82 (x : Int32) : am_sem 82 0 [.int x] [] (am_T L, I, J) = some (some (.int (bz (inr x 8))), (am_T L, I, J)) := by
  simp only [q82_0, q82_3, sem81n L I J x (m := 7) 7 rfl (by decide), ob_s, tl_s, tl_n, bz_r]
theorem sem111 (x a b : Int32) : am_sem 111 0 [.int x, .int a, .int b] [] (am_T L, I, J) = some (some (.int (bz (decide (a ≤ x ∧ x ≤ b)))), (am_T L, I, J)) := by
  simp only [q111_0, q111_8, q111_3, q111_9, q111_6, ob_s, tl_s, tl_n]
  by_cases h1 : x < a
  · simp [h1, lt_nn h1, bz, am_if_tr]
  · by_cases h3 : b < x
    · simp [h1, nl_n h1, h3, lt_nn h3, bz, am_if_tr]
    · simp [h1, nl_n h1, h3, nl_n h3, bz, am_if_tr]
theorem sem111n (x : Int32) {m : Int32} (n : Nat) (hm : m = nI n) (hn : n + 1 < 2 ^ 31) : am_sem 111 0 [.int x, .int 0, .int m] [] (am_T L, I, J) = some (some (.int (bz (inr x (n + 1)))), (am_T L, I, J)) := by
  rw [sem111, hm, inr_le x hn]
theorem inr_m1 (x : Int32) {n : Nat} (hn : n < 2 ^ 31) : decide (0 ≤ x ∧ x ≤ nI n - 1) = inr x n := by
  cases n with
  | zero =>
    unfold inr
    apply decide_eq_decide.mpr
    rw [Int32.le_iff_toInt_le, Int32.le_iff_toInt_le, show (nI 0 - 1).toInt = -1 from by decide, am_i0]
    omega
  | succ n => rw [nI_pred, inr_le x hn]
theorem sem114 (x : Int32) : am_sem 114 0 [.int x] [] (am_T L, I, J) = some (some (.int (bz (inr x 8))), (am_T L, I, J)) := by
  simp only [q114_0, q114_4, sem111n L I J x (m := 7) 7 rfl (by decide), ob_s, tl_s, tl_n, bz_r]
theorem sem116 (x : Int32) : am_sem 116 0 [.int x] [] (am_T L, I, J) = some (some (.int (bz (inr x 41))), (am_T L, I, J)) := by
  simp only [q116_0, q116_4, sem111n L I J x (m := 40) 40 rfl (by decide), ob_s, tl_s, tl_n, bz_r]
theorem lt2 (x y : Int32) : decide (0 ≤ x ∧ x < y) = if x < 0 then false else if y ≤ x then false else true := by
  by_cases h1 : x < 0
  · simp [h1, lt_0n h1]
  · by_cases h3 : y ≤ x
    · simp [h1, nl_0 h1, h3, le_nn h3]
    · simp [h1, nl_0 h1, h3, nle_n h3]
theorem sem44 {P : Nat} (hP : P < 2 ^ 31) (h : I 10 0 = nI P) (x : Int32) : am_sem 44 0 [.ref 10, .int x] [] (am_T L, I, J) = some (some (.int (bz (inr x P))), (am_T L, I, J)) := by
  rw [← inr_lt x hP, ← h, lt2]
  simp only [q44_0, q44_8, q44_2, q44_9, q44_6, ob_s, tl_s, tl_n]
  split <;> (try split) <;> simp [am_if_tr, bz]
theorem sem45 {n : Nat} (hn : n < 2 ^ 31) (h : I 10 1 = nI n) (x : Int32) : am_sem 45 0 [.ref 10, .int x] [] (am_T L, I, J) = some (some (.int (bz (inr x n))), (am_T L, I, J)) := by
  rw [← inr_lt x hn, ← h, lt2]
  simp only [q45_0, q45_8, q45_2, q45_9, q45_6, ob_s, tl_s, tl_n]
  split <;> (try split) <;> simp [am_if_tr, bz]
theorem sem24 {n : Nat} (hn : n < 2 ^ 31) (h : I 16 0 = nI n) (x : Int32) : am_sem 24 0 [.ref 16, .int x] [] (am_T L, I, J) = some (some (.int (bz (inr x n))), (am_T L, I, J)) := by
  rw [← inr_lt x hn, ← h, lt2]
  simp only [q24_0, q24_8, q24_2, q24_9, q24_6, ob_s, tl_s, tl_n]
  split <;> (try split) <;> simp [am_if_tr, bz]
theorem sem113 {P : Nat} (hP : P < 2 ^ 31) (h : I 54 0 = nI P) (x : Int32) : am_sem 113 0 [.ref 54, .int x] [] (am_T L, I, J) = some (some (.int (bz (inr x P))), (am_T L, I, J)) := by
  simp only [q113_0, q113_7, h, sem111, inr_m1 x hP, ob_s, tl_s, tl_n, bz_r]
theorem sem115 {n : Nat} (hn : n < 2 ^ 31) (h : I 54 2 = nI n) (x : Int32) : am_sem 115 0 [.ref 54, .int x] [] (am_T L, I, J) = some (some (.int (bz (inr x n))), (am_T L, I, J)) := by
  simp only [q115_0, q115_7, h, sem111, inr_m1 x hn, ob_s, tl_s, tl_n, bz_r]
/-- at(row, i): the row's i-th, 0 outside -/
theorem at_bif {c d : Int32} {a n : Nat} (h : (am_T L)[a]? = some (0, n, [])) (hn : n < 2 ^ 31) : am_sem 83 2 [.ref a, .int c] [] (am_T L, I, J) = if nI n ≤ c then am_sem 83 10 [.ref a, .int c] [] (am_T L, I, J) else am_sem 83 6 [.ref a, .int c] [] (am_T L, I, J) := by
  refine (am_sem_g0 (i' := 4) (ls' := [.ref a, .int c]) (st' := [.ref a, .int c]) 2 rfl).trans ?_
  refine (am_sem_pl (i := 4) (ps := []) (i' := 5) (ls' := [.ref a, .int c]) (st' := [.int (nI n), .int c]) (M' := (am_T L, I, J)) rfl rfl ?_).trans ?_
  · show am_len 4 [.ref a, .int c] [.ref a, .int c] (am_T L, I, J) = _
    simp only [am_len, h]
    rfl
  · rw [am_if_t (p := am_all []) trivial]
    exact (am_sem_g0 1 rfl).trans am_sem_bif
theorem sem83 {a n : Nat} (h : (am_T L)[a]? = some (0, n, [])) (hn : n < 2 ^ 31) (x : Int32) : am_sem 83 0 [.ref a, .int x] [] (am_T L, I, J) = some (some (.int (if inr x n = true then I a x.toNatClampNeg else 0)), (am_T L, I, J)) := by
  have e1 : am_sem 83 0 [.ref a, .int x] [] (am_T L, I, J) = if x < 0 then am_sem 83 10 [.ref a, .int x] [] (am_T L, I, J) else am_sem 83 2 [.ref a, .int x] [] (am_T L, I, J) := (am_sem_g0 2 rfl).trans am_sem_bif
  have e3 : am_sem 83 10 [.ref a, .int x] [] (am_T L, I, J) = some (some (.int 0), (am_T L, I, J)) := Eq.trans (b := am_sem 83 11 [.ref a, .int x] [.int 0] (am_T L, I, J)) (am_sem_g0 1 rfl) (am_sem_r0 rfl rfl rfl)
  have e4 : am_sem 83 6 [.ref a, .int x] [] (am_T L, I, J) = am_if (vp_in x n) (some (some (.int (I a x.toNatClampNeg)), (am_T L, I, J))) := by
    refine Eq.trans (b := am_sem 83 8 [.ref a, .int x] [.int x, .ref a] (am_T L, I, J)) (am_sem_g0 2 rfl) ?_
    refine (am_sem_pl (i := 8) (ps := [vp_in x n]) (i' := 9) (ls' := [.ref a, .int x]) (st' := [.int (I a x.toNatClampNeg)]) (M' := (am_T L, I, J)) rfl rfl ?_).trans ?_
    · show am_iald 0 8 [.ref a, .int x] [.int x, .ref a] (am_T L, I, J) = _
      simp only [am_iald, h]
      rfl
    · exact congrArg (am_if _) (Eq.trans (b := am_sem 83 11 [.ref a, .int x] [.int (I a x.toNatClampNeg)] (am_T L, I, J)) (am_sem_g0 1 rfl) (am_sem_r0 rfl rfl rfl))
  have e2 := at_bif (c := x) (d := 0) L I J h hn
  rw [e1, e2, e3, e4, ← inr_lt x hn, lt2]
  by_cases h1 : x < 0
  · simp [h1]
  · by_cases h3 : nI n ≤ x
    · simp [h1, h3]
    · have hv : vp_in x n := by
        rw [vp_in_iff]
        have := nl_0 h1
        have h4 := nle_n h3
        rw [Int32.le_iff_toInt_le, am_i0] at this
        rw [Int32.lt_iff_toInt_lt, nI_toInt hn] at h4
        exact ⟨this, h4⟩
      simp [h1, h3, am_if_t hv]
end LEAF
