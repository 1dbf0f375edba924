/-! ===== sets of deeds: counted by how many they are and by what they make ===== -/
def dif (w c : Nat) : Nat := w ^^^ (w &&& c)
theorem dif_bit (w c i : Nat) : (dif w c).testBit i = (w.testBit i && !c.testBit i) := by
  unfold dif
  rw [Nat.testBit_xor, Nat.testBit_and]
  cases w.testBit i <;> cases c.testBit i <;> rfl
theorem dif_0 (c : Nat) : dif 0 c = 0 := by
  apply Nat.eq_of_testBit_eq
  intro i
  rw [dif_bit, Nat.zero_testBit]
  rfl
theorem dif_n (w : Nat) : dif w 0 = w := by
  apply Nat.eq_of_testBit_eq
  intro i
  rw [dif_bit, Nat.zero_testBit, Bool.not_false, Bool.and_true]
theorem dif_c (w a b : Nat) : dif (dif w a) b = dif (dif w b) a := by
  apply Nat.eq_of_testBit_eq
  intro i
  simp only [dif_bit]
  cases w.testBit i <;> cases a.testBit i <;> cases b.testBit i <;> rfl
theorem dif_or (w a b : Nat) : dif w (a ||| b) = dif (dif w b) a := by
  apply Nat.eq_of_testBit_eq
  intro i
  simp only [dif_bit, Nat.testBit_or]
  cases w.testBit i <;> cases a.testBit i <;> cases b.testBit i <;> rfl
theorem dif_lt {w : Nat} (c : Nat) {n : Nat} (h : w < 2 ^ n) : dif w c < 2 ^ n := by
  apply Nat.lt_pow_two_of_testBit
  intro i hi
  rw [dif_bit, Nat.testBit_lt_two_pow (Nat.lt_of_lt_of_le h (Nat.pow_le_pow_right (by decide) hi))]
  rfl
/-- what sets of m of a, a + 1, .. (k of them) make -/
def UL (ok : Nat → Bool) (cov : Nat → Nat) (a : Nat) : Nat → Nat → List Nat
  | 0, m => if m = 0 then [0] else []
  | k + 1, 0 => UL ok cov a k 0
  | k + 1, m + 1 => UL ok cov a k (m + 1) ++ if ok (a + k) = true then (UL ok cov a k m).map (fun c => c ||| cov (a + k)) else []
def RR (ok : Nat → Bool) (cov : Nat → Nat) (a k m w : Nat) : Nat := (UL ok cov a k m).countP fun c => decide (dif w c = 0)
section SETS
variable (ok : Nat → Bool) (cov : Nat → Nat)
theorem RR_0 (a m w : Nat) : RR ok cov a 0 m w = if m = 0 ∧ w = 0 then 1 else 0 := by
  unfold RR UL
  by_cases h : m = 0
  · rw [if_pos h]
    by_cases h2 : w = 0
    · simp [h, h2, dif_0]
    · simp [h, h2, dif_n]
  · simp [h]
theorem RR_s0 (a k w : Nat) : RR ok cov a (k + 1) 0 w = RR ok cov a k 0 w := rfl
theorem RR_s (a k m w : Nat) : RR ok cov a (k + 1) (m + 1) w = RR ok cov a k (m + 1) w + if ok (a + k) = true then RR ok cov a k m (dif w (cov (a + k))) else 0 := by
  unfold RR
  rw [UL, List.countP_append]
  by_cases h : ok (a + k) = true
  · rw [if_pos h, if_pos h, List.countP_map]
    have e : ((fun c => decide (dif w c = 0)) ∘ fun c => c ||| cov (a + k)) = fun c => decide (dif (dif w (cov (a + k))) c = 0) := by
      funext c
      show decide (dif w (c ||| cov (a + k)) = 0) = _
      rw [dif_or]
    rw [e]
  · rw [if_neg h, if_neg h]
    rfl
theorem RR_l0 (a : Nat) : ∀ k w, RR ok cov a (k + 1) 0 w = RR ok cov (a + 1) k 0 w
  | 0, w => by rw [RR_s0, RR_0, RR_0]
  | k + 1, w => by
    rw [RR_s0, RR_l0 a k w, RR_s0]
theorem RR_l (a : Nat) : ∀ k m w, RR ok cov a (k + 1) (m + 1) w = RR ok cov (a + 1) k (m + 1) w + if ok a = true then RR ok cov (a + 1) k m (dif w (cov a)) else 0
  | 0, m, w => by
    rw [RR_s, RR_0, RR_0, RR_0, RR_0]
    rfl
  | k + 1, m, w => by
    rw [RR_s, RR_l a k m w, show a + (k + 1) = a + 1 + k by omega, RR_s ok cov (a + 1) k m w]
    cases m with
    | zero =>
      rw [RR_l0 ok cov a k, RR_s0]
      split <;> split <;> omega
    | succ m =>
      rw [RR_l a k m, RR_s ok cov (a + 1) k m, dif_c w (cov a) (cov (a + 1 + k))]
      split <;> split <;> omega
theorem RR_cong {ok ok' : Nat → Bool} {cov : Nat → Nat} (a : Nat) : ∀ k m w, (∀ i, a ≤ i → i < a + k → ok i = ok' i) → RR ok cov a k m w = RR ok' cov a k m w
  | 0, m, w, h => by rw [RR_0, RR_0]
  | k + 1, 0, w, h => by
    rw [RR_s0, RR_s0]
    exact RR_cong a k 0 w fun i h1 h2 => h i h1 (by omega)
  | k + 1, m + 1, w, h => by
    rw [RR_s, RR_s, RR_cong a k (m + 1) w fun i h1 h2 => h i h1 (by omega), RR_cong a k m _ fun i h1 h2 => h i h1 (by omega), h (a + k) (by omega) (by omega)]
theorem RR_mono {ok ok' : Nat → Bool} {cov : Nat → Nat} (h : ∀ i, ok' i = true → ok i = true) (a : Nat) : ∀ k m w, RR ok' cov a k m w ≤ RR ok cov a k m w
  | 0, m, w => by rw [RR_0, RR_0]; exact Nat.le_refl _
  | k + 1, 0, w => by
    rw [RR_s0, RR_s0]
    exact RR_mono h a k 0 w
  | k + 1, m + 1, w => by
    have h1 := RR_mono (cov := cov) h a k (m + 1) w
    have h2 := RR_mono (cov := cov) h a k m (dif w (cov (a + k)))
    have h3 := h (a + k)
    rw [RR_s, RR_s]
    by_cases c : ok' (a + k) = true
    · rw [if_pos c, if_pos (h3 c)]
      omega
    · rw [if_neg c]
      omega
def fct : Nat → Nat
  | 0 => 1
  | m + 1 => (m + 1) * fct m
theorem bern (k : Nat) : ∀ m, k ^ (m + 1) + (m + 1) * k ^ m ≤ (k + 1) ^ (m + 1)
  | 0 => by simp
  | m + 1 => by
    have ih := bern k m
    have e1 : k ^ (m + 1 + 1) = k ^ (m + 1) * k := Nat.pow_succ _ _
    have e3 : (k + 1) ^ (m + 1 + 1) = (k + 1) ^ (m + 1) * (k + 1) := Nat.pow_succ _ _
    have e2 : k ^ (m + 1) = k ^ m * k := Nat.pow_succ _ _
    have h := Nat.mul_le_mul_right (k + 1) ih
    rw [e1, e3]
    refine Nat.le_trans ?_ h
    have e6 : (k ^ (m + 1) + (m + 1) * k ^ m) * (k + 1) = k ^ (m + 1) * k + (m + 1) * k ^ m * k + (k ^ (m + 1) + (m + 1) * k ^ m) := by rw [Nat.mul_add, Nat.mul_one, Nat.add_mul]
    rw [e6]
    have e4 : (m + 1) * k ^ m * k = (m + 1) * k ^ (m + 1) := by rw [Nat.mul_assoc, ← e2]
    have e5 : (m + 1 + 1) * k ^ (m + 1) = (m + 1) * k ^ (m + 1) + k ^ (m + 1) := by rw [Nat.add_mul, Nat.one_mul]
    omega
theorem UL_len (a : Nat) : ∀ k m, fct m * (UL ok cov a k m).length ≤ k ^ m
  | 0, 0 => by simp [UL, fct]
  | 0, m + 1 => by simp [UL]
  | k + 1, 0 => by
    have := UL_len a k 0
    rw [UL]
    simpa using this
  | k + 1, m + 1 => by
    have h1 := UL_len a k (m + 1)
    have h2 := UL_len a k m
    have h3 := bern k m
    have hl : (UL ok cov a (k + 1) (m + 1)).length ≤ (UL ok cov a k (m + 1)).length + (UL ok cov a k m).length := by
      rw [UL, List.length_append]
      split
      · rw [List.length_map]
        exact Nat.le_refl _
      · simp
    refine Nat.le_trans (Nat.mul_le_mul_left _ hl) ?_
    rw [Nat.mul_add]
    have e : fct (m + 1) * (UL ok cov a k m).length = (m + 1) * (fct m * (UL ok cov a k m).length) := by rw [fct, Nat.mul_assoc]
    rw [e]
    have h4 := Nat.mul_le_mul_left (m + 1) h2
    omega
theorem UL_31 (a : Nat) {k m : Nat} (hk : k ≤ 48) (hm : m ≤ 8) : (UL ok cov a k m).length < 700000000 := by
  have h := UL_len ok cov a k m
  have h2 := Nat.pow_le_pow_left hk m
  match m, hm with
  | 0, _ => simp [fct] at h h2; omega
  | 1, _ => simp [fct] at h h2; omega
  | 2, _ => simp [fct] at h h2; omega
  | 3, _ => simp [fct] at h h2; omega
  | 4, _ => simp [fct] at h h2; omega
  | 5, _ => simp [fct] at h h2; omega
  | 6, _ => simp [fct] at h h2; omega
  | 7, _ => simp [fct] at h h2; omega
  | 8, _ => simp [fct] at h h2; omega
theorem RR_31 (a : Nat) {k m : Nat} (hk : k ≤ 48) (hm : m ≤ 8) (w : Nat) : RR ok cov a k m w < 700000000 := Nat.lt_of_le_of_lt List.countP_le_length (UL_31 ok cov a hk hm)
/-- the fewest, in how many ways, the first: from the last ones on (k of n) -/
def Cq (n : Nat) (F : Nat → Nat) (j w : Nat) : Bool := ok j && decide (F (dif w (cov j)) + 1 ≤ F w)
def Fq (n : Nat) : Nat → Nat → Nat
  | 0, w => if w = 0 then 0 else 99
  | k + 1, w => if Cq ok cov n (Fq n k) (n - (k + 1)) w = true then Fq n k (dif w (cov (n - (k + 1)))) + 1 else Fq n k w
def Wq (n : Nat) : Nat → Nat → Nat
  | 0, w => if w = 0 then 1 else 0
  | k + 1, w => if Cq ok cov n (Fq ok cov n k) (n - (k + 1)) w = true then (if Fq ok cov n k (dif w (cov (n - (k + 1)))) + 1 < Fq ok cov n k w then Wq n k (dif w (cov (n - (k + 1)))) else Wq n k w + Wq n k (dif w (cov (n - (k + 1))))) else Wq n k w
def Bq (n : Nat) : Nat → Nat → Nat
  | 0, _ => 0
  | k + 1, w => if Cq ok cov n (Fq ok cov n k) (n - (k + 1)) w = true then Bq n k (dif w (cov (n - (k + 1)))) ||| 2 ^ (n - (k + 1)) else Bq n k w
theorem Fq_99 (n : Nat) : ∀ k w, Fq ok cov n k w ≤ 99
  | 0, w => by rw [Fq]; split <;> decide
  | k + 1, w => by
    have h1 := Fq_99 n k w
    rw [Fq]
    by_cases c : Cq ok cov n (Fq ok cov n k) (n - (k + 1)) w = true
    · rw [if_pos c]
      unfold Cq at c
      rw [Bool.and_eq_true] at c
      have := of_decide_eq_true c.2
      omega
    · rw [if_neg c]
      exact h1
theorem Fq_sp {n : Nat} (hn : n ≤ 48) : ∀ k w, k ≤ n → (∀ m, m < Fq ok cov n k w → RR ok cov (n - k) k m w = 0) ∧ (Fq ok cov n k w < 99 → Fq ok cov n k w ≤ k ∧ RR ok cov (n - k) k (Fq ok cov n k w) w = Wq ok cov n k w ∧ 0 < Wq ok cov n k w) ∧ (99 ≤ Fq ok cov n k w → (∀ m, RR ok cov (n - k) k m w = 0) ∧ Wq ok cov n k w = 0)
  | 0, w, hk => by
    simp only [RR_0, Fq, Wq]
    by_cases h : w = 0
    · simp [h]
    · simp [h]
  | k + 1, w, hk => by
    obtain ⟨a1, a2, a3⟩ := Fq_sp hn k w (by omega)
    obtain ⟨b1, b2, b3⟩ := Fq_sp hn k (dif w (cov (n - (k + 1)))) (by omega)
    have f1 := Fq_99 ok cov n k w
    have f2 := Fq_99 ok cov n k (dif w (cov (n - (k + 1))))
    have ea : n - k = n - (k + 1) + 1 := by omega
    rw [ea] at a1 a2 a3 b1 b2 b3
    have l0 := RR_l0 ok cov (n - (k + 1)) k w
    have l1 := fun m => RR_l ok cov (n - (k + 1)) k m w
    rw [Fq, Wq]
    cases hok : ok (n - (k + 1))
    · simp only [hok, Bool.false_eq_true, if_false, Nat.add_zero] at l1
      have hc : ¬ Cq ok cov n (Fq ok cov n k) (n - (k + 1)) w = true := by simp [Cq, hok]
      simp only [if_neg hc]
      refine ⟨fun m hm => ?_, fun h => ?_, fun h => ⟨fun m => ?_, (a3 h).2⟩⟩
      · cases m with
        | zero => rw [l0]; exact a1 0 hm
        | succ m => rw [l1]; exact a1 _ hm
      · obtain ⟨c1, c2, c3⟩ := a2 h
        refine ⟨by omega, ?_, c3⟩
        cases hF : Fq ok cov n k w with
        | zero => rw [l0]; rw [hF] at c2; exact c2
        | succ m => rw [l1]; rw [hF] at c2; exact c2
      · cases m with
        | zero => rw [l0]; exact (a3 h).1 0
        | succ m => rw [l1]; exact (a3 h).1 _
    · simp only [hok, if_true] at l1
      by_cases hle : Fq ok cov n k (dif w (cov (n - (k + 1)))) + 1 ≤ Fq ok cov n k w
      · have hc : Cq ok cov n (Fq ok cov n k) (n - (k + 1)) w = true := by simp [Cq, hok, hle]
        simp only [if_pos hc]
        obtain ⟨c1, c2, c3⟩ := b2 (by omega)
        refine ⟨fun m hm => ?_, fun h => ?_, fun h => by omega⟩
        · cases m with
          | zero => rw [l0]; exact a1 0 (by omega)
          | succ m => rw [l1, a1 _ (by omega), b1 _ (by omega)]
        · refine ⟨by omega, ?_⟩
          rw [l1, c2]
          by_cases hlt : Fq ok cov n k (dif w (cov (n - (k + 1)))) + 1 < Fq ok cov n k w
          · rw [if_pos hlt, a1 _ hlt]
            exact ⟨by omega, c3⟩
          · rw [if_neg hlt]
            have he : Fq ok cov n k (dif w (cov (n - (k + 1)))) + 1 = Fq ok cov n k w := by omega
            obtain ⟨d1, d2, d3⟩ := a2 (by omega)
            rw [he, d2]
            exact ⟨by omega, by omega⟩
      · have hc : ¬ Cq ok cov n (Fq ok cov n k) (n - (k + 1)) w = true := by simp [Cq, hok, hle]
        simp only [if_neg hc]
        refine ⟨fun m hm => ?_, fun h => ?_, fun h => ⟨fun m => ?_, (a3 h).2⟩⟩
        · cases m with
          | zero => rw [l0]; exact a1 0 hm
          | succ m => rw [l1, a1 _ hm, b1 _ (by omega)]
        · obtain ⟨c1, c2, c3⟩ := a2 h
          refine ⟨by omega, ?_, c3⟩
          cases hF : Fq ok cov n k w with
          | zero => rw [l0]; rw [hF] at c2; exact c2
          | succ m => rw [l1, b1 m (by omega)]; rw [hF] at c2; exact c2
        · cases m with
          | zero => rw [l0]; exact (a3 h).1 0
          | succ m => rw [l1, (a3 h).1, (b3 (by omega)).1]
theorem sureL_n (f : Nat → Bool) : ∀ k t n, sureL f k t n = n + sureL f k t 0
  | 0, _, _ => rfl
  | k + 1, t, n => by
    rw [sureL, sureL, sureL_n f k (t + 1) (if f t = true then n + 1 else n), sureL_n f k (t + 1) (if f t = true then 0 + 1 else 0)]
    split <;> omega
theorem sureL_mono {f g : Nat → Bool} (h : ∀ i, f i = true → g i = true) : ∀ k t, sureL f k t 0 ≤ sureL g k t 0
  | 0, _ => Nat.le_refl _
  | k + 1, t => by
    have ih := sureL_mono h k (t + 1)
    rw [sureL, sureL, sureL_n f, sureL_n g]
    have := h t
    by_cases c : f t = true
    · rw [if_pos c, if_pos (this c)]
      omega
    · rw [if_neg c]
      omega
theorem sureL_lt {f g : Nat → Bool} (h : ∀ i, f i = true → g i = true) : ∀ k t i, t ≤ i → i < t + k → f i = false → g i = true → sureL f k t 0 < sureL g k t 0
  | 0, t, i, h1, h2, _, _ => by omega
  | k + 1, t, i, h1, h2, h3, h4 => by
    have hm := sureL_mono h k (t + 1)
    rw [sureL, sureL, sureL_n f, sureL_n g]
    by_cases c : t = i
    · subst c
      rw [if_neg (by rw [h3]; decide), if_pos h4]
      omega
    · have := sureL_lt h k (t + 1) i (by omega) (by omega) h3 h4
      have ht := h t
      by_cases c : f t = true
      · rw [if_pos c, if_pos (ht c)]
        omega
      · rw [if_neg c]
        omega
theorem c8_dif {w : Nat} (c : Nat) (hw : w < 256) (h : dif w c ≠ w) : c8 (dif w c) + 1 ≤ c8 w := by
  have hex : ∃ i, i < 8 ∧ (dif w c).testBit i = false ∧ w.testBit i = true := by
    apply Classical.byContradiction
    intro hn
    apply h
    apply Nat.eq_of_testBit_eq
    intro i
    by_cases hi : i < 8
    · cases hb : w.testBit i
      · rw [dif_bit, hb]
        rfl
      · cases hd : (dif w c).testBit i
        · exact absurd ⟨i, hi, hd, hb⟩ hn
        · rfl
    · rw [dif_bit, Nat.testBit_lt_two_pow (Nat.lt_of_lt_of_le hw (show 2 ^ 8 ≤ 2 ^ i from Nat.pow_le_pow_right (by decide) (by omega)))]
      rfl
  obtain ⟨i, hi, h1, h2⟩ := hex
  exact sureL_lt (f := fun i => (dif w c).testBit i) (g := fun i => w.testBit i) (fun i hi => by
    have : (dif w c).testBit i = true := hi
    rw [dif_bit, Bool.and_eq_true] at this
    exact this.1) 8 0 i (Nat.zero_le _) (by omega) h1 h2
theorem Fq_8 (n : Nat) : ∀ k w, w < 256 → Fq ok cov n k w < 99 → Fq ok cov n k w ≤ c8 w
  | 0, w, hw, h => by
    rw [Fq] at h ⊢
    by_cases c : w = 0
    · rw [if_pos c]
      exact Nat.zero_le _
    · rw [if_neg c] at h
      omega
  | k + 1, w, hw, h => by
    rw [Fq] at h ⊢
    by_cases c : Cq ok cov n (Fq ok cov n k) (n - (k + 1)) w = true
    · rw [if_pos c] at h ⊢
      have h2 := Fq_8 n k (dif w (cov (n - (k + 1)))) (dif_lt (n := 8) _ hw) (by omega)
      unfold Cq at c
      rw [Bool.and_eq_true] at c
      have c2 := of_decide_eq_true c.2
      have hne : dif w (cov (n - (k + 1))) ≠ w := by
        intro e
        rw [e] at c2
        omega
      have := c8_dif _ hw hne
      omega
    · rw [if_neg c] at h ⊢
      exact Fq_8 n k w hw h
/-- the i-th of the first -/
def Sq (n : Nat) : Nat → Nat → Nat → Nat
  | 0, _, _ => n
  | k + 1, w, i => if Cq ok cov n (Fq ok cov n k) (n - (k + 1)) w = true then (if i = 0 then n - (k + 1) else Sq n k (dif w (cov (n - (k + 1)))) (i - 1)) else Sq n k w i
theorem Bq_bit (n : Nat) : ∀ k w b, k ≤ n → (Bq ok cov n k w).testBit b = true → n - k ≤ b ∧ b < n
  | 0, w, b, _, h => by
    rw [Bq, Nat.zero_testBit] at h
    cases h
  | k + 1, w, b, hk, h => by
    rw [Bq] at h
    by_cases c : Cq ok cov n (Fq ok cov n k) (n - (k + 1)) w = true
    · rw [if_pos c, Nat.testBit_or, Bool.or_eq_true, Nat.testBit_two_pow] at h
      rcases h with h | h
      · have := Bq_bit n k _ b (by omega) h
        omega
      · have := of_decide_eq_true h
        omega
    · rw [if_neg c] at h
      have := Bq_bit n k _ b (by omega) h
      omega
theorem Bq_lt (n k w : Nat) (hk : k ≤ n) : Bq ok cov n k w < 2 ^ n := by
  apply Nat.lt_pow_two_of_testBit
  intro i hi
  cases h : (Bq ok cov n k w).testBit i
  · rfl
  · have := Bq_bit ok cov n k w i hk h
    omega
end SETS
/-- whether a deed goes on: seen from the counts -/
theorem Cq_on {ok : Nat → Bool} {cov : Nat → Nat} {n k w : Nat} (hn : n ≤ 48) (hk : k + 1 ≤ n) (h1 : 1 ≤ Fq ok cov n (k + 1) w) (h99 : Fq ok cov n (k + 1) w < 99) (hok : ok (n - (k + 1)) = true) : (0 < RR ok cov (n - k) k (Fq ok cov n (k + 1) w - 1) (dif w (cov (n - (k + 1))))) ↔ Cq ok cov n (Fq ok cov n k) (n - (k + 1)) w = true := by
  obtain ⟨b1, b2, b3⟩ := Fq_sp ok cov hn k (dif w (cov (n - (k + 1)))) (by omega)
  rw [Fq] at h1 h99 ⊢
  by_cases c : Cq ok cov n (Fq ok cov n k) (n - (k + 1)) w = true
  · rw [if_pos c] at h1 h99 ⊢
    obtain ⟨c1, c2, c3⟩ := b2 (by omega)
    rw [Nat.add_sub_cancel, c2]
    exact ⟨fun _ => c, fun _ => c3⟩
  · rw [if_neg c] at h1 h99 ⊢
    refine ⟨fun h => ?_, fun h => absurd h c⟩
    have hle : ¬ (Fq ok cov n k (dif w (cov (n - (k + 1)))) + 1 ≤ Fq ok cov n k w) := fun q => c (by simp [Cq, hok, q])
    rw [b1 _ (by omega)] at h
    omega
