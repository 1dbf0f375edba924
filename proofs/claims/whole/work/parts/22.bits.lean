/-! ===== numbers and bits ===== -/
theorem bs_l : ∀ n, n < 32 → ((nI n &&& 31).toBitVec.smod 32).toNat = n := by decide +kernel
theorem bs_1 {i : Nat} (h : i < 31) : (1 : Int32) <<< (nI i &&& 31) = nI (2 ^ i) := by
  have h2 : 2 ^ i ≤ 2 ^ 30 := Nat.pow_le_pow_right (by decide) (by omega)
  have := pk_shlN (n := 1) (nI i &&& 31) i (bs_l i (by omega)) (by omega)
  rw [Nat.one_mul] at this
  exact this
theorem bs_r {m i : Nat} (hm : m < 2 ^ 31) (h : i < 32) : nI m >>> (nI i &&& 31) = nI (m / 2 ^ i) := pk_shrN hm (nI i &&& 31) i (bs_l i h)
theorem bs_or (a b : Nat) : nI a ||| nI b = nI (a ||| b) := by
  apply Int32.toBitVec_inj.mp
  apply BitVec.eq_of_getLsbD_eq
  intro j hj
  simp only [nI, Int32.toBitVec_or, Int32.toBitVec_ofNat, BitVec.getLsbD_or, BitVec.getLsbD_ofNat, Nat.testBit_or]
  by_cases h : j < 32 <;> simp [h]
theorem bs_and (a b : Nat) : nI a &&& nI b = nI (a &&& b) := by
  apply Int32.toBitVec_inj.mp
  apply BitVec.eq_of_getLsbD_eq
  intro j hj
  simp only [nI, Int32.toBitVec_and, Int32.toBitVec_ofNat, BitVec.getLsbD_and, BitVec.getLsbD_ofNat, Nat.testBit_and]
  by_cases h : j < 32 <;> simp [h]
theorem bs_and1 {m : Nat} (hm : m < 2 ^ 31) : nI m &&& 1 = nI (m % 2) := pk_andN (by omega) 1 rfl
theorem bs_bit {m i : Nat} (hm : m < 2 ^ 31) (h : i < 32) : nI m >>> (nI i &&& 31) &&& 1 = bz (m.testBit i) := by
  rw [bs_r hm h, bs_and1 (Nat.lt_of_le_of_lt (Nat.div_le_self _ _) hm)]
  rw [Nat.testBit_eq_decide_div_mod_eq]
  rcases Nat.mod_two_eq_zero_or_one (m / 2 ^ i) with e | e
  · rw [e]; rfl
  · rw [e]; rfl
theorem nc {k : Nat} (h : k < 2 ^ 31) : (nI k).toNatClampNeg = k := nI_clamp h
theorem n_mul (a b : Nat) {c : Int32} (k : Nat) (hc : c = nI k) (h : a * k = b) : nI a * c = nI b := by rw [hc, pk_mul, h]
theorem n_inj {a b : Nat} (ha : a < 2 ^ 31) (hb : b < 2 ^ 31) : (nI a = nI b) = (a = b) := propext (nI_eq ha hb)
theorem n_le {a b : Nat} (ha : a < 2 ^ 31) (hb : b < 2 ^ 31) : (nI a ≤ nI b) = (a ≤ b) := propext (nI_leI ha hb)
theorem n_lt {a b : Nat} (ha : a < 2 ^ 31) (hb : b < 2 ^ 31) : (nI a < nI b) = (a < b) := propext (nI_ltI ha hb)
theorem n_neg {a : Nat} (ha : a < 2 ^ 31) : (nI a < 0) = False := eq_false (nI_pos ha)
theorem n_nn {a : Nat} (ha : a < 2 ^ 31) : (0 ≤ nI a) = True := eq_true (nI_pos' ha)
theorem n_sub_eq {a b c : Nat} (ha : a < 2 ^ 30) (hb : b < 2 ^ 30) (hc : c < 2 ^ 30) : (nI a - nI b = nI c) = (c + b = a) := by
  apply propext
  rw [← Int32.toInt_inj, pk_sub_toInt ha hb, nI_toInt (by omega)]
  omega
theorem n_eq_sub {a b c : Nat} (ha : a < 2 ^ 30) (hb : b < 2 ^ 30) (hc : c < 2 ^ 30) : (nI c = nI a - nI b) = (c + b = a) := by
  rw [← n_sub_eq ha hb hc]
  exact propext ⟨fun h => h.symm, fun h => h.symm⟩
theorem n_in {k N : Nat} (h : k < N) (hN : N < 2 ^ 31) : vp_in (nI k) N := vp_in_nI h hN
/-- some of i, i + 1, .. (k of them) -/
def anyF (p : Nat → Bool) : Nat → Nat → Bool
  | _, 0 => false
  | i, k + 1 => p i || anyF p (i + 1) k
theorem anyF_iff (p : Nat → Bool) : ∀ k i, anyF p i k = true ↔ ∃ j, i ≤ j ∧ j < i + k ∧ p j = true
  | 0, i => by simp [anyF]; intro j h1 h2; omega
  | k + 1, i => by
    rw [anyF, Bool.or_eq_true, anyF_iff p k (i + 1)]
    constructor
    · rintro (h | ⟨j, h1, h2, h3⟩)
      · exact ⟨i, by omega, by omega, h⟩
      · exact ⟨j, by omega, by omega, h3⟩
    · rintro ⟨j, h1, h2, h3⟩
      rcases Nat.lt_or_ge i j with h | h
      · exact Or.inr ⟨j, h, by omega, h3⟩
      · have : j = i := by omega
        subst this
        exact Or.inl h3
/-- the set of those of 0 .. n - 1, as bits -/
def mk (p : Nat → Bool) : Nat → Nat
  | 0 => 0
  | n + 1 => mk p n ||| (if p n = true then 2 ^ n else 0)
theorem mk_bit (p : Nat → Bool) : ∀ n j, (mk p n).testBit j = (decide (j < n) && p j)
  | 0, j => by simp [mk]
  | n + 1, j => by
    rw [mk, Nat.testBit_or, mk_bit p n j]
    by_cases hp : p n = true
    · rw [if_pos hp, Nat.testBit_two_pow]
      by_cases h : n = j
      · subst h
        simp [hp]
      · have : (decide (j < n + 1)) = decide (j < n) := decide_eq_decide.mpr (by omega)
        rw [this]
        simp [h]
    · rw [if_neg hp, Nat.zero_testBit, Bool.or_false]
      by_cases h : n = j
      · subst h
        simp [hp]
      · have : (decide (j < n + 1)) = decide (j < n) := decide_eq_decide.mpr (by omega)
        rw [this]
theorem mk_lt (p : Nat → Bool) (n : Nat) : mk p n < 2 ^ n := by
  apply Nat.lt_pow_two_of_testBit
  intro i hi
  rw [mk_bit]
  simp
  intro h
  omega
theorem mk_lt31 (p : Nat → Bool) {n : Nat} (h : n ≤ 31) : mk p n < 2 ^ 31 := Nat.lt_of_lt_of_le (mk_lt p n) (Nat.pow_le_pow_right (by decide) h)
theorem mk_cong {p q : Nat → Bool} {n : Nat} (h : ∀ k, k < n → p k = q k) : mk p n = mk q n := by
  apply Nat.eq_of_testBit_eq
  intro j
  rw [mk_bit, mk_bit]
  by_cases hj : j < n
  · rw [h j hj]
  · simp [hj]
theorem mk_0 {p : Nat → Bool} {n : Nat} : mk p n = 0 ↔ ∀ k, k < n → p k = false := by
  constructor
  · intro h k hk
    have := mk_bit p n k
    rw [h, Nat.zero_testBit] at this
    simpa [hk] using this.symm
  · intro h
    apply Nat.eq_of_testBit_eq
    intro j
    rw [mk_bit, Nat.zero_testBit]
    by_cases hj : j < n
    · simp [h j hj]
    · simp [hj]
theorem mk_step (p : Nat → Bool) (n : Nat) (h : n < 31) : nI (mk p n) ||| (if p n = true then (1 : Int32) <<< (nI n &&& 31) else 0) = nI (mk p (n + 1)) := by
  rw [mk]
  by_cases hp : p n = true
  · rw [if_pos hp, if_pos hp, bs_1 h, bs_or]
  · rw [if_neg hp, if_neg hp, show (0 : Int32) = nI 0 from rfl, bs_or]
