/-! ===== ops: played ===== -/
theorem sureL_add (f : Nat → Bool) (b : Nat) : ∀ a t n, sureL f (a + b) t n = sureL f b (t + a) (sureL f a t n)
  | 0, t, n => by rw [Nat.zero_add]; rfl
  | a + 1, t, n => by
    rw [show a + 1 + b = a + b + 1 by omega, sureL, sureL_add f b a, sureL, show t + 1 + a = t + (a + 1) by omega]
theorem sureL_cong {f g : Nat → Bool} : ∀ k t n, (∀ i, t ≤ i → i < t + k → f i = g i) → sureL f k t n = sureL g k t n
  | 0, _, _, _ => rfl
  | k + 1, t, n, h => by
    rw [sureL, sureL, h t (by omega) (by omega)]
    exact sureL_cong k _ _ fun i h1 h2 => h i (by omega) (by omega)
theorem sureL_f : ∀ k t n, sureL (fun _ => false) k t n = n
  | 0, _, _ => rfl
  | k + 1, t, n => by
    rw [sureL, if_neg (by decide)]
    exact sureL_f k _ _
theorem sureL_le (f : Nat → Bool) : ∀ k t n, sureL f k t n ≤ n + k
  | 0, _, _ => Nat.le_refl _
  | k + 1, t, n => by
    rw [sureL]
    have := sureL_le f k (t + 1) (if f t = true then n + 1 else n)
    split at this
    · rename_i h; rw [if_pos h]; omega
    · rename_i h; rw [if_neg h]; omega
def pop (m : Nat) : Nat := sureL (fun i => m.testBit i) 6 0 0
theorem pop_mk (f : Nat → Bool) {n : Nat} (h : n ≤ 6) : pop (mk f n) = sureL f n 0 0 := by
  unfold pop
  obtain ⟨b, hb⟩ : ∃ b, 6 = n + b := ⟨6 - n, by omega⟩
  rw [hb, sureL_add, sureL_cong (g := f) n 0 0, sureL_cong (g := fun _ => false) b, sureL_f]
  · intro i h1 h2
    show (mk f n).testBit i = false
    rw [mk_bit]
    simp
    omega
  · intro i h1 h2
    show (mk f n).testBit i = f i
    rw [mk_bit]
    simp
    omega
/-- how many figures; whether figures are sounds; the product -/
def fg : Nat → Nat → Nat
  | 0, _ => 0
  | k + 1, r => if r = 0 then 0 else fg k (r / 10) + 1
def dg (r : Nat) : Bool := decide (1 ≤ r % 10 ∧ r % 10 ≤ 8)
def okD : Nat → Nat → Bool
  | 0, _ => true
  | k + 1, r => if r = 0 then true else dg r && okD k (r / 10)
theorem d10 {k r : Nat} (h : r < 10 ^ (k + 1)) : r / 10 < 10 ^ k := by
  apply Nat.div_lt_of_lt_mul
  rw [Nat.pow_succ, Nat.mul_comm] at h
  exact h
theorem fg_st : ∀ k j r, r < 10 ^ k → fg (k + j) r = fg k r
  | 0, 0, r, h => rfl
  | 0, j + 1, r, h => by
    have : r = 0 := by omega
    subst this
    rw [Nat.zero_add]
    rfl
  | k + 1, j, r, h => by
    rw [show k + 1 + j = k + j + 1 by omega, fg, fg, fg_st k j _ (d10 h)]
theorem okD_st : ∀ k j r, r < 10 ^ k → okD (k + j) r = okD k r
  | 0, 0, r, h => rfl
  | 0, j + 1, r, h => by
    have : r = 0 := by omega
    subst this
    rw [Nat.zero_add]
    rfl
  | k + 1, j, r, h => by
    rw [show k + 1 + j = k + j + 1 by omega, okD, okD, okD_st k j _ (d10 h)]
theorem fg_le : ∀ k m r, r < 10 ^ k → (fg k r ≤ m ↔ r < 10 ^ m)
  | 0, m, r, h => by
    have : r = 0 := by omega
    subst this
    exact ⟨fun _ => Nat.pow_pos (show 0 < 10 by decide), fun _ => Nat.zero_le _⟩
  | k + 1, 0, r, h => by
    rw [fg]
    by_cases c : r = 0
    · rw [if_pos c]
      simp [c]
    · rw [if_neg c]
      omega
  | k + 1, m + 1, r, h => by
    have ih := fg_le k m (r / 10) (d10 h)
    rw [fg]
    by_cases c : r = 0
    · rw [if_pos c, c]
      exact ⟨fun _ => Nat.pow_pos (show 0 < 10 by decide), fun _ => Nat.zero_le _⟩
    · rw [if_neg c]
      constructor
      · intro h1
        have h2 := ih.mp (by omega)
        rw [Nat.pow_succ]
        omega
      · intro h1
        have := ih.mpr (d10 h1)
        omega
section OPS
variable (L : Nat) (I : Nat → Nat → Int32) (J : Nat → Nat → Int64)
theorem sem176 {m : Nat} (hm : m < 64) : am_sem 176 0 [.int (nI m)] [] (am_T L, I, J) = some (some (.int (nI (pop m))), (am_T L, I, J)) := by
  refine (q176_0 L I J (nI m)).trans (congrArg (fun x => some (some (Value.int x), (am_T L, I, J))) ?_)
  revert hm
  revert m
  decide +kernel
theorem n_div {r : Nat} (h : r < 2 ^ 31) : nI r / 10 = nI (r / 10) := by rw [show (10 : Int32) = nI 10 from rfl, pk_div h (by decide) (by decide)]
theorem n_rem {r : Nat} (h : r < 2 ^ 31) : nI r - nI (r / 10) * 10 = nI (r % 10) := by rw [← n_div h, show (10 : Int32) = nI 10 from rfl, pk_rem h (by decide) (by decide)]
theorem n_pos0 {r : Nat} (h : r < 2 ^ 31) : (nI r ≤ 0) = (r = 0) := by rw [show (0 : Int32) = nI 0 from rfl, n_le h (by decide)]; exact propext ⟨fun h => by omega, fun h => by omega⟩
theorem sem86l (d : Value) : ∀ k r n, r < 2 ^ 31 → n + k = 10 → ∀ c, am_sem 86 6 [d, .int (nI c), .int (nI r), .int (nI n)] [] (am_T L, I, J) = some (some (.int (nI (c + fg k r))), (am_T L, I, J))
  | 0, r, n, hr, hk, c => by
    rw [q86_6, if_pos (by rw [show (10 : Int32) = nI 10 from rfl, n_le (by decide) (by omega)]; omega), q86_18]
    rfl
  | k + 1, r, n, hr, hk, c => by
    have ih := sem86l d k (r / 10) (n + 1) (by omega) (by omega) (c + 1)
    rw [q86_6, if_neg (by rw [show (10 : Int32) = nI 10 from rfl, n_le (by decide) (by omega)]; omega), q86_9, fg]
    simp only [n_pos0 hr]
    by_cases h : r = 0
    · rw [if_pos h, if_pos h, q86_18]
      rfl
    · rw [if_neg h, if_neg h, q86_11, n_div hr, nI_1, nI_1, ih, show c + 1 + fg k (r / 10) = c + (fg k (r / 10) + 1) by omega]
theorem sem86 {r : Nat} (hr : r < 2 ^ 31) (d e f : Value) : am_sem 86 0 [.int (nI r), d, e, f] [] (am_T L, I, J) = some (some (.int (nI (fg 10 r))), (am_T L, I, J)) := by
  rw [q86_0]
  have := sem86l L I J (.int (nI r)) 10 r 0 hr (by omega) 0
  rw [Nat.zero_add] at this
  exact this
theorem dg_in {r : Nat} : inr (nI (r % 10) - 1) 8 = dg r := by
  have h : r % 10 < 10 := Nat.mod_lt _ (by decide)
  unfold dg
  generalize r % 10 = x at h
  revert h
  revert x
  decide +kernel
theorem sem85l (d : Value) : ∀ k r n, r < 2 ^ 31 → n + k = 6 → am_sem 85 12 [d, .int (nI r), .int (nI n)] [] (am_T L, I, J) = some (some (.int (bz (okD k r))), (am_T L, I, J))
  | 0, r, n, hr, hk => by
    rw [q85_12, if_pos (by rw [show (6 : Int32) = nI 6 from rfl, n_le (by decide) (by omega)]; omega), q85_32]
    rfl
  | k + 1, r, n, hr, hk => by
    have ih := sem85l d k (r / 10) (n + 1) (by omega) (by omega)
    rw [q85_12, if_neg (by rw [show (6 : Int32) = nI 6 from rfl, n_le (by decide) (by omega)]; omega), q85_15, okD]
    simp only [n_pos0 hr]
    by_cases h : r = 0
    · rw [if_pos h, if_pos h, q85_32]
      rfl
    · rw [if_neg h, if_neg h]
      simp only [q85_6, q85_2, q85_4, q85_8, q85_32, q85_17, q85_23, q85_26, q85_24, n_div hr, n_rem hr, sem82, dg_in, ob_s, tl_s, bz_0, nI_1, ih]
      cases dg r
      · simp [bz]
      · simp
theorem sem85 (x : Int32) (d e : Value) : am_sem 85 0 [.int x, d, e] [] (am_T L, I, J) = some (some (.int (bz (inr x 1000000 && okD 6 x.toNatClampNeg))), (am_T L, I, J)) := by
  by_cases h0 : x < 0
  · have : inr x 1000000 = false := by
      rw [← inr_lt x (by decide), lt2, if_pos h0]
    rw [q85_0, if_pos h0, q85_6, this]
    rfl
  · obtain ⟨r, hr, rfl⟩ : ∃ r, r < 2 ^ 31 ∧ x = nI r := by
      have h := nl_0 h0
      rw [Int32.le_iff_toInt_le, am_i0] at h
      have h2 := x.toInt_lt
      refine ⟨x.toInt.toNat, by omega, ?_⟩
      apply Int32.toInt_inj.mp
      rw [nI_toInt (by omega)]
      omega
    have hfl := fg_le 10 6 r (by omega)
    have hf10 := (fg_le 10 10 r (by omega)).mpr (by omega)
    rw [q85_0, if_neg h0, q85_2, sem86 L I J hr]
    simp only [ob_s, tl_s, q85_4, nc hr, inr_n hr, show (6 : Int32) = nI 6 from rfl, n_le (show fg 10 r < 2 ^ 31 by omega) (show 6 < 2 ^ 31 by decide)]
    by_cases h : r < 1000000
    · rw [if_pos (hfl.mpr h), q85_8, decide_eq_true h, Bool.true_and]
      exact sem85l L I J _ 6 r 0 hr (by omega)
    · rw [if_neg (fun h2 => h (hfl.mp h2)), q85_6, decide_eq_false h]
      rfl
theorem sem164l (d e : Value) : ∀ k r (b : Bool), r < 10 ^ k → r < 2 ^ 31 → am_sem 164 7 [d, e, .int (bz b), .int (nI r)] [] (am_T L, I, J) = some (some (.int (bz (b && okD k r))), (am_T L, I, J))
  | 0, r, b, h, hr => by
    have : r = 0 := by omega
    subst this
    rw [q164_7, if_pos (by decide), q164_27, am_if_t (bz_01 b), okD, Bool.and_true]
  | k + 1, r, b, h, hr => by
    have ih := fun b => sem164l d e k (r / 10) b (d10 h) (by omega)
    have e1 : decide (1 ≤ nI (r % 10) ∧ nI (r % 10) ≤ 8) = dg r := by
      have h : r % 10 < 10 := Nat.mod_lt _ (by decide)
      unfold dg
      generalize r % 10 = x at h
      revert h
      revert x
      decide +kernel
    rw [q164_7, okD]
    simp only [n_pos0 hr]
    by_cases c : r = 0
    · rw [if_pos c, if_pos c, q164_27, am_if_t (bz_01 b), Bool.and_true]
    · rw [if_neg c, if_neg c]
      simp only [q164_4, q164_9, q164_20, q164_11, q164_21, q164_17, q164_18, n_div hr, n_rem hr, sem111, e1, ob_s, tl_s, bz_0]
      cases b
      · have := ih false
        simp only [if_true, Bool.false_and] at this ⊢
        exact this
      · cases dg r
        · have := ih false
          simp only [Bool.true_eq_false, if_false, if_true, Bool.false_and, Bool.and_false] at this ⊢
          exact this
        · have := ih true
          simp only [Bool.true_eq_false, if_false, if_true, Bool.true_and] at this ⊢
          exact this
theorem sem164 (x : Int32) (d e f : Value) : am_sem 164 0 [d, .int x, e, f] [] (am_T L, I, J) = some (some (.int (bz (inr x 1000000 && okD 6 x.toNatClampNeg))), (am_T L, I, J)) := by
  have e1 : decide (0 ≤ x ∧ x ≤ 999999) = inr x 1000000 := inr_le (n := 999999) x (by decide)
  simp only [q164_0, sem111, e1, ob_s, tl_s, q164_4]
  by_cases h0 : x < 0
  · have : inr x 1000000 = false := by
      rw [← inr_lt x (by decide), lt2, if_pos h0]
    rw [this, q164_7, if_pos (by rw [Int32.le_iff_toInt_le]; rw [Int32.lt_iff_toInt_lt] at h0; omega), q164_27, am_if_t (bz_01 _)]
    rfl
  · obtain ⟨r, hr, rfl⟩ : ∃ r, r < 2 ^ 31 ∧ x = nI r := by
      have h := nl_0 h0
      rw [Int32.le_iff_toInt_le, am_i0] at h
      have h2 := x.toInt_lt
      refine ⟨x.toInt.toNat, by omega, ?_⟩
      apply Int32.toInt_inj.mp
      rw [nI_toInt (by omega)]
      omega
    rw [nc hr]
    cases h : inr (nI r) 1000000
    · exact (sem164l L I J d (.int (nI r)) 10 r false (by omega) hr).trans rfl
    · rw [inr_n hr] at h
      exact sem164l L I J d (.int (nI r)) 6 r true (of_decide_eq_true h) hr
/-- how many people have a begin -/
def plN (v : VT) (q : QT) (s pl t : Nat) : Nat := sureL (fun p => canB v p s (tB v q p pl t)) (vN v) 0 0
def plW (v : VT) (q : QT) (pl t : Nat) : Nat → Nat → Int32 → Int32
  | 0, _, w => w
  | k + 1, r, w => plW v q pl t k (r / 10) (w * nI (plN v q (r % 10 - 1) pl (t + k)))
theorem sem74l {v : VT} {q : QT} (wv : wV v) (wq : wQ v q) (hv : cV v I) (hq : cQ (vN v) 21 q I) {pl t : Nat} (hpl : pl < vP v) (ht : t < 41) (d : Value) : ∀ j k r (w : Int32), k ≤ 6 → r < 2 ^ 31 → okD j r = true → fg j r = k → am_sem 74 23 [.ref 1, d, .int (nI pl), .int (nI t), .int w, .int (nI r), .int (nI k - 1)] [] (am_T L, I, J) = some (some (.int (plW v q pl t k r w)), (am_T L, I, J))
  | 0, k, r, w, hk6, hr, ho, hk => by
    have hk : 0 = k := hk
    subst hk
    rw [q74_23, if_pos (by decide), q74_46]
    rfl
  | j + 1, k, r, w, hk6, hr, ho, hk => by
    have hn := wv.2.2.1
    rw [okD] at ho
    rw [fg] at hk
    by_cases c : r = 0
    · rw [if_pos c] at hk
      subst hk
      rw [q74_23, if_pos (by decide), q74_46]
      rfl
    · rw [if_neg c] at hk ho
      subst hk
      rw [Bool.and_eq_true] at ho
      have hd := ho.1
      unfold dg at hd
      have hd := of_decide_eq_true hd
      have ih := fun w => sem74l wv wq hv hq hpl ht d j (fg j (r / 10)) (r / 10) w (by omega) (by omega) ho.2 rfl
      have hm := Nat.lt_of_lt_of_le (mk_lt (fun p => canB v p (r % 10 - 1) (tB v q p pl (t + fg j (r / 10)))) (vN v)) (Nat.pow_le_pow_right (show 0 < 2 by decide) hn)
      rw [nI_pred, q74_23, if_neg (nI_pos (by omega)), q74_25, n_div hr, n_rem hr, show (1 : Int32) = nI 1 from rfl, pk_sub hd.1, nI_add, sem90 L I J wv wq hv hq (show r % 10 - 1 < 8 by omega) hpl (show t + fg j (r / 10) < 900 by omega)]
      simp only [ob_s, tl_s, q74_37, sem176 L I J hm, q74_38, n_div hr, pop_mk _ hn]
      rw [show nI (fg j (r / 10)) + (-1) = nI (fg j (r / 10)) - 1 from (Int32.sub_eq_add_neg _ _).symm ▸ rfl]
      exact ih _
theorem sem165f (a1 a2 a3 : Int32) (d6 d7 d8 d9 : Value) : ∀ k r c, r < 10 ^ k → r < 2 ^ 31 → am_sem 165 17 [.ref 54, .int a1, .int a2, .int a3, .int (nI c), .int (nI r), d6, d7, d8, d9] [] (am_T L, I, J) = am_sem 165 33 [.ref 54, .int a1, .int a2, .int a3, .int (nI (c + fg k r)), .int 1, .int a1, .int (nI (c + fg k r) - 1), d8, d9] [] (am_T L, I, J)
  | 0, r, c, h, hr => by
    have : r = 0 := by omega
    subst this
    rw [q165_17, if_pos (by decide), q165_25]
    rfl
  | k + 1, r, c, h, hr => by
    have ih := sem165f a1 a2 a3 d6 d7 d8 d9 k (r / 10) (c + 1) (d10 h) (by omega)
    rw [q165_17, fg]
    simp only [n_pos0 hr]
    by_cases c0 : r = 0
    · rw [if_pos c0, if_pos c0, q165_25]
      rfl
    · rw [if_neg c0, if_neg c0, q165_19, n_div hr, nI_1, ih, show c + 1 + fg k (r / 10) = c + (fg k (r / 10) + 1) by omega]
theorem sem165p {v : VT} {q : QT} (wv : wV v) (wq : wQ v q) (hv : mV v I) (hq : mQ (vN v) q (I 58)) {pl t r j : Nat} (hpl : pl < vP v) (ht : t < 41) (hr : r < 2 ^ 31) (hd : 1 ≤ r % 10 ∧ r % 10 ≤ 8) (hj : j < 10) (d1 d4 : Value) (w : Int32) : ∀ k p n, p + k = vN v → am_sem 165 39 [.ref 54, d1, .int (nI pl), .int (nI t), d4, .int w, .int (nI r), .int (nI j), .int (nI n), .int (nI p)] [] (am_T L, I, J) = am_sem 165 65 [.ref 54, d1, .int (nI pl), .int (nI t), d4, .int w, .int (nI r), .int (nI j), .int (nI (sureL (fun p => canB v p (r % 10 - 1) (tB v q p pl (t + j))) k p n)), .int (nI (vN v))] [] (am_T L, I, J)
  | 0, p, n, hk => by
    have hn := wv.2.2.1
    rw [q165_39, hv.2.1, if_pos (by rw [n_le (by omega) (by omega)]; omega), show p = vN v by omega]
    rfl
  | k + 1, p, n, hk => by
    have hn := wv.2.2.1
    have hp : p < vN v := by omega
    have hf := far_le wv (qW q p) pl
    have ih := fun n => sem165p wv wq hv hq hpl ht hr hd hj d1 d4 w k (p + 1) n (by omega)
    rw [q165_39, hv.2.1, if_neg (by rw [n_le (by omega) (by omega)]; omega), q165_43, n_div hr, n_rem hr, show (1 : Int32) = nI 1 from rfl, pk_sub hd.1, nI_add, sem161 L I J wv wq hv hq hp (show r % 10 - 1 < 8 by omega) hpl (show t + j < 900 by omega)]
    simp only [ob_s, tl_s, q165_0, q165_3, q165_11, q165_4, q165_7, q165_8, q165_10, q165_13, q165_25, q165_19, q165_75, q165_35, q165_43, q165_56, q165_60, q165_58, q165_61]
    rw [sureL]
    cases canB v p (r % 10 - 1) (tB v q p pl (t + j))
    · simp only [Bool.false_eq_true, if_false, if_true]
      rw [show nI n + 0 = nI n from Int32.add_zero _, nI_1]
      exact ih n
    · simp only [if_true, nm9 (show tB v q p pl (t + j) < 2 ^ 31 by unfold tB; omega), if_false]
      rw [nI_1, nI_1]
      exact ih (n + 1)
theorem sem165l {v : VT} {q : QT} (wv : wV v) (wq : wQ v q) (hv : mV v I) (hq : mQ (vN v) q (I 58)) {pl t : Nat} (hpl : pl < vP v) (ht : t < 41) (d d4 : Value) : ∀ j k r (w : Int32) (d8 d9 : Value), k ≤ 6 → r < 2 ^ 31 → okD j r = true → fg j r = k → am_sem 165 33 [.ref 54, d, .int (nI pl), .int (nI t), d4, .int w, .int (nI r), .int (nI k - 1), d8, d9] [] (am_T L, I, J) = some (some (.int (plW v q pl t k r w)), (am_T L, I, J))
  | 0, k, r, w, d8, d9, hk6, hr, ho, hk => by
    have hk : 0 = k := hk
    subst hk
    rw [q165_33, if_pos (by decide), q165_75]
    rfl
  | j + 1, k, r, w, d8, d9, hk6, hr, ho, hk => by
    have hn := wv.2.2.1
    rw [okD] at ho
    rw [fg] at hk
    by_cases c : r = 0
    · rw [if_pos c] at hk
      subst hk
      rw [q165_33, if_pos (by decide), q165_75]
      rfl
    · rw [if_neg c] at hk ho
      subst hk
      rw [Bool.and_eq_true] at ho
      have hd := ho.1
      unfold dg at hd
      have hd := of_decide_eq_true hd
      have ih := fun w d8 d9 => sem165l wv wq hv hq hpl ht d d4 j (fg j (r / 10)) (r / 10) w d8 d9 (by omega) (by omega) ho.2 rfl
      have hp := sem165p L I J wv wq hv hq hpl ht hr hd (show fg j (r / 10) < 10 by omega) d d4 w (vN v) 0 0 (by omega)
      rw [nI_pred, q165_33, if_neg (nI_pos (by omega)), q165_35]
      refine Eq.trans hp ?_
      rw [q165_65, n_div hr]
      rw [show nI (fg j (r / 10)) + (-1) = nI (fg j (r / 10)) - 1 from (Int32.sub_eq_add_neg _ _).symm ▸ rfl]
      exact ih _ _ _
end OPS
theorem op_played (L : Nat) (x y z : Int32) (d4 d5 d6 e4 e5 e6 e7 e8 e9 : Value) : Op L 74 165 [.ref 1, .int x, .int y, .int z, d4, d5, d6] [.ref 54, .int x, .int y, .int z, e4, e5, e6, e7, e8, e9] := Op.ro fun a I J hR => by
  obtain ⟨⟨wv, wl, wq, wx, wi, wj⟩, ⟨cv, cl, cq, cx, ci, cj⟩, ⟨mv, ml, mq, mx, mi, mj⟩, ht⟩ := hR
  have h6 := wv.2.1
  simp only [q74_0, q165_0, sem85, sem164, ob_s, tl_s, q74_2, q165_3, bz_0]
  cases hx : (inr x 1000000 && okD 6 x.toNatClampNeg)
  · simp only [if_true, q74_12, q165_11]
    exact ⟨_, rfl, rfl⟩
  simp only [Bool.true_eq_false, if_false, q74_3, q165_4, sem44 L I J (show vP a.1 < 2 ^ 31 by omega) cv.1, sem113 L I J (show vP a.1 < 2 ^ 31 by omega) mv.1, ob_s, tl_s, q74_7, q165_7, bz_0]
  cases hy : inr y (vP a.1)
  · simp only [if_true, q74_12, q165_11]
    exact ⟨_, rfl, rfl⟩
  simp only [Bool.true_eq_false, if_false, q74_8, q165_8, sem81n L I J z (m := 40) 40 rfl (by decide), sem116, ob_s, tl_s, q74_11, q165_10, bz_0]
  cases hz : inr z 41
  · simp only [if_true, q74_12, q165_11]
    exact ⟨_, rfl, rfl⟩
  rw [Bool.and_eq_true] at hx
  obtain ⟨r, hr, rfl⟩ := inr_t hx.1 (by decide)
  obtain ⟨pl, hpl, rfl⟩ := inr_t hy (by omega)
  obtain ⟨t, htt, rfl⟩ := inr_t hz (by decide)
  have ho := hx.2
  rw [nc (show r < 2 ^ 31 by omega)] at ho
  have f10 : fg 10 r = fg 6 r := fg_st 6 4 r hr
  have hf6 := (fg_le 6 6 r hr).mpr hr
  simp only [Bool.true_eq_false, if_false, q74_14, q165_13, sem86 L I J (show r < 2 ^ 31 by omega), ob_s, tl_s, q74_20]
  refine ⟨some (.int (plW a.1 a.2.2.1 pl t (fg 6 r) r 1)), ?_, ?_⟩
  · rw [f10]
    exact sem74l L I J wv wq cv cq hpl htt _ 6 (fg 6 r) r 1 hf6 (by omega) ho rfl
  · refine Eq.trans (sem165f L I J (nI r) (nI pl) (nI t) e6 e7 e8 e9 6 r 0 hr (by omega)) ?_
    rw [Nat.zero_add]
    exact sem165l L I J wv wq mv mq hpl htt _ _ 6 (fg 6 r) r 1 e8 e9 hf6 (by omega) ho rfl
