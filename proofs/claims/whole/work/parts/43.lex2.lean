/-! ===== tokens: the reference ===== -/
theorem am_u_w {α : Type} (f : Nat → Nat → α) (c i j : Nat) (y z : α) (h : i ≠ j) : am_u (am_u f c j y) c i z = am_u (am_u f c i z) c j y := by
  funext a b
  unfold am_u
  by_cases h1 : a = c
  · by_cases h2 : b = i
    · subst h2
      simp [h1, h]
    · simp [h1, h2]
  · simp [h1]
def Wi (x : XT) (S q : Nat) (w : Int64) : Prop := (q = S → w = 0) ∧ (q = S + 1 → w = (nI (x.2 S)).toInt64) ∧ (S + 1 ≤ q → q ≤ S + 8 → w.toBitVec.getLsbD (8 * (q - S - 1) + 6) = true) ∧ (S + 9 ≤ q → w = 0)
def Vi (x : XT) (S q : Nat) (v : Int32) : Prop := (q = S → v = 0) ∧ (q = S + 1 → v = nI (x.2 S - 48)) ∧ (q = S + 2 → v = nI ((x.2 S - 48) * 10 + (x.2 (S + 1) - 48)))
theorem wd_6 : ∀ b, b < 256 → 97 ≤ b ∧ b ≤ 122 → ((nI b).toInt64).toBitVec.getLsbD 6 = true := by decide +kernel
theorem wd_c : ∀ b, b < 256 → (((nI b).toInt64 = 110) ↔ b = 110) ∧ (((nI b).toInt64 = 102) ↔ b = 102) ∧ (((nI b).toInt64 = 112) ↔ b = 112) := by decide +kernel
theorem kd_1 {b : Nat} : kd b = 1 ↔ 97 ≤ b ∧ b ≤ 122 := by
  unfold kd
  constructor
  · intro h
    split at h
    · assumption
    · split at h
      · cases h
      · split at h <;> cases h
  · intro h
    rw [if_pos h]
theorem kd_2i {b : Nat} : kd b = 2 ↔ 48 ≤ b ∧ b ≤ 57 := by
  refine ⟨kd_2, fun h => ?_⟩
  unfold kd
  rw [if_neg (by omega), if_pos h]
theorem Wi_step {x : XT} {S q : Nat} {w : Int64} (h : Wi x S q w) (hS : S ≤ q) (hk : 97 ≤ x.2 q ∧ x.2 q ≤ 122) : Wi x S (q + 1) (if 8 ≤ q - S then 0 else w <<< ((8 : Int32).toInt64 &&& 63) ||| (nI (x.2 q)).toInt64) := by
  obtain ⟨h1, h2, h3, h4⟩ := h
  refine ⟨fun e => by omega, fun e => ?_, fun e1 e2 => ?_, fun e => ?_⟩
  · have e : q = S := by omega
    rw [if_neg (by omega), h1 e, e]
    apply Int64.toBitVec_inj.mp
    apply BitVec.eq_of_getLsbD_eq
    intro j hj
    rw [Int64.toBitVec_or, BitVec.getLsbD_or, show ((0 : Int64) <<< ((8 : Int32).toInt64 &&& 63)) = 0 from by decide]
    simp
  · by_cases e : q = S
    · rw [if_neg (by omega), h1 e, e, show 8 * (S + 1 - S - 1) + 6 = 6 by omega, Int64.toBitVec_or, BitVec.getLsbD_or, wd_6 _ (by rw [← e]; omega) (by rw [← e]; exact hk), Bool.or_true]
    · have h3 := h3 (by omega) (by omega)
      rw [if_neg (by omega), Int64.toBitVec_or, BitVec.getLsbD_or, Int64.toBitVec_shiftLeft, show (((8 : Int32).toInt64 &&& 63).toBitVec.smod 64) = 8#64 from by decide]
      rw [BitVec.shiftLeft_eq', BitVec.getLsbD_shiftLeft, show (8#64).toNat = 8 from rfl, show 8 * (q + 1 - S - 1) + 6 - 8 = 8 * (q - S - 1) + 6 by omega, h3, decide_eq_true (show 8 * (q + 1 - S - 1) + 6 < 64 by omega), decide_eq_false (show ¬ 8 * (q + 1 - S - 1) + 6 < 8 by omega)]
      rfl
  · rw [if_pos (by omega)]
theorem Wi_end {x : XT} {S q : Nat} {w : Int64} (wx : wX x) (h : Wi x S q w) (hS : S < q) : (w = 110 ↔ q = S + 1 ∧ x.2 S = 110) ∧ (w = 102 ↔ q = S + 1 ∧ x.2 S = 102) ∧ (w = 112 ↔ q = S + 1 ∧ x.2 S = 112) := by
  obtain ⟨h1, h2, h3, h4⟩ := h
  have hb := wx.2 S
  by_cases e : q = S + 1
  · rw [h2 e]
    obtain ⟨c1, c2, c3⟩ := wd_c (x.2 S) (by omega)
    exact ⟨c1.trans ⟨fun z => ⟨e, z⟩, fun z => z.2⟩, c2.trans ⟨fun z => ⟨e, z⟩, fun z => z.2⟩, c3.trans ⟨fun z => ⟨e, z⟩, fun z => z.2⟩⟩
  · have key : w ≠ 110 ∧ w ≠ 102 ∧ w ≠ 112 := by
      by_cases c : S + 9 ≤ q
      · rw [h4 c]
        decide
      · have h3 := h3 (by omega) (by omega)
        have hlo : 1 ≤ q - S - 1 ∧ q - S - 1 ≤ 7 := by omega
        generalize q - S - 1 = m at h3 hlo
        have f : ∀ m, m < 8 → 1 ≤ m → (110 : Int64).toBitVec.getLsbD (8 * m + 6) = false ∧ (102 : Int64).toBitVec.getLsbD (8 * m + 6) = false ∧ (112 : Int64).toBitVec.getLsbD (8 * m + 6) = false := by decide +kernel
        obtain ⟨f1, f2, f3⟩ := f m (by omega) (by omega)
        refine ⟨fun z => ?_, fun z => ?_, fun z => ?_⟩
        · rw [z, f1] at h3
          cases h3
        · rw [z, f2] at h3
          cases h3
        · rw [z, f3] at h3
          cases h3
    exact ⟨⟨fun z => absurd z key.1, fun z => absurd z.1 e⟩, ⟨fun z => absurd z key.2.1, fun z => absurd z.1 e⟩, ⟨fun z => absurd z key.2.2, fun z => absurd z.1 e⟩⟩
theorem Vi_step {x : XT} {S q : Nat} {v : Int32} (h : Vi x S q v) (hS : S ≤ q) (hk : 48 ≤ x.2 q ∧ x.2 q ≤ 57) (hS2 : q = S + 1 → 48 ≤ x.2 S ∧ x.2 S ≤ 57) : Vi x S (q + 1) (if 3 ≤ q - S then v else 10 * v + nI (x.2 q) - 48) := by
  obtain ⟨h1, h2, h3⟩ := h
  refine ⟨fun e => by omega, fun e => ?_, fun e => ?_⟩
  · have e : q = S := by omega
    rw [if_neg (by omega), h1 e, e, show (10 : Int32) * 0 = nI 0 from rfl, nI_add, Nat.zero_add, show (48 : Int32) = nI 48 from rfl, pk_sub (by rw [← e]; exact hk.1)]
  · have e : q = S + 1 := by omega
    have := hS2 e
    rw [if_neg (by omega), h2 e, e, show (10 : Int32) = nI 10 from rfl, pk_mul, nI_add, show (48 : Int32) = nI 48 from rfl, pk_sub (by rw [← e]; omega)]
    rw [e] at hk
    rw [show 10 * (x.2 S - 48) + x.2 (S + 1) - 48 = (x.2 S - 48) * 10 + (x.2 (S + 1) - 48) by omega]
section OPS
variable (L : Nat) (I : Nat → Nat → Int32) (J : Nat → Nat → Int64)
theorem sem119 {x : XT} (wx : wX x) (hx : mX x I) {p : Nat} (hp : p < 1000) : am_sem 119 0 [.ref 54, .int (nI p)] [] (am_T L, I, J) = some (some (.int (if p < x.1 then nI (x.2 p) else -1)), (am_T L, I, J)) := by
  have h2 := wx.1
  rw [q119_0, hx.1]
  by_cases c : p < x.1
  · rw [if_neg (by rw [n_le (by omega) (by omega)]; omega), q119_4, nc (show p < 2 ^ 31 by omega), am_if_t (n_in (show p < 200 by omega) (by decide)), hx.2 p c, q119_10, if_pos c]
  · rw [if_pos (by rw [n_le (by omega) (by omega)]; omega), q119_9, q119_10, if_neg c]
theorem mX_u {x : XT} {I : Nat → Nat → Int32} (hx : mX x I) {j : Nat} {v : Int32} (h : j ≠ 11) : mX x (am_u I 54 j v) := ⟨by rw [am_u_j (by omega)]; exact hx.1, by rw [am_u_n _ _ _ (by decide)]; exact hx.2⟩
theorem m1_32 : ((-1 : Int32) = 32) = False := eq_false (by decide)
theorem sem120s {x : XT} (wx : wX x) (hx : mX x I) (d : Value) : ∀ k p, p + k = x.1 → am_sem 120 0 [.ref 54, d] [] (am_T L, am_u I 54 12 (nI p), J) = am_sem 120 13 [.ref 54, d] [] (am_T L, am_u I 54 12 (nI (skp x k p)), J)
  | 0, p, hk => by
    have h2 := wx.1
    rw [q120_0, am_u_x, sem119 L _ J wx (mX_u hx (by decide)) (show p < 1000 by omega), if_neg (by omega)]
    simp only [ob_s, tl_s, q120_4, m1_32, if_false]
    rfl
  | k + 1, p, hk => by
    have h2 := wx.1
    have hp : p < x.1 := by omega
    have hb := wx.2 p
    have ih := sem120s wx hx d k (p + 1) (by omega)
    rw [q120_0, am_u_x, sem119 L _ J wx (mX_u hx (by decide)) (show p < 1000 by omega), if_pos hp]
    simp only [ob_s, tl_s, q120_4, show (32 : Int32) = nI 32 from rfl, n_inj (show x.2 p < 2 ^ 31 by omega) (show 32 < 2 ^ 31 by decide)]
    rw [skp]
    by_cases c : x.2 p = 32
    · rw [if_pos c, if_pos ⟨hp, c⟩, q120_6, am_u_x, am_u_u, nI_1]
      exact ih
    · rw [if_neg c, if_neg (fun h => c h.2)]
theorem in_az {b : Nat} (hb : b ≤ 255) : decide ((97 : Int32) ≤ nI b ∧ nI b ≤ 122) = decide (kd b = 1) := by
  apply decide_eq_decide.mpr
  rw [show (97 : Int32) = nI 97 from rfl, show (122 : Int32) = nI 122 from rfl, n_le (by decide) (by omega), n_le (by omega) (by decide), kd_1]
theorem in_09 {b : Nat} (hb : b ≤ 255) : decide ((48 : Int32) ≤ nI b ∧ nI b ≤ 57) = decide (kd b = 2) := by
  apply decide_eq_decide.mpr
  rw [show (48 : Int32) = nI 48 from rfl, show (57 : Int32) = nI 57 from rfl, n_le (by decide) (by omega), n_le (by omega) (by decide), kd_2i]
theorem sem120w {x : XT} (wx : wX x) (hx : mX x I) (d : Value) {S : Nat} (h13 : I 54 13 = nI S) : ∀ k q (w : Int64), q + k = x.1 → S ≤ q → Wi x S q w → ∃ w', am_sem 120 39 [.ref 54, d] [] (am_T L, am_u I 54 12 (nI q), am_u J 54 16 w) = some (none, (am_T L, am_u I 54 12 (nI (rnn x 1 k q)), am_u J 54 16 w')) ∧ Wi x S (rnn x 1 k q) w'
  | 0, q, w, hk, hS, hw => by
    have h2 := wx.1
    refine ⟨w, ?_, hw⟩
    rw [q120_39, am_u_x, sem119 L _ _ wx (mX_u hx (by decide)) (show q < 1000 by omega), if_neg (by omega)]
    simp only [ob_s, tl_s, q120_43, sem111, show decide ((97 : Int32) ≤ -1 ∧ (-1 : Int32) ≤ 122) = false from by decide, bz_f, q120_46, if_true, q120_158]
    rfl
  | k + 1, q, w, hk, hS, hw => by
    have h2 := wx.1
    have hp : q < x.1 := by omega
    have hb := wx.2 q
    by_cases c : kd (x.2 q) = 1
    · obtain ⟨w', ih, hw'⟩ := sem120w wx hx d h13 k (q + 1) _ (by omega) (by omega) (Wi_step hw hS (kd_1.mp c))
      rw [rnn, if_pos ⟨hp, c⟩]
      refine ⟨w', Eq.trans ?_ ih, hw'⟩
      rw [q120_39, am_u_x, sem119 L _ _ wx (mX_u hx (by decide)) (show q < 1000 by omega), if_pos hp]
      simp only [ob_s, tl_s, q120_43, sem111, in_az hb, c, decide_true, bz_t, q120_46, i10, if_false, q120_47, am_u_x, am_u_j (show 13 ≠ 12 by decide), h13, pk_sub hS, show (8 : Int32) ≤ nI (q - S) ↔ 8 ≤ q - S from by rw [show (8 : Int32) = nI 8 from rfl, n_le (by decide) (by omega)]]
      by_cases c8 : 8 ≤ q - S
      · rw [if_pos c8, if_pos c8, q120_66, q120_67, am_u_x, am_u_u, am_u_u, nI_1]
      · rw [if_neg c8, if_neg c8, q120_55, am_u_x, am_u_x, sem119 L _ _ wx (mX_u hx (by decide)) (show q < 1000 by omega), if_pos hp]
        simp only [ob_s, tl_s, q120_63, q120_67, am_u_x, am_u_u, nI_1]
    · rw [rnn, if_neg (fun h => c h.2)]
      refine ⟨w, ?_, hw⟩
      rw [q120_39, am_u_x, sem119 L _ _ wx (mX_u hx (by decide)) (show q < 1000 by omega), if_pos hp]
      simp only [ob_s, tl_s, q120_43, sem111, in_az hb, c, decide_false, bz_f, q120_46, if_true, q120_158]
theorem sem120n {x : XT} (wx : wX x) (hx : mX x I) (d : Int32) {S : Nat} (h13 : I 54 13 = nI S) (hS0 : kd (x.2 S) = 2) : ∀ k q (v : Int32), q + k = x.1 → S ≤ q → Vi x S q v → ∃ v', am_sem 120 83 [.ref 54, .int d] [] (am_T L, am_u (am_u I 54 15 v) 54 12 (nI q), J) = am_sem 120 121 [.ref 54, .int d] [] (am_T L, am_u (am_u I 54 15 v') 54 12 (nI (rnn x 2 k q)), J) ∧ Vi x S (rnn x 2 k q) v'
  | 0, q, v, hk, hS, hw => by
    have h2 := wx.1
    refine ⟨v, ?_, hw⟩
    rw [q120_83, am_u_x, sem119 L _ _ wx (mX_u (mX_u hx (by decide)) (by decide)) (show q < 1000 by omega), if_neg (by omega)]
    simp only [ob_s, tl_s, q120_87, sem111, show decide ((48 : Int32) ≤ -1 ∧ (-1 : Int32) ≤ 57) = false from by decide, bz_f, q120_90, if_true]
    rfl
  | k + 1, q, v, hk, hS, hw => by
    have h2 := wx.1
    have hp : q < x.1 := by omega
    have hb := wx.2 q
    by_cases c : kd (x.2 q) = 2
    · obtain ⟨v', ih, hv'⟩ := sem120n wx hx d h13 hS0 k (q + 1) _ (by omega) (by omega) (Vi_step hw hS (kd_2i.mp c) (fun _ => kd_2i.mp hS0))
      rw [rnn, if_pos ⟨hp, c⟩]
      refine ⟨v', Eq.trans ?_ ih, hv'⟩
      rw [q120_83, am_u_x, sem119 L _ _ wx (mX_u (mX_u hx (by decide)) (by decide)) (show q < 1000 by omega), if_pos hp]
      have e3 : (3 : Int32) ≤ nI (q - S) ↔ 3 ≤ q - S := by rw [show (3 : Int32) = nI 3 from rfl, n_le (by decide) (by omega)]
      have eI : ∀ z z2 : Int32, am_u (am_u (am_u (am_u I 54 15 v) 54 12 (nI q)) 54 15 z) 54 12 z2 = am_u (am_u I 54 15 z) 54 12 z2 := fun z z2 => by
        rw [am_u_w _ _ _ _ _ _ (show 15 ≠ 12 by decide), am_u_u, am_u_u]
      simp only [ob_s, tl_s, q120_87, sem111, in_09 hb, c, decide_true, bz_t, q120_90, i10, if_false, q120_91, am_u_x, am_u_j (show 13 ≠ 12 by decide), am_u_j (show 13 ≠ 15 by decide), h13, pk_sub hS, e3]
      by_cases c8 : 3 ≤ q - S
      · rw [if_pos c8, if_pos c8, q120_111, q120_113, am_u_x, am_u_j (by decide), am_u_x, eI, nI_1]
      · rw [if_neg c8, if_neg c8, q120_99, am_u_x, am_u_j (by decide), am_u_x, sem119 L _ _ wx (mX_u (mX_u hx (by decide)) (by decide)) (show q < 1000 by omega), if_pos hp]
        simp only [ob_s, tl_s, q120_107, q120_113, am_u_x, eI, nI_1]
    · rw [rnn, if_neg (fun h => c h.2)]
      refine ⟨v, ?_, hw⟩
      rw [q120_83, am_u_x, sem119 L _ _ wx (mX_u (mX_u hx (by decide)) (by decide)) (show q < 1000 by omega), if_pos hp]
      simp only [ob_s, tl_s, q120_87, sem111, in_09 hb, c, decide_false, bz_f, q120_90, if_true]
/-- the next token -/
theorem sem120 {x : XT} (wx : wX x) (hx : mX x I) {p : Nat} (hp : p ≤ x.1) (h12 : I 54 12 = nI p) (d : Value) : ∃ I' J', am_sem 120 0 [.ref 54, d] [] (am_T L, I, J) = some (none, (am_T L, I', J')) ∧ (∀ c, c ≠ 54 → I' c = I c) ∧ (∀ j, (j < 12 ∨ 15 < j) → I' 54 j = I 54 j) ∧ (∀ c j, (c ≠ 54 ∨ j ≠ 16) → J' c j = J c j) ∧ I' 54 13 = nI (lxS x p) ∧ I' 54 12 = nI (lxE x p) ∧ I' 54 14 = nI (lxK x p) ∧ (lxK x p = 2 → I' 54 15 = nI (lxV x p)) ∧ (lxK x p = 1 → (J' 54 16 = 110 ↔ lxE x p = lxS x p + 1 ∧ x.2 (lxS x p) = 110) ∧ (J' 54 16 = 102 ↔ lxE x p = lxS x p + 1 ∧ x.2 (lxS x p) = 102) ∧ (J' 54 16 = 112 ↔ lxE x p = lxS x p + 1 ∧ x.2 (lxS x p) = 112)) := by
  have hS := lxS_le hp
  have hE := lxE_le hp
  have h200 := wx.1
  obtain ⟨S, hSS⟩ : ∃ S, S = lxS x p := ⟨_, rfl⟩
  obtain ⟨X, hX⟩ : ∃ X, X = am_u (am_u I 54 12 (nI S)) 54 13 (nI S) := ⟨_, rfl⟩
  have xX : mX x X := by
    rw [hX]
    exact mX_u (mX_u hx (by decide)) (by decide)
  have x12 : X 54 12 = nI S := by rw [hX, am_u_j (by decide), am_u_x]
  have x13 : X 54 13 = nI S := by rw [hX, am_u_x]
  have xc : ∀ c, c ≠ 54 → X c = I c := fun c hc => by rw [hX, am_u_n _ _ _ hc, am_u_n _ _ _ hc]
  have xj : ∀ j, (j < 12 ∨ 15 < j) → X 54 j = I 54 j := fun j hj => by rw [hX, am_u_j (by omega), am_u_j (by omega)]
  rw [← hSS] at hS hE
  have e1 : am_sem 120 0 [.ref 54, d] [] (am_T L, I, J) = (am_sem 119 0 [.ref 54, .int (nI S)] [] (am_T L, X, J)).bind (fun r => am_sem 120 21 [.ref 54, d] (r.1.toList ++ []) r.2) := by
    have e := sem120s L I J wx hx d (x.1 - p) p (by omega)
    have e0 : am_u I 54 12 (nI p) = I := by
      funext a b
      unfold am_u
      by_cases h : a = 54
      · by_cases h2 : b = 12
        · subst h
          subst h2
          simp [h12]
        · simp [h2]
      · simp [h]
    rw [e0] at e
    rw [e, q120_13, am_u_x, hX, hSS]
    rfl
  rw [sem119 L X J wx xX (show S < 1000 by omega)] at e1
  by_cases c : S < x.1
  · have hb := wx.2 S
    have hkd := kd_pos (x.2 S)
    have eT : lxT x p = kd (x.2 S) := by
      unfold lxT
      rw [← hSS, if_pos c]
    rw [if_pos c] at e1
    have e2 : am_sem 120 0 [.ref 54, d] [] (am_T L, I, J) = am_sem 120 28 [.ref 54, .int (nI (x.2 S))] [] (am_T L, X, J) := by
      rw [e1]
      simp only [ob_s, tl_s, q120_21]
      rw [if_pos (by rw [n_nn (by omega)]; trivial)]
    have hsx : x.1 - S = (x.1 - (S + 1)) + 1 := by omega
    by_cases k1 : kd (x.2 S) = 1
    · have eE : lxE x p = rnn x 1 (x.1 - S) S := by
        unfold lxE
        rw [← hSS, if_pos c, eT, k1, if_pos (Or.inl rfl), hsx, rnn, if_pos ⟨c, k1⟩]
      have eK : lxK x p = 1 := by
        unfold lxK
        rw [eT, k1]
        rfl
      have hx14 : ∀ q, am_u (am_u X 54 14 1) 54 12 (nI q) = am_u (am_u X 54 12 (nI q)) 54 14 1 := fun q => am_u_w _ _ _ _ _ _ (by decide)
      obtain ⟨w', h1, h2⟩ := sem120w L (am_u X 54 14 1) J wx (mX_u xX (by decide)) (.int (nI (x.2 S))) (S := S) (by rw [am_u_j (by decide), x13]) (x.1 - S) S 0 (by omega) (Nat.le_refl _) ⟨fun _ => rfl, fun h => by omega, fun h => by omega, fun h => by omega⟩
      rw [← eE] at h1 h2
      have e0 : am_u (am_u X 54 14 1) 54 12 (nI S) = am_u X 54 14 1 := by
        funext a b
        unfold am_u
        by_cases h : a = 54
        · by_cases h2 : b = 12
          · subst h
            subst h2
            simp [x12]
          · simp [h2]
        · simp [h]
      rw [e0] at h1
      refine ⟨am_u (am_u X 54 14 1) 54 12 (nI (lxE x p)), am_u J 54 16 w', ?_, fun c hc => ?_, fun j hj => ?_, fun a b hab => ?_, ?_, am_u_x, ?_, fun h => ?_, fun _ => ?_⟩
      · rw [e2, q120_28, sem111, in_az hb, k1]
        simp only [ob_s, tl_s, decide_true, bz_t, q120_32, i10, if_false, q120_33]
        exact h1
      · rw [am_u_n _ _ _ hc, am_u_n _ _ _ hc, xc c hc]
      · rw [am_u_j (by omega), am_u_j (by omega), xj j hj]
      · rcases hab with h | h
        · exact am_u_k h
        · exact am_u_j h
      · rw [am_u_j (by decide), am_u_j (by decide), x13, hSS]
      · rw [am_u_j (by decide), am_u_x, eK]
        rfl
      · rw [eK] at h
        cases h
      · have := Wi_end wx h2 (hE.2.2 c)
        rw [am_u_x, ← hSS]
        exact this
    have ek1 : decide (kd (x.2 S) = 1) = false := decide_eq_false k1
    have e3 : am_sem 120 0 [.ref 54, d] [] (am_T L, I, J) = am_sem 120 75 [.ref 54, .int (nI (x.2 S))] [] (am_T L, X, J) := by
      rw [e2, q120_28, sem111, in_az hb, ek1]
      simp only [ob_s, tl_s, bz_f, q120_32, if_true]
    by_cases k2 : kd (x.2 S) = 2
    · have hd := kd_2 k2
      have eE : lxE x p = rnn x 2 (x.1 - S) S := by
        unfold lxE
        rw [← hSS, if_pos c, eT, k2, if_pos (Or.inr rfl), hsx, rnn, if_pos ⟨c, k2⟩]
      obtain ⟨v', h1, h2⟩ := sem120n L X J wx xX (nI (x.2 S)) (S := S) x13 k2 (x.1 - S) S 0 (by omega) (Nat.le_refl _) ⟨fun _ => rfl, fun h => by omega, fun h => by omega⟩
      rw [← eE] at h1 h2
      obtain ⟨E, hEE⟩ : ∃ E, E = lxE x p := ⟨_, rfl⟩
      rw [← hEE] at hE h1 h2
      have hE1 := hE.2.2 c
      have e0 : am_u (am_u X 54 15 0) 54 12 (nI S) = am_u X 54 15 0 := by
        funext a b
        unfold am_u
        by_cases h : a = 54
        · by_cases h2 : b = 12
          · subst h
            subst h2
            simp [x12]
          · simp [h2]
        · simp [h]
      rw [e0] at h1
      have e4 : am_sem 120 0 [.ref 54, d] [] (am_T L, I, J) = am_sem 120 142 [.ref 54, .int (nI (x.2 S))] [.int (if lxG x p = true then 2 else 4), .ref 54] (am_T L, am_u (am_u X 54 15 v') 54 12 (nI E), J) := by
        rw [e3, q120_75, sem111, in_09 hb, k2]
        simp only [ob_s, tl_s, decide_true, bz_t, q120_79, i10, if_false, q120_80]
        rw [h1, q120_121, am_u_x, am_u_j (by decide), am_u_j (by decide), x13, pk_sub (show S ≤ E by omega)]
        have e3 : (3 : Int32) ≤ nI (E - S) ↔ 3 ≤ E - S := by rw [show (3 : Int32) = nI 3 from rfl, n_le (by decide) (by omega)]
        have eg : lxG x p = (decide (E = S + 1) || (decide (E = S + 2) && !decide (x.2 S = 48))) := by
          unfold lxG
          rw [← hSS, ← hEE]
        simp only [e3, q120_129, q120_132, am_u_x, am_u_j (show 13 ≠ 12 by decide), am_u_j (show 13 ≠ 15 by decide), x13, pk_sub (show S ≤ E by omega), q120_139, q120_141, show (48 : Int32) = nI 48 from rfl, n_inj (show x.2 S < 2 ^ 31 by omega) (show 48 < 2 ^ 31 by decide), n_eqc (x := 1) (c := 1) rfl (show E - S < 2 ^ 31 by omega) (by decide), eg]
        by_cases a1 : E - S = 1
        · have z1 : E = S + 1 := by omega
          rw [if_neg (by omega)]
          by_cases a2 : x.2 S = 48
          · simp [z1, a2]
          · simp [z1, a2]
        · by_cases a3 : E - S = 2
          · have z1 : ¬ E = S + 1 := by omega
            have z2 : E = S + 2 := by omega
            rw [if_neg (by omega)]
            by_cases a2 : x.2 S = 48
            · simp [z2, a2]
            · simp [z2, a2]
          · have z1 : ¬ E = S + 1 := by omega
            have z2 : ¬ E = S + 2 := by omega
            rw [if_pos (by omega)]
            simp [z1, z2]
      refine ⟨am_u (am_u (am_u X 54 15 v') 54 12 (nI E)) 54 14 (if lxG x p = true then 2 else 4), J, ?_, fun c hc => ?_, fun j hj => ?_, fun a b hab => rfl, ?_, ?_, ?_, fun h => ?_, fun h => ?_⟩
      · rw [e4, q120_142, q120_158]
      · rw [am_u_n _ _ _ hc, am_u_n _ _ _ hc, am_u_n _ _ _ hc, xc c hc]
      · rw [am_u_j (by omega), am_u_j (by omega), am_u_j (by omega), xj j hj]
      · rw [am_u_j (by decide), am_u_j (by decide), am_u_j (by decide), x13, hSS]
      · rw [am_u_j (by decide), am_u_x, hEE]
      · rw [am_u_x]
        unfold lxK
        rw [eT, k2]
        cases lxG x p <;> rfl
      · have hg : lxG x p = true := by
          unfold lxK at h
          rw [eT, k2] at h
          cases hg : lxG x p
          · rw [hg] at h
            cases h
          · rfl
        unfold lxG at hg
        rw [← hSS, ← hEE] at hg
        simp at hg
        rw [am_u_j (by decide), am_u_j (by decide), am_u_x]
        unfold lxV
        rw [← hSS, ← hEE]
        by_cases a1 : E = S + 1
        · rw [if_pos a1, h2.2.1 a1]
        · rw [if_neg a1, h2.2.2 (by omega)]
      · unfold lxK at h
        rw [eT, k2] at h
        cases hg : lxG x p
        · rw [hg] at h
          cases h
        · rw [hg] at h
          cases h
    · have ek2 : decide (kd (x.2 S) = 2) = false := decide_eq_false k2
      have eE : lxE x p = S + 1 := by
        unfold lxE
        rw [← hSS, if_pos c, eT, if_neg (by omega)]
      have eK : lxK x p = kd (x.2 S) := by
        unfold lxK
        rw [eT, if_neg (fun h => k2 h.1)]
      have hk34 : kd (x.2 S) = if x.2 S = 59 then 3 else 4 := by
        rw [kd_1] at k1
        rw [kd_2i] at k2
        unfold kd
        rw [if_neg k1, if_neg k2]
      have n59 : nI (x.2 S) = 59 ↔ x.2 S = 59 := by rw [show (59 : Int32) = nI 59 from rfl, n_inj (by omega) (by decide)]
      refine ⟨am_u (am_u X 54 14 (nI (lxK x p))) 54 12 (nI (S + 1)), J, ?_, fun c hc => ?_, fun j hj => ?_, fun a b hab => rfl, ?_, ?_, ?_, fun h => ?_, fun h => ?_⟩
      · rw [e3, q120_75, sem111, in_09 hb, ek2]
        simp only [ob_s, tl_s, bz_f, q120_79, if_true, q120_144, n59]
        rw [eK, hk34]
        by_cases c9 : x.2 S = 59
        · rw [if_pos c9, if_pos c9, q120_148, q120_151, x12, nI_1, q120_158]
          rfl
        · rw [if_neg c9, if_neg c9, q120_150, q120_151, x12, nI_1, q120_158]
          rfl
      · rw [am_u_n _ _ _ hc, am_u_n _ _ _ hc, xc c hc]
      · rw [am_u_j (by omega), am_u_j (by omega), xj j hj]
      · rw [am_u_j (by decide), am_u_j (by decide), x13, hSS]
      · rw [am_u_x, eE]
      · rw [am_u_j (by decide), am_u_x]
      · exact absurd (eK.symm.trans h) k2
      · exact absurd (eK.symm.trans h) k1
  · have eE : lxE x p = S := by
      unfold lxE
      rw [← hSS, if_neg c]
    have eK : lxK x p = 0 := by
      rw [lxK_0, ← hSS]
      exact c
    rw [if_neg c] at e1
    refine ⟨am_u X 54 14 0, J, ?_, fun c hc => ?_, fun j hj => ?_, fun a b hab => rfl, ?_, ?_, ?_, fun h => ?_, fun h => ?_⟩
    · rw [e1]
      simp only [ob_s, tl_s, q120_21]
      rw [if_neg (by decide), q120_24, q120_158]
    · rw [am_u_n _ _ _ hc, xc c hc]
    · rw [am_u_j (by omega), xj j hj]
    · rw [am_u_j (by decide), x13, hSS]
    · rw [am_u_j (by decide), x12, eE]
    · rw [am_u_x, eK]
      rfl
    · rw [eK] at h
      cases h
    · rw [eK] at h
      cases h
end OPS
