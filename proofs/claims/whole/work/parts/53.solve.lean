/-! ===== the class' table of sets ===== -/
def lI (n : Nat) : Int64 := Int64.ofNat n
theorem lI_add (a b : Nat) : lI a + lI b = lI (a + b) := (Int64.ofNat_add a b).symm
theorem lI_or (a b : Nat) : lI a ||| lI b = lI (a ||| b) := by
  apply Int64.toBitVec_inj.mp
  apply BitVec.eq_of_getLsbD_eq
  intro j hj
  simp only [lI, Int64.toBitVec_or, Int64.toBitVec_ofNat, BitVec.getLsbD_or, BitVec.getLsbD_ofNat, Nat.testBit_or]
  by_cases h : j < 64 <;> simp [h]
theorem lI_sh : ∀ k, k < 48 → (1 : Int64) <<< ((nI k).toInt64 &&& 63) = lI (2 ^ k) := by decide +kernel
theorem lI_am : ∀ k, k < 48 → ((nI k).toInt64 &&& 63).toBitVec.smod 64 = BitVec.ofNat 64 k := by decide +kernel
theorem l_and1 (y : Int64) : (y &&& 1 = 0) ↔ y.toBitVec.getLsbD 0 = false := by
  constructor
  · intro h
    have := congrArg (fun z : Int64 => z.toBitVec.getLsbD 0) h
    simp only [Int64.toBitVec_and, BitVec.getLsbD_and] at this
    rw [show (1 : Int64).toBitVec.getLsbD 0 = true from by decide, Bool.and_true] at this
    rw [this]
    decide
  · intro h
    apply Int64.toBitVec_inj.mp
    apply BitVec.eq_of_getLsbD_eq
    intro j hj
    rw [Int64.toBitVec_and, BitVec.getLsbD_and]
    by_cases c : j = 0
    · subst c
      rw [h]
      decide
    · have : (1 : Int64).toBitVec.getLsbD j = false := by
        have : ∀ j, j < 64 → j ≠ 0 → (1 : Int64).toBitVec.getLsbD j = false := by decide +kernel
        exact this j hj c
      rw [this, Bool.and_false]
      have : ∀ j, j < 64 → (0 : Int64).toBitVec.getLsbD j = false := by decide +kernel
      rw [this j hj]
theorem lI_bit {B j : Nat} (hj : j < 48) : (lg_cmp ((lI B >>> ((nI j).toInt64 &&& 63)) &&& 1) 0 = 0) ↔ B.testBit j = false := by
  rw [lg_cmp_eq, l_and1, Int64.toBitVec_shiftRight, lI_am j hj]
  have e : (BitVec.ofNat 64 j).toNat = j := by
    rw [BitVec.toNat_ofNat]
    exact Nat.mod_eq_of_lt (by omega)
  rw [BitVec.sshiftRight_eq', BitVec.getLsbD_sshiftRight, e]
  simp only [lI, Int64.toBitVec_ofNat, BitVec.getLsbD_ofNat, Nat.add_zero, show j < 64 from by omega, decide_true, Bool.true_and, if_true]
  simp
  rw [BitVec.getLsbD_ofNat, decide_eq_true (show j < 64 by omega), Bool.true_and]
theorem dif_le (w c : Nat) : dif w c ≤ w := by
  have : dif w c &&& w = dif w c := by
    apply Nat.eq_of_testBit_eq
    intro i
    rw [Nat.testBit_and, dif_bit]
    cases w.testBit i <;> cases c.testBit i <;> rfl
  rw [← this]
  exact Nat.and_le_right
theorem bs_dif {a b : Nat} (ha : a < 2 ^ 31) (hb : b < 2 ^ 31) : nI a &&& (nI b ^^^ (-1)) = nI (dif a b) := by
  have hd := dif_lt b ha
  apply Int32.toBitVec_inj.mp
  apply BitVec.eq_of_getLsbD_eq
  intro j hj
  rw [Int32.toBitVec_and, Int32.toBitVec_xor, BitVec.getLsbD_and, BitVec.getLsbD_xor, show ((-1 : Int32)).toBitVec = BitVec.allOnes 32 from by decide, BitVec.getLsbD_allOnes, ← BitVec.testBit_toNat, ← BitVec.testBit_toNat, ← BitVec.testBit_toNat, pk_tn (by omega), pk_tn (by omega), pk_tn (by omega), decide_eq_true hj, Bool.xor_true, dif_bit]
def tS (ok : Nat → Bool) (cov : Nat → Nat) (n k g : Nat) (I : Nat → Nat → Int32) (J : Nat → Nat → Int64) : Prop := ∀ w, w < 2 ^ g → I 51 w = nI (Fq ok cov n k w) ∧ J 52 w = lI (Wq ok cov n k w) ∧ J 53 w = lI (Bq ok cov n k w)
section OPS
variable (L : Nat) (I : Nat → Nat → Int32) (J : Nat → Nat → Int64)
theorem pow_g {g : Nat} (hg : g ≤ 8) : 2 ^ g ≤ 256 := Nat.le_trans (Nat.pow_le_pow_right (by decide) hg) (by decide)
theorem Cq_z (ok : Nat → Bool) (cov : Nat → Nat) (n : Nat) (F : Nat → Nat) (j : Nat) : Cq ok cov n F j 0 = false := by
  unfold Cq
  rw [dif_0]
  simp
/-- letIn: from v down; above v it is done -/
theorem sem17l {ok : Nat → Bool} {cov : Nat → Nat} {n k g : Nat} (hn : n ≤ 48) (hg : g ≤ 8) (hk : k + 1 ≤ n) (hok : ok (n - (k + 1)) = true) (hc : cov (n - (k + 1)) < 256) : ∀ v (I : Nat → Nat → Int32) (J : Nat → Nat → Int64) (d4 d5 : Value), v < 2 ^ g → (∀ w, w < 2 ^ g → I 51 w = nI (Fq ok cov n (if v < w then k + 1 else k) w) ∧ J 52 w = lI (Wq ok cov n (if v < w then k + 1 else k) w) ∧ J 53 w = lI (Bq ok cov n (if v < w then k + 1 else k) w)) → ∃ I' J', am_sem 17 10 [.ref 48, .int (nI (n - (k + 1))), .int (nI (cov (n - (k + 1)))), .int (nI v), d4, d5] [] (am_T L, I, J) = some (none, (am_T L, I', J')) ∧ (∀ c, c ≠ 51 → I' c = I c) ∧ (∀ c, c ≠ 52 → c ≠ 53 → J' c = J c) ∧ tS ok cov n (k + 1) g I' J'
  | 0, I, J, d4, d5, hv, h => by
    refine ⟨I, J, ?_, fun _ _ => rfl, fun _ _ _ => rfl, fun w hw => ?_⟩
    · rw [q17_10, if_pos (by decide), q17_74]
    · have := h w hw
      by_cases c : 0 < w
      · rw [if_pos c] at this
        exact this
      · have : w = 0 := by omega
        subst this
        have h := h 0 hw
        rw [if_neg (Nat.lt_irrefl 0)] at h
        rw [Fq, Wq, Bq, if_neg (by rw [Cq_z]; decide), if_neg (by rw [Cq_z]; decide), if_neg (by rw [Cq_z]; decide)]
        exact h
  | v + 1, I, J, d4, d5, hv, h => by
    have h256 := pow_g hg
    have hr := dif_le (v + 1) (cov (n - (k + 1)))
    obtain ⟨r, hrr⟩ : ∃ r, r = dif (v + 1) (cov (n - (k + 1))) := ⟨_, rfl⟩
    rw [← hrr] at hr
    have hv0 := h (v + 1) hv
    have hr0 := h r (by omega)
    rw [if_neg (Nat.lt_irrefl _)] at hv0
    rw [if_neg (by omega)] at hr0
    have f1 := Fq_99 ok cov n k (v + 1)
    have f2 := Fq_99 ok cov n k r
    have vr : vp_in (nI r) 256 := n_in (by omega) (by decide)
    have vv : vp_in (nI (v + 1)) 256 := n_in (by omega) (by decide)
    have e12 : am_sem 17 10 [.ref 48, .int (nI (n - (k + 1))), .int (nI (cov (n - (k + 1)))), .int (nI (v + 1)), d4, d5] [] (am_T L, I, J) = if Fq ok cov n k (v + 1) < Fq ok cov n k r + 1 then am_sem 17 72 [.ref 48, .int (nI (n - (k + 1))), .int (nI (cov (n - (k + 1)))), .int (nI (v + 1)), .int (nI r), .int (nI (Fq ok cov n k r + 1))] [] (am_T L, I, J) else am_sem 17 31 [.ref 48, .int (nI (n - (k + 1))), .int (nI (cov (n - (k + 1)))), .int (nI (v + 1)), .int (nI r), .int (nI (Fq ok cov n k r + 1))] [] (am_T L, I, J) := by
      rw [q17_10, if_neg (by rw [show (0 : Int32) = nI 0 from rfl, n_le (by omega) (by decide)]; omega), q17_12, bs_dif (by omega) (by omega), ← hrr, am_if_t ⟨vr, vv⟩, nc (show v + 1 < 2 ^ 31 by omega), nc (show r < 2 ^ 31 by omega), hv0.1, hr0.1, nI_1]
      simp only [n_lt (show Fq ok cov n k (v + 1) < 2 ^ 31 by omega) (show Fq ok cov n k r + 1 < 2 ^ 31 by omega)]
    have e72 : ∀ I J, am_sem 17 72 [.ref 48, .int (nI (n - (k + 1))), .int (nI (cov (n - (k + 1)))), .int (nI (v + 1)), .int (nI r), .int (nI (Fq ok cov n k r + 1))] [] (am_T L, I, J) = am_sem 17 10 [.ref 48, .int (nI (n - (k + 1))), .int (nI (cov (n - (k + 1)))), .int (nI v), .int (nI r), .int (nI (Fq ok cov n k r + 1))] [] (am_T L, I, J) := fun I J => by
      rw [q17_72, pm1]
    by_cases c : Fq ok cov n k (v + 1) < Fq ok cov n k r + 1
    · have hC : ¬ Cq ok cov n (Fq ok cov n k) (n - (k + 1)) (v + 1) = true := by
        unfold Cq
        rw [← hrr]
        simp
        omega
      obtain ⟨I', J', e, g1, g2, g3⟩ := sem17l hn hg hk hok hc v I J (.int (nI r)) (.int (nI (Fq ok cov n k r + 1))) (by omega) (fun w hw => by
        have := h w hw
        by_cases q : w = v + 1
        · subst q
          rw [if_pos (by omega), Fq, Wq, Bq, if_neg hC, if_neg hC, if_neg hC]
          exact hv0
        · by_cases q2 : v + 1 < w
          · rw [if_pos q2] at this
            rw [if_pos (by omega)]
            exact this
          · rw [if_neg q2] at this
            rw [if_neg (by omega)]
            exact this)
      refine ⟨I', J', ?_, g1, g2, g3⟩
      rw [e12, if_pos c, e72, e]
    · have hC : Cq ok cov n (Fq ok cov n k) (n - (k + 1)) (v + 1) = true := by
        unfold Cq
        rw [← hrr]
        simp [hok]
        omega
      have e31 : ∃ s : Int64, am_sem 17 31 [.ref 48, .int (nI (n - (k + 1))), .int (nI (cov (n - (k + 1)))), .int (nI (v + 1)), .int (nI r), .int (nI (Fq ok cov n k r + 1))] [] (am_T L, I, J) = am_sem 17 54 [.ref 48, .int (nI (n - (k + 1))), .int (nI (cov (n - (k + 1)))), .int (nI (v + 1)), .int (nI r), .int (nI (Fq ok cov n k r + 1))] [.long s, .int (nI (v + 1)), .ref 52] (am_T L, I, J) ∧ s = lI (Wq ok cov n (k + 1) (v + 1)) := by
        rw [q17_31, am_if_t vv, nc (show v + 1 < 2 ^ 31 by omega), hv0.1]
        simp only [n_le (show Fq ok cov n k (v + 1) < 2 ^ 31 by omega) (show Fq ok cov n k r + 1 < 2 ^ 31 by omega)]
        rw [Wq, if_pos hC, ← hrr]
        by_cases q : Fq ok cov n k (v + 1) ≤ Fq ok cov n k r + 1
        · rw [if_pos q, if_neg (by omega), q17_45, am_if_t ⟨vv, vr⟩, nc (show v + 1 < 2 ^ 31 by omega), nc (show r < 2 ^ 31 by omega), hv0.2.1, hr0.2.1, lI_add]
          exact ⟨_, rfl, rfl⟩
        · rw [if_neg q, if_pos (by omega), q17_40, am_if_t vr, nc (show r < 2 ^ 31 by omega), hr0.2.1]
          exact ⟨_, rfl, rfl⟩
      obtain ⟨s, e31, hs⟩ := e31
      have hj : n - (k + 1) < 48 := by omega
      obtain ⟨I', J', e, g1, g2, g3⟩ := sem17l hn hg hk hok hc v (am_u I 51 (v + 1) (nI (Fq ok cov n k r + 1))) (am_u (am_u J 52 (v + 1) s) 53 (v + 1) (lI (Bq ok cov n (k + 1) (v + 1)))) (.int (nI r)) (.int (nI (Fq ok cov n k r + 1))) (by omega) (fun w hw => by
        have := h w hw
        by_cases q : w = v + 1
        · subst q
          rw [if_pos (by omega), am_u_x, am_u_k (by decide), am_u_x, am_u_x, Fq, if_pos hC, ← hrr]
          exact ⟨rfl, hs, rfl⟩
        · rw [am_u_j q, am_u_k (by decide), am_u_j q, am_u_j q, am_u_k (by decide)]
          by_cases q2 : v + 1 < w
          · rw [if_pos q2] at this
            rw [if_pos (by omega)]
            exact this
          · rw [if_neg q2] at this
            rw [if_neg (by omega)]
            exact this)
      refine ⟨I', J', ?_, fun c hc => ?_, fun c hc hc2 => ?_, g3⟩
      · rw [e12, if_neg c, e31, q17_54, am_if_t ⟨vv, vr, vv, vv⟩, nc (show v + 1 < 2 ^ 31 by omega), nc (show r < 2 ^ 31 by omega), hr0.2.2, lI_sh _ hj, lI_or, e72]
        rw [Bq, if_pos hC, ← hrr] at e
        exact e
      · rw [g1 c hc, am_u_n _ _ _ hc]
      · rw [g2 c hc hc2, am_u_n _ _ _ hc2, am_u_n _ _ _ hc]
theorem sem178 {g : Nat} (hg : g ≤ 8) : am_sem 178 0 [.int (nI (2 ^ g - 1)), .int 255] [] (am_T L, I, J) = some (some (.int (nI (2 ^ g - 1))), (am_T L, I, J)) := by
  have := pow_g hg
  simp only [q178_0, q178_5, q178_3, q178_6, show (255 : Int32) = nI 255 from rfl, n_lt (show 255 < 2 ^ 31 by decide) (show 2 ^ g - 1 < 2 ^ 31 by omega)]
  rw [if_neg (by omega)]
theorem sem17 {ok : Nat → Bool} {num cov : Nat → Nat} {n k g : Nat} (hn : n ≤ 48) (hg : g ≤ 8) (hk : k + 1 ≤ n) (hok : ok (n - (k + 1)) = true) (h : kS n num cov g I) (ht : tS ok cov n k g I J) (d2 d3 d4 d5 : Value) : ∃ I' J', am_sem 17 0 [.ref 48, .int (nI (n - (k + 1))), d2, d3, d4, d5] [] (am_T L, I, J) = some (none, (am_T L, I', J')) ∧ (∀ c, c ≠ 51 → I' c = I c) ∧ (∀ c, c ≠ 52 → c ≠ 53 → J' c = J c) ∧ tS ok cov n (k + 1) g I' J' := by
  have h256 := pow_g hg
  have hpos : 0 < 2 ^ g := Nat.two_pow_pos g
  have hj : n - (k + 1) < n := by omega
  obtain ⟨I', J', e, r⟩ := sem17l L hn hg hk hok (h.2.2.2.2.2 _ hj) (2 ^ g - 1) I J d4 d5 (by omega) (fun w hw => by
    rw [if_neg (by omega)]
    exact ht w hw)
  refine ⟨I', J', ?_, r⟩
  rw [q17_0, at_n L I J (a := 50) (n := 48) rfl (by decide) (show n - (k + 1) < 48 by omega), h.2.2.2.1 _ hj]
  simp only [ob_s, tl_s, q17_4, h.2.1, sem178 L I J hg, q17_9]
  exact e
theorem tS_c {ok : Nat → Bool} {cov : Nat → Nat} {n k g : Nat} (hk : k + 1 ≤ n) (hok : ok (n - (k + 1)) = false) {I : Nat → Nat → Int32} {J : Nat → Nat → Int64} (h : tS ok cov n k g I J) : tS ok cov n (k + 1) g I J := fun w hw => by
  have hC : ¬ Cq ok cov n (Fq ok cov n k) (n - (k + 1)) w = true := by simp [Cq, hok]
  rw [Fq, Wq, Bq, if_neg hC, if_neg hC, if_neg hC]
  exact h w hw
theorem kS_of {n : Nat} {num cov : Nat → Nat} {g : Nat} {I I' : Nat → Nat → Int32} (h : kS n num cov g I) (e8 : I' 48 = I 48) (e9 : I' 49 = I 49) (e0 : I' 50 = I 50) : kS n num cov g I' := by
  unfold kS
  rw [e8, e9, e0]
  exact h
/-- solve, the deeds one by one -/
theorem sem16l {ok : Nat → Bool} {num cov : Nat → Nat} {n g : Nat} (hn : n ≤ 48) (hg : g ≤ 8) (a1 a2 : Int32) (hok : ∀ k, k < n → (ok k = false ↔ nI (num k / 10000) = a1 ∨ nI (num k) = a2)) : ∀ m (I : Nat → Nat → Int32) (J : Nat → Nat → Int64) (d4 : Value), m ≤ n → kS n num cov g I → tS ok cov n (n - m) g I J → ∃ I' J', am_sem 16 39 [.ref 48, .int a1, .int a2, .int (nI m - 1), d4] [] (am_T L, I, J) = some (none, (am_T L, I', J')) ∧ (∀ c, c ≠ 51 → I' c = I c) ∧ (∀ c, c ≠ 52 → c ≠ 53 → J' c = J c) ∧ tS ok cov n n g I' J'
  | 0, I, J, d4, hm, h, ht => by
    refine ⟨I, J, ?_, fun _ _ => rfl, fun _ _ _ => rfl, ht⟩
    rw [q16_39, if_pos (by decide), q16_59]
  | m + 1, I, J, d4, hm, h, ht => by
    have hnum := h.2.2.2.2.1 m (by omega)
    have ek : n - (n - (m + 1) + 1) = m := by omega
    have e0 : am_sem 16 39 [.ref 48, .int a1, .int a2, .int (nI (m + 1) - 1), d4] [] (am_T L, I, J) = if nI (num m / 10000) = a1 then am_sem 16 57 [.ref 48, .int a1, .int a2, .int (nI m), .int (nI (num m))] [] (am_T L, I, J) else am_sem 16 51 [.ref 48, .int a1, .int a2, .int (nI m), .int (nI (num m))] [] (am_T L, I, J) := by
      rw [nI_pred, q16_39, if_neg (nI_pos (by omega)), q16_41, at_n L I J (a := 49) (n := 48) rfl (by decide) (show m < 48 by omega), h.2.2.1 m (by omega)]
      simp only [ob_s, tl_s, q16_45]
      rw [show (10000 : Int32) = nI 10000 from rfl, pk_div (by omega) (by decide) (by decide)]
    have e57 : ∀ I J, am_sem 16 57 [.ref 48, .int a1, .int a2, .int (nI m), .int (nI (num m))] [] (am_T L, I, J) = am_sem 16 39 [.ref 48, .int a1, .int a2, .int (nI m - 1), .int (nI (num m))] [] (am_T L, I, J) := fun I J => by
      rw [q16_57, show nI m + (-1) = nI m - 1 from (Int32.sub_eq_add_neg _ _).symm ▸ rfl]
    have hkm : n - (m + 1) + 1 = n - m := by omega
    have h1 := hok m (by omega)
    cases hb : ok m
    · have ht2 : tS ok cov n (n - m) g I J := by
        rw [← hkm]
        exact tS_c (by omega) (by rw [ek]; exact hb) ht
      obtain ⟨I', J', e, r⟩ := sem16l hn hg a1 a2 hok m I J (.int (nI (num m))) (by omega) h ht2
      refine ⟨I', J', ?_, r⟩
      rw [e0]
      by_cases c : nI (num m / 10000) = a1
      · rw [if_pos c, e57, e]
      · rw [if_neg c, q16_51, if_pos ((h1.mp hb).resolve_left c), e57, e]
    · have hno : ¬ (nI (num m / 10000) = a1 ∨ nI (num m) = a2) := fun q => by
        have := h1.mpr q
        rw [hb] at this
        cases this
      obtain ⟨I1, J1, e1, f1, f2, t1⟩ := sem17 L I J hn hg (k := n - (m + 1)) (by omega) (by rw [ek]; exact hb) h ht .null .null .null .null
      rw [ek] at e1
      rw [hkm] at t1
      obtain ⟨I', J', e, g1, g2, g3⟩ := sem16l hn hg a1 a2 hok m I1 J1 (.int (nI (num m))) (by omega) (kS_of h (f1 48 (by decide)) (f1 49 (by decide)) (f1 50 (by decide))) t1
      refine ⟨I', J', ?_, fun c hc => (g1 c hc).trans (f1 c hc), fun c h1 h2 => (g2 c h1 h2).trans (f2 c h1 h2), g3⟩
      rw [e0, if_neg (fun q => hno (Or.inl q)), q16_51, if_neg (fun q => hno (Or.inr q)), q16_54, e1]
      simp only [ob_s, tl_n]
      rw [e57, e]
theorem sem16i {ok : Nat → Bool} {num cov : Nat → Nat} {n g : Nat} (hn : n ≤ 48) (hg : g ≤ 8) (a1 a2 : Int32) : ∀ m v (I : Nat → Nat → Int32) (J : Nat → Nat → Int64) (d4 : Value), v + m = 2 ^ g → kS n num cov g I → (∀ w, w < v → I 51 w = nI (Fq ok cov n 0 w) ∧ J 52 w = lI (Wq ok cov n 0 w) ∧ J 53 w = lI (Bq ok cov n 0 w)) → ∃ I' J', am_sem 16 2 [.ref 48, .int a1, .int a2, .int (nI v), d4] [] (am_T L, I, J) = am_sem 16 34 [.ref 48, .int a1, .int a2, .int (nI (2 ^ g)), d4] [] (am_T L, I', J') ∧ (∀ c, c ≠ 51 → I' c = I c) ∧ (∀ c, c ≠ 52 → c ≠ 53 → J' c = J c) ∧ tS ok cov n 0 g I' J'
  | 0, v, I, J, d4, hv, h, ht => by
    have h256 := pow_g hg
    have hpos : 0 < 2 ^ g := Nat.two_pow_pos g
    refine ⟨I, J, ?_, fun _ _ => rfl, fun _ _ _ => rfl, fun w hw => ht w (by omega)⟩
    rw [q16_2, h.2.1, if_pos (by rw [n_lt (by omega) (by omega)]; omega), show v = 2 ^ g by omega]
  | m + 1, v, I, J, d4, hv, h, ht => by
    have h256 := pow_g hg
    have vv : vp_in (nI v) 256 := n_in (by omega) (by decide)
    obtain ⟨I', J', e, g1, g2, g3⟩ := sem16i hn hg a1 a2 m (v + 1) (am_u I 51 v (nI (Fq ok cov n 0 v))) (am_u (am_u J 52 v (lI (Wq ok cov n 0 v))) 53 v 0) d4 (by omega) (kS_of h (am_u_n _ _ _ (by decide)) (am_u_n _ _ _ (by decide)) (am_u_n _ _ _ (by decide))) (fun w hw => by
      by_cases q : w = v
      · subst q
        rw [am_u_x, am_u_k (by decide), am_u_x, am_u_x]
        exact ⟨rfl, rfl, rfl⟩
      · rw [am_u_j q, am_u_k (by decide), am_u_j q, am_u_j q, am_u_k (by decide)]
        exact ht w (by omega))
    refine ⟨I', J', ?_, fun c hc => (g1 c hc).trans (am_u_n _ _ _ hc), fun c h1 h2 => (g2 c h1 h2).trans (by rw [am_u_n _ _ _ h2, am_u_n _ _ _ h1]), g3⟩
    rw [q16_2, h.2.1, if_neg (by rw [n_lt (by omega) (by omega)]; omega), q16_6, if_neg (by rw [show (256 : Int32) = nI 256 from rfl, n_le (by decide) (by omega)]; omega), q16_9]
    simp only [n_eqc (x := 0) (c := 0) rfl (show v < 2 ^ 31 by omega) (by decide), q16_14, q16_16, q16_17, nc (show v < 2 ^ 31 by omega), am_if_t vv, q16_23, q16_25, q16_26, am_if_t (And.intro vv vv), nI_1]
    rw [← e, Fq, Wq]
    by_cases q : v = 0
    · rw [if_pos q, if_pos q, if_pos q, if_pos q]
      rfl
    · rw [if_neg q, if_neg q, if_neg q, if_neg q]
      rfl
theorem sem16 {ok : Nat → Bool} {num cov : Nat → Nat} {n g : Nat} (hn : n ≤ 48) (hg : g ≤ 8) (a1 a2 : Int32) (hok : ∀ k, k < n → (ok k = false ↔ nI (num k / 10000) = a1 ∨ nI (num k) = a2)) (h : kS n num cov g I) (d3 d4 : Value) : ∃ I' J', am_sem 16 0 [.ref 48, .int a1, .int a2, d3, d4] [] (am_T L, I, J) = some (none, (am_T L, I', J')) ∧ (∀ c, c ≠ 51 → I' c = I c) ∧ (∀ c, c ≠ 52 → c ≠ 53 → J' c = J c) ∧ tS ok cov n n g I' J' := by
  obtain ⟨I1, J1, e1, f1, f2, t1⟩ := sem16i (ok := ok) L hn hg a1 a2 (2 ^ g) 0 I J d4 (by omega) h (fun w hw => absurd hw (Nat.not_lt_zero _))
  have h1 : kS n num cov g I1 := kS_of h (f1 48 (by decide)) (f1 49 (by decide)) (f1 50 (by decide))
  obtain ⟨I2, J2, e2, g1, g2, t2⟩ := sem16l L hn hg a1 a2 hok n I1 J1 d4 (Nat.le_refl _) h1 (by rw [Nat.sub_self]; exact t1)
  refine ⟨I2, J2, ?_, fun c hc => (g1 c hc).trans (f1 c hc), fun c k1 k2 => (g2 c k1 k2).trans (f2 c k1 k2), t2⟩
  have e1 : am_sem 16 2 [.ref 48, .int a1, .int a2, .int 0, d4] [] (am_T L, I, J) = _ := e1
  rw [q16_0, e1, q16_34, h1.1, e2]
theorem sem18 {n : Nat} {num cov : Nat → Nat} {g : Nat} (hg : g ≤ 8) (h : kS n num cov g I) : am_sem 18 0 [.ref 48] [] (am_T L, I, J) = some (some (.int (nI (2 ^ g - 1))), (am_T L, I, J)) := by
  have h256 := pow_g hg
  simp only [q18_0, h.2.1, sem178 L I J hg, ob_s, tl_s, q18_5, q177_0, q177_5, q177_3, q177_6]
  rw [show (0 : Int32) = nI 0 from rfl]
  simp only [n_lt (show 0 < 2 ^ 31 by decide) (show 2 ^ g - 1 < 2 ^ 31 by omega)]
  by_cases c : 0 < 2 ^ g - 1
  · rw [if_pos c]
    simp only [ob_s, tl_s, q18_6]
  · rw [if_neg c, show 2 ^ g - 1 = 0 by omega]
    simp only [ob_s, tl_s, q18_6]
theorem sem20 {ok : Nat → Bool} {n : Nat} {num cov : Nat → Nat} {g : Nat} (hg : g ≤ 8) (h : kS n num cov g I) (ht : tS ok cov n n g I J) : am_sem 20 0 [.ref 48] [] (am_T L, I, J) = some (some (.int (nI (Fq ok cov n n (2 ^ g - 1)))), (am_T L, I, J)) := by
  have h256 := pow_g hg
  have hpos : 0 < 2 ^ g := Nat.two_pow_pos g
  rw [q20_0, sem18 L I J hg h]
  simp only [ob_s, tl_s, q20_4]
  rw [am_if_t (n_in (show 2 ^ g - 1 < 256 by omega) (by decide)), nc (show 2 ^ g - 1 < 2 ^ 31 by omega), (ht _ (by omega)).1]
theorem sem21 {ok : Nat → Bool} {n : Nat} {num cov : Nat → Nat} {g : Nat} (hg : g ≤ 8) (h : kS n num cov g I) (ht : tS ok cov n n g I J) : am_sem 21 0 [.ref 48] [] (am_T L, I, J) = some (some (.long (lI (Wq ok cov n n (2 ^ g - 1)))), (am_T L, I, J)) := by
  have h256 := pow_g hg
  have hpos : 0 < 2 ^ g := Nat.two_pow_pos g
  rw [q21_0, sem18 L I J hg h]
  simp only [ob_s, tl_s, q21_4]
  rw [am_if_t (n_in (show 2 ^ g - 1 < 256 by omega) (by decide)), nc (show 2 ^ g - 1 < 2 ^ 31 by omega), (ht _ (by omega)).2.1]
theorem sem19 {ok : Nat → Bool} {n : Nat} {num cov : Nat → Nat} {g : Nat} (hg : g ≤ 8) (h : kS n num cov g I) (ht : tS ok cov n n g I J) : am_sem 19 0 [.ref 48] [] (am_T L, I, J) = some (some (.int (bz (decide (Fq ok cov n n (2 ^ g - 1) < 99)))), (am_T L, I, J)) := by
  have h256 := pow_g hg
  have hpos : 0 < 2 ^ g := Nat.two_pow_pos g
  have h99 := Fq_99 ok cov n n (2 ^ g - 1)
  rw [q19_0, sem18 L I J hg h]
  simp only [ob_s, tl_s, q19_4]
  rw [am_if_t (n_in (show 2 ^ g - 1 < 256 by omega) (by decide)), nc (show 2 ^ g - 1 < 2 ^ 31 by omega), (ht _ (by omega)).1]
  simp only [show (99 : Int32) = nI 99 from rfl, n_le (show 99 < 2 ^ 31 by decide) (show Fq ok cov n n (2 ^ g - 1) < 2 ^ 31 by omega)]
  by_cases c : Fq ok cov n n (2 ^ g - 1) < 99
  · rw [if_neg (by omega), decide_eq_true c, q19_7, q19_10, am_if_t (Or.inr rfl)]
    rfl
  · rw [if_pos (by omega), decide_eq_false c, q19_9, q19_10, am_if_t (Or.inl rfl)]
    rfl
theorem sem22l {ok : Nat → Bool} {n : Nat} {num cov : Nat → Nat} {g : Nat} (hn : n ≤ 48) (h : kS n num cov g I) (B i : Nat) (hi : i < 100) : ∀ m j s w, j + m = n → s ≤ i → (∀ b, j ≤ b → B.testBit b = (Bq ok cov n m w).testBit b) → i - s < Fq ok cov n m w → Fq ok cov n m w < 99 → am_sem 22 10 [.ref 48, .int (nI i), .long (lI B), .null, .int (nI s), .int (nI j)] [] (am_T L, I, J) = some (some (.int (nI (num (Sq ok cov n m w (i - s))))), (am_T L, I, J))
  | 0, j, s, w, hj, hs, hb, hF, h99 => by
    rw [Fq] at hF h99
    by_cases c : w = 0
    · rw [if_pos c] at hF
      omega
    · rw [if_neg c] at h99
      omega
  | m + 1, j, s, w, hj, hs, hb, hF, h99 => by
    have ej : n - (m + 1) = j := by omega
    have hbj := hb j (Nat.le_refl _)
    have hno : ∀ w, (Bq ok cov n m w).testBit j = false := fun w => by
      cases hq : (Bq ok cov n m w).testBit j
      · rfl
      · have := Bq_bit ok cov n m w j (by omega) hq
        omega
    have e22 : am_sem 22 10 [.ref 48, .int (nI i), .long (lI B), .null, .int (nI s), .int (nI j)] [] (am_T L, I, J) = if B.testBit j = false then am_sem 22 31 [.ref 48, .int (nI i), .long (lI B), .null, .int (nI s), .int (nI j)] [] (am_T L, I, J) else am_sem 22 22 [.ref 48, .int (nI i), .long (lI B), .null, .int (nI s), .int (nI j)] [] (am_T L, I, J) := by
      rw [q22_10, h.1, if_neg (by rw [n_le (by omega) (by omega)]; omega), q22_14]
      simp only [lI_bit (B := B) (show j < 48 by omega)]
    rw [e22, Sq]
    rw [Bq] at hbj hb
    rw [Fq] at hF h99
    rw [ej] at hbj hb hF h99 ⊢
    by_cases c : Cq ok cov n (Fq ok cov n m) j w = true
    · simp only [if_pos c] at hbj hb hF h99 ⊢
      rw [Nat.testBit_or, Nat.testBit_two_pow, decide_eq_true rfl, Bool.or_true] at hbj
      rw [if_neg (by rw [hbj]; decide), q22_22]
      simp only [n_inj (show s < 2 ^ 31 by omega) (show i < 2 ^ 31 by omega)]
      by_cases q : s = i
      · rw [if_pos q, if_pos (by omega), q22_25, at_n L I J (a := 49) (n := 48) rfl (by decide) (show j < 48 by omega), h.2.2.1 j (by omega)]
        simp only [ob_s, tl_s, q22_29]
      · rw [if_neg q, if_neg (by omega), q22_30, q22_31, nI_1, nI_1, show i - s - 1 = i - (s + 1) by omega]
        exact sem22l hn h B i hi m (j + 1) (s + 1) _ (by omega) (by omega) (fun b hb2 => by
          rw [hb b (by omega), Nat.testBit_or, Nat.testBit_two_pow, decide_eq_false (by omega), Bool.or_false]) (by omega) (by omega)
    · simp only [if_neg c] at hbj hb hF h99 ⊢
      rw [hno] at hbj
      rw [if_pos hbj, q22_31, nI_1]
      exact sem22l hn h B i hi m (j + 1) s w (by omega) hs (fun b hb2 => hb b (by omega)) hF h99
theorem sem22 {ok : Nat → Bool} {n : Nat} {num cov : Nat → Nat} {g : Nat} (hn : n ≤ 48) (hg : g ≤ 8) (h : kS n num cov g I) (ht : tS ok cov n n g I J) {i : Nat} (hi : i < Fq ok cov n n (2 ^ g - 1)) (h99 : Fq ok cov n n (2 ^ g - 1) < 99) (d2 d3 d4 d5 : Value) : am_sem 22 0 [.ref 48, .int (nI i), d2, d3, d4, d5] [] (am_T L, I, J) = some (some (.int (nI (num (Sq ok cov n n (2 ^ g - 1) i)))), (am_T L, I, J)) := by
  have h256 := pow_g hg
  have hpos : 0 < 2 ^ g := Nat.two_pow_pos g
  rw [q22_0, sem18 L I J hg h]
  simp only [ob_s, tl_s, q22_4]
  rw [am_if_t (n_in (show 2 ^ g - 1 < 256 by omega) (by decide)), nc (show 2 ^ g - 1 < 2 ^ 31 by omega), (ht _ (by omega)).2.2]
  exact sem22l L I J hn h _ i (by omega) n 0 0 _ (by omega) (Nat.zero_le _) (fun _ _ => rfl) hi h99
end OPS
