/-! ===== the fewest: what both know ===== -/
def allH (g : LT) : Nat := mk (fun i => decide (lH g i = 1)) (lN_ g)
theorem allH_lt {v : VT} {g : LT} (wl : wL v g) : allH g < 256 := Nat.lt_of_lt_of_le (mk_lt _ _) (Nat.pow_le_pow_right (by decide) wl.1)
theorem cw_31 {ok : Nat → Bool} {cov : Nat → Nat} {k m : Nat} (a : Nat) (hk : k ≤ 48) (hm : m ≤ 8) (c : Nat) : cw (UL ok cov a k m) c < 700000000 := Nat.lt_of_le_of_lt List.countP_le_length (UL_31 ok cov a hk hm)
theorem isD_c {v : VT} {g : LT} {q : QT} (wl : wL v g) {n : Nat} {num cM : Nat → Nat} (h : isD v g q n num cM) {k : Nat} (hk : k < n) : cM k < 256 ∧ cM k ≠ 0 ∧ dif (cM k) (allH g) = 0 := by
  obtain ⟨p, s, t, h1, h2, h3, h4, h5, h6⟩ := h.2.1 k hk
  rw [h5]
  refine ⟨mS_lt q wl p s t, h6, ?_⟩
  obtain ⟨i, -, -, -, -, -, hs⟩ := mS_ne h6
  apply Nat.eq_of_testBit_eq
  intro j
  rw [dif_bit, Nat.zero_testBit, mS_bit]
  unfold allH
  rw [mk_bit]
  by_cases c : lH g j = 1
  · rw [decide_eq_true c]
    cases decide (j < lN_ g) <;> simp
  · cases hf : fB v g (qW q p) s t j
    · simp
    · by_cases z : j < lN_ g
      · have : stl v g (qW q p) s t = true := (stl_iff _ _ _ _ _).mpr ⟨j, z, c, hf⟩
        rw [this] at hs
        cases hs
      · simp [z]
def okT : Nat → Bool := fun _ => true
/-- how many of a part of the deeds, as few as all need at the least -/
theorem RR_at {ok : Nat → Bool} {cov : Nat → Nat} {n w : Nat} (hn : n ≤ 48) (h99 : Fq okT cov n n w < 99) : RR ok cov 0 n (Fq okT cov n n w) w = if Fq ok cov n n w = Fq okT cov n n w then Wq ok cov n n w else 0 := by
  obtain ⟨a1, a2, a3⟩ := Fq_sp okT cov hn n w (Nat.le_refl _)
  obtain ⟨b1, b2, b3⟩ := Fq_sp ok cov hn n w (Nat.le_refl _)
  rw [Nat.sub_self] at a1 a2 b1 b2
  by_cases c : Fq ok cov n n w = Fq okT cov n n w
  · rw [if_pos c, ← c]
    exact (b2 (by omega)).2.1
  · rw [if_neg c]
    rcases Nat.lt_or_ge (Fq ok cov n n w) (Fq okT cov n n w) with z | z
    · obtain ⟨-, c2, c3⟩ := b2 (by omega)
      have h1 := RR_mono (ok := okT) (ok' := ok) (cov := cov) (fun _ _ => rfl) 0 n (Fq ok cov n n w) w
      have h2 := a1 _ z
      omega
    · exact b1 _ (by omega)
section OPS
variable (L : Nat) (I : Nat → Nat → Int32) (J : Nat → Nat → Int64)
theorem sem143l {U : Nat → List Nat} {all : Nat} (hall : all < 256) (hU : ∀ m c, m ≤ 8 → cw (U m) c < 700000000) : ∀ f m (I : Nat → Nat → Int32), m + f = 9 → (∀ x, x < m → cw (U x) all = 0) → I 54 27 = nI m → tW U I → ∃ r, r ≤ 9 ∧ (∀ x, x < r → cw (U x) all = 0) ∧ (r < 9 → cw (U r) all ≠ 0) ∧ am_sem 143 13 [.ref 54, .int (nI all)] [] (am_T L, I, J) = some (some (.int (bz (decide (r < 9)))), (am_T L, am_u I 54 27 (nI r), J))
  | 0, m, I, hm, h0, h27, ht => by
    have e : m = 9 := by omega
    subst e
    refine ⟨9, Nat.le_refl _, h0, fun h => absurd h (by decide), ?_⟩
    rw [q143_13, h27, if_pos (by decide), q143_34, h27, if_pos (by decide), q143_40, q143_41, am_if_t (Or.inl rfl), am_u_id h27]
    rfl
  | f + 1, m, I, hm, h0, h27, ht => by
    have hm8 : ¬ (8 : Int32) < nI m := by rw [show (8 : Int32) = nI 8 from rfl, n_lt (by decide) (by omega)]; omega
    have hix : (256 : Int32) * nI m + nI all = nI (256 * m + all) := by rw [show (256 : Int32) = nI 256 from rfl, pk_mul, nI_add]
    have hcw := hU m all (by omega)
    have e0 : am_sem 143 13 [.ref 54, .int (nI all)] [] (am_T L, I, J) = if cw (U m) all = 0 then am_sem 143 27 [.ref 54, .int (nI all)] [] (am_T L, I, J) else am_sem 143 34 [.ref 54, .int (nI all)] [] (am_T L, I, J) := by
      rw [q143_13, h27, if_neg hm8, q143_17, h27, hix, am_if_t (n_in (show 256 * m + all < 2304 by omega) (by decide)), nc (show 256 * m + all < 2 ^ 31 by omega), ht m all (by omega) hall]
      simp only [n_eqc (x := 0) (c := 0) rfl (show cw (U m) all < 2 ^ 31 by omega) (by decide)]
    by_cases c : cw (U m) all = 0
    · obtain ⟨r, r1, r2, r3, r4⟩ := sem143l hall hU f (m + 1) (am_u I 54 27 (nI (m + 1))) (by omega) (fun x hx => by
        by_cases q : x = m
        · rw [q]
          exact c
        · exact h0 x (by omega)) am_u_x (fun a b ha hb => (am_u_k (by decide)).trans (ht a b ha hb))
      refine ⟨r, r1, r2, r3, ?_⟩
      rw [e0, if_pos c, q143_27, h27, nI_1, r4, am_u_u]
    · refine ⟨m, by omega, h0, fun _ => c, ?_⟩
      rw [e0, if_neg c, q143_34, h27, if_neg hm8, q143_38, q143_41, am_if_t (Or.inr rfl), am_u_id h27, decide_eq_true (by omega)]
      rfl
theorem nm_9 {k : Nat} (h : k < 2 ^ 31) : ¬ nI k = -9 := fun e => by
  rw [nm9 h] at e
  exact e
theorem sem143 {v : VT} {g : LT} {q : QT} (wv : wV v) (wl : wL v g) (wq : wQ v q) {n : Nat} {num cM : Nat → Nat} (hn : n ≤ 48) (hnum : ∀ k, k < n → num k < 100000) (hD : isD v g q n num cM) (hv : mV v I) (hl : mL g I) (hq : mQ (vN v) q (I 58)) (d1 : Value) : ∃ I', am_sem 143 0 [.ref 54, d1] [] (am_T L, I, J) = some (some (.int (bz (decide (Fq okT cM n n (allH g) < 99)))), (am_T L, I', J)) ∧ FdM I I' ∧ mK n num cM I' ∧ tW (UL okT cM 0 n) I' ∧ (Fq okT cM n n (allH g) < 99 → Fq okT cM n n (allH g) ≤ 8 ∧ I' 54 27 = nI (Fq okT cM n n (allH g))) := by
  have hall := allH_lt wl
  obtain ⟨I1, e1, f1, k1⟩ := sem141 L I J wv wl wq hn hD hv hl hq .null .null .null .null
  obtain ⟨I2, e2, f2, t2⟩ := sem142 L I1 J (a := 0) (ok := okT) hn (Nat.zero_le _) (fun k hk => (isD_c wl hD hk).1) hnum (-9) 0 (fun k hk => ⟨fun _ => Or.inl (nm_9 (by have := hnum k hk; omega)), fun _ => rfl⟩) k1 .null .null .null .null
  have g2 : FdM I1 I2 := ⟨fun c _ _ _ d => f2 c d, fun j _ _ => by rw [f2 54 (by decide)]⟩
  have k2 : mK n num cM I2 := by
    unfold mK
    rw [f2 54 (by decide), f2 65 (by decide), f2 66 (by decide)]
    exact k1
  have t2' : tW (UL okT cM 0 n) (am_u I2 54 27 0) := fun m c hm hc => (am_u_k (by decide)).trans (t2 m c hm hc)
  obtain ⟨r, r1, r2, r3, r4⟩ := sem143l L J (U := UL okT cM 0 n) hall (fun m c hm => cw_31 0 hn hm c) 9 0 (am_u I2 54 27 0) (by omega) (fun x hx => absurd hx (Nat.not_lt_zero _)) am_u_x t2'
  have hl2 : mL g I2 := (f1.t g2).l hl
  obtain ⟨a1, a2, a3⟩ := Fq_sp okT cM hn n (allH g) (Nat.le_refl _)
  rw [Nat.sub_self] at a1 a2 a3
  have hcr : ∀ m, cw (UL okT cM 0 n m) (allH g) = RR okT cM 0 n m (allH g) := fun m => cw_RR 0 n m (fun i _ h2 => (isD_c wl hD (by omega)).2.2)
  have hF : (Fq okT cM n n (allH g) < 99 → Fq okT cM n n (allH g) = r ∧ r < 9) ∧ (¬ Fq okT cM n n (allH g) < 99 → ¬ r < 9) := by
    constructor
    · intro h
      have h8 := Fq_8 okT cM n n (allH g) hall h
      have h88 := c8_le (allH g)
      obtain ⟨b1, b2, b3⟩ := a2 h
      have : ¬ Fq okT cM n n (allH g) < r := fun z => by
        have := r2 _ z
        rw [hcr] at this
        omega
      have : ¬ r < Fq okT cM n n (allH g) := fun z => by
        have h1 := a1 _ z
        have h2 := r3 (by omega)
        rw [hcr] at h2
        exact h2 h1
      omega
    · intro h z
      have h1 := r3 z
      rw [hcr] at h1
      exact h1 ((a3 (by omega)).1 r)
  refine ⟨am_u I2 54 27 (nI r), ?_, (f1.t g2).t ⟨fun c a _ _ _ => am_u_n _ _ _ a, fun j _ b => am_u_j b⟩, ?_, fun m c hm hc => (am_u_k (by decide)).trans (t2 m c hm hc), fun h => ?_⟩
  · rw [am_u_u] at r4
    rw [q143_0, e1]
    simp only [ob_s, tl_n]
    have e2 : am_sem 142 0 [.ref 54, .int 0, .int (-9), .int 0, .null, .null, .null, .null] [] (am_T L, I1, J) = _ := e2
    rw [q143_2, e2]
    simp only [ob_s, tl_n]
    rw [q143_7, sem135 L I2 J wl hl2]
    simp only [ob_s, tl_s]
    rw [q143_9]
    refine Eq.trans r4 ?_
    have e : decide (r < 9) = decide (Fq okT cM n n (allH g) < 99) := by
      by_cases z : Fq okT cM n n (allH g) < 99
      · rw [decide_eq_true z, decide_eq_true (hF.1 z).2]
      · rw [decide_eq_false z, decide_eq_false (hF.2 z)]
    rw [e]
  · exact ⟨(am_u_j (by decide)).trans k2.1, fun k hk => (am_u_k (by decide)).trans (k2.2.1 k hk), fun k hk => (am_u_k (by decide)).trans (k2.2.2 k hk)⟩
  · obtain ⟨b1, b2⟩ := hF.1 h
    refine ⟨by omega, ?_⟩
    rw [am_u_x, b1]
theorem sem144 {v : VT} {g : LT} {q : QT} (wl : wL v g) {n : Nat} {num cM : Nat → Nat} (hn : n ≤ 48) (hnum : ∀ k, k < n → num k < 100000) (hD : isD v g q n num cM) (hl : mL g I) (hk : mK n num cM I) {F : Nat} (hF : F ≤ 8) (h27 : I 54 27 = nI F) (ok : Nat → Bool) (a1 a2 : Int32) (hok : ∀ k, k < n → (ok k = true ↔ (¬ nI (num k / 10000) = a1 ∨ nI (cM k) &&& a2 = 0))) : ∃ I', am_sem 144 0 [.ref 54, .int a1, .int a2] [] (am_T L, I, J) = some (some (.int (nI (RR ok cM 0 n F (allH g)))), (am_T L, I', J)) ∧ (∀ c, c ≠ 67 → I' c = I c) := by
  have hall := allH_lt wl
  obtain ⟨I2, e2, f2, t2⟩ := sem142 L I J (a := 0) (ok := ok) hn (Nat.zero_le _) (fun k hk => (isD_c wl hD hk).1) hnum a1 a2 hok hk .null .null .null .null
  have hl2 : mL g I2 := mL_of hl (by rw [f2 54 (by decide)]) (f2 57 (by decide))
  have e2 : am_sem 142 0 [.ref 54, .int 0, .int a1, .int a2, .null, .null, .null, .null] [] (am_T L, I, J) = _ := e2
  refine ⟨I2, ?_, f2⟩
  have hix : (256 : Int32) * nI F + nI (allH g) = nI (256 * F + allH g) := by rw [show (256 : Int32) = nI 256 from rfl, pk_mul, nI_add]
  rw [q144_0, e2]
  simp only [ob_s, tl_n]
  rw [q144_5, sem135 L I2 J wl hl2]
  simp only [ob_s, tl_s]
  rw [f2 54 (by decide), h27]
  have e13 := q144_13 L I2 J (.ref 54) (.int a1) (.int a2) (nI (allH g)) (256 * nI F)
  refine Eq.trans e13 ?_
  rw [hix, am_if_t (n_in (show 256 * F + allH g < 2304 by omega) (by decide)), nc (show 256 * F + allH g < 2 ^ 31 by omega), t2 F _ hF hall, Nat.sub_zero, cw_RR 0 n F (fun i _ h2 => (isD_c wl hD (by omega)).2.2)]
end OPS
