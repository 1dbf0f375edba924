/-! ===== the class' deeds: put in by their numbers ===== -/
def IN (n : Nat) (num cov : Nat → Nat) (S : Nat → Nat → Prop) : Prop := (∀ i j, i < j → j < n → num i < num j) ∧ (∀ y, (∃ k, k < n ∧ num k = y) ↔ ∃ r, S y r) ∧ ∀ k, k < n → ∀ r, ((cov k).testBit r = true ↔ S (num k) r)
theorem IN_eq {n : Nat} {num cov : Nat → Nat} {S : Nat → Nat → Prop} (h : IN n num cov S) {pl x rb : Nat} (hp : pl < n) (hx : num pl = x) : IN n num (fun k => if k = pl then cov k ||| 2 ^ rb else cov k) (fun y r => S y r ∨ (y = x ∧ r = rb)) := by
  obtain ⟨h1, h2, h3⟩ := h
  have inj : ∀ k, k < n → num k = x → k = pl := fun k hk e => by
    rcases Nat.lt_trichotomy k pl with q | q | q
    · have := h1 k pl q hp
      omega
    · exact q
    · have := h1 pl k q hk
      omega
  refine ⟨h1, fun y => ⟨fun ⟨k, hk, e⟩ => ?_, fun ⟨r, hr⟩ => ?_⟩, fun k hk r => ?_⟩
  · obtain ⟨r, hr⟩ := (h2 y).mp ⟨k, hk, e⟩
    exact ⟨r, Or.inl hr⟩
  · rcases hr with hr | ⟨e1, e2⟩
    · exact (h2 y).mpr ⟨r, hr⟩
    · exact ⟨pl, hp, hx.trans e1.symm⟩
  · by_cases c : k = pl
    · subst c
      show (if k = k then cov k ||| 2 ^ rb else cov k).testBit r = true ↔ _
      rw [if_pos rfl, Nat.testBit_or, Bool.or_eq_true, h3 k hk r, Nat.testBit_two_pow, decide_eq_true_eq]
      exact ⟨fun q => q.elim Or.inl fun q => Or.inr ⟨hx, q.symm⟩, fun q => q.elim Or.inl fun q => Or.inr q.2.symm⟩
    · show (if k = pl then cov k ||| 2 ^ rb else cov k).testBit r = true ↔ _
      rw [if_neg c, h3 k hk r]
      exact ⟨Or.inl, fun q => q.elim id fun q => absurd (inj k hk q.1) c⟩
theorem IN_new {n : Nat} {num cov : Nat → Nat} {S : Nat → Nat → Prop} (h : IN n num cov S) {pl x rb : Nat} (hp : pl ≤ n) (hlt : ∀ i, i < pl → num i < x) (hgt : pl < n → x < num pl) : IN (n + 1) (fun k => if k < pl then num k else if k = pl then x else num (k - 1)) (fun k => if k < pl then cov k else if k = pl then 2 ^ rb else cov (k - 1)) (fun y r => S y r ∨ (y = x ∧ r = rb)) := by
  obtain ⟨h1, h2, h3⟩ := h
  have hge : ∀ i, pl ≤ i → i < n → x < num i := fun i q1 q2 => by
    rcases Nat.lt_or_ge pl i with q | q
    · have := h1 pl i q q2
      have := hgt (by omega)
      omega
    · have : i = pl := by omega
      subst this
      exact hgt q2
  have nx : ∀ r, ¬ S x r := fun r hr => by
    obtain ⟨k, hk, e⟩ := (h2 x).mpr ⟨r, hr⟩
    rcases Nat.lt_or_ge k pl with q | q
    · have := hlt k q
      omega
    · have := hge k q hk
      omega
  have iff0 : ∀ k, k < n → ∀ r, ((cov k).testBit r = true ↔ (S (num k) r ∨ (num k = x ∧ r = rb))) := fun k hk r => by
    rw [h3 k hk r]
    refine ⟨Or.inl, fun q => q.elim id fun q => ?_⟩
    rcases Nat.lt_or_ge k pl with z | z
    · have := hlt k z
      omega
    · have := hge k z hk
      omega
  refine ⟨fun i j hij hj => ?_, fun y => ⟨fun ⟨k, hk, e⟩ => ?_, fun ⟨r, hr⟩ => ?_⟩, fun k hk r => ?_⟩
  · show (if i < pl then num i else if i = pl then x else num (i - 1)) < (if j < pl then num j else if j = pl then x else num (j - 1))
    by_cases a1 : j < pl
    · rw [if_pos a1, if_pos (by omega)]
      exact h1 i j hij (by omega)
    · rw [if_neg a1]
      by_cases a2 : j = pl
      · rw [if_pos a2, if_pos (by omega)]
        exact hlt i (by omega)
      · rw [if_neg a2]
        by_cases a3 : i < pl
        · rw [if_pos a3]
          have := hlt i a3
          have := hge (j - 1) (by omega) (by omega)
          omega
        · rw [if_neg a3]
          by_cases a4 : i = pl
          · rw [if_pos a4]
            exact hge (j - 1) (by omega) (by omega)
          · rw [if_neg a4]
            exact h1 (i - 1) (j - 1) (by omega) (by omega)
  · have e : (if k < pl then num k else if k = pl then x else num (k - 1)) = y := e
    by_cases a1 : k < pl
    · rw [if_pos a1] at e
      obtain ⟨r, hr⟩ := (h2 y).mp ⟨k, by omega, e⟩
      exact ⟨r, Or.inl hr⟩
    · rw [if_neg a1] at e
      by_cases a2 : k = pl
      · rw [if_pos a2] at e
        exact ⟨rb, Or.inr ⟨e.symm, rfl⟩⟩
      · rw [if_neg a2] at e
        obtain ⟨r, hr⟩ := (h2 y).mp ⟨k - 1, by omega, e⟩
        exact ⟨r, Or.inl hr⟩
  · rcases hr with hr | ⟨e1, e2⟩
    · obtain ⟨k, hk, e⟩ := (h2 y).mpr ⟨r, hr⟩
      by_cases a1 : k < pl
      · refine ⟨k, by omega, ?_⟩
        show (if k < pl then num k else if k = pl then x else num (k - 1)) = y
        rw [if_pos a1]
        exact e
      · refine ⟨k + 1, by omega, ?_⟩
        show (if k + 1 < pl then num (k + 1) else if k + 1 = pl then x else num (k + 1 - 1)) = y
        rw [if_neg (by omega), if_neg (by omega), Nat.add_sub_cancel]
        exact e
    · refine ⟨pl, by omega, ?_⟩
      show (if pl < pl then num pl else if pl = pl then x else num (pl - 1)) = y
      rw [if_neg (Nat.lt_irrefl _), if_pos rfl]
      exact e1.symm
  · show (if k < pl then cov k else if k = pl then 2 ^ rb else cov (k - 1)).testBit r = true ↔ (S (if k < pl then num k else if k = pl then x else num (k - 1)) r ∨ ((if k < pl then num k else if k = pl then x else num (k - 1)) = x ∧ r = rb))
    by_cases a1 : k < pl
    · rw [if_pos a1, if_pos a1]
      exact iff0 k (by omega) r
    · rw [if_neg a1, if_neg a1]
      by_cases a2 : k = pl
      · rw [if_pos a2, if_pos a2, Nat.testBit_two_pow, decide_eq_true_eq]
        exact ⟨fun q => Or.inr ⟨rfl, q.symm⟩, fun q => q.elim (fun q => absurd q (nx r)) fun q => q.2.symm⟩
      · rw [if_neg a2, if_neg a2]
        exact iff0 (k - 1) (by omega) r
/-- what the class' cells 48, 49, 50 hold -/
def kS (n : Nat) (num cov : Nat → Nat) (g : Nat) (I : Nat → Nat → Int32) : Prop := I 48 0 = nI n ∧ I 48 1 = nI (2 ^ g - 1) ∧ (∀ k, k < n → I 49 k = nI (num k)) ∧ (∀ k, k < n → I 50 k = nI (cov k)) ∧ (∀ k, k < n → num k < 100000) ∧ ∀ k, k < n → cov k < 256
def fnd (num : Nat → Nat) (x : Nat) : Nat → Nat → Nat
  | 0, k => k
  | f + 1, k => if num k < x then fnd num x f (k + 1) else k
theorem fnd_sp (num : Nat → Nat) (x : Nat) : ∀ f k, k ≤ fnd num x f k ∧ fnd num x f k ≤ k + f ∧ (∀ i, k ≤ i → i < fnd num x f k → num i < x) ∧ (fnd num x f k < k + f → x ≤ num (fnd num x f k))
  | 0, k => ⟨Nat.le_refl _, Nat.le_refl _, fun i h1 h2 => by have : i < k := h2; omega, fun h => absurd h (Nat.lt_irrefl _)⟩
  | f + 1, k => by
    obtain ⟨a, b, c, d⟩ := fnd_sp num x f (k + 1)
    rw [fnd]
    by_cases h : num k < x
    · rw [if_pos h]
      refine ⟨by omega, by omega, fun i h1 h2 => ?_, fun h => d (by omega)⟩
      by_cases q : i = k
      · rw [q]
        exact h
      · exact c i (by omega) h2
    · rw [if_neg h]
      exact ⟨Nat.le_refl _, by omega, fun i h1 h2 => by omega, fun _ => by omega⟩
section OPS
variable (L : Nat) (I : Nat → Nat → Int32) (J : Nat → Nat → Int64)
theorem sem15a {n : Nat} {num cov : Nat → Nat} {g : Nat} (hn : n ≤ 48) (h : kS n num cov g I) {x : Nat} (hx : x < 100000) (b : Int32) (d : Value) : ∀ f k, k + f = n → am_sem 15 2 [.ref 48, .int (nI x), .int b, .int (nI k), d] [] (am_T L, I, J) = am_sem 15 14 [.ref 48, .int (nI x), .int b, .int (nI (fnd num x f k)), d] [] (am_T L, I, J)
  | 0, k, hk => by
    rw [q15_2, h.1, if_pos (by rw [n_le (by omega) (by omega)]; omega)]
    rfl
  | f + 1, k, hk => by
    have hnk := h.2.2.2.2.1 k (by omega)
    rw [q15_2, h.1, if_neg (by rw [n_le (by omega) (by omega)]; omega), q15_6, at_n L I J (a := 49) (n := 48) rfl (by decide) (show k < 48 by omega), h.2.2.1 k (by omega)]
    simp only [ob_s, tl_s, q15_10, n_le (show x < 2 ^ 31 by omega) (show num k < 2 ^ 31 by omega)]
    rw [fnd]
    by_cases c : num k < x
    · rw [if_pos c, if_neg (by omega), q15_12, nI_1]
      exact sem15a hn h hx b d f (k + 1) (by omega)
    · rw [if_neg c, if_pos (by omega)]
/-- the row moved by one behind pl, down to a -/
theorem sem15b {x b : Int32} {pl : Nat} (a1 a2 : Value) (hpl : pl < 48) : ∀ m a (I : Nat → Nat → Int32), a = pl + m → a < 48 → ∃ I', am_sem 15 47 [.ref 48, .int x, .int b, .int (nI pl), .int (nI a)] [] (am_T L, I, J) = am_sem 15 72 [.ref 48, .int x, .int b, .int (nI pl), .int (nI pl)] [] (am_T L, I', J) ∧ (∀ c, c ≠ 49 → c ≠ 50 → I' c = I c) ∧ (∀ i, pl < i → i ≤ a → I' 49 i = I 49 (i - 1) ∧ I' 50 i = I 50 (i - 1)) ∧ ∀ i, (i ≤ pl ∨ a < i) → I' 49 i = I 49 i ∧ I' 50 i = I 50 i
  | 0, a, I, hk, ha => by
    refine ⟨I, ?_, fun _ _ _ => rfl, fun i h1 h2 => by omega, fun _ _ => ⟨rfl, rfl⟩⟩
    rw [q15_47, if_pos (by rw [n_le (by omega) (by omega)]; omega), show a = pl by omega]
  | m + 1, a, I, hk, ha => by
    obtain ⟨c, rfl⟩ : ∃ c, a = c + 1 := ⟨a - 1, by omega⟩
    obtain ⟨I', e, f1, f2, f3⟩ := sem15b a1 a2 hpl m c (am_u (am_u I 49 (c + 1) (I 49 c)) 50 (c + 1) (I 50 c)) (by omega) (by omega)
    refine ⟨I', ?_, fun k h1 h2 => ?_, fun i h1 h2 => ?_, fun i h1 => ?_⟩
    · have v1 : vp_in (nI (c + 1)) 48 := n_in (by omega) (by decide)
      have v2 : vp_in (nI c) 48 := n_in (by omega) (by decide)
      rw [q15_47, if_neg (by rw [n_le (by omega) (by omega)]; omega), q15_50, nI_pred, am_if_t ⟨v2, v1, v2, v1⟩, nc (show c + 1 < 2 ^ 31 by omega), nc (show c < 2 ^ 31 by omega), pm1]
      exact e
    · rw [f1 k h1 h2, am_u_n _ _ _ h2, am_u_n _ _ _ h1]
    · by_cases q : i = c + 1
      · obtain ⟨g1, g2⟩ := f3 i (by omega)
        rw [g1, g2, q, am_u_k (by decide), am_u_x, am_u_x, Nat.add_sub_cancel]
        exact ⟨rfl, rfl⟩
      · obtain ⟨g1, g2⟩ := f2 i h1 (by omega)
        rw [g1, g2, am_u_k (by decide), am_u_j (by omega), am_u_j (by omega), am_u_k (by decide)]
        exact ⟨rfl, rfl⟩
    · obtain ⟨g1, g2⟩ := f3 i (by omega)
      rw [g1, g2, am_u_k (by decide), am_u_j (by omega), am_u_j (by omega), am_u_k (by decide)]
      exact ⟨rfl, rfl⟩
theorem sem15 {n : Nat} {num cov : Nat → Nat} {g : Nat} {S : Nat → Nat → Prop} (hn : n < 48) (h : kS n num cov g I) (hI : IN n num cov S) {x rb : Nat} (hx : x < 100000) (hr : rb < 8) (d e : Value) : ∃ I' n' num' cov', am_sem 15 0 [.ref 48, .int (nI x), .int (nI (2 ^ rb)), d, e] [] (am_T L, I, J) = some (none, (am_T L, I', J)) ∧ (∀ c, c ≠ 48 → c ≠ 49 → c ≠ 50 → I' c = I c) ∧ n' ≤ n + 1 ∧ kS n' num' cov' g I' ∧ IN n' num' cov' (fun y r => S y r ∨ (y = x ∧ r = rb)) := by
  have h0 := sem15a L I J (by omega) h hx (nI (2 ^ rb)) e n 0 (by omega)
  obtain ⟨-, a2, a3, a4⟩ := fnd_sp num x n 0
  obtain ⟨pl, hpl⟩ : ∃ pl, pl = fnd num x n 0 := ⟨_, rfl⟩
  rw [← hpl] at h0 a2 a3 a4
  have h0 : am_sem 15 2 [.ref 48, .int (nI x), .int (nI (2 ^ rb)), .int 0, e] [] (am_T L, I, J) = _ := h0
  have hbit : 2 ^ rb < 256 := Nat.lt_of_le_of_lt (Nat.pow_le_pow_right (by decide) (show rb ≤ 7 by omega)) (by decide)
  obtain ⟨k1, k2, k3, k4, k5, k6⟩ := h
  have vpl : pl < 48 → vp_in (nI pl) 48 := fun h => n_in h (by decide)
  by_cases c : pl < n ∧ num pl = x
  · refine ⟨am_u I 50 pl (I 50 pl ||| nI (2 ^ rb)), n, num, _, ?_, fun c h1 h2 h3 => am_u_n _ _ _ h3, Nat.le_succ n, ⟨(am_u_k (by decide)).trans k1, (am_u_k (by decide)).trans k2, fun k hk => (am_u_k (by decide)).trans (k3 k hk), fun k hk => ?_, k5, fun k hk => ?_⟩, IN_eq hI (rb := rb) c.1 c.2⟩
    · rw [q15_0, h0, q15_14, k1, if_neg (by rw [n_le (by omega) (by omega)]; omega), q15_18, if_neg (by rw [show (48 : Int32) = nI 48 from rfl, n_le (by decide) (by omega)]; omega), q15_21, at_n L I J (a := 49) (n := 48) rfl (by decide) (show pl < 48 by omega), k3 pl c.1]
      simp only [ob_s, tl_s, q15_25]
      rw [if_pos (by rw [c.2]), q15_27, am_if_t ⟨vpl (by omega), vpl (by omega)⟩, nc (show pl < 2 ^ 31 by omega), q15_88]
    · show _ = nI (if k = pl then cov k ||| 2 ^ rb else cov k)
      by_cases q : k = pl
      · rw [q, am_u_x, if_pos rfl, k4 pl c.1, bs_or]
      · rw [am_u_j q, if_neg q]
        exact k4 k hk
    · show (if k = pl then cov k ||| 2 ^ rb else cov k) < 256
      split
      · exact Nat.or_lt_two_pow (n := 8) (k6 k hk) hbit
      · exact k6 k hk
  · have e14 : am_sem 15 14 [.ref 48, .int (nI x), .int (nI (2 ^ rb)), .int (nI pl), e] [] (am_T L, I, J) = am_sem 15 36 [.ref 48, .int (nI x), .int (nI (2 ^ rb)), .int (nI pl), e] [] (am_T L, I, J) := by
      rw [q15_14, k1]
      by_cases q : pl < n
      · have := k5 pl q
        rw [if_neg (by rw [n_le (by omega) (by omega)]; omega), q15_18, if_neg (by rw [show (48 : Int32) = nI 48 from rfl, n_le (by decide) (by omega)]; omega), q15_21, at_n L I J (a := 49) (n := 48) rfl (by decide) (show pl < 48 by omega), k3 pl q]
        simp only [ob_s, tl_s, q15_25]
        rw [if_neg (by rw [n_inj (by omega) (by omega)]; exact fun z => c ⟨q, z⟩)]
      · rw [if_pos (by rw [n_le (by omega) (by omega)]; omega)]
    obtain ⟨I1, e1, f1, f2, f3⟩ := sem15b (x := nI x) (b := nI (2 ^ rb)) L J .null .null (pl := pl) (by omega) (n - pl) n I (by omega) hn
    refine ⟨am_u (am_u (am_u I1 49 pl (nI x)) 50 pl (nI (2 ^ rb))) 48 0 (nI (n + 1)), n + 1, _, _, ?_, fun c h1 h2 h3 => ?_, Nat.le_refl _, ⟨am_u_x, ?_, fun k hk => ?_, fun k hk => ?_, fun k hk => ?_, fun k hk => ?_⟩, IN_new hI (rb := rb) (pl := pl) (by omega) (fun i hi => a3 i (Nat.zero_le _) hi) (fun q => ?_)⟩
    · rw [q15_0, h0, e14, q15_36, k1, if_neg (by rw [n_lt (by omega) (by omega)]; omega), q15_40, k1, if_neg (by rw [show (48 : Int32) = nI 48 from rfl, n_le (by decide) (by omega)]; omega), q15_44, k1, e1, q15_72, am_if_t ⟨vpl (by omega), vpl (by omega)⟩, nc (show pl < 2 ^ 31 by omega), f1 48 (by decide) (by decide), k1, q15_88, nI_1]
    · rw [am_u_n _ _ _ h1, am_u_n _ _ _ h3, am_u_n _ _ _ h2, f1 c h2 h3]
    · rw [am_u_j (by decide), am_u_k (by decide), am_u_k (by decide), f1 48 (by decide) (by decide)]
      exact k2
    · show _ = nI (if k < pl then num k else if k = pl then x else num (k - 1))
      rw [am_u_k (by decide), am_u_k (by decide)]
      by_cases q1 : k < pl
      · rw [if_pos q1, am_u_j (by omega), (f3 k (by omega)).1]
        exact k3 k (by omega)
      · rw [if_neg q1]
        by_cases q2 : k = pl
        · rw [if_pos q2, q2, am_u_x]
        · rw [if_neg q2, am_u_j q2, (f2 k (by omega) (by omega)).1]
          exact k3 (k - 1) (by omega)
    · show _ = nI (if k < pl then cov k else if k = pl then 2 ^ rb else cov (k - 1))
      rw [am_u_k (by decide)]
      by_cases q1 : k < pl
      · rw [if_pos q1, am_u_j (by omega), am_u_k (by decide), (f3 k (by omega)).2]
        exact k4 k (by omega)
      · rw [if_neg q1]
        by_cases q2 : k = pl
        · rw [if_pos q2, q2, am_u_x]
        · rw [if_neg q2, am_u_j q2, am_u_k (by decide), (f2 k (by omega) (by omega)).2]
          exact k4 (k - 1) (by omega)
    · show (if k < pl then num k else if k = pl then x else num (k - 1)) < 100000
      by_cases q1 : k < pl
      · rw [if_pos q1]
        exact k5 k (by omega)
      · rw [if_neg q1]
        by_cases q2 : k = pl
        · rw [if_pos q2]
          exact hx
        · rw [if_neg q2]
          exact k5 (k - 1) (by omega)
    · show (if k < pl then cov k else if k = pl then 2 ^ rb else cov (k - 1)) < 256
      by_cases q1 : k < pl
      · rw [if_pos q1]
        exact k6 k (by omega)
      · rw [if_neg q1]
        by_cases q2 : k = pl
        · rw [if_pos q2]
          exact hbit
        · rw [if_neg q2]
          exact k6 (k - 1) (by omega)
    · have := a4 (by omega)
      have : num pl ≠ x := fun z => c ⟨q, z⟩
      omega
end OPS
