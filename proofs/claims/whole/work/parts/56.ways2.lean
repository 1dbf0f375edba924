/-! ===== the reference counts its sets, all of them ===== -/
theorem cw_app (A B : List Nat) (c : Nat) : cw (A ++ B) c = cw A c + cw B c := List.countP_append
section OPS
variable (L : Nat) (I : Nat → Nat → Int32) (J : Nat → Nat → Int64)
/-- a deed that counts: the rows from the 7th down -/
theorem sem142k {cv d : Nat} (hcv : cv < 256) (hd : d < 48) (O N : Nat → List Nat) (hN0 : N 0 = O 0) (hNs : ∀ m, N (m + 1) = O (m + 1) ++ (O m).map fun x => x ||| cv) (hO : ∀ m x, x ∈ O m → x < 256) (d1 d5 : Value) (a2 a3 : Int32) : ∀ v (I : Nat → Nat → Int32) (d7 : Value), v ≤ 8 → I 66 d = nI cv → (∀ m c, m ≤ 8 → c < 256 → I 67 (256 * m + c) = nI (cw (if v < m then N m else O m) c)) → ∃ I' d6' d7', am_sem 142 48 [.ref 54, d1, .int a2, .int a3, .int (nI d), d5, .int (nI v - 1), d7] [] (am_T L, I, J) = am_sem 142 85 [.ref 54, d1, .int a2, .int a3, .int (nI d), d5, d6', d7'] [] (am_T L, I', J) ∧ (∀ c, c ≠ 67 → I' c = I c) ∧ tW N I'
  | 0, I, d7, hv, h6, ht => by
    refine ⟨I, .int (nI 0 - 1), d7, ?_, fun _ _ => rfl, fun m c hm hc => ?_⟩
    · rw [q142_48, if_pos (by decide)]
    · rw [ht m c hm hc]
      by_cases q : 0 < m
      · rw [if_pos q]
      · have : m = 0 := by omega
        rw [if_neg q, this, hN0]
  | v + 1, I, d7, hv, h6, ht => by
    obtain ⟨I1, e1, f1, f2, f3⟩ := sem142c L J (r := v) (by omega) hcv hd (O v) (O (v + 1)) d1 d5 a2 a3 256 0 I (by omega) h6 (fun c hc => by
      rw [ht v c (by omega) hc, if_neg (by omega)]) (fun c hc => by
      rw [ht (v + 1) c (by omega) hc, if_neg (by omega), cx_0]
      rfl)
    obtain ⟨I', d6', d7', e, g1, g2⟩ := sem142k hcv hd O N hN0 hNs hO d1 d5 a2 a3 v I1 (.int (nI 256)) (by omega) (by rw [f1 66 (by decide)]; exact h6) (fun m c hm hc => by
      by_cases q : m = v + 1
      · subst q
        rw [f3 c hc, if_pos (by omega), hNs, cw_app, cx_e _ _ _ _ (hO v)]
      · rw [f2 _ (by omega), ht m c hm hc]
        by_cases q2 : v + 1 < m
        · rw [if_pos q2, if_pos (by omega)]
        · rw [if_neg q2, if_neg (by omega)])
    refine ⟨I', d6', d7', ?_, fun c hc => (g1 c hc).trans (f1 c hc), g2⟩
    have e1 : am_sem 142 52 [.ref 54, d1, .int a2, .int a3, .int (nI d), d5, .int (nI v), .int 0] [] (am_T L, I, J) = _ := e1
    rw [q142_48, nI_pred, if_neg (nI_pos (by omega)), q142_50, e1, q142_83, show nI v + (-1) = nI v - 1 from (Int32.sub_eq_add_neg _ _).symm ▸ rfl, e]
theorem UL_off {ok : Nat → Bool} {cov : Nat → Nat} {a k : Nat} (h : ok (a + k) = false) (m : Nat) : UL ok cov a (k + 1) m = UL ok cov a k m := by
  cases m with
  | zero => rfl
  | succ m => rw [UL, if_neg (by rw [h]; decide), List.append_nil]
/-- the deeds one by one -/
theorem sem142d {n a : Nat} {num cM : Nat → Nat} {ok : Nat → Bool} (hn : n ≤ 48) (hc : ∀ k, k < n → cM k < 256) (hnum : ∀ k, k < n → num k < 100000) (d1 : Value) (a2 a3 : Int32) (hok : ∀ k, k < n → (ok k = true ↔ (¬ nI (num k / 10000) = a2 ∨ nI (cM k) &&& a3 = 0))) : ∀ f k (I : Nat → Nat → Int32) (d5 d6 d7 : Value), a + k + f = n → mK n num cM I → tW (UL ok cM a k) I → ∃ I', am_sem 142 19 [.ref 54, d1, .int a2, .int a3, .int (nI (a + k)), d5, d6, d7] [] (am_T L, I, J) = some (none, (am_T L, I', J)) ∧ (∀ c, c ≠ 67 → I' c = I c) ∧ tW (UL ok cM a (k + f)) I'
  | 0, k, I, d5, d6, d7, hk, h, ht => by
    refine ⟨I, ?_, fun _ _ => rfl, ht⟩
    rw [q142_19, h.1, if_pos (by rw [n_le (by omega) (by omega)]; omega), q142_87]
  | f + 1, k, I, d5, d6, d7, hk, h, ht => by
    have hkn : a + k < n := by omega
    have hcv := hc _ hkn
    have hnm := hnum _ hkn
    have vd : vp_in (nI (a + k)) 64 := n_in (by omega) (by decide)
    have hdiv : nI (num (a + k)) / 10000 = nI (num (a + k) / 10000) := by
      rw [show (10000 : Int32) = nI 10000 from rfl, pk_div (by omega) (by decide) (by decide)]
    have e0 : am_sem 142 19 [.ref 54, d1, .int a2, .int a3, .int (nI (a + k)), d5, d6, d7] [] (am_T L, I, J) = am_sem 142 41 [.ref 54, d1, .int a2, .int a3, .int (nI (a + k)), d5, d6, d7] [.int (bz (ok (a + k)))] (am_T L, I, J) := by
      rw [q142_19, h.1, if_neg (by rw [n_le (by omega) (by omega)]; omega), q142_23, am_if_t vd, nc (show a + k < 2 ^ 31 by omega), h.2.1 _ hkn, hdiv]
      have h1 := hok _ hkn
      cases hb : ok (a + k)
      · have hno : ¬ (¬ nI (num (a + k) / 10000) = a2 ∨ nI (cM (a + k)) &&& a3 = 0) := fun q => by
          have := h1.mpr q
          rw [hb] at this
          cases this
        rw [if_pos (Classical.byContradiction fun q => hno (Or.inl q)), q142_31, am_if_t vd, nc (show a + k < 2 ^ 31 by omega), h.2.2 _ hkn, if_neg (fun q => hno (Or.inr q)), q142_40]
        rfl
      · have hyes := h1.mp hb
        by_cases q : nI (num (a + k) / 10000) = a2
        · rw [if_pos q, q142_31, am_if_t vd, nc (show a + k < 2 ^ 31 by omega), h.2.2 _ hkn, if_pos (hyes.resolve_left fun z => z q), q142_38]
          rfl
        · rw [if_neg q, q142_38]
          rfl
    have e85 : ∀ (I : Nat → Nat → Int32) (d5 d6 d7 : Value), am_sem 142 85 [.ref 54, d1, .int a2, .int a3, .int (nI (a + k)), d5, d6, d7] [] (am_T L, I, J) = am_sem 142 19 [.ref 54, d1, .int a2, .int a3, .int (nI (a + (k + 1))), d5, d6, d7] [] (am_T L, I, J) := fun I d5 d6 d7 => by
      rw [q142_85, nI_1]
      rfl
    rw [e0, q142_41]
    cases hb : ok (a + k)
    · obtain ⟨I', e, g1, g2⟩ := sem142d (a := a) hn hc hnum d1 a2 a3 hok f (k + 1) I (.int 0) (.int (-1)) d7 (by omega) h (fun m c hm hcc => by
        rw [UL_off hb]
        exact ht m c hm hcc)
      refine ⟨I', ?_, g1, ?_⟩
      · rw [if_pos (by rfl), q142_46, q142_47, q142_48, if_pos (by decide), e85]
        exact e
      · rw [show k + (f + 1) = k + 1 + f by omega]
        exact g2
    · obtain ⟨I1, d6', d7', e1, f1, t1⟩ := sem142k L J hcv (show a + k < 48 by omega) (UL ok cM a k) (UL ok cM a (k + 1)) (by rfl) (fun m => by rw [UL, if_pos hb]) (fun m x hx => UL_in (P := fun x => x < 256) (by decide) (fun a b ha hb => Nat.or_lt_two_pow (n := 8) ha hb) a k m (fun i h1 h2 => hc i (by omega)) x hx) d1 (.int 1) a2 a3 8 I d7 (by omega) (h.2.2 _ hkn) (fun m c hm hcc => by
        rw [if_neg (by omega)]
        exact ht m c hm hcc)
      have h1 : mK n num cM I1 := by
        unfold mK
        rw [f1 54 (by decide), f1 65 (by decide), f1 66 (by decide)]
        exact h
      obtain ⟨I', e, g1, g2⟩ := sem142d (a := a) hn hc hnum d1 a2 a3 hok f (k + 1) I1 (.int 1) d6' d7' (by omega) h1 t1
      refine ⟨I', ?_, fun c hc => (g1 c hc).trans (f1 c hc), ?_⟩
      · have e1 : am_sem 142 48 [.ref 54, d1, .int a2, .int a3, .int (nI (a + k)), .int 1, .int 7, d7] [] (am_T L, I, J) = _ := e1
        rw [if_neg (by decide), q142_44, q142_47]
        refine Eq.trans e1 ?_
        rw [e85]
        exact e
      · rw [show k + (f + 1) = k + 1 + f by omega]
        exact g2
theorem sem142z (a1 a2 a3 : Int32) (d5 d6 d7 : Value) : ∀ f k (I : Nat → Nat → Int32), k + f = 2304 → (∀ j, j < k → I 67 j = 0) → ∃ I', am_sem 142 2 [.ref 54, .int a1, .int a2, .int a3, .int (nI k), d5, d6, d7] [] (am_T L, I, J) = am_sem 142 12 [.ref 54, .int a1, .int a2, .int a3, .int (nI 2304), d5, d6, d7] [] (am_T L, I', J) ∧ (∀ c, c ≠ 67 → I' c = I c) ∧ ∀ j, j < 2304 → I' 67 j = 0
  | 0, k, I, hk, h => by
    have e : k = 2304 := by omega
    subst e
    refine ⟨I, ?_, fun _ _ => rfl, h⟩
    rw [q142_2, if_pos (by decide)]
  | f + 1, k, I, hk, h => by
    obtain ⟨I', e, g1, g2⟩ := sem142z a1 a2 a3 d5 d6 d7 f (k + 1) (am_u I 67 k 0) (by omega) (fun j hj => by
      by_cases q : j = k
      · rw [q, am_u_x]
      · rw [am_u_j q]
        exact h j (by omega))
    refine ⟨I', ?_, fun c hc => (g1 c hc).trans (am_u_n _ _ _ hc), g2⟩
    rw [q142_2, if_neg (by rw [show (2304 : Int32) = nI 2304 from rfl, n_le (by decide) (by omega)]; omega), q142_5, am_if_t (n_in (by omega) (by decide)), nc (show k < 2 ^ 31 by omega), nI_1, e]
theorem sem142 {n a : Nat} {num cM : Nat → Nat} {ok : Nat → Bool} (hn : n ≤ 48) (ha : a ≤ n) (hc : ∀ k, k < n → cM k < 256) (hnum : ∀ k, k < n → num k < 100000) (a2 a3 : Int32) (hok : ∀ k, k < n → (ok k = true ↔ (¬ nI (num k / 10000) = a2 ∨ nI (cM k) &&& a3 = 0))) (h : mK n num cM I) (d4 d5 d6 d7 : Value) : ∃ I', am_sem 142 0 [.ref 54, .int (nI a), .int a2, .int a3, d4, d5, d6, d7] [] (am_T L, I, J) = some (none, (am_T L, I', J)) ∧ (∀ c, c ≠ 67 → I' c = I c) ∧ tW (UL ok cM a (n - a)) I' := by
  obtain ⟨I1, e1, f1, z1⟩ := sem142z L J (nI a) a2 a3 d5 d6 d7 2304 0 I (by omega) (fun j hj => absurd hj (Nat.not_lt_zero _))
  have h1 : mK n num cM (am_u I1 67 0 1) := by
    unfold mK
    rw [am_u_n _ _ _ (by decide), am_u_n _ _ _ (by decide), am_u_n _ _ _ (by decide), f1 54 (by decide), f1 65 (by decide), f1 66 (by decide)]
    exact h
  have ht : tW (UL ok cM a 0) (am_u I1 67 0 1) := fun m c hm hcc => by
    rw [UL]
    by_cases q : m = 0
    · subst q
      rw [if_pos rfl, Nat.mul_zero, Nat.zero_add]
      by_cases q2 : c = 0
      · subst q2
        rw [am_u_x]
        rfl
      · rw [am_u_j q2, z1 c (by omega), cw, List.countP_cons, if_neg (by simp; omega)]
        rfl
    · rw [if_neg q, am_u_j (by omega), z1 _ (by omega)]
      rfl
  obtain ⟨I', e, g1, g2⟩ := sem142d L J hn hc hnum (.int (nI a)) a2 a3 hok (n - a) 0 (am_u I1 67 0 1) d5 d6 d7 (by omega) h1 ht
  refine ⟨I', ?_, fun c hc => (g1 c hc).trans ((am_u_n _ _ _ hc).trans (f1 c hc)), ?_⟩
  · have e1 : am_sem 142 2 [.ref 54, .int (nI a), .int a2, .int a3, .int 0, d5, d6, d7] [] (am_T L, I, J) = _ := e1
    rw [q142_0, e1, q142_12]
    exact e
  · rw [Nat.zero_add] at g2
    exact g2
end OPS
theorem cw_RR {ok : Nat → Bool} {cov : Nat → Nat} {all : Nat} (a k m : Nat) (h : ∀ i, a ≤ i → i < a + k → dif (cov i) all = 0) : cw (UL ok cov a k m) all = RR ok cov a k m all := by
  unfold cw RR
  apply List.countP_congr
  intro x hx
  have hd : dif x all = 0 := UL_in (P := fun x => dif x all = 0) (dif_0 _) (fun a b ha hb => by
    apply Nat.eq_of_testBit_eq
    intro i
    have h1 := congrArg (fun z => z.testBit i) ha
    have h2 := congrArg (fun z => z.testBit i) hb
    simp only [dif_bit, Nat.zero_testBit] at h1 h2 ⊢
    rw [Nat.testBit_or]
    cases hx : a.testBit i <;> cases hy : b.testBit i <;> cases hz : all.testBit i <;> simp_all) a k m h x hx
  rw [decide_eq_true_eq, decide_eq_true_eq]
  constructor
  · intro e
    rw [e]
    apply Nat.eq_of_testBit_eq
    intro i
    rw [dif_bit, Nat.zero_testBit]
    cases all.testBit i <;> rfl
  · intro e
    apply Nat.eq_of_testBit_eq
    intro i
    have h1 := congrArg (fun z => z.testBit i) hd
    have h2 := congrArg (fun z => z.testBit i) e
    simp only [dif_bit, Nat.zero_testBit] at h1 h2
    cases hx : x.testBit i <;> cases hz : all.testBit i <;> simp_all
/-- sets that make, with what is made, all -/
theorem UL_goes {ok : Nat → Bool} {cov : Nat → Nat} {all made : Nat} (a k m : Nat) (h : ∀ i, a ≤ i → i < a + k → dif (cov i) all = 0) (hm : dif made all = 0) : (∃ c, c ∈ UL ok cov a k m ∧ c ||| made = all) ↔ 0 < RR ok cov a k m (dif all made) := by
  unfold RR
  rw [List.countP_pos_iff]
  constructor
  · rintro ⟨c, hc, e⟩
    refine ⟨c, hc, decide_eq_true ?_⟩
    rw [← dif_or, ← e]
    apply Nat.eq_of_testBit_eq
    intro i
    rw [dif_bit, Nat.zero_testBit]
    cases (c ||| made).testBit i <;> rfl
  · rintro ⟨c, hc, e⟩
    refine ⟨c, hc, ?_⟩
    have e := of_decide_eq_true e
    have hd : dif c all = 0 := UL_in (P := fun x => dif x all = 0) (dif_0 _) (fun a b ha hb => by
      apply Nat.eq_of_testBit_eq
      intro i
      have h1 := congrArg (fun z => z.testBit i) ha
      have h2 := congrArg (fun z => z.testBit i) hb
      simp only [dif_bit, Nat.zero_testBit] at h1 h2 ⊢
      rw [Nat.testBit_or]
      cases hx : a.testBit i <;> cases hy : b.testBit i <;> cases hz : all.testBit i <;> simp_all) a k m h c hc
    apply Nat.eq_of_testBit_eq
    intro i
    have h1 := congrArg (fun z => z.testBit i) hd
    have h2 := congrArg (fun z => z.testBit i) e
    have h3 := congrArg (fun z => z.testBit i) hm
    simp only [dif_bit, Nat.zero_testBit] at h1 h2 h3
    rw [Nat.testBit_or]
    cases hx : c.testBit i <;> cases hy : made.testBit i <;> cases hz : all.testBit i <;> simp_all
