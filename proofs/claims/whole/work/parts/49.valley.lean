/-! ===== ops: valley ===== -/
def cpn (I : Nat → Nat → Int32) (t j : Nat) (f : Nat → Int32) : Nat → Nat → Int32 := fun c i => if c = t then (if i < j then f i else I c i) else I c i
theorem cpn_n {I : Nat → Nat → Int32} {t j c : Nat} {f : Nat → Int32} (h : c ≠ t) : cpn I t j f c = I c := by
  funext i
  simp [cpn, h]
theorem cpn_x {I : Nat → Nat → Int32} {t j i : Nat} {f : Nat → Int32} (h : i < j) : cpn I t j f t i = f i := by simp [cpn, h]
theorem cpn_0 (I : Nat → Nat → Int32) (t : Nat) (f : Nat → Int32) : cpn I t 0 f = I := by
  funext c i
  simp [cpn]
theorem cpn_s (I : Nat → Nat → Int32) (t j : Nat) (f : Nat → Int32) : am_u (cpn I t j f) t j (f j) = cpn I t (j + 1) f := by
  funext c i
  simp only [am_u, cpn]
  by_cases h1 : c = t
  · by_cases h2 : i = j
    · subst h2
      simp [h1]
    · have : (i < j + 1) = (i < j) := propext ⟨fun h => by omega, fun h => by omega⟩
      simp [h2, this]
  · simp [h1]
def f0 (k : Nat) : Nat := if k / 6 = k % 6 then 1 else 3
def d0 : DT := ((4, 0, f0, (fun _ => 0), (fun _ => 0), fun _ => 0), fun _ => 0)
theorem wD_0 : wD d0 := by
  refine ⟨⟨by decide, by decide, by decide, fun k => ?_, fun k => ?_, fun k => ?_, fun k => ?_⟩, fun k => ?_⟩
  · show f0 k ≤ 9
    unfold f0
    split <;> decide
  · show 0 < 256
    decide
  · show 0 ≤ 40
    decide
  · show 0 ≤ 40
    decide
  · show 0 < 4
    decide
theorem pS_s (x : XT) : ∀ k p m, p ≤ x.1 → (pS x k p m).2 = none → (pS x k p m).1 ≤ x.1
  | 0, p, m, hp, h => hp
  | k + 1, p, m, hp, h => by
    rw [pS] at h ⊢
    by_cases c : lxK x p = 3
    · rw [if_pos c] at h
      cases h
    · rw [if_neg c] at h ⊢
      by_cases c2 : (decide (lxK x p = 2) && (decide (lxV x p < 8) && !m.testBit (lxV x p))) = true
      · rw [if_pos c2] at h ⊢
        exact pS_s x k _ _ (lxE_n hp) h
      · rw [if_neg c2]
        exact lxS_st hp
theorem pI_s {x : XT} {p : Nat} {b : Bool} {d : DT} (hp : p ≤ x.1) (h : (pI x b p d).2 = none) : (pI x b p d).1 ≤ x.1 := by
  have e1 := lxE_n hp
  have e2 := lxE_n e1
  have e3 := lxE_n e2
  have e4 := lxE_n e3
  have s0 := lxS_st hp
  have s1 := lxS_st e1
  have s2 := lxS_st e2
  have s3 := lxS_st e3
  have s4 := lxS_st e4
  unfold pI at h ⊢
  split at h
  · rename_i c
    rw [if_pos c]
    split at h
    · rename_i c1
      rw [if_pos c1]
      split at h
      · rename_i c2
        rw [if_pos c2]
        unfold pN at h ⊢
        split at h
        · rename_i c3
          rw [if_pos c3]
          split at h
          · cases h
          · rename_i c4
            rw [if_neg c4]
            exact s2
        · rename_i c3
          rw [if_neg c3]
          exact s1
      · rename_i c2
        rw [if_neg c2]
        exact s0
    · rename_i c1
      rw [if_neg c1]
      split at h
      · rename_i c2
        rw [if_pos c2]
        unfold pF pF2 at h ⊢
        split at h
        · rename_i a1
          rw [if_pos a1]
          split at h
          · rename_i a2
            rw [if_pos a2]
            split at h
            · rename_i a3
              rw [if_pos a3]
              split at h
              · cases h
              · rename_i a4
                rw [if_neg a4]
                exact s4
            · rename_i a3
              rw [if_neg a3]
              exact s3
          · rename_i a2
            rw [if_neg a2]
            exact s2
        · rename_i a1
          rw [if_neg a1]
          exact s1
      · rename_i c2
        rw [if_neg c2]
        split at h
        · rename_i c3
          rw [if_pos c3]
          split at h
          · rename_i c4
            rw [if_pos c4]
            unfold pP pP2 at h ⊢
            split at h
            · rename_i a1
              rw [if_pos a1]
              split at h
              · rename_i a2
                rw [if_pos a2]
                split at h
                · rename_i a3
                  rw [if_pos a3]
                  split at h
                  · rename_i a4
                    rw [if_pos a4]
                    exact s4
                  · rename_i a4
                    rw [if_neg a4]
                    have h2 : (pS x 9 (lxE x (lxE x (lxE x (lxE x p)))) 0).2 = none := by
                      cases hq : (pS x 9 (lxE x (lxE x (lxE x (lxE x p)))) 0).2 with
                      | none => rfl
                      | some m =>
                        rw [hq] at h
                        cases h
                    exact pS_s x 9 _ 0 e4 h2
                · rename_i a3
                  rw [if_neg a3]
                  exact s3
              · rename_i a2
                rw [if_neg a2]
                exact s2
            · rename_i a1
              rw [if_neg a1]
              exact s1
          · rename_i c4
            rw [if_neg c4]
            exact s0
        · rename_i c3
          rw [if_neg c3]
          exact s0
  · rename_i c
    rw [if_neg c]
    exact s0
theorem pL_s (x : XT) : ∀ f p k d s, p ≤ x.1 → wD d → (k = 0 → ∀ p, d.2 p = 0) → pL x f p k d = .inl s → s ≤ x.1
  | 0, p, k, d, s, hp, w, w0, h => by cases h
  | f + 1, p, k, d, s, hp, w, w0, h => by
    have hs := pI_s (b := decide (k = 0)) (d := d) hp
    have hok := fun d' h => pI_ok (d' := d') (b := decide (k = 0)) hp w (fun h => w0 (of_decide_eq_true h)) h
    rw [pL] at h
    by_cases c : lxK x p = 0
    · rw [if_pos c] at h
      cases h
    · rw [if_neg c] at h
      cases hpi : pI x (decide (k = 0)) p d with
      | mk q o =>
        rw [hpi] at h hs hok
        cases o with
        | none =>
          injection h with h
          subst h
          exact hs rfl
        | some d' =>
          have hq := hok d' rfl
          exact pL_s x f q (k + 1) d' s hq.2.1 hq.2.2 (fun h => by omega) h
theorem Rl.parse {a : AT} {I I' : Nat → Nat → Int32} {J J' : Nat → Nat → Int64} (h : Rl a I J) (c1 : ∀ k, (k < 2 ∨ 8 < k) → k ≠ 54 → k ≠ 62 → k ≠ 63 → k ≠ 64 → I' k = I k) (c2 : I' 2 0 = I 2 0) (c3 : ∀ j, j < 12 → I' 54 j = I 54 j) (c4 : ∀ c j, (c ≠ 54 ∨ j ≠ 16) → J' c j = J c j) : Rl a I' J' := by
  obtain ⟨⟨wv, wl, wq, wx, wi, wj⟩, ⟨cv, cl, cq, cx, ci, cj⟩, ⟨mv, ml, mq, mx, mi, mj⟩, ht⟩ := h
  have mq2 : mQ (vN a.1) a.2.2.1 (I' 58) := by rw [c1 58 (by omega) (by omega) (by omega) (by omega) (by omega)]; exact mq
  refine ⟨⟨wv, wl, wq, wx, wi, wj⟩, ⟨cV_of cv (fun k h1 h2 => c1 k (by omega) (by omega) (by omega) (by omega) (by omega)), cL_of cl (fun k h1 h2 => c1 k (by omega) (by omega) (by omega) (by omega) (by omega)), cQ_of cq (fun k h1 h2 => c1 k (by omega) (by omega) (by omega) (by omega) (by omega)), cX_of cx c2 (c1 _ (by omega) (by omega) (by omega) (by omega) (by omega)), cI_of ci (fun k h1 h2 => c1 k (by omega) (by omega) (by omega) (by omega) (by omega)), cI_of cj (fun k h1 h2 => c1 k (by omega) (by omega) (by omega) (by omega) (by omega))⟩, ⟨mV_of mv (c3 _ (by omega)) (c3 _ (by omega)) (c1 _ (by omega) (by omega) (by omega) (by omega) (by omega)) (c1 _ (by omega) (by omega) (by omega) (by omega) (by omega)), mL_of ml (c3 _ (by omega)) (c1 _ (by omega) (by omega) (by omega) (by omega) (by omega)), mq2, mX_of mx (c3 _ (by omega)) (c1 _ (by omega) (by omega) (by omega) (by omega) (by omega)), mI_of mi (c1 _ (by omega) (by omega) (by omega) (by omega) (by omega)) (c1 _ (by omega) (by omega) (by omega) (by omega) (by omega)), mI_of mj (c1 _ (by omega) (by omega) (by omega) (by omega) (by omega)) (c1 _ (by omega) (by omega) (by omega) (by omega) (by omega))⟩, ?_⟩
  rw [c4 1 7 (Or.inl (by decide)), c4 54 9 (Or.inr (by decide))]
  exact ht
section OPS
variable (L : Nat) (I : Nat → Nat → Int32) (J : Nat → Nat → Int64)
theorem f0_q {k : Nat} (hk : k < 36) : (nI k / 6 = nI k - nI k / 6 * 6) = (k / 6 = k % 6) := by
  rw [show (6 : Int32) = nI 6 from rfl, pk_rem (by omega) (by decide) (by decide), pk_div (by omega) (by decide) (by decide), n_inj (by omega) (by omega)]
theorem sem42l (d : Value) : ∀ m k (d : Value), k + m = 36 → am_sem 42 8 [.ref 3, .int (nI k), d] [] (am_T L, cpn I 4 k (fun k => nI (f0 k)), J) = some (none, (am_T L, cpn I 4 36 (fun k => nI (f0 k)), J))
  | 0, k, d, hk => by
    rw [q42_8, if_pos (by rw [show (36 : Int32) = nI 36 from rfl, n_le (by decide) (by omega)]; omega), q42_35, show k = 36 by omega]
  | m + 1, k, d, hk => by
    have ih := fun d => sem42l d m (k + 1) d (by omega)
    rw [q42_8, if_neg (by rw [show (36 : Int32) = nI 36 from rfl, n_le (by decide) (by omega)]; omega), q42_13]
    simp only [f0_q (show k < 36 by omega), q42_20, q42_22, q42_23, q42_29, q42_31, q42_32, nc (show k < 2 ^ 31 by omega), am_if_t (n_in (show k < 36 by omega) (by decide)), nI_1]
    have e := cpn_s I 4 k (fun k => nI (f0 k))
    by_cases c : k / 6 = k % 6
    · have c0 : f0 k = 1 := if_pos c
      simp only [c0] at e
      rw [if_pos c, if_neg (by decide), show (1 : Int32) = nI 1 from rfl, e]
      exact ih _
    · have c0 : f0 k = 3 := if_neg c
      simp only [c0] at e
      rw [if_neg c, if_pos (by decide), show (3 : Int32) = nI 3 from rfl, e]
      exact ih _
theorem sem42 (d e : Value) : am_sem 42 0 [.ref 3, d, e] [] (am_T L, I, J) = some (none, (am_T L, cpn (am_u (am_u I 3 0 4) 3 1 0) 4 36 (fun k => nI (f0 k)), J)) := by
  have h := sem42l L (am_u (am_u I 3 0 4) 3 1 0) J .null 36 0 e (by omega)
  rw [cpn_0] at h
  rw [q42_0]
  exact h
/-- read: how many items, or where it fails -/
theorem sem30 {x : XT} (wx : wX x) (hx : cX x I) (d : Value) : ∃ I', Fc I I' ∧ match pL x (x.1 + 1) 0 0 d0 with
    | .inl s => am_sem 30 0 [.ref 2, d] [] (am_T L, I, J) = some (some (.int (-10 - nI s)), (am_T L, I', J))
    | .inr (n, d') => am_sem 30 0 [.ref 2, d] [] (am_T L, I, J) = some (some (.int (nI n)), (am_T L, I', J)) ∧ cD d' I' ∧ wD d' ∧ n ≤ 200 := by
  obtain ⟨I1, hI1⟩ : ∃ I1, I1 = cpn (am_u (am_u (am_u I 2 4 0) 3 0 4) 3 1 0) 4 36 (fun k => nI (f0 k)) := ⟨_, rfl⟩
  have e0 : am_sem 30 0 [.ref 2, d] [] (am_T L, I, J) = am_sem 30 8 [.ref 2, .int (nI 0)] [] (am_T L, I1, J) := by
    rw [q30_0, sem42]
    simp only [ob_s, tl_n, q30_6]
    rw [hI1]
    rfl
  have f1 : Fc I I1 := by
    rw [hI1]
    exact ⟨fun c hc => by rw [cpn_n (by omega), am_u_n _ _ _ (by omega), am_u_n _ _ _ (by omega), am_u_n _ _ _ (by omega)], fun j hj => by rw [cpn_n (by omega), am_u_k (by decide), am_u_k (by decide), am_u_j (by omega)]⟩
  have hd : cD d0 I1 := by
    rw [hI1]
    refine ⟨by rw [cpn_n (by decide), am_u_j (by decide), am_u_x]; rfl, by rw [cpn_n (by decide), am_u_x]; rfl, fun k hk => cpn_x hk, fun p hp => absurd hp (Nat.not_lt_zero _), fun p hp => absurd hp (Nat.not_lt_zero _), fun p hp => absurd hp (Nat.not_lt_zero _), fun p hp => absurd hp (Nat.not_lt_zero _)⟩
  have h4 : I1 2 4 = nI 0 := by rw [hI1, cpn_n (by decide), am_u_k (by decide), am_u_k (by decide), am_u_x]; rfl
  obtain ⟨I2, f2, h2⟩ := sem30l L J wx (x.1 + 1) 0 0 d0 I1 (by omega) (Nat.zero_le _) (Nat.le_refl _) (f1.x hx) h4 wD_0 (fun _ _ => rfl) hd
  rw [e0]
  exact ⟨I2, f1.t f2, h2⟩
end OPS
