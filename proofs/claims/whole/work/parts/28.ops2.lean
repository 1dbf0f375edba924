/-! ===== ops: heard, person, sit ===== -/
def sitL (v : VT) (pl : Nat) : Nat → Nat → Nat → Nat
  | 0, _, b => b
  | k + 1, q, b => sitL v pl k (q + 1) (if far v pl q ≤ far v pl b then b else q)
theorem am_u_k {α : Type} {f : Nat → Nat → α} {k j a b : Nat} {v : α} (h : a ≠ k) : am_u f k j v a b = f a b := by simp [am_u, h]
theorem am_u_j {α : Type} {f : Nat → Nat → α} {k j a b : Nat} {v : α} (h : b ≠ j) : am_u f k j v a b = f a b := by simp [am_u, h]
theorem am_u_x {α : Type} {f : Nat → Nat → α} {k j : Nat} {v : α} : am_u f k j v k j = v := by simp [am_u]
section OPS
variable (L : Nat)
theorem op_heard (s pl o h : Int32) : Op L 58 131 [.ref 1, .int s, .int pl, .int o, .int h] [.ref 54, .int s, .int pl, .int o, .int h] := fun a I J hR => by
  obtain ⟨⟨wv, wl, wq, wx, wi, wj⟩, ⟨cv, cl, cq, cx, ci, cj⟩, ⟨mv, ml, mq, mx, mi, mj⟩, ht⟩ := id hR
  have h6 := wv.2.1
  have h8 := wl.1
  have c1 := sem81n L I J s (m := 40) 40 rfl (by decide)
  have c2 := sem44 L I J (show vP a.1 < 2 ^ 31 by omega) cv.1 pl
  have c3 := sem82 L I J o
  have c4 := sem81n L I J h (m := 1) 1 rfl (by decide)
  cases h1 : inr s 41
  · refine ⟨some (.int (-1)), I, J, I, J, a, ?_, ?_, hR⟩
    · simp only [q58_0, q58_3, q58_16, q58_4, q58_8, q58_9, q58_11, q58_12, q58_15, q58_18, q58_25, q58_23, q58_32, c1, ob_s, tl_s, bz_0, h1, if_true]
    · simp only [q131_0, q131_2, q131_15, q131_3, q131_6, q131_7, q131_9, q131_10, q131_14, q131_17, q131_23, q131_21, sem116, ob_s, tl_s, bz_0, h1, if_true]
  cases h2 : inr pl (vP a.1)
  · refine ⟨some (.int (-1)), I, J, I, J, a, ?_, ?_, hR⟩
    · simp only [q58_0, q58_3, q58_16, q58_4, q58_8, q58_9, q58_11, q58_12, q58_15, q58_18, q58_25, q58_23, q58_32, c1, c2, ob_s, tl_s, bz_0, h1, h2, if_true, Bool.true_eq_false, if_false]
    · simp only [q131_0, q131_2, q131_15, q131_3, q131_6, q131_7, q131_9, q131_10, q131_14, q131_17, q131_23, q131_21, sem116, sem113 L I J (show vP a.1 < 2 ^ 31 by omega) mv.1, ob_s, tl_s, bz_0, h1, h2, if_true, Bool.true_eq_false, if_false]
  cases h3 : inr o 8
  · refine ⟨some (.int (-1)), I, J, I, J, a, ?_, ?_, hR⟩
    · simp only [q58_0, q58_3, q58_16, q58_4, q58_8, q58_9, q58_11, q58_12, q58_15, q58_18, q58_25, q58_23, q58_32, c1, c2, c3, ob_s, tl_s, bz_0, h1, h2, h3, if_true, Bool.true_eq_false, if_false]
    · simp only [q131_0, q131_2, q131_15, q131_3, q131_6, q131_7, q131_9, q131_10, q131_14, q131_17, q131_23, q131_21, sem116, sem114, sem113 L I J (show vP a.1 < 2 ^ 31 by omega) mv.1, ob_s, tl_s, bz_0, h1, h2, h3, if_true, Bool.true_eq_false, if_false]
  have v4 := sem111n L I J h (m := 1) 1 rfl (by decide)
  cases h4 : inr h 2
  · refine ⟨some (.int (-1)), I, J, I, J, a, ?_, ?_, hR⟩
    · simp only [q58_0, q58_3, q58_16, q58_4, q58_8, q58_9, q58_11, q58_12, q58_15, q58_18, q58_25, q58_23, q58_32, c1, c2, c3, c4, ob_s, tl_s, bz_0, h1, h2, h3, h4, if_true, Bool.true_eq_false, if_false]
    · simp only [q131_0, q131_2, q131_15, q131_3, q131_6, q131_7, q131_9, q131_10, q131_14, q131_17, q131_23, q131_21, sem116, sem114, v4, sem113 L I J (show vP a.1 < 2 ^ 31 by omega) mv.1, ob_s, tl_s, bz_0, h1, h2, h3, h4, if_true, Bool.true_eq_false, if_false]
  by_cases hf : lN_ a.2.1 = 8
  · refine ⟨some (.int (-3)), I, J, I, J, a, ?_, ?_, hR⟩
    · simp only [q58_0, q58_3, q58_16, q58_4, q58_8, q58_9, q58_11, q58_12, q58_15, q58_18, q58_25, q58_23, q58_32, c1, c2, c3, c4, ob_s, tl_s, bz_0, h1, h2, h3, h4, if_true, Bool.true_eq_false, if_false, cl.1, hf]
      rw [if_neg (by decide)]
    · simp only [q131_0, q131_2, q131_15, q131_3, q131_6, q131_7, q131_9, q131_10, q131_14, q131_17, q131_23, q131_21, sem116, sem114, v4, sem113 L I J (show vP a.1 < 2 ^ 31 by omega) mv.1, ob_s, tl_s, bz_0, h1, h2, h3, h4, if_true, Bool.true_eq_false, if_false, ml.1, hf]
      rw [if_pos (by decide)]
  · obtain ⟨s, hs, rfl⟩ := inr_t h1 (by decide)
    obtain ⟨pl, hpl, rfl⟩ := inr_t h2 (by omega)
    obtain ⟨o, ho, rfl⟩ := inr_t h3 (by decide)
    obtain ⟨h, hh, rfl⟩ := inr_t h4 (by decide)
    obtain ⟨n, hn⟩ : ∃ n, n = lN_ a.2.1 := ⟨_, rfl⟩
    have hlt : n < 8 := by omega
    have el := cl.1
    have em := ml.1
    rw [← hn] at el em
    refine ⟨some (.int (nI (n + 1))), am_u (am_u (am_u (am_u (am_u I 17 n (nI s)) 18 n (nI pl)) 19 n (nI o)) 20 n (nI h)) 16 0 (nI (n + 1)), J, am_u (am_u (am_u (am_u (am_u (am_u (am_u (am_u (am_u (am_u I 17 n (nI s)) 18 n (nI pl)) 19 n (nI o)) 20 n (nI h)) 16 0 (nI (n + 1))) 57 (4 * n) (nI s)) 57 (4 * n + 1) (nI pl)) 57 (4 * n + 2) (nI o)) 57 (4 * n + 3) (nI h)) 54 4 (nI (n + 1)), J, _, ?_, ?_, hR.log (g := (n + 1, (fun i => if i = n then s else lS a.2.1 i), (fun i => if i = n then pl else lP a.2.1 i), (fun i => if i = n then o else lO a.2.1 i), (fun i => if i = n then h else lH a.2.1 i))) ⟨by show n + 1 ≤ 8; omega, fun i => ?_, fun i => ?_, fun i => ?_, fun i => ?_⟩ ⟨by simp [am_u]; rfl, fun i hi => ?_, fun i hi => ?_, fun i hi => ?_, fun i hi => ?_⟩ ⟨by simp [am_u]; rfl, fun i hi => ?_, fun i hi => ?_, fun i hi => ?_, fun i hi => ?_⟩ (fun k k1 k2 k3 => by rw [am_u_n _ _ _ k2, am_u_n _ _ _ k3, am_u_n _ _ _ k3, am_u_n _ _ _ k3, am_u_n _ _ _ k3, am_u_n _ _ _ (by omega), am_u_n _ _ _ (by omega), am_u_n _ _ _ (by omega), am_u_n _ _ _ (by omega), am_u_n _ _ _ (by omega)]) (fun j hj => by simp [am_u, hj])⟩
    · simp only [q58_0, q58_3, q58_16, q58_4, q58_8, q58_9, q58_11, q58_12, q58_15, q58_18, q58_25, q58_23, c1, c2, c3, c4, ob_s, tl_s, bz_0, h1, h2, h3, h4, if_true, Bool.true_eq_false, if_false, el]
      rw [if_pos (by rw [show (8 : Int32) = nI 8 from rfl, n_lt (by omega) (by decide)]; exact hlt)]
      simp only [q25_0, q25_37, q25_3, q25_7, el, n_neg (show n < 2 ^ 31 by omega), if_false, nc (show n < 2 ^ 31 by omega), nI_1, ob_s, tl_n, am_if_t (And.intro (n_in hlt (by decide)) (And.intro (n_in hlt (by decide)) (And.intro (n_in hlt (by decide)) (n_in hlt (by decide)))))]
      rw [if_neg (by rw [show (8 : Int32) = nI 8 from rfl, n_le (by decide) (by omega)]; omega)]
      simp only [ob_s, tl_n, q58_32]
      simp [am_u]
    · have e5 : ∀ j, am_u (am_u (am_u (am_u (am_u I 17 n (nI s)) 18 n (nI pl)) 19 n (nI o)) 20 n (nI h)) 16 0 (nI (n + 1)) 54 j = I 54 j := fun j => by simp [am_u]
      have v1 := fun I J => sem113 L I J (P := vP a.1) (by omega)
      have v4 := fun I J => sem111n L I J (nI h) (m := 1) 1 rfl (by decide)
      simp only [q131_0, q131_2, q131_15, q131_3, q131_6, q131_7, q131_9, q131_10, q131_14, q131_17, q131_21, sem116, sem114, v4, v1 (am_u (am_u (am_u (am_u (am_u I 17 n (nI s)) 18 n (nI pl)) 19 n (nI o)) 20 n (nI h)) 16 0 (nI (n + 1))) J ((e5 0).trans mv.1), ob_s, tl_s, bz_0, h1, h2, h3, h4, if_true, Bool.true_eq_false, if_false, e5, em]
      rw [if_neg (by rw [show (8 : Int32) = nI 8 from rfl, n_inj (by omega) (by decide)]; omega), q131_23]
      simp only [e5, em, m4, nI_1, p2, p3, nc (show 4 * n < 2 ^ 31 by omega), nc (show 4 * n + 1 < 2 ^ 31 by omega), nc (show 4 * n + 2 < 2 ^ 31 by omega), nc (show 4 * n + 3 < 2 ^ 31 by omega), am_if_t (And.intro (n_in (show 4 * n < 32 by omega) (by decide)) (And.intro (n_in (show 4 * n + 1 < 32 by omega) (by decide)) (And.intro (n_in (show 4 * n + 2 < 32 by omega) (by decide)) (n_in (show 4 * n + 3 < 32 by omega) (by decide)))))]
    · show (if i = n then s else _) ≤ 40
      split
      · omega
      · exact wl.2.1 i
    · show (if i = n then pl else _) < vP a.1
      split
      · exact hpl
      · exact wl.2.2.1 i
    · show (if i = n then o else _) < 8
      split
      · exact ho
      · exact wl.2.2.2.1 i
    · show (if i = n then h else _) ≤ 1
      split
      · omega
      · exact wl.2.2.2.2 i
    · have hi : i < n + 1 := hi
      show _ = nI (if i = n then s else lS a.2.1 i)
      by_cases e : i = n
      · simp [am_u, e]
      · simp [am_u, e]
        exact cl.2.1 i (by omega)
    · have hi : i < n + 1 := hi
      show _ = nI (if i = n then pl else lP a.2.1 i)
      by_cases e : i = n
      · simp [am_u, e]
      · simp [am_u, e]
        exact cl.2.2.1 i (by omega)
    · have hi : i < n + 1 := hi
      show _ = nI (if i = n then o else lO a.2.1 i)
      by_cases e : i = n
      · simp [am_u, e]
      · simp [am_u, e]
        exact cl.2.2.2.1 i (by omega)
    · have hi : i < n + 1 := hi
      show _ = nI (if i = n then h else lH a.2.1 i)
      by_cases e : i = n
      · simp [am_u, e]
      · simp [am_u, e]
        exact cl.2.2.2.2 i (by omega)
    · have hi : i < n + 1 := hi
      show _ = nI (if i = n then s else lS a.2.1 i)
      by_cases e : i = n
      · subst e
        simp [am_u]
      · rw [am_u_k (by decide), am_u_j (by omega), am_u_j (by omega), am_u_j (by omega), am_u_j (by omega), am_u_k (by decide), am_u_k (by decide), am_u_k (by decide), am_u_k (by decide), am_u_k (by decide), if_neg e]
        exact ml.2.1 i (by omega)
    · have hi : i < n + 1 := hi
      show _ = nI (if i = n then pl else lP a.2.1 i)
      by_cases e : i = n
      · subst e
        simp [am_u]
      · rw [am_u_k (by decide), am_u_j (by omega), am_u_j (by omega), am_u_j (by omega), am_u_j (by omega), am_u_k (by decide), am_u_k (by decide), am_u_k (by decide), am_u_k (by decide), am_u_k (by decide), if_neg e]
        exact ml.2.2.1 i (by omega)
    · have hi : i < n + 1 := hi
      show _ = nI (if i = n then o else lO a.2.1 i)
      by_cases e : i = n
      · subst e
        simp [am_u]
      · rw [am_u_k (by decide), am_u_j (by omega), am_u_j (by omega), am_u_j (by omega), am_u_j (by omega), am_u_k (by decide), am_u_k (by decide), am_u_k (by decide), am_u_k (by decide), am_u_k (by decide), if_neg e]
        exact ml.2.2.2.1 i (by omega)
    · have hi : i < n + 1 := hi
      show _ = nI (if i = n then h else lH a.2.1 i)
      by_cases e : i = n
      · subst e
        simp [am_u]
      · rw [am_u_k (by decide), am_u_j (by omega), am_u_j (by omega), am_u_j (by omega), am_u_j (by omega), am_u_k (by decide), am_u_k (by decide), am_u_k (by decide), am_u_k (by decide), am_u_k (by decide), if_neg e]
        exact ml.2.2.2.2 i (by omega)
end OPS
