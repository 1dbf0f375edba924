/-! ===== Math.max, Math.min: what they come to ===== -/
theorem am_sem_ret1 {mi i : Nat} {ls st : List Value} {M : am_M} {E : am_E} (hE : (am_code mi)[i]? = some E) (hk : am_kind E.2.1 E.2.2.1 = 1) {v : Option Value} (h : am_rt E.2.1 (am_meth mi).2.2.2.2.1 st = some ([], v)) : am_sem mi i ls st M = some (v, M) := by
  rw [am_sem_rt hE hk h, am_if_t (p := am_all []) trivial]
/-- a method that begins with its two ints has two ints -/
theorem am_two_run {f n : Nat} {ls : List Value} {M M' : am_M} {v : Option Value} (h0 : (am_code n)[0]? = some (0, .iload_n 0, [], 0, 0)) (h1 : (am_code n)[1]? = some (1, .iload_n 1, [], 0, 0)) (h : am_run am_code am_meth f n 0 ls [] M = some (v, M')) : ∃ x y : Int32, ls[0]? = some (.int x) ∧ ls[1]? = some (.int y) := by
  match f, h with
  | 0, h => cases h
  | f + 1, h =>
    obtain ⟨E, hE, hc⟩ := am_run_i h
    rw [h0] at hE
    cases hE
    rcases hc with ⟨-, ps, i', ls', st', M1, e1, -, h2⟩ | ⟨hk, -⟩ | ⟨hk, -⟩
    · have e1 : am_ild 0 0 ls [] M = some (ps, i', ls', st', M1) := e1
      obtain ⟨x, hx, -, rfl, rfl, rfl, rfl⟩ := am_ild_i e1
      match f, h2 with
      | 0, h2 => cases h2
      | f + 1, h2 =>
        obtain ⟨E, hE, hc⟩ := am_run_i h2
        have h1 : (am_code n)[0 + 1]? = some (1, .iload_n 1, [], 0, 0) := h1
        rw [h1] at hE
        cases hE
        rcases hc with ⟨-, ps2, i2, ls2, st2, M2, e2, -, -⟩ | ⟨hk, -⟩ | ⟨hk, -⟩
        · obtain ⟨y, hy, -⟩ := am_ild_i (k := 1) e2
          exact ⟨x, y, hx, hy⟩
        · exact absurd hk (by decide)
        · exact absurd hk (by decide)
    · exact absurd hk (by decide)
    · exact absurd hk (by decide)
theorem am_two {as : List Value} (hna : as.length = 2) (hlen : (am_arg as).length ≤ 2) (h : ∃ x y : Int32, (am_ent as 2)[0]? = some (.int x) ∧ (am_ent as 2)[1]? = some (.int y)) : ∃ x y : Int32, as = [.int x, .int y] := by
  obtain ⟨x, y, hx, hy⟩ := h
  match as, hna with
  | [a, b], _ =>
    have hd : ∀ (c : Value) (r : List Value), ∃ t, am_arg (c :: r) = c :: t := fun c r => by
      unfold am_arg
      split
      · exact ⟨_, rfl⟩
      · exact ⟨_, rfl⟩
    obtain ⟨t, ht⟩ := hd a [b]
    have ha : a = .int x := by
      unfold am_ent at hx
      rw [ht] at hx
      exact Option.some.inj hx
    subst ha
    have e1 : am_arg [.int x, b] = .int x :: am_arg [b] := rfl
    obtain ⟨t2, ht2⟩ := hd b []
    have hb : b = .int y := by
      unfold am_ent at hy
      rw [e1, ht2] at hy
      exact Option.some.inj hy
    exact ⟨x, y, by rw [hb]⟩
theorem am_max {f : Nat} {as : List Value} {M M' : am_M} {v : Option Value} (h : am_run am_code am_meth f 177 0 (am_ent as (am_meth 177).2.2.2.1) [] M = some (v, M')) (hna : as.length = 2) (hlen : (am_arg as).length ≤ (am_meth 177).2.2.2.1) : ∃ x y : Int32, as = [.int x, .int y] ∧ v = some (.int (if x < y then y else x)) ∧ M' = M := by
  have e2 : (am_meth 177).2.2.2.1 = 2 := rfl
  rw [e2] at h hlen
  obtain ⟨x, y, rfl⟩ := am_two hna hlen (am_two_run (n := 177) rfl rfl h)
  refine ⟨x, y, rfl, ?_⟩
  have h0 : am_sem 177 0 [.int x, .int y] [] M = some (v, M') := am_sem_of h
  have e0 : am_sem 177 0 [.int x, .int y] [] M = if x < y then am_sem 177 5 [.int x, .int y] [] M else am_sem 177 3 [.int x, .int y] [] M := Eq.trans (b := am_sem 177 (bif decide (x < y) then 5 else 3) [.int x, .int y] [] M) (am_sem_g0 3 rfl) am_sem_bif
  have e5 : am_sem 177 5 [.int x, .int y] [] M = some (some (.int y), M) := Eq.trans (b := am_sem 177 6 [.int x, .int y] [.int y] M) (am_sem_g0 1 rfl) (am_sem_ret1 rfl rfl rfl)
  have e3 : am_sem 177 3 [.int x, .int y] [] M = some (some (.int x), M) := Eq.trans (b := am_sem 177 6 [.int x, .int y] [.int x] M) (am_sem_g0 2 rfl) (am_sem_ret1 rfl rfl rfl)
  rw [e0, e5, e3] at h0
  by_cases c : x < y
  · rw [if_pos c] at h0 ⊢
    cases h0
    exact ⟨rfl, rfl⟩
  · rw [if_neg c] at h0 ⊢
    cases h0
    exact ⟨rfl, rfl⟩
theorem am_min {f : Nat} {as : List Value} {M M' : am_M} {v : Option Value} (h : am_run am_code am_meth f 178 0 (am_ent as (am_meth 178).2.2.2.1) [] M = some (v, M')) (hna : as.length = 2) (hlen : (am_arg as).length ≤ (am_meth 178).2.2.2.1) : ∃ x y : Int32, as = [.int x, .int y] ∧ v = some (.int (if y < x then y else x)) ∧ M' = M := by
  have e2 : (am_meth 178).2.2.2.1 = 2 := rfl
  rw [e2] at h hlen
  obtain ⟨x, y, rfl⟩ := am_two hna hlen (am_two_run (n := 178) rfl rfl h)
  refine ⟨x, y, rfl, ?_⟩
  have h0 : am_sem 178 0 [.int x, .int y] [] M = some (v, M') := am_sem_of h
  have e0 : am_sem 178 0 [.int x, .int y] [] M = if y < x then am_sem 178 5 [.int x, .int y] [] M else am_sem 178 3 [.int x, .int y] [] M := Eq.trans (b := am_sem 178 (bif decide (y < x) then 5 else 3) [.int x, .int y] [] M) (am_sem_g0 3 rfl) am_sem_bif
  have e5 : am_sem 178 5 [.int x, .int y] [] M = some (some (.int y), M) := Eq.trans (b := am_sem 178 6 [.int x, .int y] [.int y] M) (am_sem_g0 1 rfl) (am_sem_ret1 rfl rfl rfl)
  have e3 : am_sem 178 3 [.int x, .int y] [] M = some (some (.int x), M) := Eq.trans (b := am_sem 178 6 [.int x, .int y] [.int x] M) (am_sem_g0 2 rfl) (am_sem_ret1 rfl rfl rfl)
  rw [e0, e5, e3] at h0
  by_cases c : y < x
  · rw [if_pos c] at h0 ⊢
    cases h0
    exact ⟨rfl, rfl⟩
  · rw [if_neg c] at h0 ⊢
    cases h0
    exact ⟨rfl, rfl⟩
