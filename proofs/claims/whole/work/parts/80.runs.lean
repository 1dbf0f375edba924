/-! ===== the little machine runs the law to its end: 1 ===== -/
def am_M0 (L : Nat) (xs : Nat → Int32) : am_M := ([(100, L, [])], fun a j => if a = 0 then xs j else 0, fun _ _ => 0)
theorem law_runs {L : Nat} (hL : L ≤ 320) (xs : Nat → Int32) : ∃ (f : Nat) (M' : am_M), am_run am_code am_meth f 0 0 [.ref 0, .null, .null, .null] [] (am_M0 L xs) = some (some (.int 1), M') ∧ M'.1.length ≤ 68 ∧ am_sz M' ≤ L + 4546 := by
  obtain ⟨I, J, hR, e⟩ := law_start L (fun a j => if a = 0 then xs j else 0) .null .null .null
  obtain ⟨I', J', e2⟩ := law_loop hL 400 0 a_0 I J (by omega) (by omega) hR
  have h : am_sem 0 0 [.ref 0, .null, .null, .null] [] (am_M0 L xs) = some (some (.int 1), (am_T L, I', J')) := e.trans e2
  obtain ⟨f, hf⟩ := am_sem_some h
  refine ⟨f, _, hf, Nat.le_of_ble_eq_true rfl, ?_⟩
  unfold am_sz am_T
  simp only [List.map_cons, List.map_nil, List.sum_cons, List.sum_nil]
  omega
