def am_M0 (L : Nat) (xs : Nat → Int32) : am_M := ([(100, L, [])], fun a j => if a = 0 then xs j else 0, fun _ _ => 0)
theorem law_runs {L : Nat} (hL : L ≤ 320) (xs : Nat → Int32) : ∃ (f : Nat) (M' : am_M), am_run am_code am_meth f 0 0 [.ref 0, .null, .null, .null] [] (am_M0 L xs) = some (some (.int 1), M') ∧ M'.1.length ≤ 68 ∧ am_sz M' ≤ L + 4546 := sorry
