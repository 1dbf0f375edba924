def am_good (mi : Nat) : Prop := ∀ (i : Nat) (e : am_E), (am_code mi)[i]? = some e → am_flow (am_code mi) i e = true ∧ am_wrd mi e = true ∧ am_rm mi e = true ∧ am_dec mi e = true
theorem am_g_ok : ∀ mi, mi < 179 → am_good mi := sorry
theorem am_y_ok : ∀ mi, mi < 179 → (mi = 0 ∨ am_yk mi = true) := sorry
