/-! ===== the law: a call by each ===== -/
theorem nk {L i : Nat} (hL : L ≤ 320) (hi : i + 5 ≤ L) : (nI i + 1 = nI (i + 1) ∧ nI i + 2 = nI (i + 2) ∧ nI i + 3 = nI (i + 3) ∧ nI i + 4 = nI (i + 4)) ∧ ((nI (i + 1)).toNatClampNeg = i + 1 ∧ (nI (i + 2)).toNatClampNeg = i + 2 ∧ (nI (i + 3)).toNatClampNeg = i + 3 ∧ (nI (i + 4)).toNatClampNeg = i + 4) ∧ (vp_in (nI (i + 1)) L ∧ vp_in (nI (i + 2)) L ∧ vp_in (nI (i + 3)) L ∧ vp_in (nI (i + 4)) L) :=
  ⟨⟨nI_1 i, nI_add i 2, nI_add i 3, nI_add i 4⟩, ⟨nc (by omega), nc (by omega), nc (by omega), nc (by omega)⟩, n_in (by omega) (by omega), n_in (by omega) (by omega), n_in (by omega) (by omega), n_in (by omega) (by omega)⟩
theorem law_type {L i : Nat} (hL : L ≤ 320) (hi : i + 5 ≤ L) {a : AT} {I : Nat → Nat → Int32} {J : Nat → Nat → Int64} (hR : Rl a I J) : ∃ (a2 : AT) (I2 : Nat → Nat → Int32) (J2 : Nat → Nat → Int64), Rl a2 I2 J2 ∧ am_sem 0 22 [.ref 0, .ref 1, .ref 54, .int (nI i)] [] (am_T L, I, J) = am_sem 0 619 [.ref 0, .ref 1, .ref 54, .int (nI i)] [] (am_T L, I2, J2) := by
  obtain ⟨r, I1, J1, I2, J2, a2, h1, h2, h3⟩ := op_type L (I 0 (i + 1))  a I J hR
  obtain ⟨x, rfl⟩ := am_int rfl h1
  have hs := am_keep h1
  obtain ⟨⟨e1, e2, e3, e4⟩, ⟨c1, c2, c3, c4⟩, v1, v2, v3, v4⟩ := nk hL hi
  refine ⟨a2, I2, J2, h3, ?_⟩
  rw [qL_22]
  simp only [e1, c1]
  rw [am_if_t v1, h1]
  simp only [ob_s, tl_s]
  rw [qL_29]
  simp only [e1, c1, hs]
  rw [am_if_t v1, h2]
  simp only [ob_s, tl_s]
  rw [qL_36, if_pos rfl]
theorem law_clear {L i : Nat} (hL : L ≤ 320) (hi : i + 5 ≤ L) {a : AT} {I : Nat → Nat → Int32} {J : Nat → Nat → Int64} (hR : Rl a I J) : ∃ (a2 : AT) (I2 : Nat → Nat → Int32) (J2 : Nat → Nat → Int64), Rl a2 I2 J2 ∧ am_sem 0 39 [.ref 0, .ref 1, .ref 54, .int (nI i)] [] (am_T L, I, J) = am_sem 0 619 [.ref 0, .ref 1, .ref 54, .int (nI i)] [] (am_T L, I2, J2) := by
  obtain ⟨r, I1, J1, I2, J2, a2, h1, h2, h3⟩ := op_clear L  .null .null a I J hR
  obtain ⟨x, rfl⟩ := am_int rfl h1
  refine ⟨a2, I2, J2, h3, ?_⟩
  rw [qL_39, h1]
  simp only [ob_s, tl_s]
  rw [qL_41, h2]
  simp only [ob_s, tl_s]
  rw [qL_43, if_pos rfl]
theorem law_valley {L i : Nat} (hL : L ≤ 320) (hi : i + 5 ≤ L) {a : AT} {I : Nat → Nat → Int32} {J : Nat → Nat → Int64} (hR : Rl a I J) : ∃ (a2 : AT) (I2 : Nat → Nat → Int32) (J2 : Nat → Nat → Int64), Rl a2 I2 J2 ∧ am_sem 0 46 [.ref 0, .ref 1, .ref 54, .int (nI i)] [] (am_T L, I, J) = am_sem 0 619 [.ref 0, .ref 1, .ref 54, .int (nI i)] [] (am_T L, I2, J2) := by
  obtain ⟨r, I1, J1, I2, J2, a2, h1, h2, h3⟩ := op_valley L  .null .null .null a I J hR
  obtain ⟨x, rfl⟩ := am_int rfl h1
  refine ⟨a2, I2, J2, h3, ?_⟩
  rw [qL_46, h1]
  simp only [ob_s, tl_s]
  rw [qL_48, h2]
  simp only [ob_s, tl_s]
  rw [qL_50, if_pos rfl]
theorem law_far {L i : Nat} (hL : L ≤ 320) (hi : i + 5 ≤ L) {a : AT} {I : Nat → Nat → Int32} {J : Nat → Nat → Int64} (hR : Rl a I J) : ∃ (a2 : AT) (I2 : Nat → Nat → Int32) (J2 : Nat → Nat → Int64), Rl a2 I2 J2 ∧ am_sem 0 53 [.ref 0, .ref 1, .ref 54, .int (nI i)] [] (am_T L, I, J) = am_sem 0 619 [.ref 0, .ref 1, .ref 54, .int (nI i)] [] (am_T L, I2, J2) := by
  obtain ⟨r, I1, J1, I2, J2, a2, h1, h2, h3⟩ := op_far L (I 0 (i + 1)) (I 0 (i + 2))  a I J hR
  obtain ⟨x, rfl⟩ := am_int rfl h1
  have hs := am_keep h1
  obtain ⟨⟨e1, e2, e3, e4⟩, ⟨c1, c2, c3, c4⟩, v1, v2, v3, v4⟩ := nk hL hi
  refine ⟨a2, I2, J2, h3, ?_⟩
  rw [qL_53]
  simp only [e1, e2, c1, c2]
  rw [am_if_t ⟨v1, v2⟩, h1]
  simp only [ob_s, tl_s]
  rw [qL_65]
  simp only [e1, e2, c1, c2, hs]
  rw [am_if_t ⟨v1, v2⟩, h2]
  simp only [ob_s, tl_s]
  rw [qL_77, if_pos rfl]
theorem law_person {L i : Nat} (hL : L ≤ 320) (hi : i + 5 ≤ L) {a : AT} {I : Nat → Nat → Int32} {J : Nat → Nat → Int64} (hR : Rl a I J) : ∃ (a2 : AT) (I2 : Nat → Nat → Int32) (J2 : Nat → Nat → Int64), Rl a2 I2 J2 ∧ am_sem 0 80 [.ref 0, .ref 1, .ref 54, .int (nI i)] [] (am_T L, I, J) = am_sem 0 619 [.ref 0, .ref 1, .ref 54, .int (nI i)] [] (am_T L, I2, J2) := by
  obtain ⟨r, I1, J1, I2, J2, a2, h1, h2, h3⟩ := op_person L (I 0 (i + 1)) (I 0 (i + 2))  a I J hR
  obtain ⟨x, rfl⟩ := am_int rfl h1
  have hs := am_keep h1
  obtain ⟨⟨e1, e2, e3, e4⟩, ⟨c1, c2, c3, c4⟩, v1, v2, v3, v4⟩ := nk hL hi
  refine ⟨a2, I2, J2, h3, ?_⟩
  rw [qL_80]
  simp only [e1, e2, c1, c2]
  rw [am_if_t ⟨v1, v2⟩, h1]
  simp only [ob_s, tl_s]
  rw [qL_92]
  simp only [e1, e2, c1, c2, hs]
  rw [am_if_t ⟨v1, v2⟩, h2]
  simp only [ob_s, tl_s]
  rw [qL_104, if_pos rfl]
theorem law_heard {L i : Nat} (hL : L ≤ 320) (hi : i + 5 ≤ L) {a : AT} {I : Nat → Nat → Int32} {J : Nat → Nat → Int64} (hR : Rl a I J) : ∃ (a2 : AT) (I2 : Nat → Nat → Int32) (J2 : Nat → Nat → Int64), Rl a2 I2 J2 ∧ am_sem 0 107 [.ref 0, .ref 1, .ref 54, .int (nI i)] [] (am_T L, I, J) = am_sem 0 619 [.ref 0, .ref 1, .ref 54, .int (nI i)] [] (am_T L, I2, J2) := by
  obtain ⟨r, I1, J1, I2, J2, a2, h1, h2, h3⟩ := op_heard L (I 0 (i + 1)) (I 0 (i + 2)) (I 0 (i + 3)) (I 0 (i + 4))  a I J hR
  obtain ⟨x, rfl⟩ := am_int rfl h1
  have hs := am_keep h1
  obtain ⟨⟨e1, e2, e3, e4⟩, ⟨c1, c2, c3, c4⟩, v1, v2, v3, v4⟩ := nk hL hi
  refine ⟨a2, I2, J2, h3, ?_⟩
  rw [qL_107]
  simp only [e1, e2, e3, e4, c1, c2, c3, c4]
  rw [am_if_t ⟨v1, v2, v3, v4⟩, h1]
  simp only [ob_s, tl_s]
  rw [qL_129]
  simp only [e1, e2, e3, e4, c1, c2, c3, c4, hs]
  rw [am_if_t ⟨v1, v2, v3, v4⟩, h2]
  simp only [ob_s, tl_s]
  rw [qL_151, if_pos rfl]
theorem law_forget {L i : Nat} (hL : L ≤ 320) (hi : i + 5 ≤ L) {a : AT} {I : Nat → Nat → Int32} {J : Nat → Nat → Int64} (hR : Rl a I J) : ∃ (a2 : AT) (I2 : Nat → Nat → Int32) (J2 : Nat → Nat → Int64), Rl a2 I2 J2 ∧ am_sem 0 154 [.ref 0, .ref 1, .ref 54, .int (nI i)] [] (am_T L, I, J) = am_sem 0 619 [.ref 0, .ref 1, .ref 54, .int (nI i)] [] (am_T L, I2, J2) := by
  obtain ⟨r, I1, J1, I2, J2, a2, h1, h2, h3⟩ := op_forget L  .null .null a I J hR
  obtain ⟨x, rfl⟩ := am_int rfl h1
  refine ⟨a2, I2, J2, h3, ?_⟩
  rw [qL_154, h1]
  simp only [ob_s, tl_s]
  rw [qL_156, h2]
  simp only [ob_s, tl_s]
  rw [qL_158, if_pos rfl]
theorem law_who {L i : Nat} (hL : L ≤ 320) (hi : i + 5 ≤ L) {a : AT} {I : Nat → Nat → Int32} {J : Nat → Nat → Int64} (hR : Rl a I J) : ∃ (a2 : AT) (I2 : Nat → Nat → Int32) (J2 : Nat → Nat → Int64), Rl a2 I2 J2 ∧ am_sem 0 161 [.ref 0, .ref 1, .ref 54, .int (nI i)] [] (am_T L, I, J) = am_sem 0 619 [.ref 0, .ref 1, .ref 54, .int (nI i)] [] (am_T L, I2, J2) := by
  obtain ⟨r, I1, J1, I2, J2, a2, h1, h2, h3⟩ := op_who L (I 0 (i + 1))  a I J hR
  obtain ⟨x, rfl⟩ := am_int rfl h1
  have hs := am_keep h1
  obtain ⟨⟨e1, e2, e3, e4⟩, ⟨c1, c2, c3, c4⟩, v1, v2, v3, v4⟩ := nk hL hi
  refine ⟨a2, I2, J2, h3, ?_⟩
  rw [qL_161]
  simp only [e1, c1]
  rw [am_if_t v1, h1]
  simp only [ob_s, tl_s]
  rw [qL_168]
  simp only [e1, c1, hs]
  rw [am_if_t v1, h2]
  simp only [ob_s, tl_s]
  rw [qL_175, if_pos rfl]
theorem law_nobody {L i : Nat} (hL : L ≤ 320) (hi : i + 5 ≤ L) {a : AT} {I : Nat → Nat → Int32} {J : Nat → Nat → Int64} (hR : Rl a I J) : ∃ (a2 : AT) (I2 : Nat → Nat → Int32) (J2 : Nat → Nat → Int64), Rl a2 I2 J2 ∧ am_sem 0 178 [.ref 0, .ref 1, .ref 54, .int (nI i)] [] (am_T L, I, J) = am_sem 0 619 [.ref 0, .ref 1, .ref 54, .int (nI i)] [] (am_T L, I2, J2) := by
  obtain ⟨r, I1, J1, I2, J2, a2, h1, h2, h3⟩ := op_nobody L  .null .null .null a I J hR
  obtain ⟨x, rfl⟩ := am_int rfl h1
  refine ⟨a2, I2, J2, h3, ?_⟩
  rw [qL_178, h1]
  simp only [ob_s, tl_s]
  rw [qL_180, h2]
  simp only [ob_s, tl_s]
  rw [qL_182, if_pos rfl]
theorem law_deeds {L i : Nat} (hL : L ≤ 320) (hi : i + 5 ≤ L) {a : AT} {I : Nat → Nat → Int32} {J : Nat → Nat → Int64} (hR : Rl a I J) : ∃ (a2 : AT) (I2 : Nat → Nat → Int32) (J2 : Nat → Nat → Int64), Rl a2 I2 J2 ∧ am_sem 0 185 [.ref 0, .ref 1, .ref 54, .int (nI i)] [] (am_T L, I, J) = am_sem 0 619 [.ref 0, .ref 1, .ref 54, .int (nI i)] [] (am_T L, I2, J2) := by
  obtain ⟨r, I1, J1, I2, J2, a2, h1, h2, h3⟩ := op_deeds L (I 0 (i + 1)) .null .null a I J hR
  obtain ⟨x, rfl⟩ := am_int rfl h1
  have hs := am_keep h1
  obtain ⟨⟨e1, e2, e3, e4⟩, ⟨c1, c2, c3, c4⟩, v1, v2, v3, v4⟩ := nk hL hi
  refine ⟨a2, I2, J2, h3, ?_⟩
  rw [qL_185]
  simp only [e1, c1]
  rw [am_if_t v1, h1]
  simp only [ob_s, tl_s]
  rw [qL_192]
  simp only [e1, c1, hs]
  rw [am_if_t v1, h2]
  simp only [ob_s, tl_s]
  rw [qL_199, if_pos rfl]
theorem law_first {L i : Nat} (hL : L ≤ 320) (hi : i + 5 ≤ L) {a : AT} {I : Nat → Nat → Int32} {J : Nat → Nat → Int64} (hR : Rl a I J) : ∃ (a2 : AT) (I2 : Nat → Nat → Int32) (J2 : Nat → Nat → Int64), Rl a2 I2 J2 ∧ am_sem 0 202 [.ref 0, .ref 1, .ref 54, .int (nI i)] [] (am_T L, I, J) = am_sem 0 619 [.ref 0, .ref 1, .ref 54, .int (nI i)] [] (am_T L, I2, J2) := by
  obtain ⟨r, I1, J1, I2, J2, a2, h1, h2, h3⟩ := op_first L (I 0 (i + 1)) .null .null .null .null a I J hR
  obtain ⟨x, rfl⟩ := am_int rfl h1
  have hs := am_keep h1
  obtain ⟨⟨e1, e2, e3, e4⟩, ⟨c1, c2, c3, c4⟩, v1, v2, v3, v4⟩ := nk hL hi
  refine ⟨a2, I2, J2, h3, ?_⟩
  rw [qL_202]
  simp only [e1, c1]
  rw [am_if_t v1, h1]
  simp only [ob_s, tl_s]
  rw [qL_209]
  simp only [e1, c1, hs]
  rw [am_if_t v1, h2]
  simp only [ob_s, tl_s]
  rw [qL_216, if_pos rfl]
theorem law_odds {L i : Nat} (hL : L ≤ 320) (hi : i + 5 ≤ L) {a : AT} {I : Nat → Nat → Int32} {J : Nat → Nat → Int64} (hR : Rl a I J) : ∃ (a2 : AT) (I2 : Nat → Nat → Int32) (J2 : Nat → Nat → Int64), Rl a2 I2 J2 ∧ am_sem 0 219 [.ref 0, .ref 1, .ref 54, .int (nI i)] [] (am_T L, I, J) = am_sem 0 619 [.ref 0, .ref 1, .ref 54, .int (nI i)] [] (am_T L, I2, J2) := by
  obtain ⟨r, I1, J1, I2, J2, a2, h1, h2, h3⟩ := op_odds L (I 0 (i + 1)) (I 0 (i + 2)) (I 0 (i + 3)) .null .null .null .null .null .null .null .null .null .null .null a I J hR
  obtain ⟨x, rfl⟩ := am_int rfl h1
  have hs := am_keep h1
  obtain ⟨⟨e1, e2, e3, e4⟩, ⟨c1, c2, c3, c4⟩, v1, v2, v3, v4⟩ := nk hL hi
  refine ⟨a2, I2, J2, h3, ?_⟩
  rw [qL_219]
  simp only [e1, e2, e3, c1, c2, c3]
  rw [am_if_t ⟨v1, v2, v3⟩, h1]
  simp only [ob_s, tl_s]
  rw [qL_236]
  simp only [e1, e2, e3, c1, c2, c3, hs]
  rw [am_if_t ⟨v1, v2, v3⟩, h2]
  simp only [ob_s, tl_s]
  rw [qL_253, if_pos rfl]
theorem law_second {L i : Nat} (hL : L ≤ 320) (hi : i + 5 ≤ L) {a : AT} {I : Nat → Nat → Int32} {J : Nat → Nat → Int64} (hR : Rl a I J) : ∃ (a2 : AT) (I2 : Nat → Nat → Int32) (J2 : Nat → Nat → Int64), Rl a2 I2 J2 ∧ am_sem 0 256 [.ref 0, .ref 1, .ref 54, .int (nI i)] [] (am_T L, I, J) = am_sem 0 619 [.ref 0, .ref 1, .ref 54, .int (nI i)] [] (am_T L, I2, J2) := by
  obtain ⟨r, I1, J1, I2, J2, a2, h1, h2, h3⟩ := op_second L   a I J hR
  obtain ⟨x, rfl⟩ := am_int rfl h1
  refine ⟨a2, I2, J2, h3, ?_⟩
  rw [qL_256, h1]
  simp only [ob_s, tl_s]
  rw [qL_258, h2]
  simp only [ob_s, tl_s]
  rw [qL_260, if_pos rfl]
theorem law_makes {L i : Nat} (hL : L ≤ 320) (hi : i + 5 ≤ L) {a : AT} {I : Nat → Nat → Int32} {J : Nat → Nat → Int64} (hR : Rl a I J) : ∃ (a2 : AT) (I2 : Nat → Nat → Int32) (J2 : Nat → Nat → Int64), Rl a2 I2 J2 ∧ am_sem 0 263 [.ref 0, .ref 1, .ref 54, .int (nI i)] [] (am_T L, I, J) = am_sem 0 619 [.ref 0, .ref 1, .ref 54, .int (nI i)] [] (am_T L, I2, J2) := by
  obtain ⟨r, I1, J1, I2, J2, a2, h1, h2, h3⟩ := op_makes L (I 0 (i + 1)) (I 0 (i + 2)) .null a I J hR
  obtain ⟨x, rfl⟩ := am_int rfl h1
  have hs := am_keep h1
  obtain ⟨⟨e1, e2, e3, e4⟩, ⟨c1, c2, c3, c4⟩, v1, v2, v3, v4⟩ := nk hL hi
  refine ⟨a2, I2, J2, h3, ?_⟩
  rw [qL_263]
  simp only [e1, e2, c1, c2]
  rw [am_if_t ⟨v1, v2⟩, h1]
  simp only [ob_s, tl_s]
  rw [qL_275]
  simp only [e1, e2, c1, c2, hs]
  rw [am_if_t ⟨v1, v2⟩, h2]
  simp only [ob_s, tl_s]
  rw [qL_287, if_pos rfl]
theorem law_moves {L i : Nat} (hL : L ≤ 320) (hi : i + 5 ≤ L) {a : AT} {I : Nat → Nat → Int32} {J : Nat → Nat → Int64} (hR : Rl a I J) : ∃ (a2 : AT) (I2 : Nat → Nat → Int32) (J2 : Nat → Nat → Int64), Rl a2 I2 J2 ∧ am_sem 0 290 [.ref 0, .ref 1, .ref 54, .int (nI i)] [] (am_T L, I, J) = am_sem 0 619 [.ref 0, .ref 1, .ref 54, .int (nI i)] [] (am_T L, I2, J2) := by
  obtain ⟨r, I1, J1, I2, J2, a2, h1, h2, h3⟩ := op_moves L (I 0 (i + 1)) (I 0 (i + 2)) .null .null a I J hR
  obtain ⟨x, rfl⟩ := am_int rfl h1
  have hs := am_keep h1
  obtain ⟨⟨e1, e2, e3, e4⟩, ⟨c1, c2, c3, c4⟩, v1, v2, v3, v4⟩ := nk hL hi
  refine ⟨a2, I2, J2, h3, ?_⟩
  rw [qL_290]
  simp only [e1, e2, c1, c2]
  rw [am_if_t ⟨v1, v2⟩, h1]
  simp only [ob_s, tl_s]
  rw [qL_302]
  simp only [e1, e2, c1, c2, hs]
  rw [am_if_t ⟨v1, v2⟩, h2]
  simp only [ob_s, tl_s]
  rw [qL_314, if_pos rfl]
theorem law_undo {L i : Nat} (hL : L ≤ 320) (hi : i + 5 ≤ L) {a : AT} {I : Nat → Nat → Int32} {J : Nat → Nat → Int64} (hR : Rl a I J) : ∃ (a2 : AT) (I2 : Nat → Nat → Int32) (J2 : Nat → Nat → Int64), Rl a2 I2 J2 ∧ am_sem 0 317 [.ref 0, .ref 1, .ref 54, .int (nI i)] [] (am_T L, I, J) = am_sem 0 619 [.ref 0, .ref 1, .ref 54, .int (nI i)] [] (am_T L, I2, J2) := by
  obtain ⟨r, I1, J1, I2, J2, a2, h1, h2, h3⟩ := op_undo L  .null a I J hR
  obtain ⟨x, rfl⟩ := am_int rfl h1
  refine ⟨a2, I2, J2, h3, ?_⟩
  rw [qL_317, h1]
  simp only [ob_s, tl_s]
  rw [qL_319, h2]
  simp only [ob_s, tl_s]
  rw [qL_321, if_pos rfl]
theorem law_done {L i : Nat} (hL : L ≤ 320) (hi : i + 5 ≤ L) {a : AT} {I : Nat → Nat → Int32} {J : Nat → Nat → Int64} (hR : Rl a I J) : ∃ (a2 : AT) (I2 : Nat → Nat → Int32) (J2 : Nat → Nat → Int64), Rl a2 I2 J2 ∧ am_sem 0 324 [.ref 0, .ref 1, .ref 54, .int (nI i)] [] (am_T L, I, J) = am_sem 0 619 [.ref 0, .ref 1, .ref 54, .int (nI i)] [] (am_T L, I2, J2) := by
  obtain ⟨r, I1, J1, I2, J2, a2, h1, h2, h3⟩ := op_done L (I 0 (i + 1)) (I 0 (i + 2))  a I J hR
  obtain ⟨x, rfl⟩ := am_int rfl h1
  have hs := am_keep h1
  obtain ⟨⟨e1, e2, e3, e4⟩, ⟨c1, c2, c3, c4⟩, v1, v2, v3, v4⟩ := nk hL hi
  refine ⟨a2, I2, J2, h3, ?_⟩
  rw [qL_324]
  simp only [e1, e2, c1, c2]
  rw [am_if_t ⟨v1, v2⟩, h1]
  simp only [ob_s, tl_s]
  rw [qL_336]
  simp only [e1, e2, c1, c2, hs]
  rw [am_if_t ⟨v1, v2⟩, h2]
  simp only [ob_s, tl_s]
  rw [qL_348, if_pos rfl]
theorem law_now {L i : Nat} (hL : L ≤ 320) (hi : i + 5 ≤ L) {a : AT} {I : Nat → Nat → Int32} {J : Nat → Nat → Int64} (hR : Rl a I J) : ∃ (a2 : AT) (I2 : Nat → Nat → Int32) (J2 : Nat → Nat → Int64), Rl a2 I2 J2 ∧ am_sem 0 351 [.ref 0, .ref 1, .ref 54, .int (nI i)] [] (am_T L, I, J) = am_sem 0 619 [.ref 0, .ref 1, .ref 54, .int (nI i)] [] (am_T L, I2, J2) := by
  obtain ⟨r, I1, J1, I2, J2, a2, h1, h2, h3⟩ := op_now L (I 0 (i + 1))  a I J hR
  obtain ⟨x, rfl⟩ := am_int rfl h1
  have hs := am_keep h1
  obtain ⟨⟨e1, e2, e3, e4⟩, ⟨c1, c2, c3, c4⟩, v1, v2, v3, v4⟩ := nk hL hi
  refine ⟨a2, I2, J2, h3, ?_⟩
  rw [qL_351]
  simp only [e1, c1]
  rw [am_if_t v1, h1]
  simp only [ob_s, tl_s]
  rw [qL_358]
  simp only [e1, c1, hs]
  rw [am_if_t v1, h2]
  simp only [ob_s, tl_s]
  rw [qL_365, if_pos rfl]
theorem law_sit {L i : Nat} (hL : L ≤ 320) (hi : i + 5 ≤ L) {a : AT} {I : Nat → Nat → Int32} {J : Nat → Nat → Int64} (hR : Rl a I J) : ∃ (a2 : AT) (I2 : Nat → Nat → Int32) (J2 : Nat → Nat → Int64), Rl a2 I2 J2 ∧ am_sem 0 368 [.ref 0, .ref 1, .ref 54, .int (nI i)] [] (am_T L, I, J) = am_sem 0 619 [.ref 0, .ref 1, .ref 54, .int (nI i)] [] (am_T L, I2, J2) := by
  obtain ⟨r, I1, J1, I2, J2, a2, h1, h2, h3⟩ := op_sit L (I 0 (i + 1)) .null .null .null .null a I J hR
  obtain ⟨x, rfl⟩ := am_int rfl h1
  have hs := am_keep h1
  obtain ⟨⟨e1, e2, e3, e4⟩, ⟨c1, c2, c3, c4⟩, v1, v2, v3, v4⟩ := nk hL hi
  refine ⟨a2, I2, J2, h3, ?_⟩
  rw [qL_368]
  simp only [e1, c1]
  rw [am_if_t v1, h1]
  simp only [ob_s, tl_s]
  rw [qL_375]
  simp only [e1, c1, hs]
  rw [am_if_t v1, h2]
  simp only [ob_s, tl_s]
  rw [qL_382, if_pos rfl]
theorem law_begin {L i : Nat} (hL : L ≤ 320) (hi : i + 5 ≤ L) {a : AT} {I : Nat → Nat → Int32} {J : Nat → Nat → Int64} (hR : Rl a I J) : ∃ (a2 : AT) (I2 : Nat → Nat → Int32) (J2 : Nat → Nat → Int64), Rl a2 I2 J2 ∧ am_sem 0 385 [.ref 0, .ref 1, .ref 54, .int (nI i)] [] (am_T L, I, J) = am_sem 0 619 [.ref 0, .ref 1, .ref 54, .int (nI i)] [] (am_T L, I2, J2) := by
  obtain ⟨r, I1, J1, I2, J2, a2, h1, h2, h3⟩ := op_begin L (I 0 (i + 1)) (I 0 (i + 2)) (I 0 (i + 3)) (I 0 (i + 4))  a I J hR
  obtain ⟨x, rfl⟩ := am_int rfl h1
  have hs := am_keep h1
  obtain ⟨⟨e1, e2, e3, e4⟩, ⟨c1, c2, c3, c4⟩, v1, v2, v3, v4⟩ := nk hL hi
  refine ⟨a2, I2, J2, h3, ?_⟩
  rw [qL_385]
  simp only [e1, e2, e3, e4, c1, c2, c3, c4]
  rw [am_if_t ⟨v1, v2, v3, v4⟩, h1]
  simp only [ob_s, tl_s]
  rw [qL_407]
  simp only [e1, e2, e3, e4, c1, c2, c3, c4, hs]
  rw [am_if_t ⟨v1, v2, v3, v4⟩, h2]
  simp only [ob_s, tl_s]
  rw [qL_429, if_pos rfl]
theorem law_together {L i : Nat} (hL : L ≤ 320) (hi : i + 5 ≤ L) {a : AT} {I : Nat → Nat → Int32} {J : Nat → Nat → Int64} (hR : Rl a I J) : ∃ (a2 : AT) (I2 : Nat → Nat → Int32) (J2 : Nat → Nat → Int64), Rl a2 I2 J2 ∧ am_sem 0 432 [.ref 0, .ref 1, .ref 54, .int (nI i)] [] (am_T L, I, J) = am_sem 0 619 [.ref 0, .ref 1, .ref 54, .int (nI i)] [] (am_T L, I2, J2) := by
  obtain ⟨r, I1, J1, I2, J2, a2, h1, h2, h3⟩ := op_together L (I 0 (i + 1)) (I 0 (i + 2)) (I 0 (i + 3)) .null .null .null .null .null a I J hR
  obtain ⟨x, rfl⟩ := am_int rfl h1
  have hs := am_keep h1
  obtain ⟨⟨e1, e2, e3, e4⟩, ⟨c1, c2, c3, c4⟩, v1, v2, v3, v4⟩ := nk hL hi
  refine ⟨a2, I2, J2, h3, ?_⟩
  rw [qL_432]
  simp only [e1, e2, e3, c1, c2, c3]
  rw [am_if_t ⟨v1, v2, v3⟩, h1]
  simp only [ob_s, tl_s]
  rw [qL_449]
  simp only [e1, e2, e3, c1, c2, c3, hs]
  rw [am_if_t ⟨v1, v2, v3⟩, h2]
  simp only [ob_s, tl_s]
  rw [qL_466, if_pos rfl]
theorem law_played {L i : Nat} (hL : L ≤ 320) (hi : i + 5 ≤ L) {a : AT} {I : Nat → Nat → Int32} {J : Nat → Nat → Int64} (hR : Rl a I J) : ∃ (a2 : AT) (I2 : Nat → Nat → Int32) (J2 : Nat → Nat → Int64), Rl a2 I2 J2 ∧ am_sem 0 469 [.ref 0, .ref 1, .ref 54, .int (nI i)] [] (am_T L, I, J) = am_sem 0 619 [.ref 0, .ref 1, .ref 54, .int (nI i)] [] (am_T L, I2, J2) := by
  obtain ⟨r, I1, J1, I2, J2, a2, h1, h2, h3⟩ := op_played L (I 0 (i + 1)) (I 0 (i + 2)) (I 0 (i + 3)) .null .null .null .null .null .null .null .null .null a I J hR
  obtain ⟨x, rfl⟩ := am_int rfl h1
  have hs := am_keep h1
  obtain ⟨⟨e1, e2, e3, e4⟩, ⟨c1, c2, c3, c4⟩, v1, v2, v3, v4⟩ := nk hL hi
  refine ⟨a2, I2, J2, h3, ?_⟩
  rw [qL_469]
  simp only [e1, e2, e3, c1, c2, c3]
  rw [am_if_t ⟨v1, v2, v3⟩, h1]
  simp only [ob_s, tl_s]
  rw [qL_486]
  simp only [e1, e2, e3, c1, c2, c3, hs]
  rw [am_if_t ⟨v1, v2, v3⟩, h2]
  simp only [ob_s, tl_s]
  rw [qL_503, if_pos rfl]
theorem law_sure {L i : Nat} (hL : L ≤ 320) (hi : i + 5 ≤ L) {a : AT} {I : Nat → Nat → Int32} {J : Nat → Nat → Int64} (hR : Rl a I J) : ∃ (a2 : AT) (I2 : Nat → Nat → Int32) (J2 : Nat → Nat → Int64), Rl a2 I2 J2 ∧ am_sem 0 506 [.ref 0, .ref 1, .ref 54, .int (nI i)] [] (am_T L, I, J) = am_sem 0 619 [.ref 0, .ref 1, .ref 54, .int (nI i)] [] (am_T L, I2, J2) := by
  obtain ⟨r, I1, J1, I2, J2, a2, h1, h2, h3⟩ := op_sure L (I 0 (i + 1)) (I 0 (i + 2)) .null .null .null .null .null .null .null a I J hR
  obtain ⟨x, rfl⟩ := am_int rfl h1
  have hs := am_keep h1
  obtain ⟨⟨e1, e2, e3, e4⟩, ⟨c1, c2, c3, c4⟩, v1, v2, v3, v4⟩ := nk hL hi
  refine ⟨a2, I2, J2, h3, ?_⟩
  rw [qL_506]
  simp only [e1, e2, c1, c2]
  rw [am_if_t ⟨v1, v2⟩, h1]
  simp only [ob_s, tl_s]
  rw [qL_518]
  simp only [e1, e2, c1, c2, hs]
  rw [am_if_t ⟨v1, v2⟩, h2]
  simp only [ob_s, tl_s]
  rw [qL_530, if_pos rfl]
theorem law_mark {L i : Nat} (hL : L ≤ 320) (hi : i + 5 ≤ L) {a : AT} {I : Nat → Nat → Int32} {J : Nat → Nat → Int64} (hR : Rl a I J) : ∃ (a2 : AT) (I2 : Nat → Nat → Int32) (J2 : Nat → Nat → Int64), Rl a2 I2 J2 ∧ am_sem 0 533 [.ref 0, .ref 1, .ref 54, .int (nI i)] [] (am_T L, I, J) = am_sem 0 619 [.ref 0, .ref 1, .ref 54, .int (nI i)] [] (am_T L, I2, J2) := by
  obtain ⟨r, I1, J1, I2, J2, a2, h1, h2, h3⟩ := op_mark L (I 0 (i + 1)) (I 0 (i + 2))  a I J hR
  obtain ⟨x, rfl⟩ := am_int rfl h1
  have hs := am_keep h1
  obtain ⟨⟨e1, e2, e3, e4⟩, ⟨c1, c2, c3, c4⟩, v1, v2, v3, v4⟩ := nk hL hi
  refine ⟨a2, I2, J2, h3, ?_⟩
  rw [qL_533]
  simp only [e1, e2, c1, c2]
  rw [am_if_t ⟨v1, v2⟩, h1]
  simp only [ob_s, tl_s]
  rw [qL_545]
  simp only [e1, e2, c1, c2, hs]
  rw [am_if_t ⟨v1, v2⟩, h2]
  simp only [ob_s, tl_s]
  rw [qL_557, if_pos rfl]
theorem law_keep {L i : Nat} (hL : L ≤ 320) (hi : i + 5 ≤ L) {a : AT} {I : Nat → Nat → Int32} {J : Nat → Nat → Int64} (hR : Rl a I J) : ∃ (a2 : AT) (I2 : Nat → Nat → Int32) (J2 : Nat → Nat → Int64), Rl a2 I2 J2 ∧ am_sem 0 560 [.ref 0, .ref 1, .ref 54, .int (nI i)] [] (am_T L, I, J) = am_sem 0 619 [.ref 0, .ref 1, .ref 54, .int (nI i)] [] (am_T L, I2, J2) := by
  obtain ⟨r, I1, J1, I2, J2, a2, h1, h2, h3⟩ := op_keep L (I 0 (i + 1)) .null .null a I J hR
  obtain ⟨x, rfl⟩ := am_int rfl h1
  have hs := am_keep h1
  obtain ⟨⟨e1, e2, e3, e4⟩, ⟨c1, c2, c3, c4⟩, v1, v2, v3, v4⟩ := nk hL hi
  refine ⟨a2, I2, J2, h3, ?_⟩
  rw [qL_560]
  simp only [e1, c1]
  rw [am_if_t v1, h1]
  simp only [ob_s, tl_s]
  rw [qL_567]
  simp only [e1, c1, hs]
  rw [am_if_t v1, h2]
  simp only [ob_s, tl_s]
  rw [qL_574, if_pos rfl]
theorem law_back {L i : Nat} (hL : L ≤ 320) (hi : i + 5 ≤ L) {a : AT} {I : Nat → Nat → Int32} {J : Nat → Nat → Int64} (hR : Rl a I J) : ∃ (a2 : AT) (I2 : Nat → Nat → Int32) (J2 : Nat → Nat → Int64), Rl a2 I2 J2 ∧ am_sem 0 577 [.ref 0, .ref 1, .ref 54, .int (nI i)] [] (am_T L, I, J) = am_sem 0 619 [.ref 0, .ref 1, .ref 54, .int (nI i)] [] (am_T L, I2, J2) := by
  obtain ⟨r, I1, J1, I2, J2, a2, h1, h2, h3⟩ := op_back L (I 0 (i + 1)) .null .null a I J hR
  obtain ⟨x, rfl⟩ := am_int rfl h1
  have hs := am_keep h1
  obtain ⟨⟨e1, e2, e3, e4⟩, ⟨c1, c2, c3, c4⟩, v1, v2, v3, v4⟩ := nk hL hi
  refine ⟨a2, I2, J2, h3, ?_⟩
  rw [qL_577]
  simp only [e1, c1]
  rw [am_if_t v1, h1]
  simp only [ob_s, tl_s]
  rw [qL_584]
  simp only [e1, c1, hs]
  rw [am_if_t v1, h2]
  simp only [ob_s, tl_s]
  rw [qL_591, if_pos rfl]
theorem law_count {L i : Nat} (hL : L ≤ 320) (hi : i + 5 ≤ L) {a : AT} {I : Nat → Nat → Int32} {J : Nat → Nat → Int64} (hR : Rl a I J) : ∃ (a2 : AT) (I2 : Nat → Nat → Int32) (J2 : Nat → Nat → Int64), Rl a2 I2 J2 ∧ am_sem 0 594 [.ref 0, .ref 1, .ref 54, .int (nI i)] [] (am_T L, I, J) = am_sem 0 619 [.ref 0, .ref 1, .ref 54, .int (nI i)] [] (am_T L, I2, J2) := by
  obtain ⟨r, I1, J1, I2, J2, a2, h1, h2, h3⟩ := op_count L (I 0 (i + 1))  a I J hR
  obtain ⟨x, rfl⟩ := am_int rfl h1
  have hs := am_keep h1
  obtain ⟨⟨e1, e2, e3, e4⟩, ⟨c1, c2, c3, c4⟩, v1, v2, v3, v4⟩ := nk hL hi
  refine ⟨a2, I2, J2, h3, ?_⟩
  rw [qL_594]
  simp only [e1, c1]
  rw [am_if_t v1, h1]
  simp only [ob_s, tl_s]
  rw [qL_601]
  simp only [e1, c1, hs]
  rw [am_if_t v1, h2]
  simp only [ob_s, tl_s]
  rw [qL_608, if_pos rfl]
theorem law_trace {L i : Nat} (hL : L ≤ 320) (hi : i + 5 ≤ L) {a : AT} {I : Nat → Nat → Int32} {J : Nat → Nat → Int64} (hR : Rl a I J) : ∃ (a2 : AT) (I2 : Nat → Nat → Int32) (J2 : Nat → Nat → Int64), Rl a2 I2 J2 ∧ am_sem 0 611 [.ref 0, .ref 1, .ref 54, .int (nI i)] [] (am_T L, I, J) = am_sem 0 619 [.ref 0, .ref 1, .ref 54, .int (nI i)] [] (am_T L, I2, J2) := by
  obtain ⟨r, I1, J1, I2, J2, a2, h1, h2, h3⟩ := op_trace L   a I J hR
  obtain ⟨x, rfl⟩ := am_lng rfl h1
  refine ⟨a2, I2, J2, h3, ?_⟩
  rw [qL_611, h1]
  simp only [ob_s, tl_s]
  rw [qL_613, h2]
  simp only [ob_s, tl_s]
  rw [qL_615, if_pos ((lg_cmp_eq _ _).mpr rfl)]
theorem law_sw {L i : Nat} (hL : L ≤ 320) (hi : i + 5 ≤ L) {a : AT} {I : Nat → Nat → Int32} {J : Nat → Nat → Int64} (hR : Rl a I J) (s : Int32) : ∃ (a2 : AT) (I2 : Nat → Nat → Int32) (J2 : Nat → Nat → Int64), Rl a2 I2 J2 ∧ am_sem 0 21 [.ref 0, .ref 1, .ref 54, .int (nI i)] [.int s] (am_T L, I, J) = am_sem 0 619 [.ref 0, .ref 1, .ref 54, .int (nI i)] [] (am_T L, I2, J2) := by
  rw [qL_21]
  by_cases h0 : s = 0
  · rw [if_pos h0]
    exact law_type hL hi hR
  rw [if_neg h0]
  by_cases h1 : s = 1
  · rw [if_pos h1]
    exact law_clear hL hi hR
  rw [if_neg h1]
  by_cases h2 : s = 2
  · rw [if_pos h2]
    exact law_valley hL hi hR
  rw [if_neg h2]
  by_cases h3 : s = 3
  · rw [if_pos h3]
    exact law_far hL hi hR
  rw [if_neg h3]
  by_cases h4 : s = 4
  · rw [if_pos h4]
    exact law_person hL hi hR
  rw [if_neg h4]
  by_cases h5 : s = 5
  · rw [if_pos h5]
    exact law_heard hL hi hR
  rw [if_neg h5]
  by_cases h6 : s = 6
  · rw [if_pos h6]
    exact law_forget hL hi hR
  rw [if_neg h6]
  by_cases h7 : s = 7
  · rw [if_pos h7]
    exact law_who hL hi hR
  rw [if_neg h7]
  by_cases h8 : s = 8
  · rw [if_pos h8]
    exact law_nobody hL hi hR
  rw [if_neg h8]
  by_cases h9 : s = 9
  · rw [if_pos h9]
    exact law_deeds hL hi hR
  rw [if_neg h9]
  by_cases h10 : s = 10
  · rw [if_pos h10]
    exact law_first hL hi hR
  rw [if_neg h10]
  by_cases h11 : s = 11
  · rw [if_pos h11]
    exact law_odds hL hi hR
  rw [if_neg h11]
  by_cases h12 : s = 12
  · rw [if_pos h12]
    exact law_second hL hi hR
  rw [if_neg h12]
  by_cases h13 : s = 13
  · rw [if_pos h13]
    exact law_makes hL hi hR
  rw [if_neg h13]
  by_cases h14 : s = 14
  · rw [if_pos h14]
    exact law_moves hL hi hR
  rw [if_neg h14]
  by_cases h15 : s = 15
  · rw [if_pos h15]
    exact law_undo hL hi hR
  rw [if_neg h15]
  by_cases h16 : s = 16
  · rw [if_pos h16]
    exact law_done hL hi hR
  rw [if_neg h16]
  by_cases h17 : s = 17
  · rw [if_pos h17]
    exact law_now hL hi hR
  rw [if_neg h17]
  by_cases h18 : s = 18
  · rw [if_pos h18]
    exact law_sit hL hi hR
  rw [if_neg h18]
  by_cases h19 : s = 19
  · rw [if_pos h19]
    exact law_begin hL hi hR
  rw [if_neg h19]
  by_cases h20 : s = 20
  · rw [if_pos h20]
    exact law_together hL hi hR
  rw [if_neg h20]
  by_cases h21 : s = 21
  · rw [if_pos h21]
    exact law_played hL hi hR
  rw [if_neg h21]
  by_cases h22 : s = 22
  · rw [if_pos h22]
    exact law_sure hL hi hR
  rw [if_neg h22]
  by_cases h23 : s = 23
  · rw [if_pos h23]
    exact law_mark hL hi hR
  rw [if_neg h23]
  by_cases h24 : s = 24
  · rw [if_pos h24]
    exact law_keep hL hi hR
  rw [if_neg h24]
  by_cases h25 : s = 25
  · rw [if_pos h25]
    exact law_back hL hi hR
  rw [if_neg h25]
  by_cases h26 : s = 26
  · rw [if_pos h26]
    exact law_count hL hi hR
  rw [if_neg h26]
  by_cases h27 : s = 27
  · rw [if_pos h27]
    exact law_trace hL hi hR
  rw [if_neg h27]
  exact ⟨a, I, J, hR, rfl⟩
/-- the law's loop -/
theorem law_loop {L : Nat} (hL : L ≤ 320) : ∀ (f i : Nat) (a : AT) (I : Nat → Nat → Int32) (J : Nat → Nat → Int64), L ≤ i + f → i ≤ 330 → Rl a I J → ∃ (I' : Nat → Nat → Int32) (J' : Nat → Nat → Int64), am_sem 0 10 [.ref 0, .ref 1, .ref 54, .int (nI i)] [] (am_T L, I, J) = some (some (.int 1), (am_T L, I', J'))
  | 0, i, a, I, J, hf, hi, hR => by
    refine ⟨I, J, ?_⟩
    rw [qL_10, if_pos (by rw [Int32.lt_iff_toInt_lt, show (5 : Int32) = nI 5 from rfl, pk_sub_toInt (by omega) (by omega), nI_toInt (by omega)]; omega), qL_621]
  | f + 1, i, a, I, J, hf, hi, hR => by
    by_cases c : L < i + 5
    · refine ⟨I, J, ?_⟩
      rw [qL_10, if_pos (by rw [Int32.lt_iff_toInt_lt, show (5 : Int32) = nI 5 from rfl, pk_sub_toInt (by omega) (by omega), nI_toInt (by omega)]; omega), qL_621]
    · obtain ⟨a2, I2, J2, R2, e⟩ := law_sw hL (show i + 5 ≤ L by omega) hR (I 0 i &&& 31)
      obtain ⟨I', J', e2⟩ := law_loop hL f (i + 5) a2 I2 J2 (by omega) (by omega) R2
      refine ⟨I', J', ?_⟩
      rw [qL_10, if_neg (by rw [Int32.lt_iff_toInt_lt, show (5 : Int32) = nI 5 from rfl, pk_sub_toInt (by omega) (by omega), nI_toInt (by omega)]; omega), qL_16, am_if_t (n_in (by omega) (by omega)), nc (show i < 2 ^ 31 by omega), e, qL_619, show nI i + 5 = nI (i + 5) from nI_add i 5, e2]
