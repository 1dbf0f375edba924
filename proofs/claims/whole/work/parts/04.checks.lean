/-! ===== that the program is the bytecode: by program, a method a row ===== -/
theorem am_ch (f : Nat → Bool) (a n : Nat) (hp : ∀ i, i < a → f i = true) (h : (List.range n).all (fun i => f (a + i)) = true) : ∀ i, i < a + n → f i = true := by
  intro i hi
  rcases Nat.lt_or_ge i a with q | q
  · exact hp i q
  · have h1 := List.all_eq_true.mp h (i - a) (List.mem_range.mpr (by omega))
    rw [show a + (i - a) = i by omega] at h1
    exact h1
def am_good (mi : Nat) : Prop := ∀ (i : Nat) (e : am_E), (am_code mi)[i]? = some e → am_flow (am_code mi) i e = true ∧ am_wrd mi e = true ∧ am_rm mi e = true ∧ am_dec mi e = true
theorem am_good_of {mi n : Nat} (hn : (am_code mi).length = n) (h1 : ∀ i, i < n → am_ck mi i = true) (h2 : ∀ i, i < n → am_dk mi i = true) : am_good mi := by
  intro i e he
  have hi : i < n := by rw [← hn]; exact (List.getElem?_eq_some_iff.mp he).1
  have g1 := h1 i hi
  have g2 := h2 i hi
  unfold am_ck at g1
  unfold am_dk at g2
  rw [he] at g1 g2
  simp only [Bool.and_eq_true] at g1
  exact ⟨g1.1.1, g1.1.2, g1.2, g2⟩
theorem am_no (f : Nat → Bool) : ∀ i, i < 0 → f i = true := fun _ h => absurd h (Nat.not_lt_zero _)
set_option maxRecDepth 100000 in
theorem am_d0_0 : (List.range 30).all (fun i => am_dk 0 (0 + i)) = true := by decide +kernel
set_option maxRecDepth 100000 in
theorem am_c0_0 : (List.range 30).all (fun i => am_ck 0 (0 + i)) = true := by decide +kernel
set_option maxRecDepth 100000 in
theorem am_d0_30 : (List.range 30).all (fun i => am_dk 0 (30 + i)) = true := by decide +kernel
set_option maxRecDepth 100000 in
theorem am_c0_30 : (List.range 30).all (fun i => am_ck 0 (30 + i)) = true := by decide +kernel
set_option maxRecDepth 100000 in
theorem am_d0_60 : (List.range 30).all (fun i => am_dk 0 (60 + i)) = true := by decide +kernel
set_option maxRecDepth 100000 in
theorem am_c0_60 : (List.range 30).all (fun i => am_ck 0 (60 + i)) = true := by decide +kernel
set_option maxRecDepth 100000 in
theorem am_d0_90 : (List.range 30).all (fun i => am_dk 0 (90 + i)) = true := by decide +kernel
set_option maxRecDepth 100000 in
theorem am_c0_90 : (List.range 30).all (fun i => am_ck 0 (90 + i)) = true := by decide +kernel
set_option maxRecDepth 100000 in
theorem am_d0_120 : (List.range 30).all (fun i => am_dk 0 (120 + i)) = true := by decide +kernel
set_option maxRecDepth 100000 in
theorem am_c0_120 : (List.range 30).all (fun i => am_ck 0 (120 + i)) = true := by decide +kernel
set_option maxRecDepth 100000 in
theorem am_d0_150 : (List.range 30).all (fun i => am_dk 0 (150 + i)) = true := by decide +kernel
set_option maxRecDepth 100000 in
theorem am_c0_150 : (List.range 30).all (fun i => am_ck 0 (150 + i)) = true := by decide +kernel
set_option maxRecDepth 100000 in
theorem am_d0_180 : (List.range 30).all (fun i => am_dk 0 (180 + i)) = true := by decide +kernel
set_option maxRecDepth 100000 in
theorem am_c0_180 : (List.range 30).all (fun i => am_ck 0 (180 + i)) = true := by decide +kernel
set_option maxRecDepth 100000 in
theorem am_d0_210 : (List.range 30).all (fun i => am_dk 0 (210 + i)) = true := by decide +kernel
set_option maxRecDepth 100000 in
theorem am_c0_210 : (List.range 30).all (fun i => am_ck 0 (210 + i)) = true := by decide +kernel
set_option maxRecDepth 100000 in
theorem am_d0_240 : (List.range 30).all (fun i => am_dk 0 (240 + i)) = true := by decide +kernel
set_option maxRecDepth 100000 in
theorem am_c0_240 : (List.range 30).all (fun i => am_ck 0 (240 + i)) = true := by decide +kernel
set_option maxRecDepth 100000 in
theorem am_d0_270 : (List.range 30).all (fun i => am_dk 0 (270 + i)) = true := by decide +kernel
set_option maxRecDepth 100000 in
theorem am_c0_270 : (List.range 30).all (fun i => am_ck 0 (270 + i)) = true := by decide +kernel
set_option maxRecDepth 100000 in
theorem am_d0_300 : (List.range 30).all (fun i => am_dk 0 (300 + i)) = true := by decide +kernel
set_option maxRecDepth 100000 in
theorem am_c0_300 : (List.range 30).all (fun i => am_ck 0 (300 + i)) = true := by decide +kernel
set_option maxRecDepth 100000 in
theorem am_d0_330 : (List.range 30).all (fun i => am_dk 0 (330 + i)) = true := by decide +kernel
set_option maxRecDepth 100000 in
theorem am_c0_330 : (List.range 30).all (fun i => am_ck 0 (330 + i)) = true := by decide +kernel
set_option maxRecDepth 100000 in
theorem am_d0_360 : (List.range 30).all (fun i => am_dk 0 (360 + i)) = true := by decide +kernel
set_option maxRecDepth 100000 in
theorem am_c0_360 : (List.range 30).all (fun i => am_ck 0 (360 + i)) = true := by decide +kernel
set_option maxRecDepth 100000 in
theorem am_d0_390 : (List.range 30).all (fun i => am_dk 0 (390 + i)) = true := by decide +kernel
set_option maxRecDepth 100000 in
theorem am_c0_390 : (List.range 30).all (fun i => am_ck 0 (390 + i)) = true := by decide +kernel
set_option maxRecDepth 100000 in
theorem am_d0_420 : (List.range 30).all (fun i => am_dk 0 (420 + i)) = true := by decide +kernel
set_option maxRecDepth 100000 in
theorem am_c0_420 : (List.range 30).all (fun i => am_ck 0 (420 + i)) = true := by decide +kernel
set_option maxRecDepth 100000 in
theorem am_d0_450 : (List.range 30).all (fun i => am_dk 0 (450 + i)) = true := by decide +kernel
set_option maxRecDepth 100000 in
theorem am_c0_450 : (List.range 30).all (fun i => am_ck 0 (450 + i)) = true := by decide +kernel
set_option maxRecDepth 100000 in
theorem am_d0_480 : (List.range 30).all (fun i => am_dk 0 (480 + i)) = true := by decide +kernel
set_option maxRecDepth 100000 in
theorem am_c0_480 : (List.range 30).all (fun i => am_ck 0 (480 + i)) = true := by decide +kernel
set_option maxRecDepth 100000 in
theorem am_d0_510 : (List.range 30).all (fun i => am_dk 0 (510 + i)) = true := by decide +kernel
set_option maxRecDepth 100000 in
theorem am_c0_510 : (List.range 30).all (fun i => am_ck 0 (510 + i)) = true := by decide +kernel
set_option maxRecDepth 100000 in
theorem am_d0_540 : (List.range 30).all (fun i => am_dk 0 (540 + i)) = true := by decide +kernel
set_option maxRecDepth 100000 in
theorem am_c0_540 : (List.range 30).all (fun i => am_ck 0 (540 + i)) = true := by decide +kernel
set_option maxRecDepth 100000 in
theorem am_d0_570 : (List.range 30).all (fun i => am_dk 0 (570 + i)) = true := by decide +kernel
set_option maxRecDepth 100000 in
theorem am_c0_570 : (List.range 30).all (fun i => am_ck 0 (570 + i)) = true := by decide +kernel
set_option maxRecDepth 100000 in
theorem am_d0_600 : (List.range 23).all (fun i => am_dk 0 (600 + i)) = true := by decide +kernel
set_option maxRecDepth 100000 in
theorem am_c0_600 : (List.range 23).all (fun i => am_ck 0 (600 + i)) = true := by decide +kernel
set_option maxRecDepth 100000 in
theorem am_g0 : am_good 0 := am_good_of (n := 623) (by decide +kernel) (am_ch _ 600 23 (am_ch _ 570 30 (am_ch _ 540 30 (am_ch _ 510 30 (am_ch _ 480 30 (am_ch _ 450 30 (am_ch _ 420 30 (am_ch _ 390 30 (am_ch _ 360 30 (am_ch _ 330 30 (am_ch _ 300 30 (am_ch _ 270 30 (am_ch _ 240 30 (am_ch _ 210 30 (am_ch _ 180 30 (am_ch _ 150 30 (am_ch _ 120 30 (am_ch _ 90 30 (am_ch _ 60 30 (am_ch _ 30 30 (am_ch _ 0 30 (am_no _) am_c0_0) am_c0_30) am_c0_60) am_c0_90) am_c0_120) am_c0_150) am_c0_180) am_c0_210) am_c0_240) am_c0_270) am_c0_300) am_c0_330) am_c0_360) am_c0_390) am_c0_420) am_c0_450) am_c0_480) am_c0_510) am_c0_540) am_c0_570) am_c0_600) (am_ch _ 600 23 (am_ch _ 570 30 (am_ch _ 540 30 (am_ch _ 510 30 (am_ch _ 480 30 (am_ch _ 450 30 (am_ch _ 420 30 (am_ch _ 390 30 (am_ch _ 360 30 (am_ch _ 330 30 (am_ch _ 300 30 (am_ch _ 270 30 (am_ch _ 240 30 (am_ch _ 210 30 (am_ch _ 180 30 (am_ch _ 150 30 (am_ch _ 120 30 (am_ch _ 90 30 (am_ch _ 60 30 (am_ch _ 30 30 (am_ch _ 0 30 (am_no _) am_d0_0) am_d0_30) am_d0_60) am_d0_90) am_d0_120) am_d0_150) am_d0_180) am_d0_210) am_d0_240) am_d0_270) am_d0_300) am_d0_330) am_d0_360) am_d0_390) am_d0_420) am_d0_450) am_d0_480) am_d0_510) am_d0_540) am_d0_570) am_d0_600)
set_option maxRecDepth 100000 in
theorem am_d1_0 : (List.range 30).all (fun i => am_dk 1 (0 + i)) = true := by decide +kernel
set_option maxRecDepth 100000 in
theorem am_c1_0 : (List.range 30).all (fun i => am_ck 1 (0 + i)) = true := by decide +kernel
set_option maxRecDepth 100000 in
theorem am_d1_30 : (List.range 5).all (fun i => am_dk 1 (30 + i)) = true := by decide +kernel
set_option maxRecDepth 100000 in
theorem am_c1_30 : (List.range 5).all (fun i => am_ck 1 (30 + i)) = true := by decide +kernel
set_option maxRecDepth 100000 in
theorem am_g1 : am_good 1 := am_good_of (n := 35) (by decide +kernel) (am_ch _ 30 5 (am_ch _ 0 30 (am_no _) am_c1_0) am_c1_30) (am_ch _ 30 5 (am_ch _ 0 30 (am_no _) am_d1_0) am_d1_30)
set_option maxRecDepth 100000 in
theorem am_y1 : am_yk 1 = true := by decide +kernel
set_option maxRecDepth 100000 in
theorem am_d2_0 : (List.range 15).all (fun i => am_dk 2 (0 + i)) = true := by decide +kernel
set_option maxRecDepth 100000 in
theorem am_c2_0 : (List.range 15).all (fun i => am_ck 2 (0 + i)) = true := by decide +kernel
set_option maxRecDepth 100000 in
theorem am_g2 : am_good 2 := am_good_of (n := 15) (by decide +kernel) (am_ch _ 0 15 (am_no _) am_c2_0) (am_ch _ 0 15 (am_no _) am_d2_0)
set_option maxRecDepth 100000 in
theorem am_y2 : am_yk 2 = true := by decide +kernel
set_option maxRecDepth 100000 in
theorem am_d3_0 : (List.range 30).all (fun i => am_dk 3 (0 + i)) = true := by decide +kernel
set_option maxRecDepth 100000 in
theorem am_c3_0 : (List.range 30).all (fun i => am_ck 3 (0 + i)) = true := by decide +kernel
set_option maxRecDepth 100000 in
theorem am_d3_30 : (List.range 23).all (fun i => am_dk 3 (30 + i)) = true := by decide +kernel
set_option maxRecDepth 100000 in
theorem am_c3_30 : (List.range 23).all (fun i => am_ck 3 (30 + i)) = true := by decide +kernel
set_option maxRecDepth 100000 in
theorem am_g3 : am_good 3 := am_good_of (n := 53) (by decide +kernel) (am_ch _ 30 23 (am_ch _ 0 30 (am_no _) am_c3_0) am_c3_30) (am_ch _ 30 23 (am_ch _ 0 30 (am_no _) am_d3_0) am_d3_30)
set_option maxRecDepth 100000 in
theorem am_y3 : am_yk 3 = true := by decide +kernel
set_option maxRecDepth 100000 in
theorem am_d4_0 : (List.range 5).all (fun i => am_dk 4 (0 + i)) = true := by decide +kernel
set_option maxRecDepth 100000 in
theorem am_c4_0 : (List.range 5).all (fun i => am_ck 4 (0 + i)) = true := by decide +kernel
set_option maxRecDepth 100000 in
theorem am_g4 : am_good 4 := am_good_of (n := 5) (by decide +kernel) (am_ch _ 0 5 (am_no _) am_c4_0) (am_ch _ 0 5 (am_no _) am_d4_0)
set_option maxRecDepth 100000 in
theorem am_y4 : am_yk 4 = true := by decide +kernel
set_option maxRecDepth 100000 in
theorem am_d5_0 : (List.range 11).all (fun i => am_dk 5 (0 + i)) = true := by decide +kernel
set_option maxRecDepth 100000 in
theorem am_c5_0 : (List.range 11).all (fun i => am_ck 5 (0 + i)) = true := by decide +kernel
set_option maxRecDepth 100000 in
theorem am_g5 : am_good 5 := am_good_of (n := 11) (by decide +kernel) (am_ch _ 0 11 (am_no _) am_c5_0) (am_ch _ 0 11 (am_no _) am_d5_0)
set_option maxRecDepth 100000 in
theorem am_y5 : am_yk 5 = true := by decide +kernel
set_option maxRecDepth 100000 in
theorem am_d6_0 : (List.range 30).all (fun i => am_dk 6 (0 + i)) = true := by decide +kernel
set_option maxRecDepth 100000 in
theorem am_c6_0 : (List.range 30).all (fun i => am_ck 6 (0 + i)) = true := by decide +kernel
set_option maxRecDepth 100000 in
theorem am_d6_30 : (List.range 15).all (fun i => am_dk 6 (30 + i)) = true := by decide +kernel
set_option maxRecDepth 100000 in
theorem am_c6_30 : (List.range 15).all (fun i => am_ck 6 (30 + i)) = true := by decide +kernel
set_option maxRecDepth 100000 in
theorem am_g6 : am_good 6 := am_good_of (n := 45) (by decide +kernel) (am_ch _ 30 15 (am_ch _ 0 30 (am_no _) am_c6_0) am_c6_30) (am_ch _ 30 15 (am_ch _ 0 30 (am_no _) am_d6_0) am_d6_30)
set_option maxRecDepth 100000 in
theorem am_y6 : am_yk 6 = true := by decide +kernel
set_option maxRecDepth 100000 in
theorem am_d7_0 : (List.range 17).all (fun i => am_dk 7 (0 + i)) = true := by decide +kernel
set_option maxRecDepth 100000 in
theorem am_c7_0 : (List.range 17).all (fun i => am_ck 7 (0 + i)) = true := by decide +kernel
set_option maxRecDepth 100000 in
theorem am_g7 : am_good 7 := am_good_of (n := 17) (by decide +kernel) (am_ch _ 0 17 (am_no _) am_c7_0) (am_ch _ 0 17 (am_no _) am_d7_0)
set_option maxRecDepth 100000 in
theorem am_y7 : am_yk 7 = true := by decide +kernel
set_option maxRecDepth 100000 in
theorem am_d8_0 : (List.range 30).all (fun i => am_dk 8 (0 + i)) = true := by decide +kernel
set_option maxRecDepth 100000 in
theorem am_c8_0 : (List.range 30).all (fun i => am_ck 8 (0 + i)) = true := by decide +kernel
set_option maxRecDepth 100000 in
theorem am_d8_30 : (List.range 10).all (fun i => am_dk 8 (30 + i)) = true := by decide +kernel
set_option maxRecDepth 100000 in
theorem am_c8_30 : (List.range 10).all (fun i => am_ck 8 (30 + i)) = true := by decide +kernel
set_option maxRecDepth 100000 in
theorem am_g8 : am_good 8 := am_good_of (n := 40) (by decide +kernel) (am_ch _ 30 10 (am_ch _ 0 30 (am_no _) am_c8_0) am_c8_30) (am_ch _ 30 10 (am_ch _ 0 30 (am_no _) am_d8_0) am_d8_30)
set_option maxRecDepth 100000 in
theorem am_y8 : am_yk 8 = true := by decide +kernel
set_option maxRecDepth 100000 in
theorem am_d9_0 : (List.range 30).all (fun i => am_dk 9 (0 + i)) = true := by decide +kernel
set_option maxRecDepth 100000 in
theorem am_c9_0 : (List.range 30).all (fun i => am_ck 9 (0 + i)) = true := by decide +kernel
set_option maxRecDepth 100000 in
theorem am_d9_30 : (List.range 11).all (fun i => am_dk 9 (30 + i)) = true := by decide +kernel
set_option maxRecDepth 100000 in
theorem am_c9_30 : (List.range 11).all (fun i => am_ck 9 (30 + i)) = true := by decide +kernel
set_option maxRecDepth 100000 in
theorem am_g9 : am_good 9 := am_good_of (n := 41) (by decide +kernel) (am_ch _ 30 11 (am_ch _ 0 30 (am_no _) am_c9_0) am_c9_30) (am_ch _ 30 11 (am_ch _ 0 30 (am_no _) am_d9_0) am_d9_30)
set_option maxRecDepth 100000 in
theorem am_y9 : am_yk 9 = true := by decide +kernel
set_option maxRecDepth 100000 in
theorem am_d10_0 : (List.range 30).all (fun i => am_dk 10 (0 + i)) = true := by decide +kernel
set_option maxRecDepth 100000 in
theorem am_c10_0 : (List.range 30).all (fun i => am_ck 10 (0 + i)) = true := by decide +kernel
set_option maxRecDepth 100000 in
theorem am_d10_30 : (List.range 24).all (fun i => am_dk 10 (30 + i)) = true := by decide +kernel
set_option maxRecDepth 100000 in
theorem am_c10_30 : (List.range 24).all (fun i => am_ck 10 (30 + i)) = true := by decide +kernel
set_option maxRecDepth 100000 in
theorem am_g10 : am_good 10 := am_good_of (n := 54) (by decide +kernel) (am_ch _ 30 24 (am_ch _ 0 30 (am_no _) am_c10_0) am_c10_30) (am_ch _ 30 24 (am_ch _ 0 30 (am_no _) am_d10_0) am_d10_30)
set_option maxRecDepth 100000 in
theorem am_y10 : am_yk 10 = true := by decide +kernel
set_option maxRecDepth 100000 in
theorem am_d11_0 : (List.range 19).all (fun i => am_dk 11 (0 + i)) = true := by decide +kernel
set_option maxRecDepth 100000 in
theorem am_c11_0 : (List.range 19).all (fun i => am_ck 11 (0 + i)) = true := by decide +kernel
set_option maxRecDepth 100000 in
theorem am_g11 : am_good 11 := am_good_of (n := 19) (by decide +kernel) (am_ch _ 0 19 (am_no _) am_c11_0) (am_ch _ 0 19 (am_no _) am_d11_0)
set_option maxRecDepth 100000 in
theorem am_y11 : am_yk 11 = true := by decide +kernel
set_option maxRecDepth 100000 in
theorem am_d12_0 : (List.range 23).all (fun i => am_dk 12 (0 + i)) = true := by decide +kernel
set_option maxRecDepth 100000 in
theorem am_c12_0 : (List.range 23).all (fun i => am_ck 12 (0 + i)) = true := by decide +kernel
set_option maxRecDepth 100000 in
theorem am_g12 : am_good 12 := am_good_of (n := 23) (by decide +kernel) (am_ch _ 0 23 (am_no _) am_c12_0) (am_ch _ 0 23 (am_no _) am_d12_0)
set_option maxRecDepth 100000 in
theorem am_y12 : am_yk 12 = true := by decide +kernel
set_option maxRecDepth 100000 in
theorem am_d13_0 : (List.range 7).all (fun i => am_dk 13 (0 + i)) = true := by decide +kernel
set_option maxRecDepth 100000 in
theorem am_c13_0 : (List.range 7).all (fun i => am_ck 13 (0 + i)) = true := by decide +kernel
set_option maxRecDepth 100000 in
theorem am_g13 : am_good 13 := am_good_of (n := 7) (by decide +kernel) (am_ch _ 0 7 (am_no _) am_c13_0) (am_ch _ 0 7 (am_no _) am_d13_0)
set_option maxRecDepth 100000 in
theorem am_y13 : am_yk 13 = true := by decide +kernel
set_option maxRecDepth 100000 in
theorem am_d14_0 : (List.range 21).all (fun i => am_dk 14 (0 + i)) = true := by decide +kernel
set_option maxRecDepth 100000 in
theorem am_c14_0 : (List.range 21).all (fun i => am_ck 14 (0 + i)) = true := by decide +kernel
set_option maxRecDepth 100000 in
theorem am_g14 : am_good 14 := am_good_of (n := 21) (by decide +kernel) (am_ch _ 0 21 (am_no _) am_c14_0) (am_ch _ 0 21 (am_no _) am_d14_0)
set_option maxRecDepth 100000 in
theorem am_y14 : am_yk 14 = true := by decide +kernel
set_option maxRecDepth 100000 in
theorem am_d15_0 : (List.range 30).all (fun i => am_dk 15 (0 + i)) = true := by decide +kernel
set_option maxRecDepth 100000 in
theorem am_c15_0 : (List.range 30).all (fun i => am_ck 15 (0 + i)) = true := by decide +kernel
set_option maxRecDepth 100000 in
theorem am_d15_30 : (List.range 30).all (fun i => am_dk 15 (30 + i)) = true := by decide +kernel
set_option maxRecDepth 100000 in
theorem am_c15_30 : (List.range 30).all (fun i => am_ck 15 (30 + i)) = true := by decide +kernel
set_option maxRecDepth 100000 in
theorem am_d15_60 : (List.range 29).all (fun i => am_dk 15 (60 + i)) = true := by decide +kernel
set_option maxRecDepth 100000 in
theorem am_c15_60 : (List.range 29).all (fun i => am_ck 15 (60 + i)) = true := by decide +kernel
set_option maxRecDepth 100000 in
theorem am_g15 : am_good 15 := am_good_of (n := 89) (by decide +kernel) (am_ch _ 60 29 (am_ch _ 30 30 (am_ch _ 0 30 (am_no _) am_c15_0) am_c15_30) am_c15_60) (am_ch _ 60 29 (am_ch _ 30 30 (am_ch _ 0 30 (am_no _) am_d15_0) am_d15_30) am_d15_60)
set_option maxRecDepth 100000 in
theorem am_y15 : am_yk 15 = true := by decide +kernel
set_option maxRecDepth 100000 in
theorem am_d16_0 : (List.range 30).all (fun i => am_dk 16 (0 + i)) = true := by decide +kernel
set_option maxRecDepth 100000 in
theorem am_c16_0 : (List.range 30).all (fun i => am_ck 16 (0 + i)) = true := by decide +kernel
set_option maxRecDepth 100000 in
theorem am_d16_30 : (List.range 30).all (fun i => am_dk 16 (30 + i)) = true := by decide +kernel
set_option maxRecDepth 100000 in
theorem am_c16_30 : (List.range 30).all (fun i => am_ck 16 (30 + i)) = true := by decide +kernel
set_option maxRecDepth 100000 in
theorem am_g16 : am_good 16 := am_good_of (n := 60) (by decide +kernel) (am_ch _ 30 30 (am_ch _ 0 30 (am_no _) am_c16_0) am_c16_30) (am_ch _ 30 30 (am_ch _ 0 30 (am_no _) am_d16_0) am_d16_30)
set_option maxRecDepth 100000 in
theorem am_y16 : am_yk 16 = true := by decide +kernel
set_option maxRecDepth 100000 in
theorem am_d17_0 : (List.range 30).all (fun i => am_dk 17 (0 + i)) = true := by decide +kernel
set_option maxRecDepth 100000 in
theorem am_c17_0 : (List.range 30).all (fun i => am_ck 17 (0 + i)) = true := by decide +kernel
set_option maxRecDepth 100000 in
theorem am_d17_30 : (List.range 30).all (fun i => am_dk 17 (30 + i)) = true := by decide +kernel
set_option maxRecDepth 100000 in
theorem am_c17_30 : (List.range 30).all (fun i => am_ck 17 (30 + i)) = true := by decide +kernel
set_option maxRecDepth 100000 in
theorem am_d17_60 : (List.range 15).all (fun i => am_dk 17 (60 + i)) = true := by decide +kernel
set_option maxRecDepth 100000 in
theorem am_c17_60 : (List.range 15).all (fun i => am_ck 17 (60 + i)) = true := by decide +kernel
set_option maxRecDepth 100000 in
theorem am_g17 : am_good 17 := am_good_of (n := 75) (by decide +kernel) (am_ch _ 60 15 (am_ch _ 30 30 (am_ch _ 0 30 (am_no _) am_c17_0) am_c17_30) am_c17_60) (am_ch _ 60 15 (am_ch _ 30 30 (am_ch _ 0 30 (am_no _) am_d17_0) am_d17_30) am_d17_60)
set_option maxRecDepth 100000 in
theorem am_y17 : am_yk 17 = true := by decide +kernel
set_option maxRecDepth 100000 in
theorem am_d18_0 : (List.range 7).all (fun i => am_dk 18 (0 + i)) = true := by decide +kernel
set_option maxRecDepth 100000 in
theorem am_c18_0 : (List.range 7).all (fun i => am_ck 18 (0 + i)) = true := by decide +kernel
set_option maxRecDepth 100000 in
theorem am_g18 : am_good 18 := am_good_of (n := 7) (by decide +kernel) (am_ch _ 0 7 (am_no _) am_c18_0) (am_ch _ 0 7 (am_no _) am_d18_0)
set_option maxRecDepth 100000 in
theorem am_y18 : am_yk 18 = true := by decide +kernel
set_option maxRecDepth 100000 in
theorem am_d19_0 : (List.range 11).all (fun i => am_dk 19 (0 + i)) = true := by decide +kernel
set_option maxRecDepth 100000 in
theorem am_c19_0 : (List.range 11).all (fun i => am_ck 19 (0 + i)) = true := by decide +kernel
set_option maxRecDepth 100000 in
theorem am_g19 : am_good 19 := am_good_of (n := 11) (by decide +kernel) (am_ch _ 0 11 (am_no _) am_c19_0) (am_ch _ 0 11 (am_no _) am_d19_0)
set_option maxRecDepth 100000 in
theorem am_y19 : am_yk 19 = true := by decide +kernel
set_option maxRecDepth 100000 in
theorem am_d20_0 : (List.range 6).all (fun i => am_dk 20 (0 + i)) = true := by decide +kernel
set_option maxRecDepth 100000 in
theorem am_c20_0 : (List.range 6).all (fun i => am_ck 20 (0 + i)) = true := by decide +kernel
set_option maxRecDepth 100000 in
theorem am_g20 : am_good 20 := am_good_of (n := 6) (by decide +kernel) (am_ch _ 0 6 (am_no _) am_c20_0) (am_ch _ 0 6 (am_no _) am_d20_0)
set_option maxRecDepth 100000 in
theorem am_y20 : am_yk 20 = true := by decide +kernel
set_option maxRecDepth 100000 in
theorem am_d21_0 : (List.range 6).all (fun i => am_dk 21 (0 + i)) = true := by decide +kernel
set_option maxRecDepth 100000 in
theorem am_c21_0 : (List.range 6).all (fun i => am_ck 21 (0 + i)) = true := by decide +kernel
set_option maxRecDepth 100000 in
theorem am_g21 : am_good 21 := am_good_of (n := 6) (by decide +kernel) (am_ch _ 0 6 (am_no _) am_c21_0) (am_ch _ 0 6 (am_no _) am_d21_0)
set_option maxRecDepth 100000 in
theorem am_y21 : am_yk 21 = true := by decide +kernel
set_option maxRecDepth 100000 in
theorem am_d22_0 : (List.range 30).all (fun i => am_dk 22 (0 + i)) = true := by decide +kernel
set_option maxRecDepth 100000 in
theorem am_c22_0 : (List.range 30).all (fun i => am_ck 22 (0 + i)) = true := by decide +kernel
set_option maxRecDepth 100000 in
theorem am_d22_30 : (List.range 5).all (fun i => am_dk 22 (30 + i)) = true := by decide +kernel
set_option maxRecDepth 100000 in
theorem am_c22_30 : (List.range 5).all (fun i => am_ck 22 (30 + i)) = true := by decide +kernel
set_option maxRecDepth 100000 in
theorem am_g22 : am_good 22 := am_good_of (n := 35) (by decide +kernel) (am_ch _ 30 5 (am_ch _ 0 30 (am_no _) am_c22_0) am_c22_30) (am_ch _ 30 5 (am_ch _ 0 30 (am_no _) am_d22_0) am_d22_30)
set_option maxRecDepth 100000 in
theorem am_y22 : am_yk 22 = true := by decide +kernel
set_option maxRecDepth 100000 in
theorem am_d23_0 : (List.range 19).all (fun i => am_dk 23 (0 + i)) = true := by decide +kernel
set_option maxRecDepth 100000 in
theorem am_c23_0 : (List.range 19).all (fun i => am_ck 23 (0 + i)) = true := by decide +kernel
set_option maxRecDepth 100000 in
theorem am_g23 : am_good 23 := am_good_of (n := 19) (by decide +kernel) (am_ch _ 0 19 (am_no _) am_c23_0) (am_ch _ 0 19 (am_no _) am_d23_0)
set_option maxRecDepth 100000 in
theorem am_y23 : am_yk 23 = true := by decide +kernel
set_option maxRecDepth 100000 in
theorem am_d24_0 : (List.range 10).all (fun i => am_dk 24 (0 + i)) = true := by decide +kernel
set_option maxRecDepth 100000 in
theorem am_c24_0 : (List.range 10).all (fun i => am_ck 24 (0 + i)) = true := by decide +kernel
set_option maxRecDepth 100000 in
theorem am_g24 : am_good 24 := am_good_of (n := 10) (by decide +kernel) (am_ch _ 0 10 (am_no _) am_c24_0) (am_ch _ 0 10 (am_no _) am_d24_0)
set_option maxRecDepth 100000 in
theorem am_y24 : am_yk 24 = true := by decide +kernel
set_option maxRecDepth 100000 in
theorem am_d25_0 : (List.range 30).all (fun i => am_dk 25 (0 + i)) = true := by decide +kernel
set_option maxRecDepth 100000 in
theorem am_c25_0 : (List.range 30).all (fun i => am_ck 25 (0 + i)) = true := by decide +kernel
set_option maxRecDepth 100000 in
theorem am_d25_30 : (List.range 8).all (fun i => am_dk 25 (30 + i)) = true := by decide +kernel
set_option maxRecDepth 100000 in
theorem am_c25_30 : (List.range 8).all (fun i => am_ck 25 (30 + i)) = true := by decide +kernel
set_option maxRecDepth 100000 in
theorem am_g25 : am_good 25 := am_good_of (n := 38) (by decide +kernel) (am_ch _ 30 8 (am_ch _ 0 30 (am_no _) am_c25_0) am_c25_30) (am_ch _ 30 8 (am_ch _ 0 30 (am_no _) am_d25_0) am_d25_30)
set_option maxRecDepth 100000 in
theorem am_y25 : am_yk 25 = true := by decide +kernel
set_option maxRecDepth 100000 in
theorem am_d26_0 : (List.range 10).all (fun i => am_dk 26 (0 + i)) = true := by decide +kernel
set_option maxRecDepth 100000 in
theorem am_c26_0 : (List.range 10).all (fun i => am_ck 26 (0 + i)) = true := by decide +kernel
set_option maxRecDepth 100000 in
theorem am_g26 : am_good 26 := am_good_of (n := 10) (by decide +kernel) (am_ch _ 0 10 (am_no _) am_c26_0) (am_ch _ 0 10 (am_no _) am_d26_0)
set_option maxRecDepth 100000 in
theorem am_y26 : am_yk 26 = true := by decide +kernel
set_option maxRecDepth 100000 in
theorem am_d27_0 : (List.range 23).all (fun i => am_dk 27 (0 + i)) = true := by decide +kernel
set_option maxRecDepth 100000 in
theorem am_c27_0 : (List.range 23).all (fun i => am_ck 27 (0 + i)) = true := by decide +kernel
set_option maxRecDepth 100000 in
theorem am_g27 : am_good 27 := am_good_of (n := 23) (by decide +kernel) (am_ch _ 0 23 (am_no _) am_c27_0) (am_ch _ 0 23 (am_no _) am_d27_0)
set_option maxRecDepth 100000 in
theorem am_y27 : am_yk 27 = true := by decide +kernel
set_option maxRecDepth 100000 in
theorem am_d28_0 : (List.range 12).all (fun i => am_dk 28 (0 + i)) = true := by decide +kernel
set_option maxRecDepth 100000 in
theorem am_c28_0 : (List.range 12).all (fun i => am_ck 28 (0 + i)) = true := by decide +kernel
set_option maxRecDepth 100000 in
theorem am_g28 : am_good 28 := am_good_of (n := 12) (by decide +kernel) (am_ch _ 0 12 (am_no _) am_c28_0) (am_ch _ 0 12 (am_no _) am_d28_0)
set_option maxRecDepth 100000 in
theorem am_y28 : am_yk 28 = true := by decide +kernel
set_option maxRecDepth 100000 in
theorem am_d29_0 : (List.range 20).all (fun i => am_dk 29 (0 + i)) = true := by decide +kernel
set_option maxRecDepth 100000 in
theorem am_c29_0 : (List.range 20).all (fun i => am_ck 29 (0 + i)) = true := by decide +kernel
set_option maxRecDepth 100000 in
theorem am_g29 : am_good 29 := am_good_of (n := 20) (by decide +kernel) (am_ch _ 0 20 (am_no _) am_c29_0) (am_ch _ 0 20 (am_no _) am_d29_0)
set_option maxRecDepth 100000 in
theorem am_y29 : am_yk 29 = true := by decide +kernel
set_option maxRecDepth 100000 in
theorem am_d30_0 : (List.range 30).all (fun i => am_dk 30 (0 + i)) = true := by decide +kernel
set_option maxRecDepth 100000 in
theorem am_c30_0 : (List.range 30).all (fun i => am_ck 30 (0 + i)) = true := by decide +kernel
set_option maxRecDepth 100000 in
theorem am_d30_30 : (List.range 1).all (fun i => am_dk 30 (30 + i)) = true := by decide +kernel
set_option maxRecDepth 100000 in
theorem am_c30_30 : (List.range 1).all (fun i => am_ck 30 (30 + i)) = true := by decide +kernel
set_option maxRecDepth 100000 in
theorem am_g30 : am_good 30 := am_good_of (n := 31) (by decide +kernel) (am_ch _ 30 1 (am_ch _ 0 30 (am_no _) am_c30_0) am_c30_30) (am_ch _ 30 1 (am_ch _ 0 30 (am_no _) am_d30_0) am_d30_30)
set_option maxRecDepth 100000 in
theorem am_y30 : am_yk 30 = true := by decide +kernel
set_option maxRecDepth 100000 in
theorem am_d31_0 : (List.range 30).all (fun i => am_dk 31 (0 + i)) = true := by decide +kernel
set_option maxRecDepth 100000 in
theorem am_c31_0 : (List.range 30).all (fun i => am_ck 31 (0 + i)) = true := by decide +kernel
set_option maxRecDepth 100000 in
theorem am_d31_30 : (List.range 15).all (fun i => am_dk 31 (30 + i)) = true := by decide +kernel
set_option maxRecDepth 100000 in
theorem am_c31_30 : (List.range 15).all (fun i => am_ck 31 (30 + i)) = true := by decide +kernel
set_option maxRecDepth 100000 in
theorem am_g31 : am_good 31 := am_good_of (n := 45) (by decide +kernel) (am_ch _ 30 15 (am_ch _ 0 30 (am_no _) am_c31_0) am_c31_30) (am_ch _ 30 15 (am_ch _ 0 30 (am_no _) am_d31_0) am_d31_30)
set_option maxRecDepth 100000 in
theorem am_y31 : am_yk 31 = true := by decide +kernel
set_option maxRecDepth 100000 in
theorem am_d32_0 : (List.range 15).all (fun i => am_dk 32 (0 + i)) = true := by decide +kernel
set_option maxRecDepth 100000 in
theorem am_c32_0 : (List.range 15).all (fun i => am_ck 32 (0 + i)) = true := by decide +kernel
set_option maxRecDepth 100000 in
theorem am_g32 : am_good 32 := am_good_of (n := 15) (by decide +kernel) (am_ch _ 0 15 (am_no _) am_c32_0) (am_ch _ 0 15 (am_no _) am_d32_0)
set_option maxRecDepth 100000 in
theorem am_y32 : am_yk 32 = true := by decide +kernel
set_option maxRecDepth 100000 in
theorem am_d33_0 : (List.range 30).all (fun i => am_dk 33 (0 + i)) = true := by decide +kernel
set_option maxRecDepth 100000 in
theorem am_c33_0 : (List.range 30).all (fun i => am_ck 33 (0 + i)) = true := by decide +kernel
set_option maxRecDepth 100000 in
theorem am_d33_30 : (List.range 15).all (fun i => am_dk 33 (30 + i)) = true := by decide +kernel
set_option maxRecDepth 100000 in
theorem am_c33_30 : (List.range 15).all (fun i => am_ck 33 (30 + i)) = true := by decide +kernel
set_option maxRecDepth 100000 in
theorem am_g33 : am_good 33 := am_good_of (n := 45) (by decide +kernel) (am_ch _ 30 15 (am_ch _ 0 30 (am_no _) am_c33_0) am_c33_30) (am_ch _ 30 15 (am_ch _ 0 30 (am_no _) am_d33_0) am_d33_30)
set_option maxRecDepth 100000 in
theorem am_y33 : am_yk 33 = true := by decide +kernel
set_option maxRecDepth 100000 in
theorem am_d34_0 : (List.range 30).all (fun i => am_dk 34 (0 + i)) = true := by decide +kernel
set_option maxRecDepth 100000 in
theorem am_c34_0 : (List.range 30).all (fun i => am_ck 34 (0 + i)) = true := by decide +kernel
set_option maxRecDepth 100000 in
theorem am_d34_30 : (List.range 20).all (fun i => am_dk 34 (30 + i)) = true := by decide +kernel
set_option maxRecDepth 100000 in
theorem am_c34_30 : (List.range 20).all (fun i => am_ck 34 (30 + i)) = true := by decide +kernel
set_option maxRecDepth 100000 in
theorem am_g34 : am_good 34 := am_good_of (n := 50) (by decide +kernel) (am_ch _ 30 20 (am_ch _ 0 30 (am_no _) am_c34_0) am_c34_30) (am_ch _ 30 20 (am_ch _ 0 30 (am_no _) am_d34_0) am_d34_30)
set_option maxRecDepth 100000 in
theorem am_y34 : am_yk 34 = true := by decide +kernel
set_option maxRecDepth 100000 in
theorem am_d35_0 : (List.range 30).all (fun i => am_dk 35 (0 + i)) = true := by decide +kernel
set_option maxRecDepth 100000 in
theorem am_c35_0 : (List.range 30).all (fun i => am_ck 35 (0 + i)) = true := by decide +kernel
set_option maxRecDepth 100000 in
theorem am_d35_30 : (List.range 13).all (fun i => am_dk 35 (30 + i)) = true := by decide +kernel
set_option maxRecDepth 100000 in
theorem am_c35_30 : (List.range 13).all (fun i => am_ck 35 (30 + i)) = true := by decide +kernel
set_option maxRecDepth 100000 in
theorem am_g35 : am_good 35 := am_good_of (n := 43) (by decide +kernel) (am_ch _ 30 13 (am_ch _ 0 30 (am_no _) am_c35_0) am_c35_30) (am_ch _ 30 13 (am_ch _ 0 30 (am_no _) am_d35_0) am_d35_30)
set_option maxRecDepth 100000 in
theorem am_y35 : am_yk 35 = true := by decide +kernel
set_option maxRecDepth 100000 in
theorem am_d36_0 : (List.range 18).all (fun i => am_dk 36 (0 + i)) = true := by decide +kernel
set_option maxRecDepth 100000 in
theorem am_c36_0 : (List.range 18).all (fun i => am_ck 36 (0 + i)) = true := by decide +kernel
set_option maxRecDepth 100000 in
theorem am_g36 : am_good 36 := am_good_of (n := 18) (by decide +kernel) (am_ch _ 0 18 (am_no _) am_c36_0) (am_ch _ 0 18 (am_no _) am_d36_0)
set_option maxRecDepth 100000 in
theorem am_y36 : am_yk 36 = true := by decide +kernel
set_option maxRecDepth 100000 in
theorem am_d37_0 : (List.range 10).all (fun i => am_dk 37 (0 + i)) = true := by decide +kernel
set_option maxRecDepth 100000 in
theorem am_c37_0 : (List.range 10).all (fun i => am_ck 37 (0 + i)) = true := by decide +kernel
set_option maxRecDepth 100000 in
theorem am_g37 : am_good 37 := am_good_of (n := 10) (by decide +kernel) (am_ch _ 0 10 (am_no _) am_c37_0) (am_ch _ 0 10 (am_no _) am_d37_0)
set_option maxRecDepth 100000 in
theorem am_y37 : am_yk 37 = true := by decide +kernel
set_option maxRecDepth 100000 in
theorem am_d38_0 : (List.range 30).all (fun i => am_dk 38 (0 + i)) = true := by decide +kernel
set_option maxRecDepth 100000 in
theorem am_c38_0 : (List.range 30).all (fun i => am_ck 38 (0 + i)) = true := by decide +kernel
set_option maxRecDepth 100000 in
theorem am_d38_30 : (List.range 30).all (fun i => am_dk 38 (30 + i)) = true := by decide +kernel
set_option maxRecDepth 100000 in
theorem am_c38_30 : (List.range 30).all (fun i => am_ck 38 (30 + i)) = true := by decide +kernel
set_option maxRecDepth 100000 in
theorem am_d38_60 : (List.range 30).all (fun i => am_dk 38 (60 + i)) = true := by decide +kernel
set_option maxRecDepth 100000 in
theorem am_c38_60 : (List.range 30).all (fun i => am_ck 38 (60 + i)) = true := by decide +kernel
set_option maxRecDepth 100000 in
theorem am_d38_90 : (List.range 23).all (fun i => am_dk 38 (90 + i)) = true := by decide +kernel
set_option maxRecDepth 100000 in
theorem am_c38_90 : (List.range 23).all (fun i => am_ck 38 (90 + i)) = true := by decide +kernel
set_option maxRecDepth 100000 in
theorem am_g38 : am_good 38 := am_good_of (n := 113) (by decide +kernel) (am_ch _ 90 23 (am_ch _ 60 30 (am_ch _ 30 30 (am_ch _ 0 30 (am_no _) am_c38_0) am_c38_30) am_c38_60) am_c38_90) (am_ch _ 90 23 (am_ch _ 60 30 (am_ch _ 30 30 (am_ch _ 0 30 (am_no _) am_d38_0) am_d38_30) am_d38_60) am_d38_90)
set_option maxRecDepth 100000 in
theorem am_y38 : am_yk 38 = true := by decide +kernel
set_option maxRecDepth 100000 in
theorem am_d39_0 : (List.range 23).all (fun i => am_dk 39 (0 + i)) = true := by decide +kernel
set_option maxRecDepth 100000 in
theorem am_c39_0 : (List.range 23).all (fun i => am_ck 39 (0 + i)) = true := by decide +kernel
set_option maxRecDepth 100000 in
theorem am_g39 : am_good 39 := am_good_of (n := 23) (by decide +kernel) (am_ch _ 0 23 (am_no _) am_c39_0) (am_ch _ 0 23 (am_no _) am_d39_0)
set_option maxRecDepth 100000 in
theorem am_y39 : am_yk 39 = true := by decide +kernel
set_option maxRecDepth 100000 in
theorem am_d40_0 : (List.range 25).all (fun i => am_dk 40 (0 + i)) = true := by decide +kernel
set_option maxRecDepth 100000 in
theorem am_c40_0 : (List.range 25).all (fun i => am_ck 40 (0 + i)) = true := by decide +kernel
set_option maxRecDepth 100000 in
theorem am_g40 : am_good 40 := am_good_of (n := 25) (by decide +kernel) (am_ch _ 0 25 (am_no _) am_c40_0) (am_ch _ 0 25 (am_no _) am_d40_0)
set_option maxRecDepth 100000 in
theorem am_y40 : am_yk 40 = true := by decide +kernel
set_option maxRecDepth 100000 in
theorem am_d41_0 : (List.range 25).all (fun i => am_dk 41 (0 + i)) = true := by decide +kernel
set_option maxRecDepth 100000 in
theorem am_c41_0 : (List.range 25).all (fun i => am_ck 41 (0 + i)) = true := by decide +kernel
set_option maxRecDepth 100000 in
theorem am_g41 : am_good 41 := am_good_of (n := 25) (by decide +kernel) (am_ch _ 0 25 (am_no _) am_c41_0) (am_ch _ 0 25 (am_no _) am_d41_0)
set_option maxRecDepth 100000 in
theorem am_y41 : am_yk 41 = true := by decide +kernel
set_option maxRecDepth 100000 in
theorem am_d42_0 : (List.range 30).all (fun i => am_dk 42 (0 + i)) = true := by decide +kernel
set_option maxRecDepth 100000 in
theorem am_c42_0 : (List.range 30).all (fun i => am_ck 42 (0 + i)) = true := by decide +kernel
set_option maxRecDepth 100000 in
theorem am_d42_30 : (List.range 6).all (fun i => am_dk 42 (30 + i)) = true := by decide +kernel
set_option maxRecDepth 100000 in
theorem am_c42_30 : (List.range 6).all (fun i => am_ck 42 (30 + i)) = true := by decide +kernel
set_option maxRecDepth 100000 in
theorem am_g42 : am_good 42 := am_good_of (n := 36) (by decide +kernel) (am_ch _ 30 6 (am_ch _ 0 30 (am_no _) am_c42_0) am_c42_30) (am_ch _ 30 6 (am_ch _ 0 30 (am_no _) am_d42_0) am_d42_30)
set_option maxRecDepth 100000 in
theorem am_y42 : am_yk 42 = true := by decide +kernel
set_option maxRecDepth 100000 in
theorem am_d43_0 : (List.range 30).all (fun i => am_dk 43 (0 + i)) = true := by decide +kernel
set_option maxRecDepth 100000 in
theorem am_c43_0 : (List.range 30).all (fun i => am_ck 43 (0 + i)) = true := by decide +kernel
set_option maxRecDepth 100000 in
theorem am_d43_30 : (List.range 4).all (fun i => am_dk 43 (30 + i)) = true := by decide +kernel
set_option maxRecDepth 100000 in
theorem am_c43_30 : (List.range 4).all (fun i => am_ck 43 (30 + i)) = true := by decide +kernel
set_option maxRecDepth 100000 in
theorem am_g43 : am_good 43 := am_good_of (n := 34) (by decide +kernel) (am_ch _ 30 4 (am_ch _ 0 30 (am_no _) am_c43_0) am_c43_30) (am_ch _ 30 4 (am_ch _ 0 30 (am_no _) am_d43_0) am_d43_30)
set_option maxRecDepth 100000 in
theorem am_y43 : am_yk 43 = true := by decide +kernel
set_option maxRecDepth 100000 in
theorem am_d44_0 : (List.range 10).all (fun i => am_dk 44 (0 + i)) = true := by decide +kernel
set_option maxRecDepth 100000 in
theorem am_c44_0 : (List.range 10).all (fun i => am_ck 44 (0 + i)) = true := by decide +kernel
set_option maxRecDepth 100000 in
theorem am_g44 : am_good 44 := am_good_of (n := 10) (by decide +kernel) (am_ch _ 0 10 (am_no _) am_c44_0) (am_ch _ 0 10 (am_no _) am_d44_0)
set_option maxRecDepth 100000 in
theorem am_y44 : am_yk 44 = true := by decide +kernel
set_option maxRecDepth 100000 in
theorem am_d45_0 : (List.range 10).all (fun i => am_dk 45 (0 + i)) = true := by decide +kernel
set_option maxRecDepth 100000 in
theorem am_c45_0 : (List.range 10).all (fun i => am_ck 45 (0 + i)) = true := by decide +kernel
set_option maxRecDepth 100000 in
theorem am_g45 : am_good 45 := am_good_of (n := 10) (by decide +kernel) (am_ch _ 0 10 (am_no _) am_c45_0) (am_ch _ 0 10 (am_no _) am_d45_0)
set_option maxRecDepth 100000 in
theorem am_y45 : am_yk 45 = true := by decide +kernel
set_option maxRecDepth 100000 in
theorem am_d46_0 : (List.range 27).all (fun i => am_dk 46 (0 + i)) = true := by decide +kernel
set_option maxRecDepth 100000 in
theorem am_c46_0 : (List.range 27).all (fun i => am_ck 46 (0 + i)) = true := by decide +kernel
set_option maxRecDepth 100000 in
theorem am_g46 : am_good 46 := am_good_of (n := 27) (by decide +kernel) (am_ch _ 0 27 (am_no _) am_c46_0) (am_ch _ 0 27 (am_no _) am_d46_0)
set_option maxRecDepth 100000 in
theorem am_y46 : am_yk 46 = true := by decide +kernel
set_option maxRecDepth 100000 in
theorem am_d47_0 : (List.range 29).all (fun i => am_dk 47 (0 + i)) = true := by decide +kernel
set_option maxRecDepth 100000 in
theorem am_c47_0 : (List.range 29).all (fun i => am_ck 47 (0 + i)) = true := by decide +kernel
set_option maxRecDepth 100000 in
theorem am_g47 : am_good 47 := am_good_of (n := 29) (by decide +kernel) (am_ch _ 0 29 (am_no _) am_c47_0) (am_ch _ 0 29 (am_no _) am_d47_0)
set_option maxRecDepth 100000 in
theorem am_y47 : am_yk 47 = true := by decide +kernel
set_option maxRecDepth 100000 in
theorem am_d48_0 : (List.range 30).all (fun i => am_dk 48 (0 + i)) = true := by decide +kernel
set_option maxRecDepth 100000 in
theorem am_c48_0 : (List.range 30).all (fun i => am_ck 48 (0 + i)) = true := by decide +kernel
set_option maxRecDepth 100000 in
theorem am_d48_30 : (List.range 8).all (fun i => am_dk 48 (30 + i)) = true := by decide +kernel
set_option maxRecDepth 100000 in
theorem am_c48_30 : (List.range 8).all (fun i => am_ck 48 (30 + i)) = true := by decide +kernel
set_option maxRecDepth 100000 in
theorem am_g48 : am_good 48 := am_good_of (n := 38) (by decide +kernel) (am_ch _ 30 8 (am_ch _ 0 30 (am_no _) am_c48_0) am_c48_30) (am_ch _ 30 8 (am_ch _ 0 30 (am_no _) am_d48_0) am_d48_30)
set_option maxRecDepth 100000 in
theorem am_y48 : am_yk 48 = true := by decide +kernel
set_option maxRecDepth 100000 in
theorem am_d49_0 : (List.range 17).all (fun i => am_dk 49 (0 + i)) = true := by decide +kernel
set_option maxRecDepth 100000 in
theorem am_c49_0 : (List.range 17).all (fun i => am_ck 49 (0 + i)) = true := by decide +kernel
set_option maxRecDepth 100000 in
theorem am_g49 : am_good 49 := am_good_of (n := 17) (by decide +kernel) (am_ch _ 0 17 (am_no _) am_c49_0) (am_ch _ 0 17 (am_no _) am_d49_0)
set_option maxRecDepth 100000 in
theorem am_y49 : am_yk 49 = true := by decide +kernel
set_option maxRecDepth 100000 in
theorem am_d50_0 : (List.range 20).all (fun i => am_dk 50 (0 + i)) = true := by decide +kernel
set_option maxRecDepth 100000 in
theorem am_c50_0 : (List.range 20).all (fun i => am_ck 50 (0 + i)) = true := by decide +kernel
set_option maxRecDepth 100000 in
theorem am_g50 : am_good 50 := am_good_of (n := 20) (by decide +kernel) (am_ch _ 0 20 (am_no _) am_c50_0) (am_ch _ 0 20 (am_no _) am_d50_0)
set_option maxRecDepth 100000 in
theorem am_y50 : am_yk 50 = true := by decide +kernel
set_option maxRecDepth 100000 in
theorem am_d51_0 : (List.range 18).all (fun i => am_dk 51 (0 + i)) = true := by decide +kernel
set_option maxRecDepth 100000 in
theorem am_c51_0 : (List.range 18).all (fun i => am_ck 51 (0 + i)) = true := by decide +kernel
set_option maxRecDepth 100000 in
theorem am_g51 : am_good 51 := am_good_of (n := 18) (by decide +kernel) (am_ch _ 0 18 (am_no _) am_c51_0) (am_ch _ 0 18 (am_no _) am_d51_0)
set_option maxRecDepth 100000 in
theorem am_y51 : am_yk 51 = true := by decide +kernel
set_option maxRecDepth 100000 in
theorem am_d52_0 : (List.range 30).all (fun i => am_dk 52 (0 + i)) = true := by decide +kernel
set_option maxRecDepth 100000 in
theorem am_c52_0 : (List.range 30).all (fun i => am_ck 52 (0 + i)) = true := by decide +kernel
set_option maxRecDepth 100000 in
theorem am_d52_30 : (List.range 8).all (fun i => am_dk 52 (30 + i)) = true := by decide +kernel
set_option maxRecDepth 100000 in
theorem am_c52_30 : (List.range 8).all (fun i => am_ck 52 (30 + i)) = true := by decide +kernel
set_option maxRecDepth 100000 in
theorem am_g52 : am_good 52 := am_good_of (n := 38) (by decide +kernel) (am_ch _ 30 8 (am_ch _ 0 30 (am_no _) am_c52_0) am_c52_30) (am_ch _ 30 8 (am_ch _ 0 30 (am_no _) am_d52_0) am_d52_30)
set_option maxRecDepth 100000 in
theorem am_y52 : am_yk 52 = true := by decide +kernel
set_option maxRecDepth 100000 in
theorem am_d53_0 : (List.range 21).all (fun i => am_dk 53 (0 + i)) = true := by decide +kernel
set_option maxRecDepth 100000 in
theorem am_c53_0 : (List.range 21).all (fun i => am_ck 53 (0 + i)) = true := by decide +kernel
set_option maxRecDepth 100000 in
theorem am_g53 : am_good 53 := am_good_of (n := 21) (by decide +kernel) (am_ch _ 0 21 (am_no _) am_c53_0) (am_ch _ 0 21 (am_no _) am_d53_0)
set_option maxRecDepth 100000 in
theorem am_y53 : am_yk 53 = true := by decide +kernel
set_option maxRecDepth 100000 in
theorem am_d54_0 : (List.range 10).all (fun i => am_dk 54 (0 + i)) = true := by decide +kernel
set_option maxRecDepth 100000 in
theorem am_c54_0 : (List.range 10).all (fun i => am_ck 54 (0 + i)) = true := by decide +kernel
set_option maxRecDepth 100000 in
theorem am_g54 : am_good 54 := am_good_of (n := 10) (by decide +kernel) (am_ch _ 0 10 (am_no _) am_c54_0) (am_ch _ 0 10 (am_no _) am_d54_0)
set_option maxRecDepth 100000 in
theorem am_y54 : am_yk 54 = true := by decide +kernel
set_option maxRecDepth 100000 in
theorem am_d55_0 : (List.range 30).all (fun i => am_dk 55 (0 + i)) = true := by decide +kernel
set_option maxRecDepth 100000 in
theorem am_c55_0 : (List.range 30).all (fun i => am_ck 55 (0 + i)) = true := by decide +kernel
set_option maxRecDepth 100000 in
theorem am_d55_30 : (List.range 7).all (fun i => am_dk 55 (30 + i)) = true := by decide +kernel
set_option maxRecDepth 100000 in
theorem am_c55_30 : (List.range 7).all (fun i => am_ck 55 (30 + i)) = true := by decide +kernel
set_option maxRecDepth 100000 in
theorem am_g55 : am_good 55 := am_good_of (n := 37) (by decide +kernel) (am_ch _ 30 7 (am_ch _ 0 30 (am_no _) am_c55_0) am_c55_30) (am_ch _ 30 7 (am_ch _ 0 30 (am_no _) am_d55_0) am_d55_30)
set_option maxRecDepth 100000 in
theorem am_y55 : am_yk 55 = true := by decide +kernel
set_option maxRecDepth 100000 in
theorem am_d56_0 : (List.range 18).all (fun i => am_dk 56 (0 + i)) = true := by decide +kernel
set_option maxRecDepth 100000 in
theorem am_c56_0 : (List.range 18).all (fun i => am_ck 56 (0 + i)) = true := by decide +kernel
set_option maxRecDepth 100000 in
theorem am_g56 : am_good 56 := am_good_of (n := 18) (by decide +kernel) (am_ch _ 0 18 (am_no _) am_c56_0) (am_ch _ 0 18 (am_no _) am_d56_0)
set_option maxRecDepth 100000 in
theorem am_y56 : am_yk 56 = true := by decide +kernel
set_option maxRecDepth 100000 in
theorem am_d57_0 : (List.range 30).all (fun i => am_dk 57 (0 + i)) = true := by decide +kernel
set_option maxRecDepth 100000 in
theorem am_c57_0 : (List.range 30).all (fun i => am_ck 57 (0 + i)) = true := by decide +kernel
set_option maxRecDepth 100000 in
theorem am_d57_30 : (List.range 4).all (fun i => am_dk 57 (30 + i)) = true := by decide +kernel
set_option maxRecDepth 100000 in
theorem am_c57_30 : (List.range 4).all (fun i => am_ck 57 (30 + i)) = true := by decide +kernel
set_option maxRecDepth 100000 in
theorem am_g57 : am_good 57 := am_good_of (n := 34) (by decide +kernel) (am_ch _ 30 4 (am_ch _ 0 30 (am_no _) am_c57_0) am_c57_30) (am_ch _ 30 4 (am_ch _ 0 30 (am_no _) am_d57_0) am_d57_30)
set_option maxRecDepth 100000 in
theorem am_y57 : am_yk 57 = true := by decide +kernel
set_option maxRecDepth 100000 in
theorem am_d58_0 : (List.range 30).all (fun i => am_dk 58 (0 + i)) = true := by decide +kernel
set_option maxRecDepth 100000 in
theorem am_c58_0 : (List.range 30).all (fun i => am_ck 58 (0 + i)) = true := by decide +kernel
set_option maxRecDepth 100000 in
theorem am_d58_30 : (List.range 6).all (fun i => am_dk 58 (30 + i)) = true := by decide +kernel
set_option maxRecDepth 100000 in
theorem am_c58_30 : (List.range 6).all (fun i => am_ck 58 (30 + i)) = true := by decide +kernel
set_option maxRecDepth 100000 in
theorem am_g58 : am_good 58 := am_good_of (n := 36) (by decide +kernel) (am_ch _ 30 6 (am_ch _ 0 30 (am_no _) am_c58_0) am_c58_30) (am_ch _ 30 6 (am_ch _ 0 30 (am_no _) am_d58_0) am_d58_30)
set_option maxRecDepth 100000 in
theorem am_y58 : am_yk 58 = true := by decide +kernel
set_option maxRecDepth 100000 in
theorem am_d59_0 : (List.range 10).all (fun i => am_dk 59 (0 + i)) = true := by decide +kernel
set_option maxRecDepth 100000 in
theorem am_c59_0 : (List.range 10).all (fun i => am_ck 59 (0 + i)) = true := by decide +kernel
set_option maxRecDepth 100000 in
theorem am_g59 : am_good 59 := am_good_of (n := 10) (by decide +kernel) (am_ch _ 0 10 (am_no _) am_c59_0) (am_ch _ 0 10 (am_no _) am_d59_0)
set_option maxRecDepth 100000 in
theorem am_y59 : am_yk 59 = true := by decide +kernel
set_option maxRecDepth 100000 in
theorem am_d60_0 : (List.range 19).all (fun i => am_dk 60 (0 + i)) = true := by decide +kernel
set_option maxRecDepth 100000 in
theorem am_c60_0 : (List.range 19).all (fun i => am_ck 60 (0 + i)) = true := by decide +kernel
set_option maxRecDepth 100000 in
theorem am_g60 : am_good 60 := am_good_of (n := 19) (by decide +kernel) (am_ch _ 0 19 (am_no _) am_c60_0) (am_ch _ 0 19 (am_no _) am_d60_0)
set_option maxRecDepth 100000 in
theorem am_y60 : am_yk 60 = true := by decide +kernel
set_option maxRecDepth 100000 in
theorem am_d61_0 : (List.range 23).all (fun i => am_dk 61 (0 + i)) = true := by decide +kernel
set_option maxRecDepth 100000 in
theorem am_c61_0 : (List.range 23).all (fun i => am_ck 61 (0 + i)) = true := by decide +kernel
set_option maxRecDepth 100000 in
theorem am_g61 : am_good 61 := am_good_of (n := 23) (by decide +kernel) (am_ch _ 0 23 (am_no _) am_c61_0) (am_ch _ 0 23 (am_no _) am_d61_0)
set_option maxRecDepth 100000 in
theorem am_y61 : am_yk 61 = true := by decide +kernel
set_option maxRecDepth 100000 in
theorem am_d62_0 : (List.range 30).all (fun i => am_dk 62 (0 + i)) = true := by decide +kernel
set_option maxRecDepth 100000 in
theorem am_c62_0 : (List.range 30).all (fun i => am_ck 62 (0 + i)) = true := by decide +kernel
set_option maxRecDepth 100000 in
theorem am_d62_30 : (List.range 1).all (fun i => am_dk 62 (30 + i)) = true := by decide +kernel
set_option maxRecDepth 100000 in
theorem am_c62_30 : (List.range 1).all (fun i => am_ck 62 (30 + i)) = true := by decide +kernel
set_option maxRecDepth 100000 in
theorem am_g62 : am_good 62 := am_good_of (n := 31) (by decide +kernel) (am_ch _ 30 1 (am_ch _ 0 30 (am_no _) am_c62_0) am_c62_30) (am_ch _ 30 1 (am_ch _ 0 30 (am_no _) am_d62_0) am_d62_30)
set_option maxRecDepth 100000 in
theorem am_y62 : am_yk 62 = true := by decide +kernel
set_option maxRecDepth 100000 in
theorem am_d63_0 : (List.range 24).all (fun i => am_dk 63 (0 + i)) = true := by decide +kernel
set_option maxRecDepth 100000 in
theorem am_c63_0 : (List.range 24).all (fun i => am_ck 63 (0 + i)) = true := by decide +kernel
set_option maxRecDepth 100000 in
theorem am_g63 : am_good 63 := am_good_of (n := 24) (by decide +kernel) (am_ch _ 0 24 (am_no _) am_c63_0) (am_ch _ 0 24 (am_no _) am_d63_0)
set_option maxRecDepth 100000 in
theorem am_y63 : am_yk 63 = true := by decide +kernel
set_option maxRecDepth 100000 in
theorem am_d64_0 : (List.range 30).all (fun i => am_dk 64 (0 + i)) = true := by decide +kernel
set_option maxRecDepth 100000 in
theorem am_c64_0 : (List.range 30).all (fun i => am_ck 64 (0 + i)) = true := by decide +kernel
set_option maxRecDepth 100000 in
theorem am_d64_30 : (List.range 27).all (fun i => am_dk 64 (30 + i)) = true := by decide +kernel
set_option maxRecDepth 100000 in
theorem am_c64_30 : (List.range 27).all (fun i => am_ck 64 (30 + i)) = true := by decide +kernel
set_option maxRecDepth 100000 in
theorem am_g64 : am_good 64 := am_good_of (n := 57) (by decide +kernel) (am_ch _ 30 27 (am_ch _ 0 30 (am_no _) am_c64_0) am_c64_30) (am_ch _ 30 27 (am_ch _ 0 30 (am_no _) am_d64_0) am_d64_30)
set_option maxRecDepth 100000 in
theorem am_y64 : am_yk 64 = true := by decide +kernel
set_option maxRecDepth 100000 in
theorem am_d65_0 : (List.range 14).all (fun i => am_dk 65 (0 + i)) = true := by decide +kernel
set_option maxRecDepth 100000 in
theorem am_c65_0 : (List.range 14).all (fun i => am_ck 65 (0 + i)) = true := by decide +kernel
set_option maxRecDepth 100000 in
theorem am_g65 : am_good 65 := am_good_of (n := 14) (by decide +kernel) (am_ch _ 0 14 (am_no _) am_c65_0) (am_ch _ 0 14 (am_no _) am_d65_0)
set_option maxRecDepth 100000 in
theorem am_y65 : am_yk 65 = true := by decide +kernel
set_option maxRecDepth 100000 in
theorem am_d66_0 : (List.range 30).all (fun i => am_dk 66 (0 + i)) = true := by decide +kernel
set_option maxRecDepth 100000 in
theorem am_c66_0 : (List.range 30).all (fun i => am_ck 66 (0 + i)) = true := by decide +kernel
set_option maxRecDepth 100000 in
theorem am_d66_30 : (List.range 12).all (fun i => am_dk 66 (30 + i)) = true := by decide +kernel
set_option maxRecDepth 100000 in
theorem am_c66_30 : (List.range 12).all (fun i => am_ck 66 (30 + i)) = true := by decide +kernel
set_option maxRecDepth 100000 in
theorem am_g66 : am_good 66 := am_good_of (n := 42) (by decide +kernel) (am_ch _ 30 12 (am_ch _ 0 30 (am_no _) am_c66_0) am_c66_30) (am_ch _ 30 12 (am_ch _ 0 30 (am_no _) am_d66_0) am_d66_30)
set_option maxRecDepth 100000 in
theorem am_y66 : am_yk 66 = true := by decide +kernel
set_option maxRecDepth 100000 in
theorem am_d67_0 : (List.range 29).all (fun i => am_dk 67 (0 + i)) = true := by decide +kernel
set_option maxRecDepth 100000 in
theorem am_c67_0 : (List.range 29).all (fun i => am_ck 67 (0 + i)) = true := by decide +kernel
set_option maxRecDepth 100000 in
theorem am_g67 : am_good 67 := am_good_of (n := 29) (by decide +kernel) (am_ch _ 0 29 (am_no _) am_c67_0) (am_ch _ 0 29 (am_no _) am_d67_0)
set_option maxRecDepth 100000 in
theorem am_y67 : am_yk 67 = true := by decide +kernel
set_option maxRecDepth 100000 in
theorem am_d68_0 : (List.range 13).all (fun i => am_dk 68 (0 + i)) = true := by decide +kernel
set_option maxRecDepth 100000 in
theorem am_c68_0 : (List.range 13).all (fun i => am_ck 68 (0 + i)) = true := by decide +kernel
set_option maxRecDepth 100000 in
theorem am_g68 : am_good 68 := am_good_of (n := 13) (by decide +kernel) (am_ch _ 0 13 (am_no _) am_c68_0) (am_ch _ 0 13 (am_no _) am_d68_0)
set_option maxRecDepth 100000 in
theorem am_y68 : am_yk 68 = true := by decide +kernel
set_option maxRecDepth 100000 in
theorem am_d69_0 : (List.range 30).all (fun i => am_dk 69 (0 + i)) = true := by decide +kernel
set_option maxRecDepth 100000 in
theorem am_c69_0 : (List.range 30).all (fun i => am_ck 69 (0 + i)) = true := by decide +kernel
set_option maxRecDepth 100000 in
theorem am_d69_30 : (List.range 7).all (fun i => am_dk 69 (30 + i)) = true := by decide +kernel
set_option maxRecDepth 100000 in
theorem am_c69_30 : (List.range 7).all (fun i => am_ck 69 (30 + i)) = true := by decide +kernel
set_option maxRecDepth 100000 in
theorem am_g69 : am_good 69 := am_good_of (n := 37) (by decide +kernel) (am_ch _ 30 7 (am_ch _ 0 30 (am_no _) am_c69_0) am_c69_30) (am_ch _ 30 7 (am_ch _ 0 30 (am_no _) am_d69_0) am_d69_30)
set_option maxRecDepth 100000 in
theorem am_y69 : am_yk 69 = true := by decide +kernel
set_option maxRecDepth 100000 in
theorem am_d70_0 : (List.range 13).all (fun i => am_dk 70 (0 + i)) = true := by decide +kernel
set_option maxRecDepth 100000 in
theorem am_c70_0 : (List.range 13).all (fun i => am_ck 70 (0 + i)) = true := by decide +kernel
set_option maxRecDepth 100000 in
theorem am_g70 : am_good 70 := am_good_of (n := 13) (by decide +kernel) (am_ch _ 0 13 (am_no _) am_c70_0) (am_ch _ 0 13 (am_no _) am_d70_0)
set_option maxRecDepth 100000 in
theorem am_y70 : am_yk 70 = true := by decide +kernel
set_option maxRecDepth 100000 in
theorem am_d71_0 : (List.range 30).all (fun i => am_dk 71 (0 + i)) = true := by decide +kernel
set_option maxRecDepth 100000 in
theorem am_c71_0 : (List.range 30).all (fun i => am_ck 71 (0 + i)) = true := by decide +kernel
set_option maxRecDepth 100000 in
theorem am_d71_30 : (List.range 3).all (fun i => am_dk 71 (30 + i)) = true := by decide +kernel
set_option maxRecDepth 100000 in
theorem am_c71_30 : (List.range 3).all (fun i => am_ck 71 (30 + i)) = true := by decide +kernel
set_option maxRecDepth 100000 in
theorem am_g71 : am_good 71 := am_good_of (n := 33) (by decide +kernel) (am_ch _ 30 3 (am_ch _ 0 30 (am_no _) am_c71_0) am_c71_30) (am_ch _ 30 3 (am_ch _ 0 30 (am_no _) am_d71_0) am_d71_30)
set_option maxRecDepth 100000 in
theorem am_y71 : am_yk 71 = true := by decide +kernel
set_option maxRecDepth 100000 in
theorem am_d72_0 : (List.range 26).all (fun i => am_dk 72 (0 + i)) = true := by decide +kernel
set_option maxRecDepth 100000 in
theorem am_c72_0 : (List.range 26).all (fun i => am_ck 72 (0 + i)) = true := by decide +kernel
set_option maxRecDepth 100000 in
theorem am_g72 : am_good 72 := am_good_of (n := 26) (by decide +kernel) (am_ch _ 0 26 (am_no _) am_c72_0) (am_ch _ 0 26 (am_no _) am_d72_0)
set_option maxRecDepth 100000 in
theorem am_y72 : am_yk 72 = true := by decide +kernel
set_option maxRecDepth 100000 in
theorem am_d73_0 : (List.range 30).all (fun i => am_dk 73 (0 + i)) = true := by decide +kernel
set_option maxRecDepth 100000 in
theorem am_c73_0 : (List.range 30).all (fun i => am_ck 73 (0 + i)) = true := by decide +kernel
set_option maxRecDepth 100000 in
theorem am_d73_30 : (List.range 10).all (fun i => am_dk 73 (30 + i)) = true := by decide +kernel
set_option maxRecDepth 100000 in
theorem am_c73_30 : (List.range 10).all (fun i => am_ck 73 (30 + i)) = true := by decide +kernel
set_option maxRecDepth 100000 in
theorem am_g73 : am_good 73 := am_good_of (n := 40) (by decide +kernel) (am_ch _ 30 10 (am_ch _ 0 30 (am_no _) am_c73_0) am_c73_30) (am_ch _ 30 10 (am_ch _ 0 30 (am_no _) am_d73_0) am_d73_30)
set_option maxRecDepth 100000 in
theorem am_y73 : am_yk 73 = true := by decide +kernel
set_option maxRecDepth 100000 in
theorem am_d74_0 : (List.range 30).all (fun i => am_dk 74 (0 + i)) = true := by decide +kernel
set_option maxRecDepth 100000 in
theorem am_c74_0 : (List.range 30).all (fun i => am_ck 74 (0 + i)) = true := by decide +kernel
set_option maxRecDepth 100000 in
theorem am_d74_30 : (List.range 18).all (fun i => am_dk 74 (30 + i)) = true := by decide +kernel
set_option maxRecDepth 100000 in
theorem am_c74_30 : (List.range 18).all (fun i => am_ck 74 (30 + i)) = true := by decide +kernel
set_option maxRecDepth 100000 in
theorem am_g74 : am_good 74 := am_good_of (n := 48) (by decide +kernel) (am_ch _ 30 18 (am_ch _ 0 30 (am_no _) am_c74_0) am_c74_30) (am_ch _ 30 18 (am_ch _ 0 30 (am_no _) am_d74_0) am_d74_30)
set_option maxRecDepth 100000 in
theorem am_y74 : am_yk 74 = true := by decide +kernel
set_option maxRecDepth 100000 in
theorem am_d75_0 : (List.range 30).all (fun i => am_dk 75 (0 + i)) = true := by decide +kernel
set_option maxRecDepth 100000 in
theorem am_c75_0 : (List.range 30).all (fun i => am_ck 75 (0 + i)) = true := by decide +kernel
set_option maxRecDepth 100000 in
theorem am_d75_30 : (List.range 4).all (fun i => am_dk 75 (30 + i)) = true := by decide +kernel
set_option maxRecDepth 100000 in
theorem am_c75_30 : (List.range 4).all (fun i => am_ck 75 (30 + i)) = true := by decide +kernel
set_option maxRecDepth 100000 in
theorem am_g75 : am_good 75 := am_good_of (n := 34) (by decide +kernel) (am_ch _ 30 4 (am_ch _ 0 30 (am_no _) am_c75_0) am_c75_30) (am_ch _ 30 4 (am_ch _ 0 30 (am_no _) am_d75_0) am_d75_30)
set_option maxRecDepth 100000 in
theorem am_y75 : am_yk 75 = true := by decide +kernel
set_option maxRecDepth 100000 in
theorem am_d76_0 : (List.range 30).all (fun i => am_dk 76 (0 + i)) = true := by decide +kernel
set_option maxRecDepth 100000 in
theorem am_c76_0 : (List.range 30).all (fun i => am_ck 76 (0 + i)) = true := by decide +kernel
set_option maxRecDepth 100000 in
theorem am_d76_30 : (List.range 5).all (fun i => am_dk 76 (30 + i)) = true := by decide +kernel
set_option maxRecDepth 100000 in
theorem am_c76_30 : (List.range 5).all (fun i => am_ck 76 (30 + i)) = true := by decide +kernel
set_option maxRecDepth 100000 in
theorem am_g76 : am_good 76 := am_good_of (n := 35) (by decide +kernel) (am_ch _ 30 5 (am_ch _ 0 30 (am_no _) am_c76_0) am_c76_30) (am_ch _ 30 5 (am_ch _ 0 30 (am_no _) am_d76_0) am_d76_30)
set_option maxRecDepth 100000 in
theorem am_y76 : am_yk 76 = true := by decide +kernel
set_option maxRecDepth 100000 in
theorem am_d77_0 : (List.range 21).all (fun i => am_dk 77 (0 + i)) = true := by decide +kernel
set_option maxRecDepth 100000 in
theorem am_c77_0 : (List.range 21).all (fun i => am_ck 77 (0 + i)) = true := by decide +kernel
set_option maxRecDepth 100000 in
theorem am_g77 : am_good 77 := am_good_of (n := 21) (by decide +kernel) (am_ch _ 0 21 (am_no _) am_c77_0) (am_ch _ 0 21 (am_no _) am_d77_0)
set_option maxRecDepth 100000 in
theorem am_y77 : am_yk 77 = true := by decide +kernel
set_option maxRecDepth 100000 in
theorem am_d78_0 : (List.range 23).all (fun i => am_dk 78 (0 + i)) = true := by decide +kernel
set_option maxRecDepth 100000 in
theorem am_c78_0 : (List.range 23).all (fun i => am_ck 78 (0 + i)) = true := by decide +kernel
set_option maxRecDepth 100000 in
theorem am_g78 : am_good 78 := am_good_of (n := 23) (by decide +kernel) (am_ch _ 0 23 (am_no _) am_c78_0) (am_ch _ 0 23 (am_no _) am_d78_0)
set_option maxRecDepth 100000 in
theorem am_y78 : am_yk 78 = true := by decide +kernel
set_option maxRecDepth 100000 in
theorem am_d79_0 : (List.range 30).all (fun i => am_dk 79 (0 + i)) = true := by decide +kernel
set_option maxRecDepth 100000 in
theorem am_c79_0 : (List.range 30).all (fun i => am_ck 79 (0 + i)) = true := by decide +kernel
set_option maxRecDepth 100000 in
theorem am_d79_30 : (List.range 2).all (fun i => am_dk 79 (30 + i)) = true := by decide +kernel
set_option maxRecDepth 100000 in
theorem am_c79_30 : (List.range 2).all (fun i => am_ck 79 (30 + i)) = true := by decide +kernel
set_option maxRecDepth 100000 in
theorem am_g79 : am_good 79 := am_good_of (n := 32) (by decide +kernel) (am_ch _ 30 2 (am_ch _ 0 30 (am_no _) am_c79_0) am_c79_30) (am_ch _ 30 2 (am_ch _ 0 30 (am_no _) am_d79_0) am_d79_30)
set_option maxRecDepth 100000 in
theorem am_y79 : am_yk 79 = true := by decide +kernel
set_option maxRecDepth 100000 in
theorem am_d80_0 : (List.range 3).all (fun i => am_dk 80 (0 + i)) = true := by decide +kernel
set_option maxRecDepth 100000 in
theorem am_c80_0 : (List.range 3).all (fun i => am_ck 80 (0 + i)) = true := by decide +kernel
set_option maxRecDepth 100000 in
theorem am_g80 : am_good 80 := am_good_of (n := 3) (by decide +kernel) (am_ch _ 0 3 (am_no _) am_c80_0) (am_ch _ 0 3 (am_no _) am_d80_0)
set_option maxRecDepth 100000 in
theorem am_y80 : am_yk 80 = true := by decide +kernel
set_option maxRecDepth 100000 in
theorem am_d81_0 : (List.range 9).all (fun i => am_dk 81 (0 + i)) = true := by decide +kernel
set_option maxRecDepth 100000 in
theorem am_c81_0 : (List.range 9).all (fun i => am_ck 81 (0 + i)) = true := by decide +kernel
set_option maxRecDepth 100000 in
theorem am_g81 : am_good 81 := am_good_of (n := 9) (by decide +kernel) (am_ch _ 0 9 (am_no _) am_c81_0) (am_ch _ 0 9 (am_no _) am_d81_0)
set_option maxRecDepth 100000 in
theorem am_y81 : am_yk 81 = true := by decide +kernel
set_option maxRecDepth 100000 in
theorem am_d82_0 : (List.range 4).all (fun i => am_dk 82 (0 + i)) = true := by decide +kernel
set_option maxRecDepth 100000 in
theorem am_c82_0 : (List.range 4).all (fun i => am_ck 82 (0 + i)) = true := by decide +kernel
set_option maxRecDepth 100000 in
theorem am_g82 : am_good 82 := am_good_of (n := 4) (by decide +kernel) (am_ch _ 0 4 (am_no _) am_c82_0) (am_ch _ 0 4 (am_no _) am_d82_0)
set_option maxRecDepth 100000 in
theorem am_y82 : am_yk 82 = true := by decide +kernel
set_option maxRecDepth 100000 in
theorem am_d83_0 : (List.range 12).all (fun i => am_dk 83 (0 + i)) = true := by decide +kernel
set_option maxRecDepth 100000 in
theorem am_c83_0 : (List.range 12).all (fun i => am_ck 83 (0 + i)) = true := by decide +kernel
set_option maxRecDepth 100000 in
theorem am_g83 : am_good 83 := am_good_of (n := 12) (by decide +kernel) (am_ch _ 0 12 (am_no _) am_c83_0) (am_ch _ 0 12 (am_no _) am_d83_0)
set_option maxRecDepth 100000 in
theorem am_y83 : am_yk 83 = true := by decide +kernel
set_option maxRecDepth 100000 in
theorem am_d84_0 : (List.range 19).all (fun i => am_dk 84 (0 + i)) = true := by decide +kernel
set_option maxRecDepth 100000 in
theorem am_c84_0 : (List.range 19).all (fun i => am_ck 84 (0 + i)) = true := by decide +kernel
set_option maxRecDepth 100000 in
theorem am_g84 : am_good 84 := am_good_of (n := 19) (by decide +kernel) (am_ch _ 0 19 (am_no _) am_c84_0) (am_ch _ 0 19 (am_no _) am_d84_0)
set_option maxRecDepth 100000 in
theorem am_y84 : am_yk 84 = true := by decide +kernel
set_option maxRecDepth 100000 in
theorem am_d85_0 : (List.range 30).all (fun i => am_dk 85 (0 + i)) = true := by decide +kernel
set_option maxRecDepth 100000 in
theorem am_c85_0 : (List.range 30).all (fun i => am_ck 85 (0 + i)) = true := by decide +kernel
set_option maxRecDepth 100000 in
theorem am_d85_30 : (List.range 4).all (fun i => am_dk 85 (30 + i)) = true := by decide +kernel
set_option maxRecDepth 100000 in
theorem am_c85_30 : (List.range 4).all (fun i => am_ck 85 (30 + i)) = true := by decide +kernel
set_option maxRecDepth 100000 in
theorem am_g85 : am_good 85 := am_good_of (n := 34) (by decide +kernel) (am_ch _ 30 4 (am_ch _ 0 30 (am_no _) am_c85_0) am_c85_30) (am_ch _ 30 4 (am_ch _ 0 30 (am_no _) am_d85_0) am_d85_30)
set_option maxRecDepth 100000 in
theorem am_y85 : am_yk 85 = true := by decide +kernel
set_option maxRecDepth 100000 in
theorem am_d86_0 : (List.range 20).all (fun i => am_dk 86 (0 + i)) = true := by decide +kernel
set_option maxRecDepth 100000 in
theorem am_c86_0 : (List.range 20).all (fun i => am_ck 86 (0 + i)) = true := by decide +kernel
set_option maxRecDepth 100000 in
theorem am_g86 : am_good 86 := am_good_of (n := 20) (by decide +kernel) (am_ch _ 0 20 (am_no _) am_c86_0) (am_ch _ 0 20 (am_no _) am_d86_0)
set_option maxRecDepth 100000 in
theorem am_y86 : am_yk 86 = true := by decide +kernel
set_option maxRecDepth 100000 in
theorem am_d87_0 : (List.range 25).all (fun i => am_dk 87 (0 + i)) = true := by decide +kernel
set_option maxRecDepth 100000 in
theorem am_c87_0 : (List.range 25).all (fun i => am_ck 87 (0 + i)) = true := by decide +kernel
set_option maxRecDepth 100000 in
theorem am_g87 : am_good 87 := am_good_of (n := 25) (by decide +kernel) (am_ch _ 0 25 (am_no _) am_c87_0) (am_ch _ 0 25 (am_no _) am_d87_0)
set_option maxRecDepth 100000 in
theorem am_y87 : am_yk 87 = true := by decide +kernel
set_option maxRecDepth 100000 in
theorem am_d88_0 : (List.range 8).all (fun i => am_dk 88 (0 + i)) = true := by decide +kernel
set_option maxRecDepth 100000 in
theorem am_c88_0 : (List.range 8).all (fun i => am_ck 88 (0 + i)) = true := by decide +kernel
set_option maxRecDepth 100000 in
theorem am_g88 : am_good 88 := am_good_of (n := 8) (by decide +kernel) (am_ch _ 0 8 (am_no _) am_c88_0) (am_ch _ 0 8 (am_no _) am_d88_0)
set_option maxRecDepth 100000 in
theorem am_y88 : am_yk 88 = true := by decide +kernel
set_option maxRecDepth 100000 in
theorem am_d89_0 : (List.range 27).all (fun i => am_dk 89 (0 + i)) = true := by decide +kernel
set_option maxRecDepth 100000 in
theorem am_c89_0 : (List.range 27).all (fun i => am_ck 89 (0 + i)) = true := by decide +kernel
set_option maxRecDepth 100000 in
theorem am_g89 : am_good 89 := am_good_of (n := 27) (by decide +kernel) (am_ch _ 0 27 (am_no _) am_c89_0) (am_ch _ 0 27 (am_no _) am_d89_0)
set_option maxRecDepth 100000 in
theorem am_y89 : am_yk 89 = true := by decide +kernel
set_option maxRecDepth 100000 in
theorem am_d90_0 : (List.range 27).all (fun i => am_dk 90 (0 + i)) = true := by decide +kernel
set_option maxRecDepth 100000 in
theorem am_c90_0 : (List.range 27).all (fun i => am_ck 90 (0 + i)) = true := by decide +kernel
set_option maxRecDepth 100000 in
theorem am_g90 : am_good 90 := am_good_of (n := 27) (by decide +kernel) (am_ch _ 0 27 (am_no _) am_c90_0) (am_ch _ 0 27 (am_no _) am_d90_0)
set_option maxRecDepth 100000 in
theorem am_y90 : am_yk 90 = true := by decide +kernel
set_option maxRecDepth 100000 in
theorem am_d91_0 : (List.range 28).all (fun i => am_dk 91 (0 + i)) = true := by decide +kernel
set_option maxRecDepth 100000 in
theorem am_c91_0 : (List.range 28).all (fun i => am_ck 91 (0 + i)) = true := by decide +kernel
set_option maxRecDepth 100000 in
theorem am_g91 : am_good 91 := am_good_of (n := 28) (by decide +kernel) (am_ch _ 0 28 (am_no _) am_c91_0) (am_ch _ 0 28 (am_no _) am_d91_0)
set_option maxRecDepth 100000 in
theorem am_y91 : am_yk 91 = true := by decide +kernel
set_option maxRecDepth 100000 in
theorem am_d92_0 : (List.range 25).all (fun i => am_dk 92 (0 + i)) = true := by decide +kernel
set_option maxRecDepth 100000 in
theorem am_c92_0 : (List.range 25).all (fun i => am_ck 92 (0 + i)) = true := by decide +kernel
set_option maxRecDepth 100000 in
theorem am_g92 : am_good 92 := am_good_of (n := 25) (by decide +kernel) (am_ch _ 0 25 (am_no _) am_c92_0) (am_ch _ 0 25 (am_no _) am_d92_0)
set_option maxRecDepth 100000 in
theorem am_y92 : am_yk 92 = true := by decide +kernel
set_option maxRecDepth 100000 in
theorem am_d93_0 : (List.range 30).all (fun i => am_dk 93 (0 + i)) = true := by decide +kernel
set_option maxRecDepth 100000 in
theorem am_c93_0 : (List.range 30).all (fun i => am_ck 93 (0 + i)) = true := by decide +kernel
set_option maxRecDepth 100000 in
theorem am_d93_30 : (List.range 1).all (fun i => am_dk 93 (30 + i)) = true := by decide +kernel
set_option maxRecDepth 100000 in
theorem am_c93_30 : (List.range 1).all (fun i => am_ck 93 (30 + i)) = true := by decide +kernel
set_option maxRecDepth 100000 in
theorem am_g93 : am_good 93 := am_good_of (n := 31) (by decide +kernel) (am_ch _ 30 1 (am_ch _ 0 30 (am_no _) am_c93_0) am_c93_30) (am_ch _ 30 1 (am_ch _ 0 30 (am_no _) am_d93_0) am_d93_30)
set_option maxRecDepth 100000 in
theorem am_y93 : am_yk 93 = true := by decide +kernel
set_option maxRecDepth 100000 in
theorem am_d94_0 : (List.range 30).all (fun i => am_dk 94 (0 + i)) = true := by decide +kernel
set_option maxRecDepth 100000 in
theorem am_c94_0 : (List.range 30).all (fun i => am_ck 94 (0 + i)) = true := by decide +kernel
set_option maxRecDepth 100000 in
theorem am_d94_30 : (List.range 7).all (fun i => am_dk 94 (30 + i)) = true := by decide +kernel
set_option maxRecDepth 100000 in
theorem am_c94_30 : (List.range 7).all (fun i => am_ck 94 (30 + i)) = true := by decide +kernel
set_option maxRecDepth 100000 in
theorem am_g94 : am_good 94 := am_good_of (n := 37) (by decide +kernel) (am_ch _ 30 7 (am_ch _ 0 30 (am_no _) am_c94_0) am_c94_30) (am_ch _ 30 7 (am_ch _ 0 30 (am_no _) am_d94_0) am_d94_30)
set_option maxRecDepth 100000 in
theorem am_y94 : am_yk 94 = true := by decide +kernel
set_option maxRecDepth 100000 in
theorem am_d95_0 : (List.range 30).all (fun i => am_dk 95 (0 + i)) = true := by decide +kernel
set_option maxRecDepth 100000 in
theorem am_c95_0 : (List.range 30).all (fun i => am_ck 95 (0 + i)) = true := by decide +kernel
set_option maxRecDepth 100000 in
theorem am_g95 : am_good 95 := am_good_of (n := 30) (by decide +kernel) (am_ch _ 0 30 (am_no _) am_c95_0) (am_ch _ 0 30 (am_no _) am_d95_0)
set_option maxRecDepth 100000 in
theorem am_y95 : am_yk 95 = true := by decide +kernel
set_option maxRecDepth 100000 in
theorem am_d96_0 : (List.range 30).all (fun i => am_dk 96 (0 + i)) = true := by decide +kernel
set_option maxRecDepth 100000 in
theorem am_c96_0 : (List.range 30).all (fun i => am_ck 96 (0 + i)) = true := by decide +kernel
set_option maxRecDepth 100000 in
theorem am_d96_30 : (List.range 30).all (fun i => am_dk 96 (30 + i)) = true := by decide +kernel
set_option maxRecDepth 100000 in
theorem am_c96_30 : (List.range 30).all (fun i => am_ck 96 (30 + i)) = true := by decide +kernel
set_option maxRecDepth 100000 in
theorem am_g96 : am_good 96 := am_good_of (n := 60) (by decide +kernel) (am_ch _ 30 30 (am_ch _ 0 30 (am_no _) am_c96_0) am_c96_30) (am_ch _ 30 30 (am_ch _ 0 30 (am_no _) am_d96_0) am_d96_30)
set_option maxRecDepth 100000 in
theorem am_y96 : am_yk 96 = true := by decide +kernel
set_option maxRecDepth 100000 in
theorem am_d97_0 : (List.range 10).all (fun i => am_dk 97 (0 + i)) = true := by decide +kernel
set_option maxRecDepth 100000 in
theorem am_c97_0 : (List.range 10).all (fun i => am_ck 97 (0 + i)) = true := by decide +kernel
set_option maxRecDepth 100000 in
theorem am_g97 : am_good 97 := am_good_of (n := 10) (by decide +kernel) (am_ch _ 0 10 (am_no _) am_c97_0) (am_ch _ 0 10 (am_no _) am_d97_0)
set_option maxRecDepth 100000 in
theorem am_y97 : am_yk 97 = true := by decide +kernel
set_option maxRecDepth 100000 in
theorem am_d98_0 : (List.range 30).all (fun i => am_dk 98 (0 + i)) = true := by decide +kernel
set_option maxRecDepth 100000 in
theorem am_c98_0 : (List.range 30).all (fun i => am_ck 98 (0 + i)) = true := by decide +kernel
set_option maxRecDepth 100000 in
theorem am_d98_30 : (List.range 3).all (fun i => am_dk 98 (30 + i)) = true := by decide +kernel
set_option maxRecDepth 100000 in
theorem am_c98_30 : (List.range 3).all (fun i => am_ck 98 (30 + i)) = true := by decide +kernel
set_option maxRecDepth 100000 in
theorem am_g98 : am_good 98 := am_good_of (n := 33) (by decide +kernel) (am_ch _ 30 3 (am_ch _ 0 30 (am_no _) am_c98_0) am_c98_30) (am_ch _ 30 3 (am_ch _ 0 30 (am_no _) am_d98_0) am_d98_30)
set_option maxRecDepth 100000 in
theorem am_y98 : am_yk 98 = true := by decide +kernel
set_option maxRecDepth 100000 in
theorem am_d99_0 : (List.range 30).all (fun i => am_dk 99 (0 + i)) = true := by decide +kernel
set_option maxRecDepth 100000 in
theorem am_c99_0 : (List.range 30).all (fun i => am_ck 99 (0 + i)) = true := by decide +kernel
set_option maxRecDepth 100000 in
theorem am_d99_30 : (List.range 13).all (fun i => am_dk 99 (30 + i)) = true := by decide +kernel
set_option maxRecDepth 100000 in
theorem am_c99_30 : (List.range 13).all (fun i => am_ck 99 (30 + i)) = true := by decide +kernel
set_option maxRecDepth 100000 in
theorem am_g99 : am_good 99 := am_good_of (n := 43) (by decide +kernel) (am_ch _ 30 13 (am_ch _ 0 30 (am_no _) am_c99_0) am_c99_30) (am_ch _ 30 13 (am_ch _ 0 30 (am_no _) am_d99_0) am_d99_30)
set_option maxRecDepth 100000 in
theorem am_y99 : am_yk 99 = true := by decide +kernel
set_option maxRecDepth 100000 in
theorem am_d100_0 : (List.range 30).all (fun i => am_dk 100 (0 + i)) = true := by decide +kernel
set_option maxRecDepth 100000 in
theorem am_c100_0 : (List.range 30).all (fun i => am_ck 100 (0 + i)) = true := by decide +kernel
set_option maxRecDepth 100000 in
theorem am_d100_30 : (List.range 2).all (fun i => am_dk 100 (30 + i)) = true := by decide +kernel
set_option maxRecDepth 100000 in
theorem am_c100_30 : (List.range 2).all (fun i => am_ck 100 (30 + i)) = true := by decide +kernel
set_option maxRecDepth 100000 in
theorem am_g100 : am_good 100 := am_good_of (n := 32) (by decide +kernel) (am_ch _ 30 2 (am_ch _ 0 30 (am_no _) am_c100_0) am_c100_30) (am_ch _ 30 2 (am_ch _ 0 30 (am_no _) am_d100_0) am_d100_30)
set_option maxRecDepth 100000 in
theorem am_y100 : am_yk 100 = true := by decide +kernel
set_option maxRecDepth 100000 in
theorem am_d101_0 : (List.range 28).all (fun i => am_dk 101 (0 + i)) = true := by decide +kernel
set_option maxRecDepth 100000 in
theorem am_c101_0 : (List.range 28).all (fun i => am_ck 101 (0 + i)) = true := by decide +kernel
set_option maxRecDepth 100000 in
theorem am_g101 : am_good 101 := am_good_of (n := 28) (by decide +kernel) (am_ch _ 0 28 (am_no _) am_c101_0) (am_ch _ 0 28 (am_no _) am_d101_0)
set_option maxRecDepth 100000 in
theorem am_y101 : am_yk 101 = true := by decide +kernel
set_option maxRecDepth 100000 in
theorem am_d102_0 : (List.range 30).all (fun i => am_dk 102 (0 + i)) = true := by decide +kernel
set_option maxRecDepth 100000 in
theorem am_c102_0 : (List.range 30).all (fun i => am_ck 102 (0 + i)) = true := by decide +kernel
set_option maxRecDepth 100000 in
theorem am_d102_30 : (List.range 5).all (fun i => am_dk 102 (30 + i)) = true := by decide +kernel
set_option maxRecDepth 100000 in
theorem am_c102_30 : (List.range 5).all (fun i => am_ck 102 (30 + i)) = true := by decide +kernel
set_option maxRecDepth 100000 in
theorem am_g102 : am_good 102 := am_good_of (n := 35) (by decide +kernel) (am_ch _ 30 5 (am_ch _ 0 30 (am_no _) am_c102_0) am_c102_30) (am_ch _ 30 5 (am_ch _ 0 30 (am_no _) am_d102_0) am_d102_30)
set_option maxRecDepth 100000 in
theorem am_y102 : am_yk 102 = true := by decide +kernel
set_option maxRecDepth 100000 in
theorem am_d103_0 : (List.range 30).all (fun i => am_dk 103 (0 + i)) = true := by decide +kernel
set_option maxRecDepth 100000 in
theorem am_c103_0 : (List.range 30).all (fun i => am_ck 103 (0 + i)) = true := by decide +kernel
set_option maxRecDepth 100000 in
theorem am_d103_30 : (List.range 7).all (fun i => am_dk 103 (30 + i)) = true := by decide +kernel
set_option maxRecDepth 100000 in
theorem am_c103_30 : (List.range 7).all (fun i => am_ck 103 (30 + i)) = true := by decide +kernel
set_option maxRecDepth 100000 in
theorem am_g103 : am_good 103 := am_good_of (n := 37) (by decide +kernel) (am_ch _ 30 7 (am_ch _ 0 30 (am_no _) am_c103_0) am_c103_30) (am_ch _ 30 7 (am_ch _ 0 30 (am_no _) am_d103_0) am_d103_30)
set_option maxRecDepth 100000 in
theorem am_y103 : am_yk 103 = true := by decide +kernel
set_option maxRecDepth 100000 in
theorem am_d104_0 : (List.range 8).all (fun i => am_dk 104 (0 + i)) = true := by decide +kernel
set_option maxRecDepth 100000 in
theorem am_c104_0 : (List.range 8).all (fun i => am_ck 104 (0 + i)) = true := by decide +kernel
set_option maxRecDepth 100000 in
theorem am_g104 : am_good 104 := am_good_of (n := 8) (by decide +kernel) (am_ch _ 0 8 (am_no _) am_c104_0) (am_ch _ 0 8 (am_no _) am_d104_0)
set_option maxRecDepth 100000 in
theorem am_y104 : am_yk 104 = true := by decide +kernel
set_option maxRecDepth 100000 in
theorem am_d105_0 : (List.range 15).all (fun i => am_dk 105 (0 + i)) = true := by decide +kernel
set_option maxRecDepth 100000 in
theorem am_c105_0 : (List.range 15).all (fun i => am_ck 105 (0 + i)) = true := by decide +kernel
set_option maxRecDepth 100000 in
theorem am_g105 : am_good 105 := am_good_of (n := 15) (by decide +kernel) (am_ch _ 0 15 (am_no _) am_c105_0) (am_ch _ 0 15 (am_no _) am_d105_0)
set_option maxRecDepth 100000 in
theorem am_y105 : am_yk 105 = true := by decide +kernel
set_option maxRecDepth 100000 in
theorem am_d106_0 : (List.range 15).all (fun i => am_dk 106 (0 + i)) = true := by decide +kernel
set_option maxRecDepth 100000 in
theorem am_c106_0 : (List.range 15).all (fun i => am_ck 106 (0 + i)) = true := by decide +kernel
set_option maxRecDepth 100000 in
theorem am_g106 : am_good 106 := am_good_of (n := 15) (by decide +kernel) (am_ch _ 0 15 (am_no _) am_c106_0) (am_ch _ 0 15 (am_no _) am_d106_0)
set_option maxRecDepth 100000 in
theorem am_y106 : am_yk 106 = true := by decide +kernel
set_option maxRecDepth 100000 in
theorem am_d107_0 : (List.range 12).all (fun i => am_dk 107 (0 + i)) = true := by decide +kernel
set_option maxRecDepth 100000 in
theorem am_c107_0 : (List.range 12).all (fun i => am_ck 107 (0 + i)) = true := by decide +kernel
set_option maxRecDepth 100000 in
theorem am_g107 : am_good 107 := am_good_of (n := 12) (by decide +kernel) (am_ch _ 0 12 (am_no _) am_c107_0) (am_ch _ 0 12 (am_no _) am_d107_0)
set_option maxRecDepth 100000 in
theorem am_y107 : am_yk 107 = true := by decide +kernel
set_option maxRecDepth 100000 in
theorem am_d108_0 : (List.range 15).all (fun i => am_dk 108 (0 + i)) = true := by decide +kernel
set_option maxRecDepth 100000 in
theorem am_c108_0 : (List.range 15).all (fun i => am_ck 108 (0 + i)) = true := by decide +kernel
set_option maxRecDepth 100000 in
theorem am_g108 : am_good 108 := am_good_of (n := 15) (by decide +kernel) (am_ch _ 0 15 (am_no _) am_c108_0) (am_ch _ 0 15 (am_no _) am_d108_0)
set_option maxRecDepth 100000 in
theorem am_y108 : am_yk 108 = true := by decide +kernel
set_option maxRecDepth 100000 in
theorem am_d109_0 : (List.range 14).all (fun i => am_dk 109 (0 + i)) = true := by decide +kernel
set_option maxRecDepth 100000 in
theorem am_c109_0 : (List.range 14).all (fun i => am_ck 109 (0 + i)) = true := by decide +kernel
set_option maxRecDepth 100000 in
theorem am_g109 : am_good 109 := am_good_of (n := 14) (by decide +kernel) (am_ch _ 0 14 (am_no _) am_c109_0) (am_ch _ 0 14 (am_no _) am_d109_0)
set_option maxRecDepth 100000 in
theorem am_y109 : am_yk 109 = true := by decide +kernel
set_option maxRecDepth 100000 in
theorem am_d110_0 : (List.range 30).all (fun i => am_dk 110 (0 + i)) = true := by decide +kernel
set_option maxRecDepth 100000 in
theorem am_c110_0 : (List.range 30).all (fun i => am_ck 110 (0 + i)) = true := by decide +kernel
set_option maxRecDepth 100000 in
theorem am_d110_30 : (List.range 30).all (fun i => am_dk 110 (30 + i)) = true := by decide +kernel
set_option maxRecDepth 100000 in
theorem am_c110_30 : (List.range 30).all (fun i => am_ck 110 (30 + i)) = true := by decide +kernel
set_option maxRecDepth 100000 in
theorem am_d110_60 : (List.range 19).all (fun i => am_dk 110 (60 + i)) = true := by decide +kernel
set_option maxRecDepth 100000 in
theorem am_c110_60 : (List.range 19).all (fun i => am_ck 110 (60 + i)) = true := by decide +kernel
set_option maxRecDepth 100000 in
theorem am_g110 : am_good 110 := am_good_of (n := 79) (by decide +kernel) (am_ch _ 60 19 (am_ch _ 30 30 (am_ch _ 0 30 (am_no _) am_c110_0) am_c110_30) am_c110_60) (am_ch _ 60 19 (am_ch _ 30 30 (am_ch _ 0 30 (am_no _) am_d110_0) am_d110_30) am_d110_60)
set_option maxRecDepth 100000 in
theorem am_y110 : am_yk 110 = true := by decide +kernel
set_option maxRecDepth 100000 in
theorem am_d111_0 : (List.range 10).all (fun i => am_dk 111 (0 + i)) = true := by decide +kernel
set_option maxRecDepth 100000 in
theorem am_c111_0 : (List.range 10).all (fun i => am_ck 111 (0 + i)) = true := by decide +kernel
set_option maxRecDepth 100000 in
theorem am_g111 : am_good 111 := am_good_of (n := 10) (by decide +kernel) (am_ch _ 0 10 (am_no _) am_c111_0) (am_ch _ 0 10 (am_no _) am_d111_0)
set_option maxRecDepth 100000 in
theorem am_y111 : am_yk 111 = true := by decide +kernel
set_option maxRecDepth 100000 in
theorem am_d112_0 : (List.range 11).all (fun i => am_dk 112 (0 + i)) = true := by decide +kernel
set_option maxRecDepth 100000 in
theorem am_c112_0 : (List.range 11).all (fun i => am_ck 112 (0 + i)) = true := by decide +kernel
set_option maxRecDepth 100000 in
theorem am_g112 : am_good 112 := am_good_of (n := 11) (by decide +kernel) (am_ch _ 0 11 (am_no _) am_c112_0) (am_ch _ 0 11 (am_no _) am_d112_0)
set_option maxRecDepth 100000 in
theorem am_y112 : am_yk 112 = true := by decide +kernel
set_option maxRecDepth 100000 in
theorem am_d113_0 : (List.range 8).all (fun i => am_dk 113 (0 + i)) = true := by decide +kernel
set_option maxRecDepth 100000 in
theorem am_c113_0 : (List.range 8).all (fun i => am_ck 113 (0 + i)) = true := by decide +kernel
set_option maxRecDepth 100000 in
theorem am_g113 : am_good 113 := am_good_of (n := 8) (by decide +kernel) (am_ch _ 0 8 (am_no _) am_c113_0) (am_ch _ 0 8 (am_no _) am_d113_0)
set_option maxRecDepth 100000 in
theorem am_y113 : am_yk 113 = true := by decide +kernel
set_option maxRecDepth 100000 in
theorem am_d114_0 : (List.range 5).all (fun i => am_dk 114 (0 + i)) = true := by decide +kernel
set_option maxRecDepth 100000 in
theorem am_c114_0 : (List.range 5).all (fun i => am_ck 114 (0 + i)) = true := by decide +kernel
set_option maxRecDepth 100000 in
theorem am_g114 : am_good 114 := am_good_of (n := 5) (by decide +kernel) (am_ch _ 0 5 (am_no _) am_c114_0) (am_ch _ 0 5 (am_no _) am_d114_0)
set_option maxRecDepth 100000 in
theorem am_y114 : am_yk 114 = true := by decide +kernel
set_option maxRecDepth 100000 in
theorem am_d115_0 : (List.range 8).all (fun i => am_dk 115 (0 + i)) = true := by decide +kernel
set_option maxRecDepth 100000 in
theorem am_c115_0 : (List.range 8).all (fun i => am_ck 115 (0 + i)) = true := by decide +kernel
set_option maxRecDepth 100000 in
theorem am_g115 : am_good 115 := am_good_of (n := 8) (by decide +kernel) (am_ch _ 0 8 (am_no _) am_c115_0) (am_ch _ 0 8 (am_no _) am_d115_0)
set_option maxRecDepth 100000 in
theorem am_y115 : am_yk 115 = true := by decide +kernel
set_option maxRecDepth 100000 in
theorem am_d116_0 : (List.range 5).all (fun i => am_dk 116 (0 + i)) = true := by decide +kernel
set_option maxRecDepth 100000 in
theorem am_c116_0 : (List.range 5).all (fun i => am_ck 116 (0 + i)) = true := by decide +kernel
set_option maxRecDepth 100000 in
theorem am_g116 : am_good 116 := am_good_of (n := 5) (by decide +kernel) (am_ch _ 0 5 (am_no _) am_c116_0) (am_ch _ 0 5 (am_no _) am_d116_0)
set_option maxRecDepth 100000 in
theorem am_y116 : am_yk 116 = true := by decide +kernel
set_option maxRecDepth 100000 in
theorem am_d117_0 : (List.range 28).all (fun i => am_dk 117 (0 + i)) = true := by decide +kernel
set_option maxRecDepth 100000 in
theorem am_c117_0 : (List.range 28).all (fun i => am_ck 117 (0 + i)) = true := by decide +kernel
set_option maxRecDepth 100000 in
theorem am_g117 : am_good 117 := am_good_of (n := 28) (by decide +kernel) (am_ch _ 0 28 (am_no _) am_c117_0) (am_ch _ 0 28 (am_no _) am_d117_0)
set_option maxRecDepth 100000 in
theorem am_y117 : am_yk 117 = true := by decide +kernel
set_option maxRecDepth 100000 in
theorem am_d118_0 : (List.range 8).all (fun i => am_dk 118 (0 + i)) = true := by decide +kernel
set_option maxRecDepth 100000 in
theorem am_c118_0 : (List.range 8).all (fun i => am_ck 118 (0 + i)) = true := by decide +kernel
set_option maxRecDepth 100000 in
theorem am_g118 : am_good 118 := am_good_of (n := 8) (by decide +kernel) (am_ch _ 0 8 (am_no _) am_c118_0) (am_ch _ 0 8 (am_no _) am_d118_0)
set_option maxRecDepth 100000 in
theorem am_y118 : am_yk 118 = true := by decide +kernel
set_option maxRecDepth 100000 in
theorem am_d119_0 : (List.range 11).all (fun i => am_dk 119 (0 + i)) = true := by decide +kernel
set_option maxRecDepth 100000 in
theorem am_c119_0 : (List.range 11).all (fun i => am_ck 119 (0 + i)) = true := by decide +kernel
set_option maxRecDepth 100000 in
theorem am_g119 : am_good 119 := am_good_of (n := 11) (by decide +kernel) (am_ch _ 0 11 (am_no _) am_c119_0) (am_ch _ 0 11 (am_no _) am_d119_0)
set_option maxRecDepth 100000 in
theorem am_y119 : am_yk 119 = true := by decide +kernel
set_option maxRecDepth 100000 in
theorem am_d120_0 : (List.range 30).all (fun i => am_dk 120 (0 + i)) = true := by decide +kernel
set_option maxRecDepth 100000 in
theorem am_c120_0 : (List.range 30).all (fun i => am_ck 120 (0 + i)) = true := by decide +kernel
set_option maxRecDepth 100000 in
theorem am_d120_30 : (List.range 30).all (fun i => am_dk 120 (30 + i)) = true := by decide +kernel
set_option maxRecDepth 100000 in
theorem am_c120_30 : (List.range 30).all (fun i => am_ck 120 (30 + i)) = true := by decide +kernel
set_option maxRecDepth 100000 in
theorem am_d120_60 : (List.range 30).all (fun i => am_dk 120 (60 + i)) = true := by decide +kernel
set_option maxRecDepth 100000 in
theorem am_c120_60 : (List.range 30).all (fun i => am_ck 120 (60 + i)) = true := by decide +kernel
set_option maxRecDepth 100000 in
theorem am_d120_90 : (List.range 30).all (fun i => am_dk 120 (90 + i)) = true := by decide +kernel
set_option maxRecDepth 100000 in
theorem am_c120_90 : (List.range 30).all (fun i => am_ck 120 (90 + i)) = true := by decide +kernel
set_option maxRecDepth 100000 in
theorem am_d120_120 : (List.range 30).all (fun i => am_dk 120 (120 + i)) = true := by decide +kernel
set_option maxRecDepth 100000 in
theorem am_c120_120 : (List.range 30).all (fun i => am_ck 120 (120 + i)) = true := by decide +kernel
set_option maxRecDepth 100000 in
theorem am_d120_150 : (List.range 9).all (fun i => am_dk 120 (150 + i)) = true := by decide +kernel
set_option maxRecDepth 100000 in
theorem am_c120_150 : (List.range 9).all (fun i => am_ck 120 (150 + i)) = true := by decide +kernel
set_option maxRecDepth 100000 in
theorem am_g120 : am_good 120 := am_good_of (n := 159) (by decide +kernel) (am_ch _ 150 9 (am_ch _ 120 30 (am_ch _ 90 30 (am_ch _ 60 30 (am_ch _ 30 30 (am_ch _ 0 30 (am_no _) am_c120_0) am_c120_30) am_c120_60) am_c120_90) am_c120_120) am_c120_150) (am_ch _ 150 9 (am_ch _ 120 30 (am_ch _ 90 30 (am_ch _ 60 30 (am_ch _ 30 30 (am_ch _ 0 30 (am_no _) am_d120_0) am_d120_30) am_d120_60) am_d120_90) am_d120_120) am_d120_150)
set_option maxRecDepth 100000 in
theorem am_y120 : am_yk 120 = true := by decide +kernel
set_option maxRecDepth 100000 in
theorem am_d121_0 : (List.range 16).all (fun i => am_dk 121 (0 + i)) = true := by decide +kernel
set_option maxRecDepth 100000 in
theorem am_c121_0 : (List.range 16).all (fun i => am_ck 121 (0 + i)) = true := by decide +kernel
set_option maxRecDepth 100000 in
theorem am_g121 : am_good 121 := am_good_of (n := 16) (by decide +kernel) (am_ch _ 0 16 (am_no _) am_c121_0) (am_ch _ 0 16 (am_no _) am_d121_0)
set_option maxRecDepth 100000 in
theorem am_y121 : am_yk 121 = true := by decide +kernel
set_option maxRecDepth 100000 in
theorem am_d122_0 : (List.range 26).all (fun i => am_dk 122 (0 + i)) = true := by decide +kernel
set_option maxRecDepth 100000 in
theorem am_c122_0 : (List.range 26).all (fun i => am_ck 122 (0 + i)) = true := by decide +kernel
set_option maxRecDepth 100000 in
theorem am_g122 : am_good 122 := am_good_of (n := 26) (by decide +kernel) (am_ch _ 0 26 (am_no _) am_c122_0) (am_ch _ 0 26 (am_no _) am_d122_0)
set_option maxRecDepth 100000 in
theorem am_y122 : am_yk 122 = true := by decide +kernel
set_option maxRecDepth 100000 in
theorem am_d123_0 : (List.range 30).all (fun i => am_dk 123 (0 + i)) = true := by decide +kernel
set_option maxRecDepth 100000 in
theorem am_c123_0 : (List.range 30).all (fun i => am_ck 123 (0 + i)) = true := by decide +kernel
set_option maxRecDepth 100000 in
theorem am_d123_30 : (List.range 6).all (fun i => am_dk 123 (30 + i)) = true := by decide +kernel
set_option maxRecDepth 100000 in
theorem am_c123_30 : (List.range 6).all (fun i => am_ck 123 (30 + i)) = true := by decide +kernel
set_option maxRecDepth 100000 in
theorem am_g123 : am_good 123 := am_good_of (n := 36) (by decide +kernel) (am_ch _ 30 6 (am_ch _ 0 30 (am_no _) am_c123_0) am_c123_30) (am_ch _ 30 6 (am_ch _ 0 30 (am_no _) am_d123_0) am_d123_30)
set_option maxRecDepth 100000 in
theorem am_y123 : am_yk 123 = true := by decide +kernel
set_option maxRecDepth 100000 in
theorem am_d124_0 : (List.range 30).all (fun i => am_dk 124 (0 + i)) = true := by decide +kernel
set_option maxRecDepth 100000 in
theorem am_c124_0 : (List.range 30).all (fun i => am_ck 124 (0 + i)) = true := by decide +kernel
set_option maxRecDepth 100000 in
theorem am_d124_30 : (List.range 30).all (fun i => am_dk 124 (30 + i)) = true := by decide +kernel
set_option maxRecDepth 100000 in
theorem am_c124_30 : (List.range 30).all (fun i => am_ck 124 (30 + i)) = true := by decide +kernel
set_option maxRecDepth 100000 in
theorem am_d124_60 : (List.range 22).all (fun i => am_dk 124 (60 + i)) = true := by decide +kernel
set_option maxRecDepth 100000 in
theorem am_c124_60 : (List.range 22).all (fun i => am_ck 124 (60 + i)) = true := by decide +kernel
set_option maxRecDepth 100000 in
theorem am_g124 : am_good 124 := am_good_of (n := 82) (by decide +kernel) (am_ch _ 60 22 (am_ch _ 30 30 (am_ch _ 0 30 (am_no _) am_c124_0) am_c124_30) am_c124_60) (am_ch _ 60 22 (am_ch _ 30 30 (am_ch _ 0 30 (am_no _) am_d124_0) am_d124_30) am_d124_60)
set_option maxRecDepth 100000 in
theorem am_y124 : am_yk 124 = true := by decide +kernel
set_option maxRecDepth 100000 in
theorem am_d125_0 : (List.range 30).all (fun i => am_dk 125 (0 + i)) = true := by decide +kernel
set_option maxRecDepth 100000 in
theorem am_c125_0 : (List.range 30).all (fun i => am_ck 125 (0 + i)) = true := by decide +kernel
set_option maxRecDepth 100000 in
theorem am_d125_30 : (List.range 30).all (fun i => am_dk 125 (30 + i)) = true := by decide +kernel
set_option maxRecDepth 100000 in
theorem am_c125_30 : (List.range 30).all (fun i => am_ck 125 (30 + i)) = true := by decide +kernel
set_option maxRecDepth 100000 in
theorem am_d125_60 : (List.range 30).all (fun i => am_dk 125 (60 + i)) = true := by decide +kernel
set_option maxRecDepth 100000 in
theorem am_c125_60 : (List.range 30).all (fun i => am_ck 125 (60 + i)) = true := by decide +kernel
set_option maxRecDepth 100000 in
theorem am_d125_90 : (List.range 30).all (fun i => am_dk 125 (90 + i)) = true := by decide +kernel
set_option maxRecDepth 100000 in
theorem am_c125_90 : (List.range 30).all (fun i => am_ck 125 (90 + i)) = true := by decide +kernel
set_option maxRecDepth 100000 in
theorem am_d125_120 : (List.range 5).all (fun i => am_dk 125 (120 + i)) = true := by decide +kernel
set_option maxRecDepth 100000 in
theorem am_c125_120 : (List.range 5).all (fun i => am_ck 125 (120 + i)) = true := by decide +kernel
set_option maxRecDepth 100000 in
theorem am_g125 : am_good 125 := am_good_of (n := 125) (by decide +kernel) (am_ch _ 120 5 (am_ch _ 90 30 (am_ch _ 60 30 (am_ch _ 30 30 (am_ch _ 0 30 (am_no _) am_c125_0) am_c125_30) am_c125_60) am_c125_90) am_c125_120) (am_ch _ 120 5 (am_ch _ 90 30 (am_ch _ 60 30 (am_ch _ 30 30 (am_ch _ 0 30 (am_no _) am_d125_0) am_d125_30) am_d125_60) am_d125_90) am_d125_120)
set_option maxRecDepth 100000 in
theorem am_y125 : am_yk 125 = true := by decide +kernel
set_option maxRecDepth 100000 in
theorem am_d126_0 : (List.range 30).all (fun i => am_dk 126 (0 + i)) = true := by decide +kernel
set_option maxRecDepth 100000 in
theorem am_c126_0 : (List.range 30).all (fun i => am_ck 126 (0 + i)) = true := by decide +kernel
set_option maxRecDepth 100000 in
theorem am_d126_30 : (List.range 5).all (fun i => am_dk 126 (30 + i)) = true := by decide +kernel
set_option maxRecDepth 100000 in
theorem am_c126_30 : (List.range 5).all (fun i => am_ck 126 (30 + i)) = true := by decide +kernel
set_option maxRecDepth 100000 in
theorem am_g126 : am_good 126 := am_good_of (n := 35) (by decide +kernel) (am_ch _ 30 5 (am_ch _ 0 30 (am_no _) am_c126_0) am_c126_30) (am_ch _ 30 5 (am_ch _ 0 30 (am_no _) am_d126_0) am_d126_30)
set_option maxRecDepth 100000 in
theorem am_y126 : am_yk 126 = true := by decide +kernel
set_option maxRecDepth 100000 in
theorem am_d127_0 : (List.range 30).all (fun i => am_dk 127 (0 + i)) = true := by decide +kernel
set_option maxRecDepth 100000 in
theorem am_c127_0 : (List.range 30).all (fun i => am_ck 127 (0 + i)) = true := by decide +kernel
set_option maxRecDepth 100000 in
theorem am_d127_30 : (List.range 30).all (fun i => am_dk 127 (30 + i)) = true := by decide +kernel
set_option maxRecDepth 100000 in
theorem am_c127_30 : (List.range 30).all (fun i => am_ck 127 (30 + i)) = true := by decide +kernel
set_option maxRecDepth 100000 in
theorem am_d127_60 : (List.range 30).all (fun i => am_dk 127 (60 + i)) = true := by decide +kernel
set_option maxRecDepth 100000 in
theorem am_c127_60 : (List.range 30).all (fun i => am_ck 127 (60 + i)) = true := by decide +kernel
set_option maxRecDepth 100000 in
theorem am_d127_90 : (List.range 30).all (fun i => am_dk 127 (90 + i)) = true := by decide +kernel
set_option maxRecDepth 100000 in
theorem am_c127_90 : (List.range 30).all (fun i => am_ck 127 (90 + i)) = true := by decide +kernel
set_option maxRecDepth 100000 in
theorem am_d127_120 : (List.range 28).all (fun i => am_dk 127 (120 + i)) = true := by decide +kernel
set_option maxRecDepth 100000 in
theorem am_c127_120 : (List.range 28).all (fun i => am_ck 127 (120 + i)) = true := by decide +kernel
set_option maxRecDepth 100000 in
theorem am_g127 : am_good 127 := am_good_of (n := 148) (by decide +kernel) (am_ch _ 120 28 (am_ch _ 90 30 (am_ch _ 60 30 (am_ch _ 30 30 (am_ch _ 0 30 (am_no _) am_c127_0) am_c127_30) am_c127_60) am_c127_90) am_c127_120) (am_ch _ 120 28 (am_ch _ 90 30 (am_ch _ 60 30 (am_ch _ 30 30 (am_ch _ 0 30 (am_no _) am_d127_0) am_d127_30) am_d127_60) am_d127_90) am_d127_120)
set_option maxRecDepth 100000 in
theorem am_y127 : am_yk 127 = true := by decide +kernel
set_option maxRecDepth 100000 in
theorem am_d128_0 : (List.range 9).all (fun i => am_dk 128 (0 + i)) = true := by decide +kernel
set_option maxRecDepth 100000 in
theorem am_c128_0 : (List.range 9).all (fun i => am_ck 128 (0 + i)) = true := by decide +kernel
set_option maxRecDepth 100000 in
theorem am_g128 : am_good 128 := am_good_of (n := 9) (by decide +kernel) (am_ch _ 0 9 (am_no _) am_c128_0) (am_ch _ 0 9 (am_no _) am_d128_0)
set_option maxRecDepth 100000 in
theorem am_y128 : am_yk 128 = true := by decide +kernel
set_option maxRecDepth 100000 in
theorem am_d129_0 : (List.range 15).all (fun i => am_dk 129 (0 + i)) = true := by decide +kernel
set_option maxRecDepth 100000 in
theorem am_c129_0 : (List.range 15).all (fun i => am_ck 129 (0 + i)) = true := by decide +kernel
set_option maxRecDepth 100000 in
theorem am_g129 : am_good 129 := am_good_of (n := 15) (by decide +kernel) (am_ch _ 0 15 (am_no _) am_c129_0) (am_ch _ 0 15 (am_no _) am_d129_0)
set_option maxRecDepth 100000 in
theorem am_y129 : am_yk 129 = true := by decide +kernel
set_option maxRecDepth 100000 in
theorem am_d130_0 : (List.range 29).all (fun i => am_dk 130 (0 + i)) = true := by decide +kernel
set_option maxRecDepth 100000 in
theorem am_c130_0 : (List.range 29).all (fun i => am_ck 130 (0 + i)) = true := by decide +kernel
set_option maxRecDepth 100000 in
theorem am_g130 : am_good 130 := am_good_of (n := 29) (by decide +kernel) (am_ch _ 0 29 (am_no _) am_c130_0) (am_ch _ 0 29 (am_no _) am_d130_0)
set_option maxRecDepth 100000 in
theorem am_y130 : am_yk 130 = true := by decide +kernel
set_option maxRecDepth 100000 in
theorem am_d131_0 : (List.range 30).all (fun i => am_dk 131 (0 + i)) = true := by decide +kernel
set_option maxRecDepth 100000 in
theorem am_c131_0 : (List.range 30).all (fun i => am_ck 131 (0 + i)) = true := by decide +kernel
set_option maxRecDepth 100000 in
theorem am_d131_30 : (List.range 30).all (fun i => am_dk 131 (30 + i)) = true := by decide +kernel
set_option maxRecDepth 100000 in
theorem am_c131_30 : (List.range 30).all (fun i => am_ck 131 (30 + i)) = true := by decide +kernel
set_option maxRecDepth 100000 in
theorem am_d131_60 : (List.range 10).all (fun i => am_dk 131 (60 + i)) = true := by decide +kernel
set_option maxRecDepth 100000 in
theorem am_c131_60 : (List.range 10).all (fun i => am_ck 131 (60 + i)) = true := by decide +kernel
set_option maxRecDepth 100000 in
theorem am_g131 : am_good 131 := am_good_of (n := 70) (by decide +kernel) (am_ch _ 60 10 (am_ch _ 30 30 (am_ch _ 0 30 (am_no _) am_c131_0) am_c131_30) am_c131_60) (am_ch _ 60 10 (am_ch _ 30 30 (am_ch _ 0 30 (am_no _) am_d131_0) am_d131_30) am_d131_60)
set_option maxRecDepth 100000 in
theorem am_y131 : am_yk 131 = true := by decide +kernel
set_option maxRecDepth 100000 in
theorem am_d132_0 : (List.range 8).all (fun i => am_dk 132 (0 + i)) = true := by decide +kernel
set_option maxRecDepth 100000 in
theorem am_c132_0 : (List.range 8).all (fun i => am_ck 132 (0 + i)) = true := by decide +kernel
set_option maxRecDepth 100000 in
theorem am_g132 : am_good 132 := am_good_of (n := 8) (by decide +kernel) (am_ch _ 0 8 (am_no _) am_c132_0) (am_ch _ 0 8 (am_no _) am_d132_0)
set_option maxRecDepth 100000 in
theorem am_y132 : am_yk 132 = true := by decide +kernel
set_option maxRecDepth 100000 in
theorem am_d133_0 : (List.range 14).all (fun i => am_dk 133 (0 + i)) = true := by decide +kernel
set_option maxRecDepth 100000 in
theorem am_c133_0 : (List.range 14).all (fun i => am_ck 133 (0 + i)) = true := by decide +kernel
set_option maxRecDepth 100000 in
theorem am_g133 : am_good 133 := am_good_of (n := 14) (by decide +kernel) (am_ch _ 0 14 (am_no _) am_c133_0) (am_ch _ 0 14 (am_no _) am_d133_0)
set_option maxRecDepth 100000 in
theorem am_y133 : am_yk 133 = true := by decide +kernel
set_option maxRecDepth 100000 in
theorem am_d134_0 : (List.range 30).all (fun i => am_dk 134 (0 + i)) = true := by decide +kernel
set_option maxRecDepth 100000 in
theorem am_c134_0 : (List.range 30).all (fun i => am_ck 134 (0 + i)) = true := by decide +kernel
set_option maxRecDepth 100000 in
theorem am_d134_30 : (List.range 26).all (fun i => am_dk 134 (30 + i)) = true := by decide +kernel
set_option maxRecDepth 100000 in
theorem am_c134_30 : (List.range 26).all (fun i => am_ck 134 (30 + i)) = true := by decide +kernel
set_option maxRecDepth 100000 in
theorem am_g134 : am_good 134 := am_good_of (n := 56) (by decide +kernel) (am_ch _ 30 26 (am_ch _ 0 30 (am_no _) am_c134_0) am_c134_30) (am_ch _ 30 26 (am_ch _ 0 30 (am_no _) am_d134_0) am_d134_30)
set_option maxRecDepth 100000 in
theorem am_y134 : am_yk 134 = true := by decide +kernel
set_option maxRecDepth 100000 in
theorem am_d135_0 : (List.range 24).all (fun i => am_dk 135 (0 + i)) = true := by decide +kernel
set_option maxRecDepth 100000 in
theorem am_c135_0 : (List.range 24).all (fun i => am_ck 135 (0 + i)) = true := by decide +kernel
set_option maxRecDepth 100000 in
theorem am_g135 : am_good 135 := am_good_of (n := 24) (by decide +kernel) (am_ch _ 0 24 (am_no _) am_c135_0) (am_ch _ 0 24 (am_no _) am_d135_0)
set_option maxRecDepth 100000 in
theorem am_y135 : am_yk 135 = true := by decide +kernel
set_option maxRecDepth 100000 in
theorem am_d136_0 : (List.range 30).all (fun i => am_dk 136 (0 + i)) = true := by decide +kernel
set_option maxRecDepth 100000 in
theorem am_c136_0 : (List.range 30).all (fun i => am_ck 136 (0 + i)) = true := by decide +kernel
set_option maxRecDepth 100000 in
theorem am_d136_30 : (List.range 4).all (fun i => am_dk 136 (30 + i)) = true := by decide +kernel
set_option maxRecDepth 100000 in
theorem am_c136_30 : (List.range 4).all (fun i => am_ck 136 (30 + i)) = true := by decide +kernel
set_option maxRecDepth 100000 in
theorem am_g136 : am_good 136 := am_good_of (n := 34) (by decide +kernel) (am_ch _ 30 4 (am_ch _ 0 30 (am_no _) am_c136_0) am_c136_30) (am_ch _ 30 4 (am_ch _ 0 30 (am_no _) am_d136_0) am_d136_30)
set_option maxRecDepth 100000 in
theorem am_y136 : am_yk 136 = true := by decide +kernel
set_option maxRecDepth 100000 in
theorem am_d137_0 : (List.range 30).all (fun i => am_dk 137 (0 + i)) = true := by decide +kernel
set_option maxRecDepth 100000 in
theorem am_c137_0 : (List.range 30).all (fun i => am_ck 137 (0 + i)) = true := by decide +kernel
set_option maxRecDepth 100000 in
theorem am_g137 : am_good 137 := am_good_of (n := 30) (by decide +kernel) (am_ch _ 0 30 (am_no _) am_c137_0) (am_ch _ 0 30 (am_no _) am_d137_0)
set_option maxRecDepth 100000 in
theorem am_y137 : am_yk 137 = true := by decide +kernel
set_option maxRecDepth 100000 in
theorem am_d138_0 : (List.range 30).all (fun i => am_dk 138 (0 + i)) = true := by decide +kernel
set_option maxRecDepth 100000 in
theorem am_c138_0 : (List.range 30).all (fun i => am_ck 138 (0 + i)) = true := by decide +kernel
set_option maxRecDepth 100000 in
theorem am_d138_30 : (List.range 30).all (fun i => am_dk 138 (30 + i)) = true := by decide +kernel
set_option maxRecDepth 100000 in
theorem am_c138_30 : (List.range 30).all (fun i => am_ck 138 (30 + i)) = true := by decide +kernel
set_option maxRecDepth 100000 in
theorem am_d138_60 : (List.range 3).all (fun i => am_dk 138 (60 + i)) = true := by decide +kernel
set_option maxRecDepth 100000 in
theorem am_c138_60 : (List.range 3).all (fun i => am_ck 138 (60 + i)) = true := by decide +kernel
set_option maxRecDepth 100000 in
theorem am_g138 : am_good 138 := am_good_of (n := 63) (by decide +kernel) (am_ch _ 60 3 (am_ch _ 30 30 (am_ch _ 0 30 (am_no _) am_c138_0) am_c138_30) am_c138_60) (am_ch _ 60 3 (am_ch _ 30 30 (am_ch _ 0 30 (am_no _) am_d138_0) am_d138_30) am_d138_60)
set_option maxRecDepth 100000 in
theorem am_y138 : am_yk 138 = true := by decide +kernel
set_option maxRecDepth 100000 in
theorem am_d139_0 : (List.range 14).all (fun i => am_dk 139 (0 + i)) = true := by decide +kernel
set_option maxRecDepth 100000 in
theorem am_c139_0 : (List.range 14).all (fun i => am_ck 139 (0 + i)) = true := by decide +kernel
set_option maxRecDepth 100000 in
theorem am_g139 : am_good 139 := am_good_of (n := 14) (by decide +kernel) (am_ch _ 0 14 (am_no _) am_c139_0) (am_ch _ 0 14 (am_no _) am_d139_0)
set_option maxRecDepth 100000 in
theorem am_y139 : am_yk 139 = true := by decide +kernel
set_option maxRecDepth 100000 in
theorem am_d140_0 : (List.range 25).all (fun i => am_dk 140 (0 + i)) = true := by decide +kernel
set_option maxRecDepth 100000 in
theorem am_c140_0 : (List.range 25).all (fun i => am_ck 140 (0 + i)) = true := by decide +kernel
set_option maxRecDepth 100000 in
theorem am_g140 : am_good 140 := am_good_of (n := 25) (by decide +kernel) (am_ch _ 0 25 (am_no _) am_c140_0) (am_ch _ 0 25 (am_no _) am_d140_0)
set_option maxRecDepth 100000 in
theorem am_y140 : am_yk 140 = true := by decide +kernel
set_option maxRecDepth 100000 in
theorem am_d141_0 : (List.range 30).all (fun i => am_dk 141 (0 + i)) = true := by decide +kernel
set_option maxRecDepth 100000 in
theorem am_c141_0 : (List.range 30).all (fun i => am_ck 141 (0 + i)) = true := by decide +kernel
set_option maxRecDepth 100000 in
theorem am_d141_30 : (List.range 30).all (fun i => am_dk 141 (30 + i)) = true := by decide +kernel
set_option maxRecDepth 100000 in
theorem am_c141_30 : (List.range 30).all (fun i => am_ck 141 (30 + i)) = true := by decide +kernel
set_option maxRecDepth 100000 in
theorem am_g141 : am_good 141 := am_good_of (n := 60) (by decide +kernel) (am_ch _ 30 30 (am_ch _ 0 30 (am_no _) am_c141_0) am_c141_30) (am_ch _ 30 30 (am_ch _ 0 30 (am_no _) am_d141_0) am_d141_30)
set_option maxRecDepth 100000 in
theorem am_y141 : am_yk 141 = true := by decide +kernel
set_option maxRecDepth 100000 in
theorem am_d142_0 : (List.range 30).all (fun i => am_dk 142 (0 + i)) = true := by decide +kernel
set_option maxRecDepth 100000 in
theorem am_c142_0 : (List.range 30).all (fun i => am_ck 142 (0 + i)) = true := by decide +kernel
set_option maxRecDepth 100000 in
theorem am_d142_30 : (List.range 30).all (fun i => am_dk 142 (30 + i)) = true := by decide +kernel
set_option maxRecDepth 100000 in
theorem am_c142_30 : (List.range 30).all (fun i => am_ck 142 (30 + i)) = true := by decide +kernel
set_option maxRecDepth 100000 in
theorem am_d142_60 : (List.range 28).all (fun i => am_dk 142 (60 + i)) = true := by decide +kernel
set_option maxRecDepth 100000 in
theorem am_c142_60 : (List.range 28).all (fun i => am_ck 142 (60 + i)) = true := by decide +kernel
set_option maxRecDepth 100000 in
theorem am_g142 : am_good 142 := am_good_of (n := 88) (by decide +kernel) (am_ch _ 60 28 (am_ch _ 30 30 (am_ch _ 0 30 (am_no _) am_c142_0) am_c142_30) am_c142_60) (am_ch _ 60 28 (am_ch _ 30 30 (am_ch _ 0 30 (am_no _) am_d142_0) am_d142_30) am_d142_60)
set_option maxRecDepth 100000 in
theorem am_y142 : am_yk 142 = true := by decide +kernel
set_option maxRecDepth 100000 in
theorem am_d143_0 : (List.range 30).all (fun i => am_dk 143 (0 + i)) = true := by decide +kernel
set_option maxRecDepth 100000 in
theorem am_c143_0 : (List.range 30).all (fun i => am_ck 143 (0 + i)) = true := by decide +kernel
set_option maxRecDepth 100000 in
theorem am_d143_30 : (List.range 12).all (fun i => am_dk 143 (30 + i)) = true := by decide +kernel
set_option maxRecDepth 100000 in
theorem am_c143_30 : (List.range 12).all (fun i => am_ck 143 (30 + i)) = true := by decide +kernel
set_option maxRecDepth 100000 in
theorem am_g143 : am_good 143 := am_good_of (n := 42) (by decide +kernel) (am_ch _ 30 12 (am_ch _ 0 30 (am_no _) am_c143_0) am_c143_30) (am_ch _ 30 12 (am_ch _ 0 30 (am_no _) am_d143_0) am_d143_30)
set_option maxRecDepth 100000 in
theorem am_y143 : am_yk 143 = true := by decide +kernel
set_option maxRecDepth 100000 in
theorem am_d144_0 : (List.range 16).all (fun i => am_dk 144 (0 + i)) = true := by decide +kernel
set_option maxRecDepth 100000 in
theorem am_c144_0 : (List.range 16).all (fun i => am_ck 144 (0 + i)) = true := by decide +kernel
set_option maxRecDepth 100000 in
theorem am_g144 : am_good 144 := am_good_of (n := 16) (by decide +kernel) (am_ch _ 0 16 (am_no _) am_c144_0) (am_ch _ 0 16 (am_no _) am_d144_0)
set_option maxRecDepth 100000 in
theorem am_y144 : am_yk 144 = true := by decide +kernel
set_option maxRecDepth 100000 in
theorem am_d145_0 : (List.range 30).all (fun i => am_dk 145 (0 + i)) = true := by decide +kernel
set_option maxRecDepth 100000 in
theorem am_c145_0 : (List.range 30).all (fun i => am_ck 145 (0 + i)) = true := by decide +kernel
set_option maxRecDepth 100000 in
theorem am_d145_30 : (List.range 26).all (fun i => am_dk 145 (30 + i)) = true := by decide +kernel
set_option maxRecDepth 100000 in
theorem am_c145_30 : (List.range 26).all (fun i => am_ck 145 (30 + i)) = true := by decide +kernel
set_option maxRecDepth 100000 in
theorem am_g145 : am_good 145 := am_good_of (n := 56) (by decide +kernel) (am_ch _ 30 26 (am_ch _ 0 30 (am_no _) am_c145_0) am_c145_30) (am_ch _ 30 26 (am_ch _ 0 30 (am_no _) am_d145_0) am_d145_30)
set_option maxRecDepth 100000 in
theorem am_y145 : am_yk 145 = true := by decide +kernel
set_option maxRecDepth 100000 in
theorem am_d146_0 : (List.range 30).all (fun i => am_dk 146 (0 + i)) = true := by decide +kernel
set_option maxRecDepth 100000 in
theorem am_c146_0 : (List.range 30).all (fun i => am_ck 146 (0 + i)) = true := by decide +kernel
set_option maxRecDepth 100000 in
theorem am_d146_30 : (List.range 9).all (fun i => am_dk 146 (30 + i)) = true := by decide +kernel
set_option maxRecDepth 100000 in
theorem am_c146_30 : (List.range 9).all (fun i => am_ck 146 (30 + i)) = true := by decide +kernel
set_option maxRecDepth 100000 in
theorem am_g146 : am_good 146 := am_good_of (n := 39) (by decide +kernel) (am_ch _ 30 9 (am_ch _ 0 30 (am_no _) am_c146_0) am_c146_30) (am_ch _ 30 9 (am_ch _ 0 30 (am_no _) am_d146_0) am_d146_30)
set_option maxRecDepth 100000 in
theorem am_y146 : am_yk 146 = true := by decide +kernel
set_option maxRecDepth 100000 in
theorem am_d147_0 : (List.range 30).all (fun i => am_dk 147 (0 + i)) = true := by decide +kernel
set_option maxRecDepth 100000 in
theorem am_c147_0 : (List.range 30).all (fun i => am_ck 147 (0 + i)) = true := by decide +kernel
set_option maxRecDepth 100000 in
theorem am_d147_30 : (List.range 30).all (fun i => am_dk 147 (30 + i)) = true := by decide +kernel
set_option maxRecDepth 100000 in
theorem am_c147_30 : (List.range 30).all (fun i => am_ck 147 (30 + i)) = true := by decide +kernel
set_option maxRecDepth 100000 in
theorem am_d147_60 : (List.range 3).all (fun i => am_dk 147 (60 + i)) = true := by decide +kernel
set_option maxRecDepth 100000 in
theorem am_c147_60 : (List.range 3).all (fun i => am_ck 147 (60 + i)) = true := by decide +kernel
set_option maxRecDepth 100000 in
theorem am_g147 : am_good 147 := am_good_of (n := 63) (by decide +kernel) (am_ch _ 60 3 (am_ch _ 30 30 (am_ch _ 0 30 (am_no _) am_c147_0) am_c147_30) am_c147_60) (am_ch _ 60 3 (am_ch _ 30 30 (am_ch _ 0 30 (am_no _) am_d147_0) am_d147_30) am_d147_60)
set_option maxRecDepth 100000 in
theorem am_y147 : am_yk 147 = true := by decide +kernel
set_option maxRecDepth 100000 in
theorem am_d148_0 : (List.range 30).all (fun i => am_dk 148 (0 + i)) = true := by decide +kernel
set_option maxRecDepth 100000 in
theorem am_c148_0 : (List.range 30).all (fun i => am_ck 148 (0 + i)) = true := by decide +kernel
set_option maxRecDepth 100000 in
theorem am_d148_30 : (List.range 30).all (fun i => am_dk 148 (30 + i)) = true := by decide +kernel
set_option maxRecDepth 100000 in
theorem am_c148_30 : (List.range 30).all (fun i => am_ck 148 (30 + i)) = true := by decide +kernel
set_option maxRecDepth 100000 in
theorem am_d148_60 : (List.range 11).all (fun i => am_dk 148 (60 + i)) = true := by decide +kernel
set_option maxRecDepth 100000 in
theorem am_c148_60 : (List.range 11).all (fun i => am_ck 148 (60 + i)) = true := by decide +kernel
set_option maxRecDepth 100000 in
theorem am_g148 : am_good 148 := am_good_of (n := 71) (by decide +kernel) (am_ch _ 60 11 (am_ch _ 30 30 (am_ch _ 0 30 (am_no _) am_c148_0) am_c148_30) am_c148_60) (am_ch _ 60 11 (am_ch _ 30 30 (am_ch _ 0 30 (am_no _) am_d148_0) am_d148_30) am_d148_60)
set_option maxRecDepth 100000 in
theorem am_y148 : am_yk 148 = true := by decide +kernel
set_option maxRecDepth 100000 in
theorem am_d149_0 : (List.range 30).all (fun i => am_dk 149 (0 + i)) = true := by decide +kernel
set_option maxRecDepth 100000 in
theorem am_c149_0 : (List.range 30).all (fun i => am_ck 149 (0 + i)) = true := by decide +kernel
set_option maxRecDepth 100000 in
theorem am_d149_30 : (List.range 30).all (fun i => am_dk 149 (30 + i)) = true := by decide +kernel
set_option maxRecDepth 100000 in
theorem am_c149_30 : (List.range 30).all (fun i => am_ck 149 (30 + i)) = true := by decide +kernel
set_option maxRecDepth 100000 in
theorem am_d149_60 : (List.range 10).all (fun i => am_dk 149 (60 + i)) = true := by decide +kernel
set_option maxRecDepth 100000 in
theorem am_c149_60 : (List.range 10).all (fun i => am_ck 149 (60 + i)) = true := by decide +kernel
set_option maxRecDepth 100000 in
theorem am_g149 : am_good 149 := am_good_of (n := 70) (by decide +kernel) (am_ch _ 60 10 (am_ch _ 30 30 (am_ch _ 0 30 (am_no _) am_c149_0) am_c149_30) am_c149_60) (am_ch _ 60 10 (am_ch _ 30 30 (am_ch _ 0 30 (am_no _) am_d149_0) am_d149_30) am_d149_60)
set_option maxRecDepth 100000 in
theorem am_y149 : am_yk 149 = true := by decide +kernel
set_option maxRecDepth 100000 in
theorem am_d150_0 : (List.range 25).all (fun i => am_dk 150 (0 + i)) = true := by decide +kernel
set_option maxRecDepth 100000 in
theorem am_c150_0 : (List.range 25).all (fun i => am_ck 150 (0 + i)) = true := by decide +kernel
set_option maxRecDepth 100000 in
theorem am_g150 : am_good 150 := am_good_of (n := 25) (by decide +kernel) (am_ch _ 0 25 (am_no _) am_c150_0) (am_ch _ 0 25 (am_no _) am_d150_0)
set_option maxRecDepth 100000 in
theorem am_y150 : am_yk 150 = true := by decide +kernel
set_option maxRecDepth 100000 in
theorem am_d151_0 : (List.range 30).all (fun i => am_dk 151 (0 + i)) = true := by decide +kernel
set_option maxRecDepth 100000 in
theorem am_c151_0 : (List.range 30).all (fun i => am_ck 151 (0 + i)) = true := by decide +kernel
set_option maxRecDepth 100000 in
theorem am_d151_30 : (List.range 30).all (fun i => am_dk 151 (30 + i)) = true := by decide +kernel
set_option maxRecDepth 100000 in
theorem am_c151_30 : (List.range 30).all (fun i => am_ck 151 (30 + i)) = true := by decide +kernel
set_option maxRecDepth 100000 in
theorem am_d151_60 : (List.range 28).all (fun i => am_dk 151 (60 + i)) = true := by decide +kernel
set_option maxRecDepth 100000 in
theorem am_c151_60 : (List.range 28).all (fun i => am_ck 151 (60 + i)) = true := by decide +kernel
set_option maxRecDepth 100000 in
theorem am_g151 : am_good 151 := am_good_of (n := 88) (by decide +kernel) (am_ch _ 60 28 (am_ch _ 30 30 (am_ch _ 0 30 (am_no _) am_c151_0) am_c151_30) am_c151_60) (am_ch _ 60 28 (am_ch _ 30 30 (am_ch _ 0 30 (am_no _) am_d151_0) am_d151_30) am_d151_60)
set_option maxRecDepth 100000 in
theorem am_y151 : am_yk 151 = true := by decide +kernel
set_option maxRecDepth 100000 in
theorem am_d152_0 : (List.range 30).all (fun i => am_dk 152 (0 + i)) = true := by decide +kernel
set_option maxRecDepth 100000 in
theorem am_c152_0 : (List.range 30).all (fun i => am_ck 152 (0 + i)) = true := by decide +kernel
set_option maxRecDepth 100000 in
theorem am_d152_30 : (List.range 5).all (fun i => am_dk 152 (30 + i)) = true := by decide +kernel
set_option maxRecDepth 100000 in
theorem am_c152_30 : (List.range 5).all (fun i => am_ck 152 (30 + i)) = true := by decide +kernel
set_option maxRecDepth 100000 in
theorem am_g152 : am_good 152 := am_good_of (n := 35) (by decide +kernel) (am_ch _ 30 5 (am_ch _ 0 30 (am_no _) am_c152_0) am_c152_30) (am_ch _ 30 5 (am_ch _ 0 30 (am_no _) am_d152_0) am_d152_30)
set_option maxRecDepth 100000 in
theorem am_y152 : am_yk 152 = true := by decide +kernel
set_option maxRecDepth 100000 in
theorem am_d153_0 : (List.range 30).all (fun i => am_dk 153 (0 + i)) = true := by decide +kernel
set_option maxRecDepth 100000 in
theorem am_c153_0 : (List.range 30).all (fun i => am_ck 153 (0 + i)) = true := by decide +kernel
set_option maxRecDepth 100000 in
theorem am_d153_30 : (List.range 30).all (fun i => am_dk 153 (30 + i)) = true := by decide +kernel
set_option maxRecDepth 100000 in
theorem am_c153_30 : (List.range 30).all (fun i => am_ck 153 (30 + i)) = true := by decide +kernel
set_option maxRecDepth 100000 in
theorem am_d153_60 : (List.range 15).all (fun i => am_dk 153 (60 + i)) = true := by decide +kernel
set_option maxRecDepth 100000 in
theorem am_c153_60 : (List.range 15).all (fun i => am_ck 153 (60 + i)) = true := by decide +kernel
set_option maxRecDepth 100000 in
theorem am_g153 : am_good 153 := am_good_of (n := 75) (by decide +kernel) (am_ch _ 60 15 (am_ch _ 30 30 (am_ch _ 0 30 (am_no _) am_c153_0) am_c153_30) am_c153_60) (am_ch _ 60 15 (am_ch _ 30 30 (am_ch _ 0 30 (am_no _) am_d153_0) am_d153_30) am_d153_60)
set_option maxRecDepth 100000 in
theorem am_y153 : am_yk 153 = true := by decide +kernel
set_option maxRecDepth 100000 in
theorem am_d154_0 : (List.range 28).all (fun i => am_dk 154 (0 + i)) = true := by decide +kernel
set_option maxRecDepth 100000 in
theorem am_c154_0 : (List.range 28).all (fun i => am_ck 154 (0 + i)) = true := by decide +kernel
set_option maxRecDepth 100000 in
theorem am_g154 : am_good 154 := am_good_of (n := 28) (by decide +kernel) (am_ch _ 0 28 (am_no _) am_c154_0) (am_ch _ 0 28 (am_no _) am_d154_0)
set_option maxRecDepth 100000 in
theorem am_y154 : am_yk 154 = true := by decide +kernel
set_option maxRecDepth 100000 in
theorem am_d155_0 : (List.range 27).all (fun i => am_dk 155 (0 + i)) = true := by decide +kernel
set_option maxRecDepth 100000 in
theorem am_c155_0 : (List.range 27).all (fun i => am_ck 155 (0 + i)) = true := by decide +kernel
set_option maxRecDepth 100000 in
theorem am_g155 : am_good 155 := am_good_of (n := 27) (by decide +kernel) (am_ch _ 0 27 (am_no _) am_c155_0) (am_ch _ 0 27 (am_no _) am_d155_0)
set_option maxRecDepth 100000 in
theorem am_y155 : am_yk 155 = true := by decide +kernel
set_option maxRecDepth 100000 in
theorem am_d156_0 : (List.range 23).all (fun i => am_dk 156 (0 + i)) = true := by decide +kernel
set_option maxRecDepth 100000 in
theorem am_c156_0 : (List.range 23).all (fun i => am_ck 156 (0 + i)) = true := by decide +kernel
set_option maxRecDepth 100000 in
theorem am_g156 : am_good 156 := am_good_of (n := 23) (by decide +kernel) (am_ch _ 0 23 (am_no _) am_c156_0) (am_ch _ 0 23 (am_no _) am_d156_0)
set_option maxRecDepth 100000 in
theorem am_y156 : am_yk 156 = true := by decide +kernel
set_option maxRecDepth 100000 in
theorem am_d157_0 : (List.range 30).all (fun i => am_dk 157 (0 + i)) = true := by decide +kernel
set_option maxRecDepth 100000 in
theorem am_c157_0 : (List.range 30).all (fun i => am_ck 157 (0 + i)) = true := by decide +kernel
set_option maxRecDepth 100000 in
theorem am_d157_30 : (List.range 10).all (fun i => am_dk 157 (30 + i)) = true := by decide +kernel
set_option maxRecDepth 100000 in
theorem am_c157_30 : (List.range 10).all (fun i => am_ck 157 (30 + i)) = true := by decide +kernel
set_option maxRecDepth 100000 in
theorem am_g157 : am_good 157 := am_good_of (n := 40) (by decide +kernel) (am_ch _ 30 10 (am_ch _ 0 30 (am_no _) am_c157_0) am_c157_30) (am_ch _ 30 10 (am_ch _ 0 30 (am_no _) am_d157_0) am_d157_30)
set_option maxRecDepth 100000 in
theorem am_y157 : am_yk 157 = true := by decide +kernel
set_option maxRecDepth 100000 in
theorem am_d158_0 : (List.range 30).all (fun i => am_dk 158 (0 + i)) = true := by decide +kernel
set_option maxRecDepth 100000 in
theorem am_c158_0 : (List.range 30).all (fun i => am_ck 158 (0 + i)) = true := by decide +kernel
set_option maxRecDepth 100000 in
theorem am_d158_30 : (List.range 1).all (fun i => am_dk 158 (30 + i)) = true := by decide +kernel
set_option maxRecDepth 100000 in
theorem am_c158_30 : (List.range 1).all (fun i => am_ck 158 (30 + i)) = true := by decide +kernel
set_option maxRecDepth 100000 in
theorem am_g158 : am_good 158 := am_good_of (n := 31) (by decide +kernel) (am_ch _ 30 1 (am_ch _ 0 30 (am_no _) am_c158_0) am_c158_30) (am_ch _ 30 1 (am_ch _ 0 30 (am_no _) am_d158_0) am_d158_30)
set_option maxRecDepth 100000 in
theorem am_y158 : am_yk 158 = true := by decide +kernel
set_option maxRecDepth 100000 in
theorem am_d159_0 : (List.range 19).all (fun i => am_dk 159 (0 + i)) = true := by decide +kernel
set_option maxRecDepth 100000 in
theorem am_c159_0 : (List.range 19).all (fun i => am_ck 159 (0 + i)) = true := by decide +kernel
set_option maxRecDepth 100000 in
theorem am_g159 : am_good 159 := am_good_of (n := 19) (by decide +kernel) (am_ch _ 0 19 (am_no _) am_c159_0) (am_ch _ 0 19 (am_no _) am_d159_0)
set_option maxRecDepth 100000 in
theorem am_y159 : am_yk 159 = true := by decide +kernel
set_option maxRecDepth 100000 in
theorem am_d160_0 : (List.range 30).all (fun i => am_dk 160 (0 + i)) = true := by decide +kernel
set_option maxRecDepth 100000 in
theorem am_c160_0 : (List.range 30).all (fun i => am_ck 160 (0 + i)) = true := by decide +kernel
set_option maxRecDepth 100000 in
theorem am_d160_30 : (List.range 1).all (fun i => am_dk 160 (30 + i)) = true := by decide +kernel
set_option maxRecDepth 100000 in
theorem am_c160_30 : (List.range 1).all (fun i => am_ck 160 (30 + i)) = true := by decide +kernel
set_option maxRecDepth 100000 in
theorem am_g160 : am_good 160 := am_good_of (n := 31) (by decide +kernel) (am_ch _ 30 1 (am_ch _ 0 30 (am_no _) am_c160_0) am_c160_30) (am_ch _ 30 1 (am_ch _ 0 30 (am_no _) am_d160_0) am_d160_30)
set_option maxRecDepth 100000 in
theorem am_y160 : am_yk 160 = true := by decide +kernel
set_option maxRecDepth 100000 in
theorem am_d161_0 : (List.range 22).all (fun i => am_dk 161 (0 + i)) = true := by decide +kernel
set_option maxRecDepth 100000 in
theorem am_c161_0 : (List.range 22).all (fun i => am_ck 161 (0 + i)) = true := by decide +kernel
set_option maxRecDepth 100000 in
theorem am_g161 : am_good 161 := am_good_of (n := 22) (by decide +kernel) (am_ch _ 0 22 (am_no _) am_c161_0) (am_ch _ 0 22 (am_no _) am_d161_0)
set_option maxRecDepth 100000 in
theorem am_y161 : am_yk 161 = true := by decide +kernel
set_option maxRecDepth 100000 in
theorem am_d162_0 : (List.range 23).all (fun i => am_dk 162 (0 + i)) = true := by decide +kernel
set_option maxRecDepth 100000 in
theorem am_c162_0 : (List.range 23).all (fun i => am_ck 162 (0 + i)) = true := by decide +kernel
set_option maxRecDepth 100000 in
theorem am_g162 : am_good 162 := am_good_of (n := 23) (by decide +kernel) (am_ch _ 0 23 (am_no _) am_c162_0) (am_ch _ 0 23 (am_no _) am_d162_0)
set_option maxRecDepth 100000 in
theorem am_y162 : am_yk 162 = true := by decide +kernel
set_option maxRecDepth 100000 in
theorem am_d163_0 : (List.range 30).all (fun i => am_dk 163 (0 + i)) = true := by decide +kernel
set_option maxRecDepth 100000 in
theorem am_c163_0 : (List.range 30).all (fun i => am_ck 163 (0 + i)) = true := by decide +kernel
set_option maxRecDepth 100000 in
theorem am_d163_30 : (List.range 30).all (fun i => am_dk 163 (30 + i)) = true := by decide +kernel
set_option maxRecDepth 100000 in
theorem am_c163_30 : (List.range 30).all (fun i => am_ck 163 (30 + i)) = true := by decide +kernel
set_option maxRecDepth 100000 in
theorem am_d163_60 : (List.range 3).all (fun i => am_dk 163 (60 + i)) = true := by decide +kernel
set_option maxRecDepth 100000 in
theorem am_c163_60 : (List.range 3).all (fun i => am_ck 163 (60 + i)) = true := by decide +kernel
set_option maxRecDepth 100000 in
theorem am_g163 : am_good 163 := am_good_of (n := 63) (by decide +kernel) (am_ch _ 60 3 (am_ch _ 30 30 (am_ch _ 0 30 (am_no _) am_c163_0) am_c163_30) am_c163_60) (am_ch _ 60 3 (am_ch _ 30 30 (am_ch _ 0 30 (am_no _) am_d163_0) am_d163_30) am_d163_60)
set_option maxRecDepth 100000 in
theorem am_y163 : am_yk 163 = true := by decide +kernel
set_option maxRecDepth 100000 in
theorem am_d164_0 : (List.range 29).all (fun i => am_dk 164 (0 + i)) = true := by decide +kernel
set_option maxRecDepth 100000 in
theorem am_c164_0 : (List.range 29).all (fun i => am_ck 164 (0 + i)) = true := by decide +kernel
set_option maxRecDepth 100000 in
theorem am_g164 : am_good 164 := am_good_of (n := 29) (by decide +kernel) (am_ch _ 0 29 (am_no _) am_c164_0) (am_ch _ 0 29 (am_no _) am_d164_0)
set_option maxRecDepth 100000 in
theorem am_y164 : am_yk 164 = true := by decide +kernel
set_option maxRecDepth 100000 in
theorem am_d165_0 : (List.range 30).all (fun i => am_dk 165 (0 + i)) = true := by decide +kernel
set_option maxRecDepth 100000 in
theorem am_c165_0 : (List.range 30).all (fun i => am_ck 165 (0 + i)) = true := by decide +kernel
set_option maxRecDepth 100000 in
theorem am_d165_30 : (List.range 30).all (fun i => am_dk 165 (30 + i)) = true := by decide +kernel
set_option maxRecDepth 100000 in
theorem am_c165_30 : (List.range 30).all (fun i => am_ck 165 (30 + i)) = true := by decide +kernel
set_option maxRecDepth 100000 in
theorem am_d165_60 : (List.range 17).all (fun i => am_dk 165 (60 + i)) = true := by decide +kernel
set_option maxRecDepth 100000 in
theorem am_c165_60 : (List.range 17).all (fun i => am_ck 165 (60 + i)) = true := by decide +kernel
set_option maxRecDepth 100000 in
theorem am_g165 : am_good 165 := am_good_of (n := 77) (by decide +kernel) (am_ch _ 60 17 (am_ch _ 30 30 (am_ch _ 0 30 (am_no _) am_c165_0) am_c165_30) am_c165_60) (am_ch _ 60 17 (am_ch _ 30 30 (am_ch _ 0 30 (am_no _) am_d165_0) am_d165_30) am_d165_60)
set_option maxRecDepth 100000 in
theorem am_y165 : am_yk 165 = true := by decide +kernel
set_option maxRecDepth 100000 in
theorem am_d166_0 : (List.range 30).all (fun i => am_dk 166 (0 + i)) = true := by decide +kernel
set_option maxRecDepth 100000 in
theorem am_c166_0 : (List.range 30).all (fun i => am_ck 166 (0 + i)) = true := by decide +kernel
set_option maxRecDepth 100000 in
theorem am_d166_30 : (List.range 30).all (fun i => am_dk 166 (30 + i)) = true := by decide +kernel
set_option maxRecDepth 100000 in
theorem am_c166_30 : (List.range 30).all (fun i => am_ck 166 (30 + i)) = true := by decide +kernel
set_option maxRecDepth 100000 in
theorem am_d166_60 : (List.range 15).all (fun i => am_dk 166 (60 + i)) = true := by decide +kernel
set_option maxRecDepth 100000 in
theorem am_c166_60 : (List.range 15).all (fun i => am_ck 166 (60 + i)) = true := by decide +kernel
set_option maxRecDepth 100000 in
theorem am_g166 : am_good 166 := am_good_of (n := 75) (by decide +kernel) (am_ch _ 60 15 (am_ch _ 30 30 (am_ch _ 0 30 (am_no _) am_c166_0) am_c166_30) am_c166_60) (am_ch _ 60 15 (am_ch _ 30 30 (am_ch _ 0 30 (am_no _) am_d166_0) am_d166_30) am_d166_60)
set_option maxRecDepth 100000 in
theorem am_y166 : am_yk 166 = true := by decide +kernel
set_option maxRecDepth 100000 in
theorem am_d167_0 : (List.range 8).all (fun i => am_dk 167 (0 + i)) = true := by decide +kernel
set_option maxRecDepth 100000 in
theorem am_c167_0 : (List.range 8).all (fun i => am_ck 167 (0 + i)) = true := by decide +kernel
set_option maxRecDepth 100000 in
theorem am_g167 : am_good 167 := am_good_of (n := 8) (by decide +kernel) (am_ch _ 0 8 (am_no _) am_c167_0) (am_ch _ 0 8 (am_no _) am_d167_0)
set_option maxRecDepth 100000 in
theorem am_y167 : am_yk 167 = true := by decide +kernel
set_option maxRecDepth 100000 in
theorem am_d168_0 : (List.range 30).all (fun i => am_dk 168 (0 + i)) = true := by decide +kernel
set_option maxRecDepth 100000 in
theorem am_c168_0 : (List.range 30).all (fun i => am_ck 168 (0 + i)) = true := by decide +kernel
set_option maxRecDepth 100000 in
theorem am_d168_30 : (List.range 9).all (fun i => am_dk 168 (30 + i)) = true := by decide +kernel
set_option maxRecDepth 100000 in
theorem am_c168_30 : (List.range 9).all (fun i => am_ck 168 (30 + i)) = true := by decide +kernel
set_option maxRecDepth 100000 in
theorem am_g168 : am_good 168 := am_good_of (n := 39) (by decide +kernel) (am_ch _ 30 9 (am_ch _ 0 30 (am_no _) am_c168_0) am_c168_30) (am_ch _ 30 9 (am_ch _ 0 30 (am_no _) am_d168_0) am_d168_30)
set_option maxRecDepth 100000 in
theorem am_y168 : am_yk 168 = true := by decide +kernel
set_option maxRecDepth 100000 in
theorem am_d169_0 : (List.range 30).all (fun i => am_dk 169 (0 + i)) = true := by decide +kernel
set_option maxRecDepth 100000 in
theorem am_c169_0 : (List.range 30).all (fun i => am_ck 169 (0 + i)) = true := by decide +kernel
set_option maxRecDepth 100000 in
theorem am_d169_30 : (List.range 12).all (fun i => am_dk 169 (30 + i)) = true := by decide +kernel
set_option maxRecDepth 100000 in
theorem am_c169_30 : (List.range 12).all (fun i => am_ck 169 (30 + i)) = true := by decide +kernel
set_option maxRecDepth 100000 in
theorem am_g169 : am_good 169 := am_good_of (n := 42) (by decide +kernel) (am_ch _ 30 12 (am_ch _ 0 30 (am_no _) am_c169_0) am_c169_30) (am_ch _ 30 12 (am_ch _ 0 30 (am_no _) am_d169_0) am_d169_30)
set_option maxRecDepth 100000 in
theorem am_y169 : am_yk 169 = true := by decide +kernel
set_option maxRecDepth 100000 in
theorem am_d170_0 : (List.range 30).all (fun i => am_dk 170 (0 + i)) = true := by decide +kernel
set_option maxRecDepth 100000 in
theorem am_c170_0 : (List.range 30).all (fun i => am_ck 170 (0 + i)) = true := by decide +kernel
set_option maxRecDepth 100000 in
theorem am_d170_30 : (List.range 12).all (fun i => am_dk 170 (30 + i)) = true := by decide +kernel
set_option maxRecDepth 100000 in
theorem am_c170_30 : (List.range 12).all (fun i => am_ck 170 (30 + i)) = true := by decide +kernel
set_option maxRecDepth 100000 in
theorem am_g170 : am_good 170 := am_good_of (n := 42) (by decide +kernel) (am_ch _ 30 12 (am_ch _ 0 30 (am_no _) am_c170_0) am_c170_30) (am_ch _ 30 12 (am_ch _ 0 30 (am_no _) am_d170_0) am_d170_30)
set_option maxRecDepth 100000 in
theorem am_y170 : am_yk 170 = true := by decide +kernel
set_option maxRecDepth 100000 in
theorem am_d171_0 : (List.range 30).all (fun i => am_dk 171 (0 + i)) = true := by decide +kernel
set_option maxRecDepth 100000 in
theorem am_c171_0 : (List.range 30).all (fun i => am_ck 171 (0 + i)) = true := by decide +kernel
set_option maxRecDepth 100000 in
theorem am_d171_30 : (List.range 25).all (fun i => am_dk 171 (30 + i)) = true := by decide +kernel
set_option maxRecDepth 100000 in
theorem am_c171_30 : (List.range 25).all (fun i => am_ck 171 (30 + i)) = true := by decide +kernel
set_option maxRecDepth 100000 in
theorem am_g171 : am_good 171 := am_good_of (n := 55) (by decide +kernel) (am_ch _ 30 25 (am_ch _ 0 30 (am_no _) am_c171_0) am_c171_30) (am_ch _ 30 25 (am_ch _ 0 30 (am_no _) am_d171_0) am_d171_30)
set_option maxRecDepth 100000 in
theorem am_y171 : am_yk 171 = true := by decide +kernel
set_option maxRecDepth 100000 in
theorem am_d172_0 : (List.range 30).all (fun i => am_dk 172 (0 + i)) = true := by decide +kernel
set_option maxRecDepth 100000 in
theorem am_c172_0 : (List.range 30).all (fun i => am_ck 172 (0 + i)) = true := by decide +kernel
set_option maxRecDepth 100000 in
theorem am_d172_30 : (List.range 6).all (fun i => am_dk 172 (30 + i)) = true := by decide +kernel
set_option maxRecDepth 100000 in
theorem am_c172_30 : (List.range 6).all (fun i => am_ck 172 (30 + i)) = true := by decide +kernel
set_option maxRecDepth 100000 in
theorem am_g172 : am_good 172 := am_good_of (n := 36) (by decide +kernel) (am_ch _ 30 6 (am_ch _ 0 30 (am_no _) am_c172_0) am_c172_30) (am_ch _ 30 6 (am_ch _ 0 30 (am_no _) am_d172_0) am_d172_30)
set_option maxRecDepth 100000 in
theorem am_y172 : am_yk 172 = true := by decide +kernel
set_option maxRecDepth 100000 in
theorem am_d173_0 : (List.range 30).all (fun i => am_dk 173 (0 + i)) = true := by decide +kernel
set_option maxRecDepth 100000 in
theorem am_c173_0 : (List.range 30).all (fun i => am_ck 173 (0 + i)) = true := by decide +kernel
set_option maxRecDepth 100000 in
theorem am_d173_30 : (List.range 8).all (fun i => am_dk 173 (30 + i)) = true := by decide +kernel
set_option maxRecDepth 100000 in
theorem am_c173_30 : (List.range 8).all (fun i => am_ck 173 (30 + i)) = true := by decide +kernel
set_option maxRecDepth 100000 in
theorem am_g173 : am_good 173 := am_good_of (n := 38) (by decide +kernel) (am_ch _ 30 8 (am_ch _ 0 30 (am_no _) am_c173_0) am_c173_30) (am_ch _ 30 8 (am_ch _ 0 30 (am_no _) am_d173_0) am_d173_30)
set_option maxRecDepth 100000 in
theorem am_y173 : am_yk 173 = true := by decide +kernel
set_option maxRecDepth 100000 in
theorem am_d174_0 : (List.range 30).all (fun i => am_dk 174 (0 + i)) = true := by decide +kernel
set_option maxRecDepth 100000 in
theorem am_c174_0 : (List.range 30).all (fun i => am_ck 174 (0 + i)) = true := by decide +kernel
set_option maxRecDepth 100000 in
theorem am_d174_30 : (List.range 1).all (fun i => am_dk 174 (30 + i)) = true := by decide +kernel
set_option maxRecDepth 100000 in
theorem am_c174_30 : (List.range 1).all (fun i => am_ck 174 (30 + i)) = true := by decide +kernel
set_option maxRecDepth 100000 in
theorem am_g174 : am_good 174 := am_good_of (n := 31) (by decide +kernel) (am_ch _ 30 1 (am_ch _ 0 30 (am_no _) am_c174_0) am_c174_30) (am_ch _ 30 1 (am_ch _ 0 30 (am_no _) am_d174_0) am_d174_30)
set_option maxRecDepth 100000 in
theorem am_y174 : am_yk 174 = true := by decide +kernel
set_option maxRecDepth 100000 in
theorem am_d175_0 : (List.range 3).all (fun i => am_dk 175 (0 + i)) = true := by decide +kernel
set_option maxRecDepth 100000 in
theorem am_c175_0 : (List.range 3).all (fun i => am_ck 175 (0 + i)) = true := by decide +kernel
set_option maxRecDepth 100000 in
theorem am_g175 : am_good 175 := am_good_of (n := 3) (by decide +kernel) (am_ch _ 0 3 (am_no _) am_c175_0) (am_ch _ 0 3 (am_no _) am_d175_0)
set_option maxRecDepth 100000 in
theorem am_y175 : am_yk 175 = true := by decide +kernel
set_option maxRecDepth 100000 in
theorem am_d176_0 : (List.range 30).all (fun i => am_dk 176 (0 + i)) = true := by decide +kernel
set_option maxRecDepth 100000 in
theorem am_c176_0 : (List.range 30).all (fun i => am_ck 176 (0 + i)) = true := by decide +kernel
set_option maxRecDepth 100000 in
theorem am_d176_30 : (List.range 12).all (fun i => am_dk 176 (30 + i)) = true := by decide +kernel
set_option maxRecDepth 100000 in
theorem am_c176_30 : (List.range 12).all (fun i => am_ck 176 (30 + i)) = true := by decide +kernel
set_option maxRecDepth 100000 in
theorem am_g176 : am_good 176 := am_good_of (n := 42) (by decide +kernel) (am_ch _ 30 12 (am_ch _ 0 30 (am_no _) am_c176_0) am_c176_30) (am_ch _ 30 12 (am_ch _ 0 30 (am_no _) am_d176_0) am_d176_30)
set_option maxRecDepth 100000 in
theorem am_y176 : am_yk 176 = true := by decide +kernel
set_option maxRecDepth 100000 in
theorem am_d177_0 : (List.range 7).all (fun i => am_dk 177 (0 + i)) = true := by decide +kernel
set_option maxRecDepth 100000 in
theorem am_c177_0 : (List.range 7).all (fun i => am_ck 177 (0 + i)) = true := by decide +kernel
set_option maxRecDepth 100000 in
theorem am_g177 : am_good 177 := am_good_of (n := 7) (by decide +kernel) (am_ch _ 0 7 (am_no _) am_c177_0) (am_ch _ 0 7 (am_no _) am_d177_0)
set_option maxRecDepth 100000 in
theorem am_d178_0 : (List.range 7).all (fun i => am_dk 178 (0 + i)) = true := by decide +kernel
set_option maxRecDepth 100000 in
theorem am_c178_0 : (List.range 7).all (fun i => am_ck 178 (0 + i)) = true := by decide +kernel
set_option maxRecDepth 100000 in
theorem am_g178 : am_good 178 := am_good_of (n := 7) (by decide +kernel) (am_ch _ 0 7 (am_no _) am_c178_0) (am_ch _ 0 7 (am_no _) am_d178_0)
set_option maxRecDepth 100000 in
theorem am_g_ok : ∀ mi, mi < 179 → am_good mi := lt_s (lt_s (lt_s (lt_s (lt_s (lt_s (lt_s (lt_s (lt_s (lt_s (lt_s (lt_s (lt_s (lt_s (lt_s (lt_s (lt_s (lt_s (lt_s (lt_s (lt_s (lt_s (lt_s (lt_s (lt_s (lt_s (lt_s (lt_s (lt_s (lt_s (lt_s (lt_s (lt_s (lt_s (lt_s (lt_s (lt_s (lt_s (lt_s (lt_s (lt_s (lt_s (lt_s (lt_s (lt_s (lt_s (lt_s (lt_s (lt_s (lt_s (lt_s (lt_s (lt_s (lt_s (lt_s (lt_s (lt_s (lt_s (lt_s (lt_s (lt_s (lt_s (lt_s (lt_s (lt_s (lt_s (lt_s (lt_s (lt_s (lt_s (lt_s (lt_s (lt_s (lt_s (lt_s (lt_s (lt_s (lt_s (lt_s (lt_s (lt_s (lt_s (lt_s (lt_s (lt_s (lt_s (lt_s (lt_s (lt_s (lt_s (lt_s (lt_s (lt_s (lt_s (lt_s (lt_s (lt_s (lt_s (lt_s (lt_s (lt_s (lt_s (lt_s (lt_s (lt_s (lt_s (lt_s (lt_s (lt_s (lt_s (lt_s (lt_s (lt_s (lt_s (lt_s (lt_s (lt_s (lt_s (lt_s (lt_s (lt_s (lt_s (lt_s (lt_s (lt_s (lt_s (lt_s (lt_s (lt_s (lt_s (lt_s (lt_s (lt_s (lt_s (lt_s (lt_s (lt_s (lt_s (lt_s (lt_s (lt_s (lt_s (lt_s (lt_s (lt_s (lt_s (lt_s (lt_s (lt_s (lt_s (lt_s (lt_s (lt_s (lt_s (lt_s (lt_s (lt_s (lt_s (lt_s (lt_s (lt_s (lt_s (lt_s (lt_s (lt_s (lt_s (lt_s (lt_s (lt_s (lt_s (lt_s (lt_s (lt_s (lt_s (lt_s (lt_s (lt_s (lt_s (lt_s (lt_0) am_g0) am_g1) am_g2) am_g3) am_g4) am_g5) am_g6) am_g7) am_g8) am_g9) am_g10) am_g11) am_g12) am_g13) am_g14) am_g15) am_g16) am_g17) am_g18) am_g19) am_g20) am_g21) am_g22) am_g23) am_g24) am_g25) am_g26) am_g27) am_g28) am_g29) am_g30) am_g31) am_g32) am_g33) am_g34) am_g35) am_g36) am_g37) am_g38) am_g39) am_g40) am_g41) am_g42) am_g43) am_g44) am_g45) am_g46) am_g47) am_g48) am_g49) am_g50) am_g51) am_g52) am_g53) am_g54) am_g55) am_g56) am_g57) am_g58) am_g59) am_g60) am_g61) am_g62) am_g63) am_g64) am_g65) am_g66) am_g67) am_g68) am_g69) am_g70) am_g71) am_g72) am_g73) am_g74) am_g75) am_g76) am_g77) am_g78) am_g79) am_g80) am_g81) am_g82) am_g83) am_g84) am_g85) am_g86) am_g87) am_g88) am_g89) am_g90) am_g91) am_g92) am_g93) am_g94) am_g95) am_g96) am_g97) am_g98) am_g99) am_g100) am_g101) am_g102) am_g103) am_g104) am_g105) am_g106) am_g107) am_g108) am_g109) am_g110) am_g111) am_g112) am_g113) am_g114) am_g115) am_g116) am_g117) am_g118) am_g119) am_g120) am_g121) am_g122) am_g123) am_g124) am_g125) am_g126) am_g127) am_g128) am_g129) am_g130) am_g131) am_g132) am_g133) am_g134) am_g135) am_g136) am_g137) am_g138) am_g139) am_g140) am_g141) am_g142) am_g143) am_g144) am_g145) am_g146) am_g147) am_g148) am_g149) am_g150) am_g151) am_g152) am_g153) am_g154) am_g155) am_g156) am_g157) am_g158) am_g159) am_g160) am_g161) am_g162) am_g163) am_g164) am_g165) am_g166) am_g167) am_g168) am_g169) am_g170) am_g171) am_g172) am_g173) am_g174) am_g175) am_g176) am_g177) am_g178
set_option maxRecDepth 100000 in
theorem am_y_ok : ∀ mi, mi < 177 → (mi = 0 ∨ am_yk mi = true) := lt_s (lt_s (lt_s (lt_s (lt_s (lt_s (lt_s (lt_s (lt_s (lt_s (lt_s (lt_s (lt_s (lt_s (lt_s (lt_s (lt_s (lt_s (lt_s (lt_s (lt_s (lt_s (lt_s (lt_s (lt_s (lt_s (lt_s (lt_s (lt_s (lt_s (lt_s (lt_s (lt_s (lt_s (lt_s (lt_s (lt_s (lt_s (lt_s (lt_s (lt_s (lt_s (lt_s (lt_s (lt_s (lt_s (lt_s (lt_s (lt_s (lt_s (lt_s (lt_s (lt_s (lt_s (lt_s (lt_s (lt_s (lt_s (lt_s (lt_s (lt_s (lt_s (lt_s (lt_s (lt_s (lt_s (lt_s (lt_s (lt_s (lt_s (lt_s (lt_s (lt_s (lt_s (lt_s (lt_s (lt_s (lt_s (lt_s (lt_s (lt_s (lt_s (lt_s (lt_s (lt_s (lt_s (lt_s (lt_s (lt_s (lt_s (lt_s (lt_s (lt_s (lt_s (lt_s (lt_s (lt_s (lt_s (lt_s (lt_s (lt_s (lt_s (lt_s (lt_s (lt_s (lt_s (lt_s (lt_s (lt_s (lt_s (lt_s (lt_s (lt_s (lt_s (lt_s (lt_s (lt_s (lt_s (lt_s (lt_s (lt_s (lt_s (lt_s (lt_s (lt_s (lt_s (lt_s (lt_s (lt_s (lt_s (lt_s (lt_s (lt_s (lt_s (lt_s (lt_s (lt_s (lt_s (lt_s (lt_s (lt_s (lt_s (lt_s (lt_s (lt_s (lt_s (lt_s (lt_s (lt_s (lt_s (lt_s (lt_s (lt_s (lt_s (lt_s (lt_s (lt_s (lt_s (lt_s (lt_s (lt_s (lt_s (lt_s (lt_s (lt_s (lt_s (lt_s (lt_s (lt_s (lt_s (lt_s (lt_s (lt_s (lt_s (lt_s (lt_s (lt_s (lt_0) (Or.inl rfl)) (Or.inr am_y1)) (Or.inr am_y2)) (Or.inr am_y3)) (Or.inr am_y4)) (Or.inr am_y5)) (Or.inr am_y6)) (Or.inr am_y7)) (Or.inr am_y8)) (Or.inr am_y9)) (Or.inr am_y10)) (Or.inr am_y11)) (Or.inr am_y12)) (Or.inr am_y13)) (Or.inr am_y14)) (Or.inr am_y15)) (Or.inr am_y16)) (Or.inr am_y17)) (Or.inr am_y18)) (Or.inr am_y19)) (Or.inr am_y20)) (Or.inr am_y21)) (Or.inr am_y22)) (Or.inr am_y23)) (Or.inr am_y24)) (Or.inr am_y25)) (Or.inr am_y26)) (Or.inr am_y27)) (Or.inr am_y28)) (Or.inr am_y29)) (Or.inr am_y30)) (Or.inr am_y31)) (Or.inr am_y32)) (Or.inr am_y33)) (Or.inr am_y34)) (Or.inr am_y35)) (Or.inr am_y36)) (Or.inr am_y37)) (Or.inr am_y38)) (Or.inr am_y39)) (Or.inr am_y40)) (Or.inr am_y41)) (Or.inr am_y42)) (Or.inr am_y43)) (Or.inr am_y44)) (Or.inr am_y45)) (Or.inr am_y46)) (Or.inr am_y47)) (Or.inr am_y48)) (Or.inr am_y49)) (Or.inr am_y50)) (Or.inr am_y51)) (Or.inr am_y52)) (Or.inr am_y53)) (Or.inr am_y54)) (Or.inr am_y55)) (Or.inr am_y56)) (Or.inr am_y57)) (Or.inr am_y58)) (Or.inr am_y59)) (Or.inr am_y60)) (Or.inr am_y61)) (Or.inr am_y62)) (Or.inr am_y63)) (Or.inr am_y64)) (Or.inr am_y65)) (Or.inr am_y66)) (Or.inr am_y67)) (Or.inr am_y68)) (Or.inr am_y69)) (Or.inr am_y70)) (Or.inr am_y71)) (Or.inr am_y72)) (Or.inr am_y73)) (Or.inr am_y74)) (Or.inr am_y75)) (Or.inr am_y76)) (Or.inr am_y77)) (Or.inr am_y78)) (Or.inr am_y79)) (Or.inr am_y80)) (Or.inr am_y81)) (Or.inr am_y82)) (Or.inr am_y83)) (Or.inr am_y84)) (Or.inr am_y85)) (Or.inr am_y86)) (Or.inr am_y87)) (Or.inr am_y88)) (Or.inr am_y89)) (Or.inr am_y90)) (Or.inr am_y91)) (Or.inr am_y92)) (Or.inr am_y93)) (Or.inr am_y94)) (Or.inr am_y95)) (Or.inr am_y96)) (Or.inr am_y97)) (Or.inr am_y98)) (Or.inr am_y99)) (Or.inr am_y100)) (Or.inr am_y101)) (Or.inr am_y102)) (Or.inr am_y103)) (Or.inr am_y104)) (Or.inr am_y105)) (Or.inr am_y106)) (Or.inr am_y107)) (Or.inr am_y108)) (Or.inr am_y109)) (Or.inr am_y110)) (Or.inr am_y111)) (Or.inr am_y112)) (Or.inr am_y113)) (Or.inr am_y114)) (Or.inr am_y115)) (Or.inr am_y116)) (Or.inr am_y117)) (Or.inr am_y118)) (Or.inr am_y119)) (Or.inr am_y120)) (Or.inr am_y121)) (Or.inr am_y122)) (Or.inr am_y123)) (Or.inr am_y124)) (Or.inr am_y125)) (Or.inr am_y126)) (Or.inr am_y127)) (Or.inr am_y128)) (Or.inr am_y129)) (Or.inr am_y130)) (Or.inr am_y131)) (Or.inr am_y132)) (Or.inr am_y133)) (Or.inr am_y134)) (Or.inr am_y135)) (Or.inr am_y136)) (Or.inr am_y137)) (Or.inr am_y138)) (Or.inr am_y139)) (Or.inr am_y140)) (Or.inr am_y141)) (Or.inr am_y142)) (Or.inr am_y143)) (Or.inr am_y144)) (Or.inr am_y145)) (Or.inr am_y146)) (Or.inr am_y147)) (Or.inr am_y148)) (Or.inr am_y149)) (Or.inr am_y150)) (Or.inr am_y151)) (Or.inr am_y152)) (Or.inr am_y153)) (Or.inr am_y154)) (Or.inr am_y155)) (Or.inr am_y156)) (Or.inr am_y157)) (Or.inr am_y158)) (Or.inr am_y159)) (Or.inr am_y160)) (Or.inr am_y161)) (Or.inr am_y162)) (Or.inr am_y163)) (Or.inr am_y164)) (Or.inr am_y165)) (Or.inr am_y166)) (Or.inr am_y167)) (Or.inr am_y168)) (Or.inr am_y169)) (Or.inr am_y170)) (Or.inr am_y171)) (Or.inr am_y172)) (Or.inr am_y173)) (Or.inr am_y174)) (Or.inr am_y175)) (Or.inr am_y176)
