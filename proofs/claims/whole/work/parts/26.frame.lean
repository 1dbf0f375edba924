/-! ===== what stays where nothing is written ===== -/
theorem cV_of {v : VT} {I I' : Nat → Nat → Int32} (h : cV v I) (e : ∀ k, 10 ≤ k → k ≤ 15 → I' k = I k) : cV v I' := by
  unfold cV
  rw [e 10 (by omega) (by omega), e 11 (by omega) (by omega), e 13 (by omega) (by omega), e 14 (by omega) (by omega), e 15 (by omega) (by omega)]
  exact h
theorem cL_of {g : LT} {I I' : Nat → Nat → Int32} (h : cL g I) (e : ∀ k, 16 ≤ k → k ≤ 20 → I' k = I k) : cL g I' := by
  unfold cL
  rw [e 16 (by omega) (by omega), e 17 (by omega) (by omega), e 18 (by omega) (by omega), e 19 (by omega) (by omega), e 20 (by omega) (by omega)]
  exact h
theorem cQ_of {n c : Nat} {q : QT} {I I' : Nat → Nat → Int32} (h : cQ n c q I) (e : ∀ k, c ≤ k → k ≤ c + 8 → I' k = I k) : cQ n c q I' := by
  unfold cQ
  rw [e c (by omega) (by omega), e (c + 1) (by omega) (by omega), e (c + 2) (by omega) (by omega), e (c + 3) (by omega) (by omega), e (c + 4) (by omega) (by omega), e (c + 5) (by omega) (by omega), e (c + 6) (by omega) (by omega), e (c + 7) (by omega) (by omega), e (c + 8) (by omega) (by omega)]
  exact h
theorem cX_of {x : XT} {I I' : Nat → Nat → Int32} (h : cX x I) (e0 : I' 2 0 = I 2 0) (e1 : I' 9 = I 9) : cX x I' := by
  unfold cX
  rw [e0, e1]
  exact h
theorem cI_of {n c : Nat} {o : Option QT} {I I' : Nat → Nat → Int32} (h : cI n c o I) (e : ∀ k, c ≤ k → k ≤ c + 8 → I' k = I k) : cI n c o I' := by
  cases o with
  | none =>
    show I' c 0 = 0
    rw [e c (by omega) (by omega)]
    exact h
  | some q =>
    refine ⟨?_, cQ_of h.2 e⟩
    rw [e c (by omega) (by omega)]
    exact h.1
theorem mV_of {v : VT} {I I' : Nat → Nat → Int32} (h : mV v I) (e0 : I' 54 0 = I 54 0) (e2 : I' 54 2 = I 54 2) (e5 : I' 55 = I 55) (e6 : I' 56 = I 56) : mV v I' := by
  unfold mV
  rw [e0, e2, e5, e6]
  exact h
theorem mL_of {g : LT} {I I' : Nat → Nat → Int32} (h : mL g I) (e0 : I' 54 4 = I 54 4) (e7 : I' 57 = I 57) : mL g I' := by
  unfold mL
  rw [e0, e7]
  exact h
theorem mX_of {x : XT} {I I' : Nat → Nat → Int32} (h : mX x I) (e0 : I' 54 11 = I 54 11) (e1 : I' 61 = I 61) : mX x I' := by
  unfold mX
  rw [e0, e1]
  exact h
theorem mI_of {n a : Nat} {o : Option QT} {I I' : Nat → Nat → Int32} (h : mI n a o I) (e0 : I' 60 = I 60) (e1 : I' 59 = I 59) : mI n a o I' := by
  cases o with
  | none =>
    show I' 60 a = 0
    rw [e0]
    exact h
  | some q =>
    unfold mI
    rw [e0, e1]
    exact h
/-- an op of both: the same answer, and both hold the same again -/
def Op (L cm mm : Nat) (cl ml : List Value) : Prop := ∀ (a : AT) (I : Nat → Nat → Int32) (J : Nat → Nat → Int64), Rl a I J → ∃ (r : Option Value) (I1 : Nat → Nat → Int32) (J1 : Nat → Nat → Int64) (I2 : Nat → Nat → Int32) (J2 : Nat → Nat → Int64) (a2 : AT), am_sem cm 0 cl [] (am_T L, I, J) = some (r, (am_T L, I1, J1)) ∧ am_sem mm 0 ml [] (am_T L, I1, J1) = some (r, (am_T L, I2, J2)) ∧ Rl a2 I2 J2
/-- questions that write nothing -/
theorem Op.ro {L cm mm : Nat} {cl ml : List Value} (h : ∀ (a : AT) (I : Nat → Nat → Int32) (J : Nat → Nat → Int64), Rl a I J → ∃ r : Option Value, am_sem cm 0 cl [] (am_T L, I, J) = some (r, (am_T L, I, J)) ∧ am_sem mm 0 ml [] (am_T L, I, J) = some (r, (am_T L, I, J))) : Op L cm mm cl ml := by
  intro a I J hR
  obtain ⟨r, h1, h2⟩ := h a I J hR
  exact ⟨r, I, J, I, J, a, h1, h2, hR⟩
section OPS
variable (L : Nat)
theorem op_who (x : Int32) : Op L 60 139 [.ref 1, .int x] [.ref 54, .int x] := Op.ro fun a I J hR => by
  obtain ⟨⟨wv, wl, wq, wx, wi, wj⟩, ⟨cv, cl, cq, cx, ci, cj⟩, ⟨mv, ml, mq, mx, mi, mj⟩, ht⟩ := hR
  have h8 := wl.1
  simp only [q60_0, q60_4, q60_7, q60_5, q60_11, q60_17, q60_12, q60_18, q60_16, q139_0, q139_7, q139_12, q139_8, q139_13, q139_11, sem24 L I J (show lN_ a.2.1 < 2 ^ 31 by omega) cl.1, ml.1, sem111, inr_m1 x (show lN_ a.2.1 < 2 ^ 31 by omega), ob_s, tl_s, bz_0]
  cases hx : inr x (lN_ a.2.1)
  · exact ⟨_, rfl, rfl⟩
  · obtain ⟨i, hi, rfl⟩ := inr_t hx (by omega)
    have e0 : (fun p => mB a.1 a.2.1 a.2.2.1 p i && decide (0 ≤ tM a.1 a.2.1 a.2.2.1 p i)) = fun p => mB a.1 a.2.1 a.2.2.1 p i := by funext p; simp
    have e95 := sem95 L I J wv wl wq cv cl cq hi (show 0 < 1000 by omega) .null .null .null
    rw [e0] at e95
    simp only [q60_0, q60_4, q60_7, q60_5, q60_11, q60_17, q60_12, q60_18, q60_16, q139_0, q139_7, q139_12, q139_8, q139_13, q139_11, sem26 L I J wl cl hi, sem138 L I J wv wl wq mv ml mq hi, show (0 : Int32) = nI 0 from rfl, e95, ob_s, tl_s, bz_0, Bool.true_eq_false, if_false]
    rw [show nI 0 = (0 : Int32) from rfl]
    by_cases c : lH a.2.1 i = 1
    · rw [if_neg (by simp [c, bz]), if_pos c]
      exact ⟨_, rfl, rfl⟩
    · rw [if_pos (by simp [c, bz]), if_neg c]
      exact ⟨_, rfl, rfl⟩
theorem op_far (x y : Int32) : Op L 56 129 [.ref 1, .int x, .int y] [.ref 54, .int x, .int y] := Op.ro fun a I J hR => by
  obtain ⟨⟨wv, wl, wq, wx, wi, wj⟩, ⟨cv, cl, cq, cx, ci, cj⟩, ⟨mv, ml, mq, mx, mi, mj⟩, ht⟩ := hR
  have h6 := wv.2.1
  simp only [q56_0, q56_4, q56_10, q56_5, q56_9, q56_12, q56_17, q129_0, q129_3, q129_13, q129_4, q129_14, q129_7, q129_8, q129_12, sem44 L I J (show vP a.1 < 2 ^ 31 by omega) cv.1, sem113 L I J (show vP a.1 < 2 ^ 31 by omega) mv.1, ob_s, tl_s, bz_0]
  cases hx : inr x (vP a.1)
  · exact ⟨_, rfl, rfl⟩
  · cases hy : inr y (vP a.1)
    · exact ⟨_, rfl, rfl⟩
    · obtain ⟨i, hi, rfl⟩ := inr_t hx (by omega)
      obtain ⟨j, hj, rfl⟩ := inr_t hy (by omega)
      simp only [q56_0, q56_4, q56_10, q56_5, q56_9, q56_12, q56_17, q129_0, q129_3, q129_13, q129_4, q129_14, q129_7, q129_8, q129_12, sem46 L I J cv (show i < 6 by omega) (show j < 6 by omega), sem128 L I J mv (show i < 6 by omega) (show j < 6 by omega), ob_s, tl_s, Bool.true_eq_false, if_false]
      exact ⟨_, rfl, rfl⟩
theorem op_trace : Op L 80 175 [.ref 1] [.ref 54] := Op.ro fun a I J hR => ⟨_, q80_0 L I J, by rw [q175_0, hR.2.2.2]⟩
theorem op_count (x : Int32) : Op L 79 174 [.ref 1, .int x] [.ref 54, .int x] := Op.ro fun a I J hR => by
  obtain ⟨⟨wv, wl, wq, wx, wi, wj⟩, ⟨cv, cl, cq, cx, ci, cj⟩, ⟨mv, ml, mq, mx, mi, mj⟩, ht⟩ := hR
  simp only [q79_0, q79_2, q79_6, q79_10, q79_14, q79_18, q79_22, q79_26, q79_30, q174_0, q174_2, q174_5, q174_8, q174_11, q174_16, q174_21, q174_26, q174_29, cv.1, cv.2.1, cl.1, cq.1, cq.2.1, cq.2.2.1, cx.1, mv.1, mv.2.1, ml.1, mq.1, mq.2.1, mq.2.2.1, mx.1]
  by_cases h0 : x = 0
  · subst h0
    exact ⟨_, rfl, rfl⟩
  simp only [if_neg h0]
  by_cases h1 : x = 1
  · subst h1
    exact ⟨_, rfl, rfl⟩
  simp only [if_neg h1]
  by_cases h2 : x = 2
  · subst h2
    exact ⟨_, rfl, rfl⟩
  simp only [if_neg h2]
  by_cases h3 : x = 3
  · subst h3
    exact ⟨_, rfl, rfl⟩
  simp only [if_neg h3]
  by_cases h4 : x = 4
  · subst h4
    exact ⟨_, rfl, rfl⟩
  simp only [if_neg h4]
  by_cases h5 : x = 5
  · subst h5
    exact ⟨_, rfl, rfl⟩
  simp only [if_neg h5]
  by_cases h6 : x = 6
  · subst h6
    exact ⟨_, rfl, rfl⟩
  simp only [if_neg h6]
  exact ⟨_, rfl, rfl⟩
end OPS
