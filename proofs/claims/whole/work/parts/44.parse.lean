/-! ===== items: what a text tells, and the class ===== -/
abbrev DT : Type := VT × (Nat → Nat)
abbrev RT : Type := Nat × Option DT
def wD (d : DT) : Prop := wV d.1 ∧ ∀ p, d.2 p < vP d.1
def cD (d : DT) (I : Nat → Nat → Int32) : Prop := I 3 0 = nI (vP d.1) ∧ I 3 1 = nI (vN d.1) ∧ (∀ k, k < 36 → I 4 k = nI (vF d.1 k)) ∧ (∀ p, p < vN d.1 → I 5 p = nI (d.2 p)) ∧ (∀ p, p < vN d.1 → I 6 p = nI (vC d.1 p)) ∧ (∀ p, p < vN d.1 → I 7 p = nI (vA d.1 p)) ∧ ∀ p, p < vN d.1 → I 8 p = nI (vB d.1 p)
def nmB (x : XT) (p lo hi : Nat) : Bool := decide (lxK x p = 2) && (decide (lo ≤ lxV x p) && decide (lxV x p ≤ hi))
def pN (x : XT) (p : Nat) (d : DT) : RT := if nmB x p 2 6 = true then (if lxK x (lxE x p) = 3 then (lxE x (lxE x p), some ((lxV x p, d.1.2), d.2)) else (lxS x (lxE x p), none)) else (lxS x p, none)
def dF (d : DT) (a b v : Nat) : DT := ((vP d.1, vN d.1, (fun k => if k = 6 * b + a then v else if k = 6 * a + b then v else vF d.1 k), vC d.1, vA d.1, vB d.1), d.2)
def pF2 (x : XT) (p1 p2 p3 p4 : Nat) (d : DT) : RT := if nmB x p1 0 (vP d.1 - 1) = true then (if nmB x p2 0 (vP d.1 - 1) = true then (if nmB x p3 0 9 = true then (if lxK x p4 = 3 then (lxE x p4, some (dF d (lxV x p1) (lxV x p2) (lxV x p3))) else (lxS x p4, none)) else (lxS x p3, none)) else (lxS x p2, none)) else (lxS x p1, none)
def pF (x : XT) (p : Nat) (d : DT) : RT := pF2 x p (lxE x p) (lxE x (lxE x p)) (lxE x (lxE x (lxE x p))) d
def dP (d : DT) (h c a b : Nat) : DT := ((vP d.1, vN d.1 + 1, vF d.1, (fun i => if i = vN d.1 then c else vC d.1 i), (fun i => if i = vN d.1 then a else vA d.1 i), (fun i => if i = vN d.1 then b else vB d.1 i)), fun i => if i = vN d.1 then h else d.2 i)
def pS (x : XT) : Nat → Nat → Nat → Nat × Option Nat
  | 0, p, _ => (p, none)
  | k + 1, p, m => if lxK x p = 3 then (lxE x p, some m) else if (decide (lxK x p = 2) && (decide (lxV x p < 8) && !m.testBit (lxV x p))) = true then pS x k (lxE x p) (m ||| 2 ^ lxV x p) else (lxS x p, none)
def pP2 (x : XT) (p1 p2 p3 p4 : Nat) (d : DT) : RT := if nmB x p1 0 (vP d.1 - 1) = true then (if nmB x p2 0 40 = true then (if nmB x p3 (lxV x p2) 40 = true then (if lxK x p4 = 3 then (lxS x p4, none) else ((pS x 9 p4 0).1, (pS x 9 p4 0).2.map fun m => dP d (lxV x p1) m (lxV x p2) (lxV x p3))) else (lxS x p3, none)) else (lxS x p2, none)) else (lxS x p1, none)
def pP (x : XT) (p : Nat) (d : DT) : RT := pP2 x p (lxE x p) (lxE x (lxE x p)) (lxE x (lxE x (lxE x p))) d
def pI (x : XT) (b : Bool) (p : Nat) (d : DT) : RT := if lxK x p = 1 ∧ lxE x p = lxS x p + 1 then (if x.2 (lxS x p) = 110 then (if b = true then pN x (lxE x p) d else (lxS x p, none)) else if x.2 (lxS x p) = 102 then pF x (lxE x p) d else if x.2 (lxS x p) = 112 then (if vN d.1 < 6 then pP x (lxE x p) d else (lxS x p, none)) else (lxS x p, none)) else (lxS x p, none)
/-- what comes of an item, in the class -/
def cR (r : RT) (I : Nat → Nat → Int32) : Prop := match r.2 with
  | some d => I 2 4 = nI r.1 ∧ cD d I
  | none => I 2 3 = nI r.1
def Fc (I I' : Nat → Nat → Int32) : Prop := (∀ c, (c < 2 ∨ 8 < c) → I' c = I c) ∧ ∀ j, (j < 3 ∨ 6 < j) → I' 2 j = I 2 j
def Fr (I I' : Nat → Nat → Int32) : Prop := (∀ c, c ≠ 2 → I' c = I c) ∧ ∀ j, (j < 3 ∨ 6 < j) → I' 2 j = I 2 j
theorem Fr.c {I I' : Nat → Nat → Int32} (h : Fr I I') : Fc I I' := ⟨fun c hc => h.1 c (by omega), h.2⟩
theorem Fc.t {I I1 I2 : Nat → Nat → Int32} (h : Fc I I1) (g : Fc I1 I2) : Fc I I2 := ⟨fun c hc => (g.1 c hc).trans (h.1 c hc), fun j hj => (g.2 j hj).trans (h.2 j hj)⟩
theorem Fr.t {I I1 I2 : Nat → Nat → Int32} (h : Fr I I1) (g : Fr I1 I2) : Fr I I2 := ⟨fun c hc => (g.1 c hc).trans (h.1 c hc), fun j hj => (g.2 j hj).trans (h.2 j hj)⟩
theorem Fc.x {I I' : Nat → Nat → Int32} (h : Fc I I') {x : XT} (hx : cX x I) : cX x I' := cX_of hx (h.2 0 (by omega)) (h.1 9 (by omega))
theorem Fr.d {I I' : Nat → Nat → Int32} (h : Fr I I') {d : DT} (hd : cD d I) : cD d I' := by
  unfold cD
  rw [h.1 3 (by omega), h.1 4 (by omega), h.1 5 (by omega), h.1 6 (by omega), h.1 7 (by omega), h.1 8 (by omega)]
  exact hd
theorem lxE_n {x : XT} {p : Nat} (h : p ≤ x.1) : lxE x p ≤ x.1 := (lxE_le h).2.1
theorem nmB_2 {x : XT} {p lo hi : Nat} (h : nmB x p lo hi = true) : lxK x p = 2 ∧ lo ≤ lxV x p ∧ lxV x p ≤ hi := by
  unfold nmB at h
  simpa using h
def c8 (m : Nat) : Nat := sureL (fun i => m.testBit i) 8 0 0
theorem c8_le (m : Nat) : c8 m ≤ 8 := by
  have := sureL_le (fun i => m.testBit i) 8 0 0
  unfold c8
  omega
theorem c8_s : ∀ m, m < 256 → ∀ v, v < 8 → m.testBit v = false → c8 (m ||| 2 ^ v) = c8 m + 1 ∧ (m ||| 2 ^ v) < 256 ∧ (m ||| 2 ^ v) ≠ 0 := by decide +kernel
theorem pS_le (x : XT) : ∀ k p m, p ≤ x.1 → m < 256 → ∀ m', (pS x k p m).2 = some m' → p < (pS x k p m).1 ∧ (pS x k p m).1 ≤ x.1 ∧ m' < 256 ∧ (m ≠ 0 → m' ≠ 0)
  | 0, p, m, hp, hm, m', h => by cases h
  | k + 1, p, m, hp, hm, m', h => by
    have hE := lxE_le hp
    have hS := lxS_le hp
    rw [pS] at h ⊢
    by_cases c : lxK x p = 3
    · rw [if_pos c] at h ⊢
      have hc : lxS x p < x.1 := by
        apply Classical.byContradiction
        intro q
        rw [lxK_0.mpr q] at c
        cases c
      have := hE.2.2 hc
      injection h with h
      subst h
      exact ⟨by show p < lxE x p; omega, hE.2.1, hm, fun z => z⟩
    · rw [if_neg c] at h ⊢
      by_cases c2 : (decide (lxK x p = 2) && (decide (lxV x p < 8) && !m.testBit (lxV x p))) = true
      · rw [if_pos c2] at h ⊢
        have c3 := c2
        simp only [Bool.and_eq_true, decide_eq_true_eq, Bool.not_eq_true'] at c3
        have hs := c8_s m hm _ c3.2.1 c3.2.2
        have ih := pS_le x k (lxE x p) (m ||| 2 ^ lxV x p) hE.2.1 hs.2.1 m' h
        exact ⟨by omega, ih.2.1, ih.2.2.1, fun _ => ih.2.2.2 hs.2.2⟩
      · rw [if_neg c2] at h
        cases h
section OPS
variable (L : Nat) (I : Nat → Nat → Int32) (J : Nat → Nat → Int64)
theorem sem36 {x : XT} (wx : wX x) (hx : cX x I) {p : Nat} (hp : p ≤ x.1) (h4 : I 2 4 = nI p) {lo hi : Nat} (hlo : lo < 2 ^ 30) (hhi : hi < 2 ^ 30) : ∃ I', am_sem 36 0 [.ref 2, .int (nI lo), .int (nI hi)] [] (am_T L, I, J) = some (some (.int (bz (nmB x p lo hi))), (am_T L, I', J)) ∧ Fr I I' ∧ I' 2 3 = nI (lxS x p) ∧ I' 2 4 = nI (lxE x p) ∧ (nmB x p lo hi = true → I' 2 6 = nI (lxV x p)) := by
  obtain ⟨I', e, f1, f2, f3, f4, f5, f6⟩ := sem38 L I J wx hx hp h4
  have hk := lxK_le x p
  have hv := lxV_le x p wx
  refine ⟨I', ?_, ⟨f1, f2⟩, f3, f4, fun h => f6 (nmB_2 h).1⟩
  rw [q36_0, e]
  simp only [ob_s, tl_n, q36_2, f5, n_eqc (x := 2) (c := 2) rfl (show lxK x p < 2 ^ 31 by omega) (by decide)]
  unfold nmB
  by_cases c : lxK x p = 2
  · rw [if_pos c, decide_eq_true c, q36_6, f6 c]
    simp only [n_lt (show lxV x p < 2 ^ 31 by omega) (show lo < 2 ^ 31 by omega)]
    by_cases c2 : lxV x p < lo
    · rw [if_pos c2, q36_16, q36_17, am_if_t (Or.inl rfl), decide_eq_false (show ¬ lo ≤ lxV x p by omega)]
      rfl
    · rw [if_neg c2, q36_10, f6 c]
      simp only [n_lt (show hi < 2 ^ 31 by omega) (show lxV x p < 2 ^ 31 by omega)]
      rw [decide_eq_true (show lo ≤ lxV x p by omega)]
      by_cases c3 : hi < lxV x p
      · rw [if_pos c3, q36_16, q36_17, am_if_t (Or.inl rfl), decide_eq_false (show ¬ lxV x p ≤ hi by omega)]
        rfl
      · rw [if_neg c3, q36_14, q36_17, am_if_t (Or.inr rfl), decide_eq_true (show lxV x p ≤ hi by omega)]
        rfl
  · rw [if_neg c, decide_eq_false c, q36_16, q36_17, am_if_t (Or.inl rfl)]
    rfl
theorem sem37 {x : XT} (wx : wX x) (hx : cX x I) {p : Nat} (hp : p ≤ x.1) (h4 : I 2 4 = nI p) : ∃ I', am_sem 37 0 [.ref 2] [] (am_T L, I, J) = some (some (.int (bz (decide (lxK x p = 3)))), (am_T L, I', J)) ∧ Fr I I' ∧ I' 2 3 = nI (lxS x p) ∧ I' 2 4 = nI (lxE x p) := by
  obtain ⟨I', e, f1, f2, f3, f4, f5, f6⟩ := sem38 L I J wx hx hp h4
  have hk := lxK_le x p
  refine ⟨I', ?_, ⟨f1, f2⟩, f3, f4⟩
  rw [q37_0, e]
  simp only [ob_s, tl_n, q37_2, f5, n_eqc (x := 3) (c := 3) rfl (show lxK x p < 2 ^ 31 by omega) (by decide)]
  by_cases c : lxK x p = 3
  · rw [if_pos c, decide_eq_true c, q37_6, q37_9, am_if_t (Or.inr rfl)]
    rfl
  · rw [if_neg c, decide_eq_false c, q37_8, q37_9, am_if_t (Or.inl rfl)]
    rfl
theorem sem32 {x : XT} (wx : wX x) (hx : cX x I) {p : Nat} (hp : p ≤ x.1) (h4 : I 2 4 = nI p) {d : DT} (hd : cD d I) : ∃ I', am_sem 32 0 [.ref 2] [] (am_T L, I, J) = some (some (.int (bz (pN x p d).2.isSome)), (am_T L, I', J)) ∧ Fc I I' ∧ cR (pN x p d) I' := by
  obtain ⟨I1, e1, f1, s1, t1, v1⟩ := sem36 L I J wx hx hp h4 (lo := 2) (hi := 6) (by decide) (by decide)
  have e1 : am_sem 36 0 [.ref 2, .int 2, .int 6] [] (am_T L, I, J) = some (some (.int (bz (nmB x p 2 6))), (am_T L, I1, J)) := e1
  rw [q32_0, e1]
  simp only [ob_s, tl_s, q32_4, bz_0]
  unfold pN
  cases h1 : nmB x p 2 6
  · refine ⟨I1, ?_, f1.c, s1⟩
    rw [if_pos rfl, q32_5]
    rfl
  · rw [if_neg (by decide), q32_7, v1 h1, if_pos rfl]
    have g : Fc I (am_u I1 3 0 (nI (lxV x p))) := f1.c.t ⟨fun c hc => am_u_n _ _ _ (by omega), fun j hj => am_u_k (by decide)⟩
    obtain ⟨I2, e2, f2, s2, t2⟩ := sem37 L (am_u I1 3 0 (nI (lxV x p))) J wx (g.x hx) (lxE_n hp) ((am_u_k (by decide)).trans t1)
    rw [e2]
    simp only [ob_s, tl_s, q32_14]
    rw [am_if_t (bz_01 _)]
    by_cases c : lxK x (lxE x p) = 3
    · rw [if_pos c, decide_eq_true c]
      refine ⟨I2, rfl, g.t f2.c, t2, f2.d ?_⟩
      have y : ∀ c, c ≠ 3 → am_u I1 3 0 (nI (lxV x p)) c = I1 c := fun c hc => am_u_n _ _ _ hc
      have hd1 := f1.d hd
      refine ⟨am_u_x, (am_u_j (by decide)).trans hd1.2.1, ?_, ?_, ?_, ?_, ?_⟩
      · rw [y _ (by decide)]
        exact hd1.2.2.1
      · rw [y _ (by decide)]
        exact hd1.2.2.2.1
      · rw [y _ (by decide)]
        exact hd1.2.2.2.2.1
      · rw [y _ (by decide)]
        exact hd1.2.2.2.2.2.1
      · rw [y _ (by decide)]
        exact hd1.2.2.2.2.2.2
    · rw [if_neg c, decide_eq_false c]
      exact ⟨I2, rfl, g.t f2.c, s2⟩
theorem sem33 {x : XT} (wx : wX x) (hx : cX x I) {p : Nat} (hp : p ≤ x.1) (h4 : I 2 4 = nI p) {d : DT} (w : wD d) (hd : cD d I) (d1 d2 : Value) : ∃ I', am_sem 33 0 [.ref 2, d1, d2] [] (am_T L, I, J) = some (some (.int (bz (pF x p d).2.isSome)), (am_T L, I', J)) ∧ Fc I I' ∧ cR (pF x p d) I' := by
  have hP2 := w.1.1
  have hP6 := w.1.2.1
  obtain ⟨I1, e1, f1, s1, t1, v1⟩ := sem36 L I J wx hx hp h4 (lo := 0) (hi := vP d.1 - 1) (by decide) (by omega)
  have eP : I 3 0 - 1 = nI (vP d.1 - 1) := by rw [hd.1, show (1 : Int32) = nI 1 from rfl, pk_sub (by omega)]
  rw [q33_0, eP]
  rw [show nI 0 = (0 : Int32) from rfl] at e1
  rw [e1]
  simp only [ob_s, tl_s, q33_8, bz_0]
  unfold pF pF2
  cases h1 : nmB x p 0 (vP d.1 - 1)
  · refine ⟨I1, ?_, f1.c, s1⟩
    rw [if_pos rfl, q33_9]
    rfl
  have hd1 := f1.d hd
  obtain ⟨I2, e2, f2, s2, t2, v2⟩ := sem36 L I1 J wx (f1.c.x hx) (lxE_n hp) t1 (lo := 0) (hi := vP d.1 - 1) (by decide) (by omega)
  have eP1 : I1 3 0 - 1 = nI (vP d.1 - 1) := by rw [hd1.1, show (1 : Int32) = nI 1 from rfl, pk_sub (by omega)]
  rw [show nI 0 = (0 : Int32) from rfl] at e2
  rw [if_neg (by decide), if_pos rfl, q33_11, eP1, e2, v1 h1]
  simp only [ob_s, tl_s, q33_22, bz_0]
  cases h2 : nmB x (lxE x p) 0 (vP d.1 - 1)
  · refine ⟨I2, ?_, (f1.t f2).c, s2⟩
    rw [if_pos rfl, q33_23]
    rfl
  obtain ⟨I3, e3, f3, s3, t3, v3⟩ := sem36 L I2 J wx ((f1.t f2).c.x hx) (lxE_n (lxE_n hp)) t2 (lo := 0) (hi := 9) (by decide) (by decide)
  have e3 : am_sem 36 0 [.ref 2, .int 0, .int 9] [] (am_T L, I2, J) = _ := e3
  rw [if_neg (by decide), if_pos rfl, q33_25, e3, v2 h2]
  simp only [ob_s, tl_s, q33_32, bz_0]
  cases h3 : nmB x (lxE x (lxE x p)) 0 9
  · refine ⟨I3, ?_, ((f1.t f2).t f3).c, s3⟩
    rw [if_pos rfl, q33_33]
    rfl
  have f123 := (f1.t f2).t f3
  obtain ⟨a, ha⟩ : ∃ a, a = lxV x p := ⟨_, rfl⟩
  obtain ⟨b, hb⟩ : ∃ b, b = lxV x (lxE x p) := ⟨_, rfl⟩
  obtain ⟨v, hv⟩ : ∃ v, v = lxV x (lxE x (lxE x p)) := ⟨_, rfl⟩
  have ka := (nmB_2 h1).2.2
  have kb := (nmB_2 h2).2.2
  rw [← ha] at ka
  rw [← hb] at kb
  have s47 : am_sem 47 0 [.ref 3, .int (nI a), .int (nI b), .int (nI v)] [] (am_T L, I3, J) = some (none, (am_T L, am_u (am_u I3 4 (6 * a + b) (nI v)) 4 (6 * b + a) (nI v), J)) := by
    have e6 : ∀ k, k < 6 → ((6 : Int32) ≤ nI k) = False := fun k hk => eq_false (by rw [show (6 : Int32) = nI 6 from rfl, n_le (by decide) (by omega)]; omega)
    have m1 : nI a * 6 + nI b = nI (6 * a + b) := by rw [show (6 : Int32) = nI 6 from rfl, pk_mul, nI_add, Nat.mul_comm]
    have m2 : nI b * 6 + nI a = nI (6 * b + a) := by rw [show (6 : Int32) = nI 6 from rfl, pk_mul, nI_add, Nat.mul_comm]
    simp only [q47_0, q47_28, q47_2, q47_5, q47_7, q47_10, n_neg (show a < 2 ^ 31 by omega), n_neg (show b < 2 ^ 31 by omega), e6 a (by omega), e6 b (by omega), if_false, m1, m2, nc (show 6 * a + b < 2 ^ 31 by omega), nc (show 6 * b + a < 2 ^ 31 by omega), am_if_t (And.intro (n_in (show 6 * a + b < 36 by omega) (by decide)) (n_in (show 6 * b + a < 36 by omega) (by decide)))]
  have g : Fc I (am_u (am_u I3 4 (6 * a + b) (nI v)) 4 (6 * b + a) (nI v)) := f123.c.t ⟨fun c hc => by rw [am_u_n _ _ _ (by omega), am_u_n _ _ _ (by omega)], fun j hj => by rw [am_u_k (by decide), am_u_k (by decide)]⟩
  obtain ⟨I4, e4, f4, s4, t4⟩ := sem37 L (am_u (am_u I3 4 (6 * a + b) (nI v)) 4 (6 * b + a) (nI v)) J wx (g.x hx) (lxE_n (lxE_n (lxE_n hp))) (by rw [am_u_k (by decide), am_u_k (by decide)]; exact t3)
  rw [if_neg (by decide), if_pos rfl, q33_35, v3 h3, ← ha, ← hb, ← hv, s47]
  simp only [ob_s, tl_n, q33_42, e4, tl_s, q33_44]
  rw [am_if_t (bz_01 _)]
  by_cases c : lxK x (lxE x (lxE x (lxE x p))) = 3
  · rw [if_pos c, decide_eq_true c]
    refine ⟨I4, rfl, g.t f4.c, t4, f4.d ?_⟩
    have y : ∀ c, c ≠ 4 → am_u (am_u I3 4 (6 * a + b) (nI v)) 4 (6 * b + a) (nI v) c = I3 c := fun c hc => by rw [am_u_n _ _ _ hc, am_u_n _ _ _ hc]
    have hd3 := f123.d hd
    refine ⟨by rw [y _ (by decide)]; exact hd3.1, by rw [y _ (by decide)]; exact hd3.2.1, fun k hk => ?_, ?_, ?_, ?_, ?_⟩
    · show am_u (am_u I3 4 (6 * a + b) (nI v)) 4 (6 * b + a) (nI v) 4 k = nI (if k = 6 * b + a then v else if k = 6 * a + b then v else vF d.1 k)
      by_cases c1 : k = 6 * b + a
      · rw [c1, am_u_x, if_pos rfl]
      · rw [am_u_j c1, if_neg c1]
        by_cases c2 : k = 6 * a + b
        · rw [c2, am_u_x, if_pos rfl]
        · rw [am_u_j c2, if_neg c2]
          exact hd3.2.2.1 k hk
    · rw [y _ (by decide)]
      exact hd3.2.2.2.1
    · rw [y _ (by decide)]
      exact hd3.2.2.2.2.1
    · rw [y _ (by decide)]
      exact hd3.2.2.2.2.2.1
    · rw [y _ (by decide)]
      exact hd3.2.2.2.2.2.2
  · rw [if_neg c, decide_eq_false c]
    exact ⟨I4, rfl, g.t f4.c, s4⟩
theorem sem35l {x : XT} (wx : wX x) : ∀ j k p m (I : Nat → Nat → Int32), k + j = 9 → c8 m + j = 9 → m < 256 → p ≤ x.1 → cX x I → I 2 4 = nI p → ∃ I', am_sem 35 4 [.ref 2, .int (nI m), .int (nI k)] [] (am_T L, I, J) = some (some (.int (nI ((pS x j p m).2.getD 0))), (am_T L, I', J)) ∧ Fr I I' ∧ ((pS x j p m).2 = none → I' 2 3 = nI (pS x j p m).1) ∧ ((pS x j p m).2 ≠ none → I' 2 4 = nI (pS x j p m).1)
  | 0, k, p, m, I, hk, hc, hm, hp, hx, h4 => by
    have := c8_le m
    omega
  | j + 1, k, p, m, I, hk, hc, hm, hp, hx, h4 => by
    obtain ⟨I1, e, f1, f2, f3, f4, f5, f6⟩ := sem38 L I J wx hx hp h4
    have hkk := lxK_le x p
    have hv := lxV_le x p wx
    have e0 : am_sem 35 4 [.ref 2, .int (nI m), .int (nI k)] [] (am_T L, I, J) = if lxK x p = 3 then am_sem 35 13 [.ref 2, .int (nI m), .int (nI k)] [] (am_T L, I1, J) else am_sem 35 15 [.ref 2, .int (nI m), .int (nI k)] [] (am_T L, I1, J) := by
      rw [q35_4, if_neg (by rw [show (8 : Int32) = nI 8 from rfl, n_lt (by decide) (by omega)]; omega), q35_7, e]
      simp only [ob_s, tl_n, q35_9, f5, n_eqc (x := 3) (c := 3) rfl (show lxK x p < 2 ^ 31 by omega) (by decide)]
    rw [pS]
    by_cases c : lxK x p = 3
    · simp only [if_pos c] at e0 ⊢
      refine ⟨I1, ?_, ⟨f1, f2⟩, fun h => (by cases h), fun _ => f4⟩
      rw [e0, q35_13]
      rfl
    · simp only [if_neg c] at e0 ⊢
      rw [e0, q35_15, f5]
      simp only [n_eqc (x := 2) (c := 2) rfl (show lxK x p < 2 ^ 31 by omega) (by decide)]
      have hz : am_sem 35 30 [.ref 2, .int (nI m), .int (nI k)] [] (am_T L, I1, J) = some (some (.int (nI 0)), (am_T L, I1, J)) := by
        rw [q35_30]
        rfl
      by_cases c1 : lxK x p = 2
      · rw [if_pos c1, q35_19, f6 c1, sem82]
        simp only [ob_s, tl_s, q35_22, bz_0]
        rw [inr_n (show lxV x p < 2 ^ 31 by omega)]
        by_cases c2 : lxV x p < 8
        · rw [decide_eq_true c2, if_neg (by decide), q35_23, f6 c1, bs_bit (show m < 2 ^ 31 by omega) (show lxV x p < 32 by omega)]
          simp only [bz_0]
          cases c3 : m.testBit (lxV x p)
          · have hs := c8_s m hm _ c2 c3
            obtain ⟨I2, e2, g2, a2, b2⟩ := sem35l wx j (k + 1) (lxE x p) (m ||| 2 ^ lxV x p) I1 (by omega) (by omega) hs.2.1 (lxE_n hp) (Fr.c ⟨f1, f2⟩ |>.x hx) f4
            rw [if_pos rfl, q35_32, f6 c1, bs_1 (show lxV x p < 31 by omega), bs_or, nI_1, decide_eq_true c1]
            simp only [Bool.not_false, Bool.and_self, if_true]
            exact ⟨I2, e2, Fr.t ⟨f1, f2⟩ g2, a2, b2⟩
          · rw [if_neg (by decide)]
            simp only [Bool.not_true, Bool.and_false, Bool.false_eq_true, if_false]
            exact ⟨I1, hz, ⟨f1, f2⟩, fun _ => f3, fun h => absurd rfl h⟩
        · rw [decide_eq_false c2, if_pos rfl]
          simp only [Bool.false_and, Bool.and_false, Bool.false_eq_true, if_false]
          exact ⟨I1, hz, ⟨f1, f2⟩, fun _ => f3, fun h => absurd rfl h⟩
      · rw [if_neg c1, decide_eq_false c1]
        simp only [Bool.false_and, Bool.false_eq_true, if_false]
        exact ⟨I1, hz, ⟨f1, f2⟩, fun _ => f3, fun h => absurd rfl h⟩
end OPS
