/-! ===== items: the reference ===== -/
theorem am_u_id {α : Type} {f : Nat → Nat → α} {k j : Nat} {v : α} (h : f k j = v) : am_u f k j v = f := by
  funext a b
  unfold am_u
  by_cases h1 : a = k
  · by_cases h2 : b = j
    · subst h1
      subst h2
      simp [h]
    · simp [h2]
  · simp [h1]
def MS (x : XT) (p : Nat) (I : Nat → Nat → Int32) (J : Nat → Nat → Int64) : Prop := p ≤ x.1 ∧ I 54 13 = nI (lxS x p) ∧ I 54 12 = nI (lxE x p) ∧ I 54 14 = nI (lxK x p) ∧ (lxK x p = 2 → I 54 15 = nI (lxV x p)) ∧ (lxK x p = 1 → (J 54 16 = 110 ↔ lxE x p = lxS x p + 1 ∧ x.2 (lxS x p) = 110) ∧ (J 54 16 = 102 ↔ lxE x p = lxS x p + 1 ∧ x.2 (lxS x p) = 102) ∧ (J 54 16 = 112 ↔ lxE x p = lxS x p + 1 ∧ x.2 (lxS x p) = 112))
theorem MS.o {x : XT} {p : Nat} {I I' : Nat → Nat → Int32} {J : Nat → Nat → Int64} (h : MS x p I J) (e : I' 54 = I 54) : MS x p I' J := by
  unfold MS
  rw [e]
  exact h
def mD (d : DT) (I : Nat → Nat → Int32) : Prop := I 54 18 = nI (vP d.1) ∧ I 54 20 = nI (vN d.1) ∧ (∀ k, k < 36 → I 62 k = nI (vF d.1 k)) ∧ (∀ p, p < vN d.1 → I 63 (4 * p) = nI (d.2 p)) ∧ (∀ p, p < vN d.1 → I 63 (4 * p + 1) = nI (vC d.1 p)) ∧ (∀ p, p < vN d.1 → I 63 (4 * p + 2) = nI (vA d.1 p)) ∧ ∀ p, p < vN d.1 → I 63 (4 * p + 3) = nI (vB d.1 p)
/-- cells that may change: the tokens' and r -/
def Ft (r : Nat → Prop) (I : Nat → Nat → Int32) (J : Nat → Nat → Int64) (I' : Nat → Nat → Int32) (J' : Nat → Nat → Int64) : Prop := (∀ c, c ≠ 54 → ¬ r c → I' c = I c) ∧ (∀ j, (j < 12 ∨ 17 < j) → I' 54 j = I 54 j) ∧ ∀ c j, (c ≠ 54 ∨ j ≠ 16) → J' c j = J c j
def Fm (I : Nat → Nat → Int32) (J : Nat → Nat → Int64) (I' : Nat → Nat → Int32) (J' : Nat → Nat → Int64) : Prop := (∀ c, c ≠ 54 → c ≠ 62 → c ≠ 63 → c ≠ 64 → I' c = I c) ∧ (∀ j, j < 12 → I' 54 j = I 54 j) ∧ ∀ c j, (c ≠ 54 ∨ j ≠ 16) → J' c j = J c j
theorem Ft.t {r : Nat → Prop} {I I1 I2 : Nat → Nat → Int32} {J J1 J2 : Nat → Nat → Int64} (h : Ft r I J I1 J1) (g : Ft r I1 J1 I2 J2) : Ft r I J I2 J2 := ⟨fun c h1 h2 => (g.1 c h1 h2).trans (h.1 c h1 h2), fun j hj => (g.2.1 j hj).trans (h.2.1 j hj), fun c j hj => (g.2.2 c j hj).trans (h.2.2 c j hj)⟩
theorem Ft.w {r r' : Nat → Prop} {I I1 : Nat → Nat → Int32} {J J1 : Nat → Nat → Int64} (h : Ft r I J I1 J1) (e : ∀ c, r c → r' c) : Ft r' I J I1 J1 := ⟨fun c h1 h2 => h.1 c h1 fun z => h2 (e c z), h.2⟩
theorem Fm.t {I I1 I2 : Nat → Nat → Int32} {J J1 J2 : Nat → Nat → Int64} (h : Fm I J I1 J1) (g : Fm I1 J1 I2 J2) : Fm I J I2 J2 := ⟨fun c h1 h2 h3 h4 => (g.1 c h1 h2 h3 h4).trans (h.1 c h1 h2 h3 h4), fun j hj => (g.2.1 j hj).trans (h.2.1 j hj), fun c j hj => (g.2.2 c j hj).trans (h.2.2 c j hj)⟩
theorem Ft.m {r : Nat → Prop} {I I1 : Nat → Nat → Int32} {J J1 : Nat → Nat → Int64} (h : Ft r I J I1 J1) (e : ∀ c, r c → c = 62 ∨ c = 63 ∨ c = 64) : Fm I J I1 J1 := ⟨fun c h1 h2 h3 h4 => h.1 c h1 fun z => by rcases e c z with q | q | q <;> omega, fun j hj => h.2.1 j (by omega), h.2.2⟩
theorem Ft.x {r : Nat → Prop} {I I1 : Nat → Nat → Int32} {J J1 : Nat → Nat → Int64} (h : Ft r I J I1 J1) (e : ¬ r 61) {x : XT} (hx : mX x I) : mX x I1 := mX_of hx (h.2.1 11 (by omega)) (h.1 61 (by omega) e)
theorem Fm.x {I I1 : Nat → Nat → Int32} {J J1 : Nat → Nat → Int64} (h : Fm I J I1 J1) {x : XT} (hx : mX x I) : mX x I1 := mX_of hx (h.2.1 11 (by omega)) (h.1 61 (by omega) (by omega) (by omega) (by omega))
theorem Ft.d {r : Nat → Prop} {I I1 : Nat → Nat → Int32} {J J1 : Nat → Nat → Int64} (h : Ft r I J I1 J1) (e : ¬ r 62) (e2 : ¬ r 63) {d : DT} (hd : mD d I) : mD d I1 := by
  unfold mD
  rw [h.2.1 18 (by omega), h.2.1 20 (by omega), h.1 62 (by omega) e, h.1 63 (by omega) e2]
  exact hd
def mR (x : XT) (r : RT) (I : Nat → Nat → Int32) (J : Nat → Nat → Int64) : Prop := match r.2 with
  | some d => MS x r.1 I J ∧ I 54 17 = 0 ∧ mD d I
  | none => I 54 17 = 1 ∧ I 54 13 = nI r.1
theorem Ft17 {r : Nat → Prop} {I : Nat → Nat → Int32} {J : Nat → Nat → Int64} : Ft r I J (am_u I 54 17 1) J := ⟨fun c h1 _ => am_u_n _ _ _ h1, fun j hj => am_u_j (by omega), fun _ _ _ => rfl⟩
section OPS
variable (L : Nat) (I : Nat → Nat → Int32) (J : Nat → Nat → Int64)
theorem sem121f (a : Int32) (h : a = 0 ∨ ¬ I 54 17 = 0) : am_sem 121 0 [.ref 54, .int a] [] (am_T L, I, J) = some (none, (am_T L, am_u I 54 17 1, J)) := by
  have e : am_sem 121 6 [.ref 54, .int a] [.ref 54] (am_T L, I, J) = some (none, (am_T L, am_u I 54 17 1, J)) := by
    rw [q121_6, q121_9, am_if_t (Or.inr rfl), if_neg (by decide), q121_15]
  rw [q121_0]
  by_cases c : I 54 17 = 0
  · rw [if_pos c, q121_4]
    rcases h with h | h
    · rw [if_pos h, e]
    · exact absurd c h
  · rw [if_neg c, e]
theorem sem121t {x : XT} (wx : wX x) (hx : mX x I) {p : Nat} (hp : MS x p I J) (h17 : I 54 17 = 0) {r : Nat → Prop} : ∃ I' J', am_sem 121 0 [.ref 54, .int 1] [] (am_T L, I, J) = some (none, (am_T L, I', J')) ∧ Ft r I J I' J' ∧ MS x (lxE x p) I' J' ∧ I' 54 17 = 0 := by
  have hE := lxE_n hp.1
  have e0 : am_u I 54 17 0 = I := am_u_id h17
  obtain ⟨I', J', e, f1, f2, f3, f4, f5, f6, f7, f8⟩ := sem120 L I J wx hx hE hp.2.2.1 .null
  refine ⟨I', J', ?_, ⟨fun c h1 _ => f1 c h1, fun j hj => f2 j (by omega), f3⟩, ⟨hE, f4, f5, f6, f7, f8⟩, (f2 17 (by omega)).trans h17⟩
  rw [q121_0, if_pos h17, q121_4, if_neg (by decide), q121_8, q121_9, am_if_t (Or.inl rfl), if_pos rfl, e0, q121_13, e]
  simp only [ob_s, tl_n, q121_15]
theorem n_within {v lo hi : Nat} (h1 : v < 2 ^ 31) (h2 : lo < 2 ^ 31) (h3 : hi < 2 ^ 31) : decide (nI lo ≤ nI v ∧ nI v ≤ nI hi) = (decide (lo ≤ v) && decide (v ≤ hi)) := by
  simp only [n_le h2 h1, n_le h1 h3]
  by_cases a : lo ≤ v <;> by_cases b : v ≤ hi <;> simp [a, b]
/-- a number comes to a place of row 64 -/
theorem sem122a {x : XT} (wx : wX x) (hx : mX x I) {p : Nat} (hp : MS x p I J) (h17 : I 54 17 = 0) {k lo hi : Nat} (hk : k < 4) (hlo : lo < 2 ^ 30) (hhi : hi < 2 ^ 30) (d : Value) : (nmB x p lo hi = true → ∃ I' J', am_sem 122 0 [.ref 54, .ref 64, .int (nI k), .int (nI lo), .int (nI hi), d] [] (am_T L, I, J) = some (some (.int (nI (lxV x p))), (am_T L, I', J')) ∧ Ft (fun c => c = 64) I J I' J' ∧ MS x (lxE x p) I' J' ∧ I' 54 17 = 0 ∧ I' 64 k = nI (lxV x p) ∧ ∀ j, j ≠ k → I' 64 j = I 64 j) ∧ (nmB x p lo hi = false → ∃ v, am_sem 122 0 [.ref 54, .ref 64, .int (nI k), .int (nI lo), .int (nI hi), d] [] (am_T L, I, J) = some (some (.int v), (am_T L, am_u I 54 17 1, J))) := by
  have hkk := lxK_le x p
  have hv := lxV_le x p wx
  have e0 : am_sem 122 0 [.ref 54, .ref 64, .int (nI k), .int (nI lo), .int (nI hi), d] [] (am_T L, I, J) = am_sem 122 16 [.ref 54, .ref 64, .int (nI k), .int (nI lo), .int (nI hi), .int (I 54 15)] [.int (bz (nmB x p lo hi)), .ref 54] (am_T L, I, J) := by
    unfold nmB
    rw [q122a_0, hp.2.2.2.1]
    simp only [n_eqc (x := 2) (c := 2) rfl (show lxK x p < 2 ^ 31 by omega) (by decide)]
    by_cases c : lxK x p = 2
    · rw [if_pos c, decide_eq_true c, q122a_8, hp.2.2.2.2.1 c, sem111, n_within (by omega) (by omega) (by omega)]
      simp only [ob_s, tl_s, q122a_12, bz_0, Bool.true_and]
      cases (decide (lo ≤ lxV x p) && decide (lxV x p ≤ hi))
      · rw [if_pos rfl, q122a_15]
        rfl
      · rw [if_neg (by decide), q122a_13]
        rfl
    · rw [if_neg c, decide_eq_false c, q122a_15]
      rfl
  constructor
  · intro hn
    obtain ⟨I', J', e, f0, g, g17⟩ := sem121t L I J wx hx hp h17 (r := fun _ => False)
    have f := f0.w (r' := fun c => c = 64) (fun c h => h.elim)
    have h15 := hp.2.2.2.2.1 (nmB_2 hn).1
    refine ⟨am_u I' 64 k (nI (lxV x p)), J', ?_, f.t ⟨fun c h1 h2 => am_u_n _ _ _ h2, fun j hj => am_u_k (by decide), fun _ _ _ => rfl⟩, g.o (am_u_n _ _ _ (by decide)), (am_u_k (by decide)).trans g17, am_u_x, fun j hj => (am_u_j hj).trans (by rw [f0.1 64 (by decide) id])⟩
    · rw [e0, hn, q122a_16]
      show (am_sem 121 0 [.ref 54, .int 1] [] (am_T L, I, J)).bind _ = _
      rw [e]
      simp only [ob_s, tl_n, q122a_17]
      rw [if_pos g17, q122a_20, am_if_t (n_in hk (by decide)), nc (show k < 2 ^ 31 by omega), q122a_24, h15]
  · intro hn
    refine ⟨I 54 15, ?_⟩
    rw [e0, hn, q122a_16]
    show (am_sem 121 0 [.ref 54, .int 0] [] (am_T L, I, J)).bind _ = _
    rw [sem121f L I J 0 (Or.inl rfl)]
    simp only [ob_s, tl_n, q122a_17, am_u_x]
    rw [if_neg (by decide), q122a_24]
/-- a number comes to a place of row 63 -/
theorem sem122b {x : XT} (wx : wX x) (hx : mX x I) {p : Nat} (hp : MS x p I J) (h17 : I 54 17 = 0) {k lo hi : Nat} (hk : k < 24) (hlo : lo < 2 ^ 30) (hhi : hi < 2 ^ 30) (d : Value) : (nmB x p lo hi = true → ∃ I' J', am_sem 122 0 [.ref 54, .ref 63, .int (nI k), .int (nI lo), .int (nI hi), d] [] (am_T L, I, J) = some (some (.int (nI (lxV x p))), (am_T L, I', J')) ∧ Ft (fun c => c = 63) I J I' J' ∧ MS x (lxE x p) I' J' ∧ I' 54 17 = 0 ∧ I' 63 k = nI (lxV x p) ∧ ∀ j, j ≠ k → I' 63 j = I 63 j) ∧ (nmB x p lo hi = false → ∃ v, am_sem 122 0 [.ref 54, .ref 63, .int (nI k), .int (nI lo), .int (nI hi), d] [] (am_T L, I, J) = some (some (.int v), (am_T L, am_u I 54 17 1, J))) := by
  have hkk := lxK_le x p
  have hv := lxV_le x p wx
  have e0 : am_sem 122 0 [.ref 54, .ref 63, .int (nI k), .int (nI lo), .int (nI hi), d] [] (am_T L, I, J) = am_sem 122 16 [.ref 54, .ref 63, .int (nI k), .int (nI lo), .int (nI hi), .int (I 54 15)] [.int (bz (nmB x p lo hi)), .ref 54] (am_T L, I, J) := by
    unfold nmB
    rw [q122b_0, hp.2.2.2.1]
    simp only [n_eqc (x := 2) (c := 2) rfl (show lxK x p < 2 ^ 31 by omega) (by decide)]
    by_cases c : lxK x p = 2
    · rw [if_pos c, decide_eq_true c, q122b_8, hp.2.2.2.2.1 c, sem111, n_within (by omega) (by omega) (by omega)]
      simp only [ob_s, tl_s, q122b_12, bz_0, Bool.true_and]
      cases (decide (lo ≤ lxV x p) && decide (lxV x p ≤ hi))
      · rw [if_pos rfl, q122b_15]
        rfl
      · rw [if_neg (by decide), q122b_13]
        rfl
    · rw [if_neg c, decide_eq_false c, q122b_15]
      rfl
  constructor
  · intro hn
    obtain ⟨I', J', e, f0, g, g17⟩ := sem121t L I J wx hx hp h17 (r := fun _ => False)
    have f := f0.w (r' := fun c => c = 63) (fun c h => h.elim)
    have h15 := hp.2.2.2.2.1 (nmB_2 hn).1
    refine ⟨am_u I' 63 k (nI (lxV x p)), J', ?_, f.t ⟨fun c h1 h2 => am_u_n _ _ _ h2, fun j hj => am_u_k (by decide), fun _ _ _ => rfl⟩, g.o (am_u_n _ _ _ (by decide)), (am_u_k (by decide)).trans g17, am_u_x, fun j hj => (am_u_j hj).trans (by rw [f0.1 63 (by decide) id])⟩
    · rw [e0, hn, q122b_16]
      show (am_sem 121 0 [.ref 54, .int 1] [] (am_T L, I, J)).bind _ = _
      rw [e]
      simp only [ob_s, tl_n, q122b_17]
      rw [if_pos g17, q122b_20, am_if_t (n_in hk (by decide)), nc (show k < 2 ^ 31 by omega), q122b_24, h15]
  · intro hn
    refine ⟨I 54 15, ?_⟩
    rw [e0, hn, q122b_16]
    show (am_sem 121 0 [.ref 54, .int 0] [] (am_T L, I, J)).bind _ = _
    rw [sem121f L I J 0 (Or.inl rfl)]
    simp only [ob_s, tl_n, q122b_17, am_u_x]
    rw [if_neg (by decide), q122b_24]
theorem sem122w (c : Nat) (hc : c = 63 ∨ c = 64) (h17 : I 54 17 = 1) (a2 a3 a4 : Int32) (d : Value) : ∃ v, am_sem 122 0 [.ref 54, .ref c, .int a2, .int a3, .int a4, d] [] (am_T L, I, J) = some (some (.int v), (am_T L, I, J)) := by
  have w1 : ∀ a, am_sem 121 0 [.ref 54, .int a] [] (am_T L, I, J) = some (none, (am_T L, I, J)) := fun a => by
    rw [sem121f L I J a (Or.inr (by rw [h17]; decide)), am_u_id h17]
  refine ⟨I 54 15, ?_⟩
  rcases hc with rfl | rfl
  · have e16 : ∀ s : Int32, am_sem 122 16 [.ref 54, .ref 63, .int a2, .int a3, .int a4, .int (I 54 15)] [.int s, .ref 54] (am_T L, I, J) = some (some (.int (I 54 15)), (am_T L, I, J)) := fun s => by
      rw [q122b_16, w1]
      simp only [ob_s, tl_n, q122b_17, h17]
      rw [if_neg (by decide), q122b_24]
    simp only [q122b_0, q122b_8, q122b_12, q122b_13, q122b_15, sem111, ob_s, tl_s, e16, ite_self]
  · have e16 : ∀ s : Int32, am_sem 122 16 [.ref 54, .ref 64, .int a2, .int a3, .int a4, .int (I 54 15)] [.int s, .ref 54] (am_T L, I, J) = some (some (.int (I 54 15)), (am_T L, I, J)) := fun s => by
      rw [q122a_16, w1]
      simp only [ob_s, tl_n, q122a_17, h17]
      rw [if_neg (by decide), q122a_24]
    simp only [q122a_0, q122a_8, q122a_12, q122a_13, q122a_15, sem111, ob_s, tl_s, e16, ite_self]
/-- the end of an item: STOP, or it is wrong -/
theorem sem121s {x : XT} (wx : wX x) (hx : mX x I) {p : Nat} (hp : MS x p I J) (h17 : I 54 17 = 0) {r : Nat → Prop} : ∃ I' J', am_sem 121 0 [.ref 54, .int (bz (decide (lxK x p = 3)))] [] (am_T L, I, J) = some (none, (am_T L, I', J')) ∧ Ft r I J I' J' ∧ (lxK x p = 3 → MS x (lxE x p) I' J' ∧ I' 54 17 = 0) ∧ (¬ lxK x p = 3 → I' 54 17 = 1 ∧ I' 54 13 = nI (lxS x p)) := by
  by_cases c : lxK x p = 3
  · obtain ⟨I', J', e, f, g, g17⟩ := sem121t L I J wx hx hp h17 (r := r)
    rw [decide_eq_true c]
    exact ⟨I', J', e, f, fun _ => ⟨g, g17⟩, fun h => absurd c h⟩
  · rw [decide_eq_false c]
    exact ⟨_, J, sem121f L I J 0 (Or.inl rfl), Ft17, fun h => absurd h c, fun _ => ⟨am_u_x, (am_u_j (by decide)).trans hp.2.1⟩⟩
theorem sem123 {x : XT} (wx : wX x) (hx : mX x I) {p : Nat} (hp : MS x p I J) (h17 : I 54 17 = 0) {d : DT} (hd : mD d I) (b : Bool) : ∃ I' J', am_sem 123 0 [.ref 54, .int (bz b)] [] (am_T L, I, J) = some (none, (am_T L, I', J')) ∧ Fm I J I' J' ∧ mR x (if b = true then pN x (lxE x p) d else (lxS x p, none)) I' J' := by
  have hk3 : ∀ {p I J} (v : Int32), MS x p I J → am_sem 123 13 [.ref 54, .int v] [.int 0] (am_T L, I, J) = am_sem 123 13 [.ref 54, .int v] [.int 0] (am_T L, I, J) := fun _ _ => rfl
  cases b
  · refine ⟨am_u (am_u I 54 17 1) 54 18 (I 54 18), J, ?_, ⟨fun c h1 h2 h3 h4 => by rw [am_u_n _ _ _ h1, am_u_n _ _ _ h1], fun j hj => by rw [am_u_j (by omega), am_u_j (by omega)], fun _ _ _ => rfl⟩, ?_⟩
    · show am_sem 123 0 [.ref 54, .int 0] [] (am_T L, I, J) = _
      rw [q123_0, sem121f L I J 0 (Or.inl rfl)]
      simp only [ob_s, tl_n, q123_3, am_u_x]
      rw [if_neg (by decide), q123_23, am_u_x, if_neg (by decide), q123_27, q123_34, am_u_j (by decide)]
    · exact ⟨(am_u_j (by decide)).trans am_u_x, by rw [am_u_j (by decide), am_u_j (by decide)]; exact hp.2.1⟩
  · rw [if_pos rfl]
    obtain ⟨I1, J1, e1, f1, g1, z1⟩ := sem121t L I J wx hx hp h17 (r := fun c => c = 64)
    have e1 : am_sem 121 0 [.ref 54, .int (bz true)] [] (am_T L, I, J) = _ := e1
    rw [q123_0, e1]
    simp only [ob_s, tl_n, q123_3]
    rw [if_pos z1, q123_6]
    have hx1 := f1.x (by decide) hx
    obtain ⟨s1, s2⟩ := sem122a L I1 J1 wx hx1 g1 z1 (k := 0) (lo := 2) (hi := 6) (by decide) (by decide) (by decide) .null
    have s1 : nmB x (lxE x p) 2 6 = true → ∃ I' J', am_sem 122 0 [.ref 54, .ref 64, .int 0, .int 2, .int 6, .null] [] (am_T L, I1, J1) = _ ∧ _ := s1
    have s2 : nmB x (lxE x p) 2 6 = false → ∃ v, am_sem 122 0 [.ref 54, .ref 64, .int 0, .int 2, .int 6, .null] [] (am_T L, I1, J1) = _ := s2
    unfold pN
    cases h1 : nmB x (lxE x p) 2 6
    · obtain ⟨v, e2⟩ := s2 h1
      rw [if_neg (by decide), e2]
      have hw : ∀ a, am_sem 121 0 [.ref 54, .int a] [] (am_T L, am_u I1 54 17 1, J1) = some (none, (am_T L, am_u I1 54 17 1, J1)) := fun a => by
        rw [sem121f L _ J1 a (Or.inr (by rw [am_u_x]; decide)), am_u_u]
      refine ⟨am_u (am_u I1 54 17 1) 54 18 (I1 54 18), J1, ?_, (f1.m (fun c h => Or.inr (Or.inr h))).t ⟨fun c h1 h2 h3 h4 => by rw [am_u_n _ _ _ h1, am_u_n _ _ _ h1], fun j hj => by rw [am_u_j (by omega), am_u_j (by omega)], fun _ _ _ => rfl⟩, (am_u_j (by decide)).trans am_u_x, by rw [am_u_j (by decide), am_u_j (by decide)]; exact g1.2.1⟩
      simp only [ob_s, tl_s, q123_13, q123_19, q123_21, q123_22, hw, tl_n, q123_23, am_u_x, ite_self]
      rw [if_neg (by decide), q123_27, q123_34, am_u_j (by decide)]
    · obtain ⟨I2, J2, e2, f2, g2, z2, v2, -⟩ := s1 h1
      rw [if_pos rfl, e2]
      have f12 := f1.t f2
      have hx2 := f12.x (by decide) hx
      obtain ⟨I3, J3, e3, f30, k3, w3⟩ := sem121s L I2 J2 wx hx2 g2 z2 (r := fun _ => False)
      have f3 := f30.w (r' := fun c => c = 64) (fun c h => h.elim)
      have e23 : am_sem 123 13 [.ref 54, .int (bz true)] [.int (nI (lxV x (lxE x p)))] (am_T L, I2, J2) = am_sem 123 23 [.ref 54, .int (bz true)] [] (am_T L, I3, J3) := by
        have hkk := lxK_le x (lxE x (lxE x p))
        rw [q123_13, g2.2.2.2.1]
        simp only [n_eqc (x := 3) (c := 3) rfl (show lxK x (lxE x (lxE x p)) < 2 ^ 31 by omega) (by decide)]
        by_cases c : lxK x (lxE x (lxE x p)) = 3
        · rw [decide_eq_true c] at e3
          have e3 : am_sem 121 0 [.ref 54, .int 1] [] (am_T L, I2, J2) = _ := e3
          rw [if_pos c, q123_19, q123_22, e3]
          rfl
        · rw [decide_eq_false c] at e3
          have e3 : am_sem 121 0 [.ref 54, .int 0] [] (am_T L, I2, J2) = _ := e3
          rw [if_neg c, q123_21, q123_22, e3]
          rfl
      have f123 := f12.t f3
      have v3 : I3 64 0 = nI (lxV x (lxE x p)) := by
        rw [f30.1 64 (by decide) id]
        exact v2
      simp only [ob_s, tl_s]
      rw [e23, q123_23]
      by_cases c : lxK x (lxE x (lxE x p)) = 3
      · obtain ⟨g3, z3⟩ := k3 c
        rw [if_pos z3, q123_30, q123_34, if_pos c, v3]
        refine ⟨_, _, rfl, (f123.m (fun c h => Or.inr (Or.inr h))).t ⟨fun c h1 h2 h3 h4 => am_u_n _ _ _ h1, fun j hj => am_u_j (by omega), fun _ _ _ => rfl⟩, ?_, (am_u_j (by decide)).trans z3, ?_⟩
        · have q : ∀ j, j ≠ 18 → am_u I3 54 18 (nI (lxV x (lxE x p))) 54 j = I3 54 j := fun j hj => am_u_j hj
          unfold MS
          rw [q 13 (by decide), q 12 (by decide), q 14 (by decide), q 15 (by decide)]
          exact g3
        · have hd3 := f123.d (by decide) (by decide) hd
          refine ⟨am_u_x, (am_u_j (by decide)).trans hd3.2.1, ?_, ?_, ?_, ?_, ?_⟩
          · rw [am_u_n _ _ _ (by decide)]
            exact hd3.2.2.1
          · rw [am_u_n _ _ _ (by decide)]
            exact hd3.2.2.2.1
          · rw [am_u_n _ _ _ (by decide)]
            exact hd3.2.2.2.2.1
          · rw [am_u_n _ _ _ (by decide)]
            exact hd3.2.2.2.2.2.1
          · rw [am_u_n _ _ _ (by decide)]
            exact hd3.2.2.2.2.2.2
      · obtain ⟨z3, g3⟩ := w3 c
        rw [if_neg (by rw [z3]; decide), q123_27, q123_34, if_neg c]
        exact ⟨_, _, rfl, (f123.m (fun c h => Or.inr (Or.inr h))).t ⟨fun c h1 h2 h3 h4 => am_u_n _ _ _ h1, fun j hj => am_u_j (by omega), fun _ _ _ => rfl⟩, (am_u_j (by decide)).trans z3, (am_u_j (by decide)).trans g3⟩
end OPS
