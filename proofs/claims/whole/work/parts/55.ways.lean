/-! ===== the reference finds its deeds and counts ===== -/
def FdM (I I' : Nat → Nat → Int32) : Prop := (∀ c, c ≠ 54 → c ≠ 65 → c ≠ 66 → c ≠ 67 → I' c = I c) ∧ ∀ j, j ≠ 23 → j ≠ 27 → I' 54 j = I 54 j
theorem FdM.t {I I1 I2 : Nat → Nat → Int32} (h : FdM I I1) (g : FdM I1 I2) : FdM I I2 := ⟨fun c a b d e => (g.1 c a b d e).trans (h.1 c a b d e), fun j a b => (g.2 j a b).trans (h.2 j a b)⟩
theorem FdM.r (I : Nat → Nat → Int32) : FdM I I := ⟨fun _ _ _ _ _ => rfl, fun _ _ _ => rfl⟩
theorem FdM.v {I I' : Nat → Nat → Int32} (h : FdM I I') {v : VT} (m : mV v I) : mV v I' := mV_of m (h.2 0 (by decide) (by decide)) (h.2 2 (by decide) (by decide)) (h.1 55 (by decide) (by decide) (by decide) (by decide)) (h.1 56 (by decide) (by decide) (by decide) (by decide))
theorem FdM.l {I I' : Nat → Nat → Int32} (h : FdM I I') {g : LT} (m : mL g I) : mL g I' := mL_of m (h.2 4 (by decide) (by decide)) (h.1 57 (by decide) (by decide) (by decide) (by decide))
theorem FdM.q {I I' : Nat → Nat → Int32} (h : FdM I I') {n : Nat} {q : QT} (m : mQ n q (I 58)) : mQ n q (I' 58) := by
  rw [h.1 58 (by decide) (by decide) (by decide) (by decide)]
  exact m
/-- the rows of deeds up to a number -/
def mP (n : Nat) (num cM : Nat → Nat) (X m : Nat) (I : Nat → Nat → Int32) : Prop := m ≤ n ∧ (∀ k, k < m → num k < X) ∧ (∀ k, m ≤ k → k < n → X ≤ num k) ∧ I 54 23 = nI m ∧ (∀ k, k < m → I 65 k = nI (num k)) ∧ ∀ k, k < m → I 66 k = nI (cM k)
section OPS
variable (L : Nat) (I : Nat → Nat → Int32) (J : Nat → Nat → Int64)
theorem sem141t {v : VT} {g : LT} {q : QT} (wv : wV v) (wl : wL v g) (wq : wQ v q) {n : Nat} {num cM : Nat → Nat} (hn : n ≤ 48) (hD : isD v g q n num cM) {p s : Nat} (hp : p < vN v) (hs : s < 8) : ∀ k t m (I : Nat → Nat → Int32) (d4 : Value), t + k = 41 → mV v I → mL g I → mQ (vN v) q (I 58) → mP n num cM (10000 * p + 100 * s + t) m I → ∃ I' m' d4', am_sem 141 16 [.ref 54, .int (nI p), .int (nI s), .int (nI t), d4] [] (am_T L, I, J) = am_sem 141 55 [.ref 54, .int (nI p), .int (nI s), .int (nI 41), d4'] [] (am_T L, I', J) ∧ FdM I I' ∧ mP n num cM (10000 * p + 100 * s + 41) m' I'
  | 0, t, m, I, d4, ht, hv, hl, hq, h => by
    have e : t = 41 := by omega
    subst e
    refine ⟨I, m, d4, ?_, FdM.r I, h⟩
    rw [q141_16, if_pos (by decide)]
  | k + 1, t, m, I, d4, ht, hv, hl, hq, h => by
    have hN := wv.2.2.1
    have hms := mS_lt (v := v) (g := g) q wl p s t
    obtain ⟨h0, h1, h2, h3, h4, h5⟩ := h
    have e0 : am_sem 141 16 [.ref 54, .int (nI p), .int (nI s), .int (nI t), d4] [] (am_T L, I, J) = if mS v g q p s t = 0 then am_sem 141 53 [.ref 54, .int (nI p), .int (nI s), .int (nI t), .int (nI (mS v g q p s t))] [] (am_T L, I, J) else am_sem 141 27 [.ref 54, .int (nI p), .int (nI s), .int (nI t), .int (nI (mS v g q p s t))] [] (am_T L, I, J) := by
      rw [q141_16, if_neg (by rw [n40 (by omega)]; omega), q141_19, sem137 L I J wv wl wq hv hl hq hp hs (show t < 1000 by omega)]
      simp only [ob_s, tl_s, q141_24, n_pos0 (show mS v g q p s t < 2 ^ 31 by omega)]
    by_cases c : mS v g q p s t = 0
    · have hX : ∀ k, m ≤ k → k < n → 10000 * p + 100 * s + (t + 1) ≤ num k := fun k hk hkn => by
        have := h2 k hk hkn
        obtain ⟨p', s', t', a1, a2, a3, a4, a5, a6⟩ := hD.2.1 k hkn
        rcases Nat.lt_or_ge (10000 * p + 100 * s + t) (num k) with z | z
        · omega
        · have e1 : p' = p := by omega
          subst e1
          have e2 : s' = s := by omega
          subst e2
          have e3 : t' = t := by omega
          subst e3
          exact absurd c a6
      obtain ⟨I', m', d4', e, r⟩ := sem141t wv wl wq hn hD hp hs k (t + 1) m I (.int (nI (mS v g q p s t))) (by omega) hv hl hq ⟨h0, fun k hk => by have := h1 k hk; omega, hX, h3, h4, h5⟩
      refine ⟨I', m', d4', ?_, r⟩
      rw [e0, if_pos c, q141_53, nI_1, e]
    · obtain ⟨k0, b1, b2⟩ := hD.2.2 p s t hp hs (by omega) c
      have hkm : k0 = m := by
        rcases Nat.lt_trichotomy k0 m with z | z | z
        · have := h1 k0 z
          omega
        · exact z
        · have := hD.1 m k0 z b1
          have := h2 m (Nat.le_refl _) (by omega)
          omega
      subst hkm
      have hcM : cM k0 = mS v g q p s t := by
        obtain ⟨p', s', t', a1, a2, a3, a4, a5, a6⟩ := hD.2.1 k0 b1
        have e1 : p' = p := by omega
        subst e1
        have e2 : s' = s := by omega
        subst e2
        have e3 : t' = t := by omega
        subst e3
        exact a5
      obtain ⟨I1, hI1⟩ : ∃ I1, I1 = am_u (am_u (am_u I 65 k0 (nI (10000 * p + 100 * s + t))) 66 k0 (nI (mS v g q p s t))) 54 23 (nI (k0 + 1)) := ⟨_, rfl⟩
      have f1 : FdM I I1 := by
        rw [hI1]
        exact ⟨fun c a b d e => by rw [am_u_n _ _ _ a, am_u_n _ _ _ d, am_u_n _ _ _ b], fun j a b => by rw [am_u_j a, am_u_k (by decide), am_u_k (by decide)]⟩
      have hP : mP n num cM (10000 * p + 100 * s + (t + 1)) (k0 + 1) I1 := by
        refine ⟨b1, fun k hk => ?_, fun k hk hkn => ?_, ?_, fun k hk => ?_, fun k hk => ?_⟩
        · by_cases z : k = k0
          · subst z
            omega
          · have := h1 k (by omega)
            omega
        · have := hD.1 k0 k (by omega) hkn
          omega
        · rw [hI1, am_u_x]
        · rw [hI1, am_u_k (by decide), am_u_k (by decide)]
          by_cases z : k = k0
          · rw [z, am_u_x, b2]
          · rw [am_u_j z]
            exact h4 k (by omega)
        · rw [hI1, am_u_k (by decide)]
          by_cases z : k = k0
          · rw [z, am_u_x, hcM]
          · rw [am_u_j z, am_u_k (by decide)]
            exact h5 k (by omega)
      obtain ⟨I', m', d4', e, g1, r⟩ := sem141t wv wl wq hn hD hp hs k (t + 1) (k0 + 1) I1 (.int (nI (mS v g q p s t))) (by omega) (f1.v hv) (f1.l hl) (f1.q hq) hP
      refine ⟨I', m', d4', ?_, f1.t g1, r⟩
      have e97 : (10000 : Int32) * nI p + 100 * nI s + nI t = nI (10000 * p + 100 * s + t) := by
        rw [show (10000 : Int32) = nI 10000 from rfl, show (100 : Int32) = nI 100 from rfl, pk_mul, pk_mul, nI_add, nI_add]
      have v64 : vp_in (nI k0) 64 := n_in (by omega) (by decide)
      rw [e0, if_neg c, q141_27, h3, am_if_t ⟨v64, v64⟩, nc (show k0 < 2 ^ 31 by omega), e97, nI_1, ← hI1, q141_53, nI_1, e]
theorem sem141s {v : VT} {g : LT} {q : QT} (wv : wV v) (wl : wL v g) (wq : wQ v q) {n : Nat} {num cM : Nat → Nat} (hn : n ≤ 48) (hD : isD v g q n num cM) {p : Nat} (hp : p < vN v) : ∀ k s m (I : Nat → Nat → Int32) (d3 d4 : Value), s + k = 8 → mV v I → mL g I → mQ (vN v) q (I 58) → mP n num cM (10000 * p + 100 * s) m I → ∃ I' m' d3' d4', am_sem 141 11 [.ref 54, .int (nI p), .int (nI s), d3, d4] [] (am_T L, I, J) = am_sem 141 57 [.ref 54, .int (nI p), .int (nI 8), d3', d4'] [] (am_T L, I', J) ∧ FdM I I' ∧ mP n num cM (10000 * p + 800) m' I'
  | 0, s, m, I, d3, d4, hs, hv, hl, hq, h => by
    have e : s = 8 := by omega
    subst e
    refine ⟨I, m, d3, d4, ?_, FdM.r I, h⟩
    rw [q141_11, if_pos (by decide)]
  | k + 1, s, m, I, d3, d4, hs, hv, hl, hq, h => by
    obtain ⟨I1, m1, d1, e1, f1, p1⟩ := sem141t L J wv wl wq hn hD hp (show s < 8 by omega) 41 0 m I d4 (by omega) hv hl hq h
    have hP : mP n num cM (10000 * p + 100 * (s + 1)) m1 I1 := by
      obtain ⟨h0, h1, h2, h3⟩ := p1
      refine ⟨h0, fun k hk => by have := h1 k hk; omega, fun k hk hkn => ?_, h3⟩
      have := h2 k hk hkn
      obtain ⟨p', s', t', a1, a2, a3, a4, -⟩ := hD.2.1 k hkn
      omega
    obtain ⟨I', m', d3', d4', e, g1, r⟩ := sem141s wv wl wq hn hD hp k (s + 1) m1 I1 (.int (nI 41)) d1 (by omega) (f1.v hv) (f1.l hl) (f1.q hq) hP
    refine ⟨I', m', d3', d4', ?_, f1.t g1, r⟩
    have e1 : am_sem 141 16 [.ref 54, .int (nI p), .int (nI s), .int 0, d4] [] (am_T L, I, J) = _ := e1
    rw [q141_11, if_neg (by rw [show (8 : Int32) = nI 8 from rfl, n_le (by decide) (by omega)]; omega), q141_14, e1, q141_55, nI_1, e]
theorem sem141p {v : VT} {g : LT} {q : QT} (wv : wV v) (wl : wL v g) (wq : wQ v q) {n : Nat} {num cM : Nat → Nat} (hn : n ≤ 48) (hD : isD v g q n num cM) : ∀ k p m (I : Nat → Nat → Int32) (d2 d3 d4 : Value), p + k = vN v → mV v I → mL g I → mQ (vN v) q (I 58) → mP n num cM (10000 * p) m I → ∃ I', am_sem 141 5 [.ref 54, .int (nI p), d2, d3, d4] [] (am_T L, I, J) = some (none, (am_T L, I', J)) ∧ FdM I I' ∧ mP n num cM (10000 * vN v) n I'
  | 0, p, m, I, d2, d3, d4, hp, hv, hl, hq, h => by
    have hN := wv.2.2.1
    have e : p = vN v := by omega
    subst e
    have hm : m = n := by
      obtain ⟨h0, h1, h2, h3⟩ := h
      rcases Nat.lt_or_ge m n with z | z
      · have := h2 m (Nat.le_refl _) z
        obtain ⟨p', s', t', a1, a2, a3, a4, -⟩ := hD.2.1 m z
        omega
      · omega
    subst hm
    refine ⟨I, ?_, FdM.r I, h⟩
    rw [q141_5, hv.2.1, if_pos (by rw [n_le (by omega) (by omega)]; omega), q141_59]
  | k + 1, p, m, I, d2, d3, d4, hp, hv, hl, hq, h => by
    have hN := wv.2.2.1
    obtain ⟨I1, m1, d1, d1', e1, f1, p1⟩ := sem141s L J wv wl wq hn hD (show p < vN v by omega) 8 0 m I d3 d4 (by omega) hv hl hq h
    have hP : mP n num cM (10000 * (p + 1)) m1 I1 := by
      obtain ⟨h0, h1, h2, h3⟩ := p1
      refine ⟨h0, fun k hk => by have := h1 k hk; omega, fun k hk hkn => ?_, h3⟩
      have := h2 k hk hkn
      obtain ⟨p', s', t', a1, a2, a3, a4, -⟩ := hD.2.1 k hkn
      omega
    obtain ⟨I', e, g1, r⟩ := sem141p wv wl wq hn hD k (p + 1) m1 I1 (.int (nI 8)) d1 d1' (by omega) (f1.v hv) (f1.l hl) (f1.q hq) hP
    refine ⟨I', ?_, f1.t g1, r⟩
    have e1 : am_sem 141 11 [.ref 54, .int (nI p), .int 0, d3, d4] [] (am_T L, I, J) = _ := e1
    rw [q141_5, hv.2.1, if_neg (by rw [n_le (by omega) (by omega)]; omega), q141_9, e1, q141_57, nI_1, e]
/-- what rows 65, 66 hold -/
def mK (n : Nat) (num cM : Nat → Nat) (I : Nat → Nat → Int32) : Prop := I 54 23 = nI n ∧ (∀ k, k < n → I 65 k = nI (num k)) ∧ ∀ k, k < n → I 66 k = nI (cM k)
theorem sem141 {v : VT} {g : LT} {q : QT} (wv : wV v) (wl : wL v g) (wq : wQ v q) {n : Nat} {num cM : Nat → Nat} (hn : n ≤ 48) (hD : isD v g q n num cM) (hv : mV v I) (hl : mL g I) (hq : mQ (vN v) q (I 58)) (d1 d2 d3 d4 : Value) : ∃ I', am_sem 141 0 [.ref 54, d1, d2, d3, d4] [] (am_T L, I, J) = some (none, (am_T L, I', J)) ∧ FdM I I' ∧ mK n num cM I' := by
  have f0 : FdM I (am_u I 54 23 0) := ⟨fun c a _ _ _ => am_u_n _ _ _ a, fun j a _ => am_u_j a⟩
  obtain ⟨I', e, g1, r⟩ := sem141p L J wv wl wq hn hD (vN v) 0 0 (am_u I 54 23 0) d2 d3 d4 (by omega) (f0.v hv) (f0.l hl) (f0.q hq) ⟨Nat.zero_le _, fun k hk => absurd hk (Nat.not_lt_zero _), fun k _ _ => by omega, am_u_x, fun k hk => absurd hk (Nat.not_lt_zero _), fun k hk => absurd hk (Nat.not_lt_zero _)⟩
  have e : am_sem 141 5 [.ref 54, .int 0, d2, d3, d4] [] _ = _ := e
  exact ⟨I', (q141_0 L I J d1 d2 d3 d4).trans e, f0.t g1, r.2.2.2.1, r.2.2.2.2.1, r.2.2.2.2.2⟩
def cw (U : List Nat) (c : Nat) : Nat := U.countP fun x => decide (x = c)
def cx (U : List Nat) (cv z c : Nat) : Nat := U.countP fun x => decide (x < z) && decide (x ||| cv = c)
theorem cx_0 (U : List Nat) (cv c : Nat) : cx U cv 0 c = 0 := by
  unfold cx
  rw [List.countP_eq_zero]
  intro x _
  simp
theorem cx_s (cv z c : Nat) : ∀ U : List Nat, cx U cv (z + 1) c = cx U cv z c + if z ||| cv = c then cw U z else 0
  | [] => by simp [cx, cw]
  | x :: r => by
    have ih := cx_s cv z c r
    unfold cx cw at ih ⊢
    rw [List.countP_cons, List.countP_cons, List.countP_cons, ih]
    by_cases h1 : x = z
    · subst h1
      by_cases h2 : x ||| cv = c
      · simp [h2]
        omega
      · simp [h2]
    · have : (x < z + 1) = (x < z) := propext ⟨fun h => by omega, fun h => by omega⟩
      by_cases h2 : x < z
      · by_cases h3 : x ||| cv = c
        · simp [h1, this, h2, h3]
          omega
        · simp [h1, this, h2, h3]
      · simp [h1, this, h2]
theorem cx_e (cv c z : Nat) : ∀ U : List Nat, (∀ x, x ∈ U → x < z) → cx U cv z c = cw (U.map fun x => x ||| cv) c
  | [], _ => rfl
  | x :: r, h => by
    have ih := cx_e cv c z r fun y hy => h y (List.mem_cons_of_mem _ hy)
    have hx := h x List.mem_cons_self
    unfold cx cw at ih ⊢
    rw [List.map_cons, List.countP_cons, List.countP_cons, ih]
    simp [hx]
theorem UL_in {ok : Nat → Bool} {cov : Nat → Nat} {P : Nat → Prop} (h0 : P 0) (ho : ∀ a b, P a → P b → P (a ||| b)) (a : Nat) : ∀ k m, (∀ i, a ≤ i → i < a + k → P (cov i)) → ∀ x, x ∈ UL ok cov a k m → P x
  | 0, m, _, x, hx => by
    unfold UL at hx
    split at hx
    · rw [List.mem_singleton] at hx
      rw [hx]
      exact h0
    · cases hx
  | k + 1, 0, hc, x, hx => UL_in h0 ho a k 0 (fun i h1 h2 => hc i h1 (by omega)) x hx
  | k + 1, m + 1, hc, x, hx => by
    rw [UL, List.mem_append] at hx
    rcases hx with hx | hx
    · exact UL_in h0 ho a k (m + 1) (fun i h1 h2 => hc i h1 (by omega)) x hx
    · split at hx
      · rw [List.mem_map] at hx
        obtain ⟨y, hy, e⟩ := hx
        rw [← e]
        exact ho _ _ (UL_in h0 ho a k m (fun i h1 h2 => hc i h1 (by omega)) y hy) (hc _ (by omega) (by omega))
      · cases hx
/-- the table of the reference -/
def tW (U : Nat → List Nat) (I : Nat → Nat → Int32) : Prop := ∀ m c, m ≤ 8 → c < 256 → I 67 (256 * m + c) = nI (cw (U m) c)
theorem sem142c {cv d : Nat} {r : Nat} (hr : r < 8) (hcv : cv < 256) (hd : d < 48) (U0 U1 : List Nat) (d1 d5 : Value) (a2 a3 : Int32) : ∀ k z (I : Nat → Nat → Int32), z + k = 256 → I 66 d = nI cv → (∀ c, c < 256 → I 67 (256 * r + c) = nI (cw U0 c)) → (∀ c, c < 256 → I 67 (256 * (r + 1) + c) = nI (cw U1 c + cx U0 cv z c)) → ∃ I', am_sem 142 52 [.ref 54, d1, .int a2, .int a3, .int (nI d), d5, .int (nI r), .int (nI z)] [] (am_T L, I, J) = am_sem 142 83 [.ref 54, d1, .int a2, .int a3, .int (nI d), d5, .int (nI r), .int (nI 256)] [] (am_T L, I', J) ∧ (∀ c, c ≠ 67 → I' c = I c) ∧ (∀ j, (j < 256 * (r + 1) ∨ 256 * (r + 2) ≤ j) → I' 67 j = I 67 j) ∧ ∀ c, c < 256 → I' 67 (256 * (r + 1) + c) = nI (cw U1 c + cx U0 cv 256 c)
  | 0, z, I, hk, h6, h0, h1 => by
    have e : z = 256 := by omega
    subst e
    refine ⟨I, ?_, fun _ _ => rfl, fun _ _ => rfl, h1⟩
    rw [q142_52, if_pos (by decide)]
  | k + 1, z, I, hk, h6, h0, h1 => by
    have hz : z < 256 := by omega
    have hor : z ||| cv < 256 := Nat.or_lt_two_pow (n := 8) hz hcv
    obtain ⟨I1, hI1⟩ : ∃ I1, I1 = am_u I 67 (256 * (r + 1) + (z ||| cv)) (nI (cw U1 (z ||| cv) + cx U0 cv (z + 1) (z ||| cv))) := ⟨_, rfl⟩
    have g0 : ∀ c, c < 256 → I1 67 (256 * r + c) = nI (cw U0 c) := fun c hc => by
      rw [hI1, am_u_j (by omega)]
      exact h0 c hc
    have g1 : ∀ c, c < 256 → I1 67 (256 * (r + 1) + c) = nI (cw U1 c + cx U0 cv (z + 1) c) := fun c hc => by
      rw [hI1]
      by_cases q : c = z ||| cv
      · rw [q, am_u_x]
      · rw [am_u_j (by omega), h1 c hc, cx_s, if_neg (fun e => q e.symm), Nat.add_zero]
    have g6 : I1 66 d = nI cv := by
      rw [hI1, am_u_k (by decide)]
      exact h6
    obtain ⟨I', e, f1, f2, f3⟩ := sem142c hr hcv hd U0 U1 d1 d5 a2 a3 k (z + 1) I1 (by omega) g6 g0 g1
    refine ⟨I', ?_, fun c hc => (f1 c hc).trans (by rw [hI1, am_u_n _ _ _ hc]), fun j hj => (f2 j hj).trans (by rw [hI1, am_u_j (by omega)]), f3⟩
    have m256 : ∀ a, (256 : Int32) * nI a = nI (256 * a) := fun a => by rw [show (256 : Int32) = nI 256 from rfl, pk_mul]
    have hsum : nI (cw U1 (z ||| cv) + cx U0 cv z (z ||| cv)) + nI (cw U0 z) = nI (cw U1 (z ||| cv) + cx U0 cv (z + 1) (z ||| cv)) := by
      rw [nI_add, cx_s, if_pos rfl, Nat.add_assoc]
    rw [q142_52, if_neg (by rw [show (256 : Int32) = nI 256 from rfl, n_le (by decide) (by omega)]; omega), q142_55]
    simp only [nc (show d < 2 ^ 31 by omega), h6, nI_1, m256, bs_or, nI_add, nc (show 256 * (r + 1) + (z ||| cv) < 2 ^ 31 by omega), nc (show 256 * r + z < 2 ^ 31 by omega), h1 _ hor, h0 _ hz]
    rw [am_if_t ⟨n_in (show d < 64 by omega) (by decide), n_in (show 256 * (r + 1) + (z ||| cv) < 2304 by omega) (by decide), n_in (show 256 * r + z < 2304 by omega) (by decide), n_in (show 256 * (r + 1) + (z ||| cv) < 2304 by omega) (by decide)⟩]
    rw [← nI_add (cw U1 (z ||| cv) + cx U0 cv z (z ||| cv)), hsum, ← hI1]
    exact e
end OPS
