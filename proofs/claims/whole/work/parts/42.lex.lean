/-! ===== tokens: the class ===== -/
def kd (b : Nat) : Nat := if 97 ≤ b ∧ b ≤ 122 then 1 else if 48 ≤ b ∧ b ≤ 57 then 2 else if b = 59 then 3 else 4
def skp (x : XT) : Nat → Nat → Nat
  | 0, p => p
  | k + 1, p => if p < x.1 ∧ x.2 p = 32 then skp x k (p + 1) else p
def rnn (x : XT) (t : Nat) : Nat → Nat → Nat
  | 0, p => p
  | k + 1, p => if p < x.1 ∧ kd (x.2 p) = t then rnn x t k (p + 1) else p
def lxS (x : XT) (p : Nat) : Nat := skp x (x.1 - p) p
def lxT (x : XT) (p : Nat) : Nat := if lxS x p < x.1 then kd (x.2 (lxS x p)) else 0
def lxE (x : XT) (p : Nat) : Nat := if lxS x p < x.1 then (if lxT x p = 1 ∨ lxT x p = 2 then rnn x (lxT x p) (x.1 - (lxS x p + 1)) (lxS x p + 1) else lxS x p + 1) else lxS x p
def lxG (x : XT) (p : Nat) : Bool := decide (lxE x p = lxS x p + 1) || (decide (lxE x p = lxS x p + 2) && !decide (x.2 (lxS x p) = 48))
def lxK (x : XT) (p : Nat) : Nat := if lxT x p = 2 ∧ lxG x p = false then 4 else lxT x p
def lxV (x : XT) (p : Nat) : Nat := if lxE x p = lxS x p + 1 then x.2 (lxS x p) - 48 else (x.2 (lxS x p) - 48) * 10 + (x.2 (lxS x p + 1) - 48)
theorem skp_le (x : XT) : ∀ k p, p ≤ skp x k p ∧ (p ≤ x.1 → skp x k p ≤ x.1)
  | 0, p => ⟨Nat.le_refl _, fun h => h⟩
  | k + 1, p => by
    have ih := skp_le x k (p + 1)
    rw [skp]
    by_cases h : p < x.1 ∧ x.2 p = 32
    · rw [if_pos h]
      exact ⟨by omega, fun _ => ih.2 (by omega)⟩
    · rw [if_neg h]
      exact ⟨Nat.le_refl _, fun h => h⟩
theorem rnn_le (x : XT) (t : Nat) : ∀ k p, p ≤ rnn x t k p ∧ (p ≤ x.1 → rnn x t k p ≤ x.1)
  | 0, p => ⟨Nat.le_refl _, fun h => h⟩
  | k + 1, p => by
    have ih := rnn_le x t k (p + 1)
    rw [rnn]
    by_cases h : p < x.1 ∧ kd (x.2 p) = t
    · rw [if_pos h]
      exact ⟨by omega, fun _ => ih.2 (by omega)⟩
    · rw [if_neg h]
      exact ⟨Nat.le_refl _, fun h => h⟩
/-- all from p to where it ends are of a kind -/
theorem rnn_in (x : XT) (t : Nat) : ∀ k p i, p ≤ i → i < rnn x t k p → i < x.1 ∧ kd (x.2 i) = t
  | 0, p, i, h1, h2 => by
    have : i < p := h2
    omega
  | k + 1, p, i, h1, h2 => by
    rw [rnn] at h2
    by_cases h : p < x.1 ∧ kd (x.2 p) = t
    · rw [if_pos h] at h2
      rcases Nat.lt_or_ge p i with q | q
      · exact rnn_in x t k (p + 1) i q h2
      · rw [show i = p by omega]
        exact h
    · rw [if_neg h] at h2
      omega
theorem lxS_le {x : XT} {p : Nat} (h : p ≤ x.1) : p ≤ lxS x p ∧ lxS x p ≤ x.1 := ⟨(skp_le x _ _).1, (skp_le x _ _).2 h⟩
theorem lxE_le {x : XT} {p : Nat} (h : p ≤ x.1) : lxS x p ≤ lxE x p ∧ lxE x p ≤ x.1 ∧ (lxS x p < x.1 → lxS x p < lxE x p) := by
  have h2 := lxS_le h
  unfold lxE
  by_cases c : lxS x p < x.1
  · rw [if_pos c]
    by_cases c2 : lxT x p = 1 ∨ lxT x p = 2
    · rw [if_pos c2]
      have := rnn_le x (lxT x p) (x.1 - (lxS x p + 1)) (lxS x p + 1)
      have h3 := this.2 (by omega)
      exact ⟨by omega, h3, fun _ => by omega⟩
    · rw [if_neg c2]
      exact ⟨by omega, by omega, fun _ => by omega⟩
  · rw [if_neg c]
    exact ⟨by omega, by omega, fun h => absurd h c⟩
theorem kd_pos (b : Nat) : kd b ≠ 0 ∧ kd b ≤ 4 := by
  unfold kd
  split
  · decide
  · split
    · decide
    · split <;> decide
theorem lxT_0 {x : XT} {p : Nat} : lxT x p = 0 ↔ ¬ lxS x p < x.1 := by
  unfold lxT
  by_cases h : lxS x p < x.1
  · rw [if_pos h]
    exact ⟨fun e => absurd e (kd_pos _).1, fun e => absurd h e⟩
  · rw [if_neg h]
    exact ⟨fun _ => h, fun _ => rfl⟩
theorem lxK_0 {x : XT} {p : Nat} : lxK x p = 0 ↔ ¬ lxS x p < x.1 := by
  rw [← lxT_0]
  unfold lxK
  by_cases h : lxT x p = 2 ∧ lxG x p = false
  · rw [if_pos h]
    exact ⟨fun e => (by decide : ¬ 4 = 0) e |>.elim, fun e => by omega⟩
  · rw [if_neg h]
theorem lxK_le (x : XT) (p : Nat) : lxK x p ≤ 4 := by
  have h : lxT x p ≤ 4 := by
    unfold lxT
    split
    · exact (kd_pos _).2
    · decide
  unfold lxK
  split
  · exact Nat.le_refl _
  · exact h
theorem kd_2 {b : Nat} (h : kd b = 2) : 48 ≤ b ∧ b ≤ 57 := by
  unfold kd at h
  split at h
  · omega
  · split at h
    · assumption
    · split at h <;> omega
theorem lxV_le (x : XT) (p : Nat) (wx : wX x) : lxV x p ≤ 2500 := by
  have h1 := wx.2 (lxS x p)
  have h2 := wx.2 (lxS x p + 1)
  unfold lxV
  split <;> omega
section OPS
variable (L : Nat) (I : Nat → Nat → Int32) (J : Nat → Nat → Int64)
theorem sem39 {b : Nat} (hb : b ≤ 255) : am_sem 39 0 [.int (nI b)] [] (am_T L, I, J) = some (some (.int (nI (kd b))), (am_T L, I, J)) := by
  simp only [q39_0, q39_8, q39_3, q39_16, q39_11, q39_6, q39_21, q39_19, q39_14, q39_22, show (97 : Int32) = nI 97 from rfl, show (122 : Int32) = nI 122 from rfl, show (48 : Int32) = nI 48 from rfl, show (57 : Int32) = nI 57 from rfl, show (59 : Int32) = nI 59 from rfl, n_lt (show b < 2 ^ 31 by omega) (show 97 < 2 ^ 31 by decide), n_lt (show 122 < 2 ^ 31 by decide) (show b < 2 ^ 31 by omega), n_lt (show b < 2 ^ 31 by omega) (show 48 < 2 ^ 31 by decide), n_lt (show 57 < 2 ^ 31 by decide) (show b < 2 ^ 31 by omega), n_inj (show b < 2 ^ 31 by omega) (show 59 < 2 ^ 31 by decide)]
  unfold kd
  by_cases h1 : 97 ≤ b ∧ b ≤ 122
  · rw [if_pos h1, if_neg (by omega), if_neg (by omega)]
    rfl
  · rw [if_neg h1]
    have e : ∀ {α : Type} (X Y : α), (if b < 97 then X else if 122 < b then X else Y) = X := fun X Y => by
      by_cases h : b < 97
      · rw [if_pos h]
      · rw [if_neg h, if_pos (by omega)]
    rw [e]
    by_cases h2 : 48 ≤ b ∧ b ≤ 57
    · rw [if_pos h2, if_neg (by omega), if_neg (by omega)]
      rfl
    · rw [if_neg h2]
      have e : ∀ {α : Type} (X Y : α), (if b < 48 then X else if 57 < b then X else Y) = X := fun X Y => by
        by_cases h : b < 48
        · rw [if_pos h]
        · rw [if_neg h, if_pos (by omega)]
      rw [e]
      by_cases h3 : b = 59
      · rw [if_pos h3, if_pos h3]
        rfl
      · rw [if_neg h3, if_neg h3]
        rfl
theorem sem38s {x : XT} (wx : wX x) (hx : cX x I) : ∀ k p, p + k = x.1 → am_sem 38 4 [.ref 2] [] (am_T L, am_u I 2 3 (nI p), J) = am_sem 38 23 [.ref 2] [] (am_T L, am_u I 2 3 (nI (skp x k p)), J)
  | 0, p, hk => by
    have h2 := wx.1
    rw [q38_4, am_u_x, am_u_j (by decide), hx.1, if_pos (by rw [n_le (by omega) (by omega)]; omega)]
    rfl
  | k + 1, p, hk => by
    have h2 := wx.1
    have hp : p < x.1 := by omega
    have hb := wx.2 p
    have ih := sem38s wx hx k (p + 1) (by omega)
    rw [q38_4, am_u_x, am_u_j (by decide), hx.1, if_neg (by rw [n_le (by omega) (by omega)]; omega), q38_9, am_u_x, at_n L _ J (a := 9) (n := 200) rfl (by decide) (show p < 200 by omega), am_u_k (by decide), hx.2 p hp]
    simp only [ob_s, tl_s, q38_14, show (32 : Int32) = nI 32 from rfl, n_inj (show x.2 p < 2 ^ 31 by omega) (show 32 < 2 ^ 31 by decide)]
    rw [skp]
    by_cases c : x.2 p = 32
    · rw [if_pos c, if_pos ⟨hp, c⟩, q38_16, am_u_x, am_u_u, nI_1]
      exact ih
    · rw [if_neg c, if_neg (fun h => c h.2)]
theorem sem38r {x : XT} (wx : wX x) (hx : cX x I) {t : Nat} (ht : t ≤ 4) (h5 : I 2 5 = nI t) : ∀ k p, p + k = x.1 → am_sem 38 59 [.ref 2] [] (am_T L, am_u I 2 4 (nI p), J) = am_sem 38 80 [.ref 2] [] (am_T L, am_u I 2 4 (nI (rnn x t k p)), J)
  | 0, p, hk => by
    have h2 := wx.1
    rw [q38_59, am_u_x, am_u_j (by decide), hx.1, if_pos (by rw [n_le (by omega) (by omega)]; omega)]
    rfl
  | k + 1, p, hk => by
    have h2 := wx.1
    have hp : p < x.1 := by omega
    have hb := wx.2 p
    have hkd := kd_pos (x.2 p)
    have ih := sem38r wx hx ht h5 k (p + 1) (by omega)
    rw [q38_59, am_u_x, am_u_j (by decide), hx.1, if_neg (by rw [n_le (by omega) (by omega)]; omega), q38_64, am_u_x, at_n L _ J (a := 9) (n := 200) rfl (by decide) (show p < 200 by omega), am_u_k (by decide), hx.2 p hp]
    simp only [ob_s, tl_s, q38_69, sem39 L _ J hb, q38_70, am_u_j (show 5 ≠ 4 by decide), h5, n_inj (show kd (x.2 p) < 2 ^ 31 by omega) (show t < 2 ^ 31 by omega)]
    rw [rnn]
    by_cases c : kd (x.2 p) = t
    · rw [if_pos c, if_pos ⟨hp, c⟩, q38_73, am_u_x, am_u_u, nI_1]
      exact ih
    · rw [if_neg c, if_neg (fun h => c h.2)]
theorem sem40 {h : Nat} (hh : 48 ≤ h ∧ h ≤ 57) {l : Nat} (hl : l < 1000) (hl0 : 0 < l) (w : Int32) (t : Nat) (hw : l = 2 → w = nI t ∧ 48 ≤ t ∧ t ≤ 57) : am_sem 40 0 [.int (nI l), .int (nI h), .int w] [] (am_T L, I, J) = some (some (.int (if l = 1 then nI (h - 48) else if l = 2 ∧ h ≠ 48 then nI ((h - 48) * 10 + (t - 48)) else -1)), (am_T L, I, J)) := by
  simp only [q40_0, q40_7, q40_3, q40_13, q40_10, q40_24, q40_15, show (1 : Int32) = nI 1 from rfl, show (2 : Int32) = nI 2 from rfl, show (48 : Int32) = nI 48 from rfl, show (10 : Int32) = nI 10 from rfl, n_inj (show l < 2 ^ 31 by omega) (show 1 < 2 ^ 31 by decide), n_inj (show h < 2 ^ 31 by omega) (show 48 < 2 ^ 31 by decide), n_lt (show 2 < 2 ^ 31 by decide) (show l < 2 ^ 31 by omega), pk_sub hh.1]
  by_cases h1 : l = 1
  · rw [if_pos h1, if_pos h1]
  · rw [if_neg h1, if_neg h1]
    by_cases h2 : l = 2
    · rw [if_neg (by omega)]
      by_cases h3 : h = 48
      · rw [if_pos h3, if_neg (by omega)]
      · rw [if_neg h3, if_pos ⟨h2, h3⟩]
        obtain ⟨w1, w2, w3⟩ := hw h2
        rw [w1, pk_mul, nI_add, pk_sub (by omega), show (h - 48) * 10 + t - 48 = (h - 48) * 10 + (t - 48) by omega]
    · rw [if_pos (by omega), if_neg (by omega)]
/-- one token further -/
theorem sem38 {x : XT} (wx : wX x) (hx : cX x I) {p : Nat} (hp : p ≤ x.1) (h4 : I 2 4 = nI p) : ∃ I', am_sem 38 0 [.ref 2] [] (am_T L, I, J) = some (none, (am_T L, I', J)) ∧ (∀ c, c ≠ 2 → I' c = I c) ∧ (∀ j, (j < 3 ∨ 6 < j) → I' 2 j = I 2 j) ∧ I' 2 3 = nI (lxS x p) ∧ I' 2 4 = nI (lxE x p) ∧ I' 2 5 = nI (lxK x p) ∧ (lxK x p = 2 → I' 2 6 = nI (lxV x p)) := by
  have hS := lxS_le hp
  have hE := lxE_le hp
  have h200 := wx.1
  obtain ⟨S, hSS⟩ : ∃ S, S = lxS x p := ⟨_, rfl⟩
  have e1 : am_sem 38 0 [.ref 2] [] (am_T L, I, J) = am_sem 38 23 [.ref 2] [] (am_T L, am_u I 2 3 (nI S), J) := by
    rw [q38_0, h4, hSS]
    exact sem38s L I J wx hx (x.1 - p) p (by omega)
  rw [← hSS] at hS hE
  by_cases c : S < x.1
  · have hb := wx.2 S
    have hkd := kd_pos (x.2 S)
    have eT : lxT x p = kd (x.2 S) := by
      unfold lxT
      rw [← hSS, if_pos c]
    have e2 : am_sem 38 0 [.ref 2] [] (am_T L, I, J) = (if nI (kd (x.2 S)) = 1 then am_sem 38 59 [.ref 2] [] (am_T L, am_u (am_u (am_u I 2 3 (nI S)) 2 5 (nI (kd (x.2 S)))) 2 4 (nI (S + 1)), J) else am_sem 38 54 [.ref 2] [] (am_T L, am_u (am_u (am_u I 2 3 (nI S)) 2 5 (nI (kd (x.2 S)))) 2 4 (nI (S + 1)), J)) := by
      rw [e1, q38_23, am_u_x, am_u_j (by decide), hx.1, if_neg (by rw [n_le (by omega) (by omega)]; omega), q38_29, am_u_x, at_n L _ J (a := 9) (n := 200) rfl (by decide) (show S < 200 by omega), am_u_k (by decide), hx.2 S c]
      simp only [ob_s, tl_s, q38_34, sem39 L _ J hb, q38_35, q38_37]
      rw [if_neg (by rw [show (0 : Int32) = nI 0 from rfl, n_inj (by omega) (by decide)]; exact hkd.1), q38_45, am_u_j (by decide), am_u_x, nI_1, q38_49, am_u_x]
    obtain ⟨X, hX⟩ : ∃ X, X = am_u (am_u I 2 3 (nI S)) 2 5 (nI (kd (x.2 S))) := ⟨_, rfl⟩
    rw [← hX] at e2
    have xX : cX x X := by
      rw [hX]
      exact ⟨by rw [am_u_j (by decide), am_u_j (by decide)]; exact hx.1, by rw [am_u_n _ _ _ (by decide), am_u_n _ _ _ (by decide)]; exact hx.2⟩
    have x3 : X 2 3 = nI S := by rw [hX, am_u_j (by decide), am_u_x]
    have x5 : X 2 5 = nI (kd (x.2 S)) := by rw [hX, am_u_x]
    have xc : ∀ c, c ≠ 2 → X c = I c := fun c hc => by rw [hX, am_u_n _ _ _ hc, am_u_n _ _ _ hc]
    have xj : ∀ j, (j < 3 ∨ 6 < j) → X 2 j = I 2 j := fun j hj => by rw [hX, am_u_j (by omega), am_u_j (by omega)]
    by_cases k1 : kd (x.2 S) = 1
    · have eE : lxE x p = rnn x 1 (x.1 - (S + 1)) (S + 1) := by
        unfold lxE
        rw [← hSS, if_pos c, eT, k1, if_pos (Or.inl rfl)]
      have eK : lxK x p = 1 := by
        unfold lxK
        rw [eT, k1]
        rfl
      refine ⟨am_u X 2 4 (nI (lxE x p)), ?_, fun c hc => ?_, fun j hj => ?_, ?_, am_u_x, ?_, fun h => ?_⟩
      · rw [e2, k1, if_pos (by decide), eE, sem38r L X J wx xX (t := 1) (by decide) (by rw [x5, k1]) (x.1 - (S + 1)) (S + 1) (by omega), q38_80, am_u_j (by decide), x5, k1, if_neg (by decide), q38_112]
      · rw [am_u_n _ _ _ hc, xc c hc]
      · rw [am_u_j (by omega), xj j hj]
      · rw [am_u_j (by decide), x3, hSS]
      · rw [am_u_j (by decide), x5, k1, eK]
      · rw [eK] at h
        cases h
    by_cases k2 : kd (x.2 S) = 2
    · have hd := kd_2 k2
      have eE : lxE x p = rnn x 2 (x.1 - (S + 1)) (S + 1) := by
        unfold lxE
        rw [← hSS, if_pos c, eT, k2, if_pos (Or.inr rfl)]
      obtain ⟨E, hEE⟩ : ∃ E, E = lxE x p := ⟨_, rfl⟩
      rw [← hEE] at hE eE
      have hE1 := hE.2.2 c
      obtain ⟨v, hv⟩ : ∃ v : Int32, v = if E - S = 1 then nI (x.2 S - 48) else if E - S = 2 ∧ x.2 S ≠ 48 then nI ((x.2 S - 48) * 10 + (x.2 (S + 1) - 48)) else -1 := ⟨_, rfl⟩
      have hat : ∃ w, am_sem 83 0 [.ref 9, .int (nI (S + 1))] [] (am_T L, am_u X 2 4 (nI E), J) = some (some (.int w), (am_T L, am_u X 2 4 (nI E), J)) ∧ (E - S = 2 → w = nI (x.2 (S + 1)) ∧ 48 ≤ x.2 (S + 1) ∧ x.2 (S + 1) ≤ 57) := by
        refine ⟨_, sem83 L _ J (a := 9) (n := 200) rfl (by decide) _, fun h => ?_⟩
        have hin := rnn_in x 2 (x.1 - (S + 1)) (S + 1) (S + 1) (Nat.le_refl _) (by omega)
        have := kd_2 hin.2
        rw [inr_n (by omega), if_pos (by simp; omega), nc (show S + 1 < 2 ^ 31 by omega), am_u_k (by decide), xX.2 _ hin.1]
        exact ⟨rfl, this⟩
      obtain ⟨w, hw1, hw2⟩ := hat
      have e4 : am_sem 38 0 [.ref 2] [] (am_T L, I, J) = am_sem 38 103 [.ref 2] [.int v, .ref 2] (am_T L, am_u X 2 4 (nI E), J) := by
        rw [e2, k2, if_neg (by decide), q38_54, am_u_j (by decide), x5, k2, if_pos (by decide), sem38r L X J wx xX (t := 2) (by decide) (by rw [x5, k2]) (x.1 - (S + 1)) (S + 1) (by omega), ← eE, q38_80, am_u_j (by decide), x5, k2, if_pos (by decide), q38_84, am_u_x, am_u_j (by decide), x3, pk_sub (show S ≤ E by omega), at_n L _ J (a := 9) (n := 200) rfl (by decide) (show S < 200 by omega), am_u_k (by decide), xX.2 S c]
        simp only [ob_s, tl_s, q38_95, am_u_j (show 3 ≠ 4 by decide), x3, nI_1, hw1, q38_102, sem40 L _ J hd (show E - S < 1000 by omega) (show 0 < E - S by omega) w _ hw2]
        rw [hv]
      have eG : lxG x p = true ↔ (E - S = 1 ∨ (E - S = 2 ∧ x.2 S ≠ 48)) := by
        unfold lxG
        rw [← hSS, ← hEE]
        simp
        omega
      by_cases hg : lxG x p = true
      · have eK : lxK x p = 2 := by
          unfold lxK
          rw [eT, k2, hg]
          rfl
        have hg2 := eG.mp hg
        have eV : v = nI (lxV x p) := by
          unfold lxV
          rw [← hSS, ← hEE, hv]
          by_cases q : E - S = 1
          · rw [if_pos q, if_pos (by omega)]
          · rw [if_neg q, if_pos (show E - S = 2 ∧ x.2 S ≠ 48 by omega), if_neg (show ¬ E = S + 1 by omega)]
        have hV := lxV_le x p wx
        refine ⟨am_u (am_u (am_u X 2 4 (nI E)) 2 6 v) 2 5 2, ?_, fun c hc => ?_, fun j hj => ?_, ?_, ?_, ?_, fun h => ?_⟩
        · rw [e4, q38_103, eV, if_pos (by rw [n_nn (by omega)]; trivial), q38_110, q38_111, q38_112]
        · rw [am_u_n _ _ _ hc, am_u_n _ _ _ hc, am_u_n _ _ _ hc, xc c hc]
        · rw [am_u_j (by omega), am_u_j (by omega), am_u_j (by omega), xj j hj]
        · rw [am_u_j (by decide), am_u_j (by decide), am_u_j (by decide), x3, hSS]
        · rw [am_u_j (by decide), am_u_j (by decide), am_u_x, hEE]
        · rw [am_u_x, eK]
          rfl
        · rw [am_u_j (by decide), am_u_x, eV]
      · have hgf : lxG x p = false := by simpa using hg
        have eK : lxK x p = 4 := by
          unfold lxK
          rw [eT, k2, hgf]
          rfl
        have hg2 := fun h => hg (eG.mpr h)
        have eV : v = -1 := by
          rw [hv, if_neg (fun q => hg2 (Or.inl q)), if_neg (fun q => hg2 (Or.inr q))]
        refine ⟨am_u (am_u (am_u X 2 4 (nI E)) 2 6 v) 2 5 4, ?_, fun c hc => ?_, fun j hj => ?_, ?_, ?_, ?_, fun h => ?_⟩
        · rw [e4, q38_103, eV, if_neg (by decide), q38_108, q38_111, q38_112]
        · rw [am_u_n _ _ _ hc, am_u_n _ _ _ hc, am_u_n _ _ _ hc, xc c hc]
        · rw [am_u_j (by omega), am_u_j (by omega), am_u_j (by omega), xj j hj]
        · rw [am_u_j (by decide), am_u_j (by decide), am_u_j (by decide), x3, hSS]
        · rw [am_u_j (by decide), am_u_j (by decide), am_u_x, hEE]
        · rw [am_u_x, eK]
          rfl
        · rw [eK] at h
          cases h
    · have eE : lxE x p = S + 1 := by
        unfold lxE
        rw [← hSS, if_pos c, eT, if_neg (by omega)]
      have eK : lxK x p = kd (x.2 S) := by
        unfold lxK
        rw [eT, if_neg (fun h => k2 h.1)]
      refine ⟨am_u X 2 4 (nI (S + 1)), ?_, fun c hc => ?_, fun j hj => ?_, ?_, ?_, ?_, fun h => ?_⟩
      · rw [e2, if_neg (by rw [show (1 : Int32) = nI 1 from rfl, n_inj (by omega) (by decide)]; exact k1), q38_54, am_u_j (by decide), x5, if_neg (by rw [show (2 : Int32) = nI 2 from rfl, n_inj (by omega) (by decide)]; exact k2), q38_58]
      · rw [am_u_n _ _ _ hc, xc c hc]
      · rw [am_u_j (by omega), xj j hj]
      · rw [am_u_j (by decide), x3, hSS]
      · rw [am_u_x, eE]
      · rw [am_u_j (by decide), x5, eK]
      · exact absurd (eK.symm.trans h) k2
  · have eE : lxE x p = S := by
      unfold lxE
      rw [← hSS, if_neg c]
    have eK : lxK x p = 0 := by
      rw [lxK_0, ← hSS]
      exact c
    refine ⟨am_u (am_u (am_u I 2 3 (nI S)) 2 5 0) 2 4 (nI S), ?_, fun c hc => ?_, fun j hj => ?_, ?_, ?_, ?_, fun h => ?_⟩
    · rw [e1, q38_23, am_u_x, am_u_j (by decide), hx.1, if_pos (by rw [n_le (by omega) (by omega)]; omega), q38_36, q38_37, if_pos rfl, q38_42, am_u_j (by decide), am_u_x, q38_49, am_u_x, if_neg (by decide), q38_54, am_u_j (by decide), am_u_x, if_neg (by decide), q38_58]
    · rw [am_u_n _ _ _ hc, am_u_n _ _ _ hc, am_u_n _ _ _ hc]
    · rw [am_u_j (by omega), am_u_j (by omega), am_u_j (by omega)]
    · rw [am_u_j (by decide), am_u_j (by decide), am_u_x, hSS]
    · rw [am_u_x, eE]
    · rw [am_u_j (by decide), am_u_x, eK]
      rfl
    · rw [eK] at h
      cases h
end OPS
