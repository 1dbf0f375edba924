/-! ===== ONE STEP of the little machine is one of the big one ===== -/
def am_ad (sb b k : Nat) : Nat := if k = 0 then sb else b + k
def am_cv (sb b : Nat) (v : Value) : Value := match v with
  | .ref k => .ref (am_ad sb b k)
  | v => v
theorem am_cv_cat (sb b : Nat) (v : Value) : (am_cv sb b v).category = v.category := by cases v <;> rfl
def am_lk (ls : List Value) (i : Nat) (v : Value) : Bool := match v with
  | .int _ => true
  | .ref _ => true
  | .long _ => decide (ls[i + 1]? = some .null)
  | _ => false
def am_la (sb b : Nat) (ls : List Value) : List (Nat × Value) := (List.range ls.length).filterMap (fun i => (ls[i]?).bind (fun v => if am_lk ls i v = true then some (i, am_cv sb b v) else none))
theorem am_la_m {sb b : Nat} {ls : List Value} {q : Nat × Value} : q ∈ am_la sb b ls ↔ ∃ v, ls[q.1]? = some v ∧ am_lk ls q.1 v = true ∧ q.2 = am_cv sb b v := by
  unfold am_la
  rw [List.mem_filterMap]
  constructor
  · rintro ⟨i, hi, h⟩
    cases hv : ls[i]? with
    | none => rw [hv] at h; cases h
    | some v =>
      rw [hv] at h
      simp only [Option.bind_some] at h
      split at h
      · cases h
        exact ⟨v, hv, by assumption, rfl⟩
      · cases h
  · rintro ⟨v, h1, h2, h3⟩
    refine ⟨q.1, List.mem_range.mpr (List.getElem?_eq_some_iff.mp h1).1, ?_⟩
    rw [h1]
    simp only [Option.bind_some]
    rw [if_pos h2, ← h3]
def am_L (sb b : Nat) (ls : List Value) (nL : Nat) (la : Array Slot) : Prop := ls.length = nL ∧ lv_has la nL (am_la sb b ls)
theorem am_L.at {sb b nL : Nat} {ls : List Value} {la : Array Slot} (h : am_L sb b ls nL la) {i : Nat} {v : Value} (hv : ls[i]? = some v) (hk : am_lk ls i v = true) : la[i]? = some (.val (am_cv sb b v)) :=
  h.2.2.2 (i, am_cv sb b v) (am_la_m.mpr ⟨v, hv, hk, rfl⟩)
theorem am_set1 {sb b nL k : Nat} {ls : List Value} {la : Array Slot} {v : Value} (h : lv_has la nL ((k, am_cv sb b v) :: (am_la sb b ls).filter (fun q => !(q.1 == k) && !(q.1 + 1 == k && q.2.category == 2)))) (hv : v ≠ .null) (hk : k < ls.length) : lv_has la nL (am_la sb b (ls.set k v)) := by
  refine ⟨h.1, h.2.1, fun q hq => h.2.2 q ?_⟩
  obtain ⟨w, h1, h2, h3⟩ := am_la_m.mp hq
  by_cases e : q.1 = k
  · rw [e, List.getElem?_set_self hk] at h1
    cases h1
    exact List.mem_cons.mpr (Or.inl (Prod.ext e h3))
  · rw [List.getElem?_set_ne (Ne.symm e)] at h1
    have key : am_lk ls q.1 w = true ∧ ¬ (q.1 + 1 = k ∧ w.category = 2) := by
      cases w with
      | long x =>
        have h2' : (ls.set k v)[q.1 + 1]? = some .null := of_decide_eq_true h2
        by_cases e2 : q.1 + 1 = k
        · rw [e2, List.getElem?_set_self hk] at h2'
          cases h2'
          exact absurd rfl hv
        · rw [List.getElem?_set_ne (Ne.symm e2)] at h2'
          exact ⟨decide_eq_true h2', fun z => e2 z.1⟩
      | int x => exact ⟨rfl, fun z => by have := z.2; simp [Value.category] at this⟩
      | ref x => exact ⟨rfl, fun z => by have := z.2; simp [Value.category] at this⟩
      | _ => cases h2
    refine List.mem_cons_of_mem _ (List.mem_filter.mpr ⟨am_la_m.mpr ⟨w, h1, key.1, h3⟩, ?_⟩)
    have hc : q.2.category = w.category := by rw [h3, am_cv_cat]
    have k2 := key.2
    rw [← hc] at k2
    simp only [Bool.and_eq_true, Bool.not_eq_true', beq_eq_false_iff_ne, ne_eq, e, not_false_eq_true, true_and]
    cases hz : (q.1 + 1 == k && q.2.category == 2) with
    | false => rfl
    | true =>
      simp only [Bool.and_eq_true, beq_iff_eq] at hz
      exact absurd hz k2
theorem am_set2 {sb b nL k : Nat} {ls : List Value} {la : Array Slot} {x : Int64} (h : lv_has la nL ((k, .long x) :: (am_la sb b ls).filter (fun q => !(q.1 == k) && (!(q.1 == k + 1) && !(q.1 + 1 == k && q.2.category == 2))))) (hk : k + 1 < ls.length) : lv_has la nL (am_la sb b ((ls.set k (.long x)).set (k + 1) .null)) := by
  refine ⟨h.1, h.2.1, fun q hq => h.2.2 q ?_⟩
  obtain ⟨w, h1, h2, h3⟩ := am_la_m.mp hq
  by_cases e1 : q.1 = k + 1
  · rw [e1, List.getElem?_set_self (by simpa using hk)] at h1
    cases h1
    cases h2
  · rw [List.getElem?_set_ne (Ne.symm e1)] at h1
    by_cases e : q.1 = k
    · rw [e, List.getElem?_set_self (by omega)] at h1
      cases h1
      exact List.mem_cons.mpr (Or.inl (Prod.ext e h3))
    · rw [List.getElem?_set_ne (Ne.symm e)] at h1
      have key : am_lk ls q.1 w = true ∧ ¬ (q.1 + 1 = k ∧ w.category = 2) := by
        cases w with
        | long y =>
          have h2' : ((ls.set k (.long x)).set (k + 1) .null)[q.1 + 1]? = some .null := of_decide_eq_true h2
          rw [List.getElem?_set_ne (by omega)] at h2'
          by_cases e2 : q.1 + 1 = k
          · rw [e2, List.getElem?_set_self (by omega)] at h2'
            cases h2'
          · rw [List.getElem?_set_ne (Ne.symm e2)] at h2'
            exact ⟨decide_eq_true h2', fun z => e2 z.1⟩
        | int x => exact ⟨rfl, fun z => by have := z.2; simp [Value.category] at this⟩
        | ref x => exact ⟨rfl, fun z => by have := z.2; simp [Value.category] at this⟩
        | _ => cases h2
      refine List.mem_cons_of_mem _ (List.mem_filter.mpr ⟨am_la_m.mpr ⟨w, h1, key.1, h3⟩, ?_⟩)
      have hc : q.2.category = w.category := by rw [h3, am_cv_cat]
      have k2 := key.2
      rw [← hc] at k2
      simp only [Bool.and_eq_true, Bool.not_eq_true', beq_eq_false_iff_ne, ne_eq, e, e1, not_false_eq_true, true_and]
      cases hz : (q.1 + 1 == k && q.2.category == 2) with
      | false => rfl
      | true =>
        simp only [Bool.and_eq_true, beq_iff_eq] at hz
        exact absurd hz k2
/-- the value in a field -/
def am_fv (sb b : Nat) (M : am_M) (k ci : Nat) (rs : List Nat) (j : Nat) : Value := match am_ty ci j with
  | .int => .int (M.2.1 k j)
  | .boolean => .int (M.2.1 k j)
  | .long => .long (M.2.2 k j)
  | _ => match rs[j]? with
    | some (r + 1) => .ref (am_ad sb b r)
    | _ => .null
theorem am_fld_v {sb b k ci j : Nat} {M : am_M} {rs : List Nat} {v : Value} (h : am_fld M k ci j rs = some v) : am_fv sb b M k ci rs j = am_cv sb b v := by
  unfold am_fld at h
  unfold am_fv
  split at h <;> rename_i e <;> simp only [e]
  · cases h; rfl
  · cases h; rfl
  · cases h; rfl
  · split at h
    · rename_i e2
      rw [e2]
      cases h
      rfl
    · cases h
def am_cell (sb b : Nat) (cA : Nat → ClassId) (M : am_M) (k : Nat) (t : Nat × Nat × List Nat) : va_E := match t.1 with
  | 0 => .inl (cA k, t.2.1, .inl (M.2.1 k))
  | 1 => .inl (cA k, t.2.1, .inr (.inl (M.2.2 k)))
  | 2 => .inl (cA k, t.2.1, .inl (M.2.1 k))
  | ci + 3 => .inr (ci, (List.range t.2.1).map (fun j => am_fv sb b M k ci t.2.2 j))
def am_KA (s : State) (cA : ClassId) (tag : Nat) : Prop := match tag with
  | 0 => ArrOfT s cA .int ∧ va_RA s cA .int
  | 1 => ArrOfT s cA .long ∧ va_RA s cA .long
  | 2 => ArrOfT s cA .boolean ∧ va_RA s cA .boolean
  | _ => True
def am_W0 (D : va_G) (sb b Lx : Nat) (cA : Nat → ClassId) (M : am_M) (s : State) (H : Heap) : Prop :=
  H.size = b + M.1.length ∧ sb ≤ b ∧ M.1[0]? = some (100, Lx, []) ∧ va_X sb Lx (M.2.1 0) s H ∧ ∀ (k : Nat) (t : Nat × Nat × List Nat), 0 < k → M.1[k]? = some t → t.1 ≠ 100 ∧ va_at D vwCl (b + k, am_cell sb b cA M k t) H ∧ am_KA s (cA k) t.1
def am_Wd (D : va_G) (sb b Lx : Nat) (M : am_M) (s : State) (H : Heap) : Prop := ∃ cA : Nat → ClassId, am_W0 D sb b Lx cA M s H
def am_sz (M : am_M) : Nat := (M.1.map (fun t => t.2.1)).sum
abbrev am_A (b : Nat) : Nat → Prop := fun q => b < q
theorem am_u_s {α : Type} (f : Nat → Nat → α) (k j : Nat) (v : α) : am_u f k j v k = fun b => if b = j then v else f k b := by
  funext b
  simp [am_u]
theorem am_u_n {α : Type} (f : Nat → Nat → α) {k a : Nat} (j : Nat) (v : α) (h : a ≠ k) : am_u f k j v a = f a := by
  funext b
  simp [am_u, h]
/-- one cell of the world changes -/
theorem am_W0.set {D : va_G} {sb b Lx k : Nat} {cA : Nat → ClassId} {M M' : am_M} {s : State} {H H' : Heap} {t t' : Nat × Nat × List Nat} (h : am_W0 D sb b Lx cA M s H) (hk : M.1[k]? = some t) (ht : t.1 ≠ 100) (htt : t'.1 = t.1) (hT : M'.1 = M.1.set k t') (hI : ∀ a, a ≠ k → M'.2.1 a = M.2.1 a) (hJ : ∀ a, a ≠ k → M'.2.2 a = M.2.2 a) (hz : H'.size = H.size) (ho : ∀ q : Nat, q ≠ b + k → H'[q]? = H[q]?)
    (hc : va_at D vwCl (b + k, am_cell sb b cA M' k t') H') : am_W0 D sb b Lx cA M' s H' := by
  obtain ⟨h1, h2, h3, h4, h5⟩ := h
  have hk0 : k ≠ 0 := by
    rintro rfl
    rw [h3] at hk
    cases hk
    exact ht rfl
  have hkl : k < M.1.length := (List.getElem?_eq_some_iff.mp hk).1
  refine ⟨by rw [hz, h1, hT, List.length_set], h2, by rw [hT, List.getElem?_set_ne hk0]; exact h3, ?_, fun a u ha hu => ?_⟩
  · rw [hI 0 (Ne.symm hk0)]
    exact h4.kept (ho sb (by omega))
  · by_cases e : a = k
    · subst e
      rw [hT, List.getElem?_set_self hkl] at hu
      cases hu
      obtain ⟨g0, g1, g2⟩ := h5 a t ha hk
      exact ⟨by rw [htt]; exact g0, hc, by rw [htt]; exact g2⟩
    · rw [hT, List.getElem?_set_ne (Ne.symm e)] at hu
      obtain ⟨g0, g1, g2⟩ := h5 a u ha hu
      have e1 : am_cell sb b cA M' a u = am_cell sb b cA M a u := by
        unfold am_cell am_fv
        rw [hI a e, hJ a e]
      exact ⟨g0, by rw [e1]; exact g1.kept (ho _ (by show b + a ≠ b + k; omega)), g2⟩

/-! what an instruction of the little machine says, turned about -/
theorem am_pu_i {i : Nat} {ls st : List Value} {M : am_M} {v : Value} {ps : List Prop} {i' : Nat} {ls' st' : List Value} {M' : am_M} (h : am_pu i ls st M v = some (ps, i', ls', st', M')) : ps = [] ∧ i' = i + 1 ∧ ls' = ls ∧ st' = v :: st ∧ M' = M := by
  unfold am_pu at h
  cases h
  exact ⟨rfl, rfl, rfl, rfl, rfl⟩
theorem am_ild_i {k : Nat} {i : Nat} {ls st : List Value} {M : am_M} {ps : List Prop} {i' : Nat} {ls' st' : List Value} {M' : am_M} (h : am_ild k i ls st M = some (ps, i', ls', st', M')) : ∃ v : Int32, ls[k]? = some (.int v) ∧ ps = [] ∧ i' = i + 1 ∧ ls' = ls ∧ st' = .int v :: st ∧ M' = M := by
  unfold am_ild at h
  split at h
  · rename_i v e
    cases h
    exact ⟨v, e, rfl, rfl, rfl, rfl, rfl⟩
  · cases h
theorem am_ald_i {k : Nat} {i : Nat} {ls st : List Value} {M : am_M} {ps : List Prop} {i' : Nat} {ls' st' : List Value} {M' : am_M} (h : am_ald k i ls st M = some (ps, i', ls', st', M')) : ∃ v : Nat, ls[k]? = some (.ref v) ∧ ps = [] ∧ i' = i + 1 ∧ ls' = ls ∧ st' = .ref v :: st ∧ M' = M := by
  unfold am_ald at h
  split at h
  · rename_i v e
    cases h
    exact ⟨v, e, rfl, rfl, rfl, rfl, rfl⟩
  · cases h
theorem am_lld_i {k : Nat} {i : Nat} {ls st : List Value} {M : am_M} {ps : List Prop} {i' : Nat} {ls' st' : List Value} {M' : am_M} (h : am_lld k i ls st M = some (ps, i', ls', st', M')) : ∃ v : Int64, ls[k]? = some (.long v) ∧ ls[k + 1]? = some .null ∧ ps = [] ∧ i' = i + 1 ∧ ls' = ls ∧ st' = .long v :: st ∧ M' = M := by
  unfold am_lld at h
  split at h
  · rename_i v e
    split at h
    · rename_i e2
      cases h
      exact ⟨v, e, e2, rfl, rfl, rfl, rfl, rfl⟩
    · cases h
  · cases h
theorem am_ist_i {k : Nat} {i : Nat} {ls st : List Value} {M : am_M} {ps : List Prop} {i' : Nat} {ls' st' : List Value} {M' : am_M} (h : am_ist k i ls st M = some (ps, i', ls', st', M')) : ∃ (v : Int32) (r : List Value), st = .int v :: r ∧ k < ls.length ∧ ps = [] ∧ i' = i + 1 ∧ ls' = ls.set k (.int v) ∧ st' = r ∧ M' = M := by
  unfold am_ist at h
  split at h
  · split at h
    · rename_i e
      cases h
      exact ⟨_, _, rfl, e, rfl, rfl, rfl, rfl, rfl⟩
    · cases h
  · cases h
theorem am_ast_i {k : Nat} {i : Nat} {ls st : List Value} {M : am_M} {ps : List Prop} {i' : Nat} {ls' st' : List Value} {M' : am_M} (h : am_ast k i ls st M = some (ps, i', ls', st', M')) : ∃ (v : Nat) (r : List Value), st = .ref v :: r ∧ k < ls.length ∧ ps = [] ∧ i' = i + 1 ∧ ls' = ls.set k (.ref v) ∧ st' = r ∧ M' = M := by
  unfold am_ast at h
  split at h
  · split at h
    · rename_i e
      cases h
      exact ⟨_, _, rfl, e, rfl, rfl, rfl, rfl, rfl⟩
    · cases h
  · cases h
theorem am_lst_i {k : Nat} {i : Nat} {ls st : List Value} {M : am_M} {ps : List Prop} {i' : Nat} {ls' st' : List Value} {M' : am_M} (h : am_lst k i ls st M = some (ps, i', ls', st', M')) : ∃ (v : Int64) (r : List Value), st = .long v :: r ∧ k + 1 < ls.length ∧ ps = [] ∧ i' = i + 1 ∧ ls' = (ls.set k (.long v)).set (k + 1) .null ∧ st' = r ∧ M' = M := by
  unfold am_lst at h
  split at h
  · split at h
    · rename_i e
      cases h
      exact ⟨_, _, rfl, e, rfl, rfl, rfl, rfl, rfl⟩
    · cases h
  · cases h
theorem am_inc_i {k : Nat} {c : Int32} {i : Nat} {ls st : List Value} {M : am_M} {ps : List Prop} {i' : Nat} {ls' st' : List Value} {M' : am_M} (h : am_inc k c i ls st M = some (ps, i', ls', st', M')) : ∃ v : Int32, ls[k]? = some (.int v) ∧ ps = [] ∧ i' = i + 1 ∧ ls' = ls.set k (.int (v + c)) ∧ st' = st ∧ M' = M := by
  unfold am_inc at h
  split at h
  · rename_i v e
    cases h
    exact ⟨v, e, rfl, rfl, rfl, rfl, rfl⟩
  · cases h
theorem am_i2_i {f : Int32 → Int32 → Int32} {i : Nat} {ls st : List Value} {M : am_M} {ps : List Prop} {i' : Nat} {ls' st' : List Value} {M' : am_M} (h : am_i2 f i ls st M = some (ps, i', ls', st', M')) : ∃ (a : Int32) (b : Int32) (r : List Value), st = .int b :: .int a :: r ∧ ps = [] ∧ i' = i + 1 ∧ ls' = ls ∧ st' = .int (f a b) :: r ∧ M' = M := by
  unfold am_i2 at h
  split at h
  · cases h
    exact ⟨_, _, _, rfl, rfl, rfl, rfl, rfl, rfl⟩
  · cases h
theorem am_i2d_i {f : Int32 → Int32 → Int32} {i : Nat} {ls st : List Value} {M : am_M} {ps : List Prop} {i' : Nat} {ls' st' : List Value} {M' : am_M} (h : am_i2d f i ls st M = some (ps, i', ls', st', M')) : ∃ (a : Int32) (b : Int32) (r : List Value), st = .int b :: .int a :: r ∧ ps = [¬ b = 0] ∧ i' = i + 1 ∧ ls' = ls ∧ st' = .int (f a b) :: r ∧ M' = M := by
  unfold am_i2d at h
  split at h
  · cases h
    exact ⟨_, _, _, rfl, rfl, rfl, rfl, rfl, rfl⟩
  · cases h
theorem am_l2_i {f : Int64 → Int64 → Int64} {i : Nat} {ls st : List Value} {M : am_M} {ps : List Prop} {i' : Nat} {ls' st' : List Value} {M' : am_M} (h : am_l2 f i ls st M = some (ps, i', ls', st', M')) : ∃ (a : Int64) (b : Int64) (r : List Value), st = .long b :: .long a :: r ∧ ps = [] ∧ i' = i + 1 ∧ ls' = ls ∧ st' = .long (f a b) :: r ∧ M' = M := by
  unfold am_l2 at h
  split at h
  · cases h
    exact ⟨_, _, _, rfl, rfl, rfl, rfl, rfl, rfl⟩
  · cases h
theorem am_l2d_i {f : Int64 → Int64 → Int64} {i : Nat} {ls st : List Value} {M : am_M} {ps : List Prop} {i' : Nat} {ls' st' : List Value} {M' : am_M} (h : am_l2d f i ls st M = some (ps, i', ls', st', M')) : ∃ (a : Int64) (b : Int64) (r : List Value), st = .long b :: .long a :: r ∧ ps = [¬ b = 0] ∧ i' = i + 1 ∧ ls' = ls ∧ st' = .long (f a b) :: r ∧ M' = M := by
  unfold am_l2d at h
  split at h
  · cases h
    exact ⟨_, _, _, rfl, rfl, rfl, rfl, rfl, rfl⟩
  · cases h
theorem am_ls_i {f : Int64 → Int32 → Int64} {i : Nat} {ls st : List Value} {M : am_M} {ps : List Prop} {i' : Nat} {ls' st' : List Value} {M' : am_M} (h : am_ls f i ls st M = some (ps, i', ls', st', M')) : ∃ (a : Int64) (b : Int32) (r : List Value), st = .int b :: .long a :: r ∧ ps = [] ∧ i' = i + 1 ∧ ls' = ls ∧ st' = .long (f a b) :: r ∧ M' = M := by
  unfold am_ls at h
  split at h
  · cases h
    exact ⟨_, _, _, rfl, rfl, rfl, rfl, rfl, rfl⟩
  · cases h
theorem am_b1_i {x : List Nat} {f : Int32 → Bool} {i : Nat} {ls st : List Value} {M : am_M} {ps : List Prop} {i' : Nat} {ls' st' : List Value} {M' : am_M} (h : am_b1 x f i ls st M = some (ps, i', ls', st', M')) : ∃ (v : Int32) (r : List Value), st = .int v :: r ∧ ps = [] ∧ i' = (bif f v then x.headD 0 else i + 1) ∧ ls' = ls ∧ st' = r ∧ M' = M := by
  unfold am_b1 at h
  split at h
  · cases h
    exact ⟨_, _, rfl, rfl, rfl, rfl, rfl, rfl⟩
  · cases h
theorem am_b2_i {x : List Nat} {f : Int32 → Int32 → Bool} {i : Nat} {ls st : List Value} {M : am_M} {ps : List Prop} {i' : Nat} {ls' st' : List Value} {M' : am_M} (h : am_b2 x f i ls st M = some (ps, i', ls', st', M')) : ∃ (v w : Int32) (r : List Value), st = .int w :: .int v :: r ∧ ps = [] ∧ i' = (bif f v w then x.headD 0 else i + 1) ∧ ls' = ls ∧ st' = r ∧ M' = M := by
  unfold am_b2 at h
  split at h
  · cases h
    exact ⟨_, _, _, rfl, rfl, rfl, rfl, rfl, rfl⟩
  · cases h
theorem am_get_i {ci j : Nat} {i : Nat} {ls st : List Value} {M : am_M} {ps : List Prop} {i' : Nat} {ls' st' : List Value} {M' : am_M} (h : am_get ci j i ls st M = some (ps, i', ls', st', M')) : ∃ (k n : Nat) (rs : List Nat) (v : Value) (r : List Value), st = .ref k :: r ∧ M.1[k]? = some (ci + 3, n, rs) ∧ j < n ∧ am_fld M k ci j rs = some v ∧ ps = [] ∧ i' = i + 1 ∧ ls' = ls ∧ st' = v :: r ∧ M' = M := by
  unfold am_get at h
  split at h
  · split at h
    · rename_i e
      split at h
      · rename_i e2
        split at h
        · rename_i e3
          cases h
          exact ⟨_, _, _, _, _, rfl, by rw [e, e2.1], e2.2, e3, rfl, rfl, rfl, rfl, rfl⟩
        · cases h
      · cases h
    · cases h
  · cases h
theorem am_iald_i {tag : Nat} {i : Nat} {ls st : List Value} {M : am_M} {ps : List Prop} {i' : Nat} {ls' st' : List Value} {M' : am_M} (h : am_iald tag i ls st M = some (ps, i', ls', st', M')) : ∃ (j : Int32) (k t n : Nat) (rs : List Nat) (r : List Value), st = .int j :: .ref k :: r ∧ M.1[k]? = some (t, n, rs) ∧ (t = tag ∨ (tag = 0 ∧ t = 100)) ∧ ps = [vp_in j n] ∧ i' = i + 1 ∧ ls' = ls ∧ st' = .int (M.2.1 k j.toNatClampNeg) :: r ∧ M' = M := by
  unfold am_iald at h
  split at h
  · split at h
    · rename_i e
      split at h
      · rename_i e2
        cases h
        exact ⟨_, _, _, _, _, _, rfl, e, e2, rfl, rfl, rfl, rfl, rfl⟩
      · cases h
    · cases h
  · cases h
theorem am_lald_i {i : Nat} {ls st : List Value} {M : am_M} {ps : List Prop} {i' : Nat} {ls' st' : List Value} {M' : am_M} (h : am_lald i ls st M = some (ps, i', ls', st', M')) : ∃ (j : Int32) (k n : Nat) (rs : List Nat) (r : List Value), st = .int j :: .ref k :: r ∧ M.1[k]? = some (1, n, rs) ∧ ps = [vp_in j n] ∧ i' = i + 1 ∧ ls' = ls ∧ st' = .long (M.2.2 k j.toNatClampNeg) :: r ∧ M' = M := by
  unfold am_lald at h
  split at h
  · split at h
    · rename_i e
      split at h
      · rename_i e2
        cases h
        exact ⟨_, _, _, _, _, rfl, by rw [e, e2], rfl, rfl, rfl, rfl, rfl⟩
      · cases h
    · cases h
  · cases h
theorem am_iast_i {i : Nat} {ls st : List Value} {M : am_M} {ps : List Prop} {i' : Nat} {ls' st' : List Value} {M' : am_M} (h : am_iast i ls st M = some (ps, i', ls', st', M')) : ∃ (v : Int32) (j : Int32) (k n : Nat) (rs : List Nat) (r : List Value), st = .int v :: .int j :: .ref k :: r ∧ M.1[k]? = some (0, n, rs) ∧ ps = [vp_in j n] ∧ i' = i + 1 ∧ ls' = ls ∧ st' = r ∧ M' = (M.1, am_u M.2.1 k j.toNatClampNeg v, M.2.2) := by
  unfold am_iast at h
  split at h
  · split at h
    · rename_i e
      split at h
      · rename_i e2
        cases h
        exact ⟨_, _, _, _, _, _, rfl, by rw [e, e2], rfl, rfl, rfl, rfl, rfl⟩
      · cases h
    · cases h
  · cases h
theorem am_zast_i {i : Nat} {ls st : List Value} {M : am_M} {ps : List Prop} {i' : Nat} {ls' st' : List Value} {M' : am_M} (h : am_zast i ls st M = some (ps, i', ls', st', M')) : ∃ (v : Int32) (j : Int32) (k n : Nat) (rs : List Nat) (r : List Value), st = .int v :: .int j :: .ref k :: r ∧ M.1[k]? = some (2, n, rs) ∧ ps = [vp_in j n, vp_nar .boolean v = v] ∧ i' = i + 1 ∧ ls' = ls ∧ st' = r ∧ M' = (M.1, am_u M.2.1 k j.toNatClampNeg v, M.2.2) := by
  unfold am_zast at h
  split at h
  · split at h
    · rename_i e
      split at h
      · rename_i e2
        cases h
        exact ⟨_, _, _, _, _, _, rfl, by rw [e, e2], rfl, rfl, rfl, rfl, rfl⟩
      · cases h
    · cases h
  · cases h
theorem am_last_i {i : Nat} {ls st : List Value} {M : am_M} {ps : List Prop} {i' : Nat} {ls' st' : List Value} {M' : am_M} (h : am_last i ls st M = some (ps, i', ls', st', M')) : ∃ (v : Int64) (j : Int32) (k n : Nat) (rs : List Nat) (r : List Value), st = .long v :: .int j :: .ref k :: r ∧ M.1[k]? = some (1, n, rs) ∧ ps = [vp_in j n] ∧ i' = i + 1 ∧ ls' = ls ∧ st' = r ∧ M' = (M.1, M.2.1, am_u M.2.2 k j.toNatClampNeg v) := by
  unfold am_last at h
  split at h
  · split at h
    · rename_i e
      split at h
      · rename_i e2
        cases h
        exact ⟨_, _, _, _, _, _, rfl, by rw [e, e2], rfl, rfl, rfl, rfl, rfl⟩
      · cases h
    · cases h
  · cases h
theorem am_len_i {i : Nat} {ls st : List Value} {M : am_M} {ps : List Prop} {i' : Nat} {ls' st' : List Value} {M' : am_M} (h : am_len i ls st M = some (ps, i', ls', st', M')) : ∃ (k t n : Nat) (rs : List Nat) (r : List Value), st = .ref k :: r ∧ M.1[k]? = some (t, n, rs) ∧ (t < 3 ∨ t = 100) ∧ ps = [] ∧ i' = i + 1 ∧ ls' = ls ∧ st' = .int (Int32.ofNat n) :: r ∧ M' = M := by
  unfold am_len at h
  split at h
  · split at h
    · rename_i e
      split at h
      · rename_i e2
        cases h
        exact ⟨_, _, _, _, _, rfl, e, e2, rfl, rfl, rfl, rfl, rfl⟩
      · cases h
    · cases h
  · cases h
theorem am_newa_i {tag : Nat} {i : Nat} {ls st : List Value} {M : am_M} {ps : List Prop} {i' : Nat} {ls' st' : List Value} {M' : am_M} (h : am_newa tag i ls st M = some (ps, i', ls', st', M')) : ∃ (n : Int32) (r : List Value), st = .int n :: r ∧ ps = [¬ n < 0, n.toNatClampNeg ≤ 10000] ∧ i' = i + 1 ∧ ls' = ls ∧ st' = .ref M.1.length :: r ∧ M' = (M.1 ++ [(tag, n.toNatClampNeg, [])], am_z M.2.1 M.1.length 0, am_z M.2.2 M.1.length 0) := by
  unfold am_newa at h
  split at h
  · cases h
    exact ⟨_, _, rfl, rfl, rfl, rfl, rfl, rfl⟩
  · cases h
theorem am_dup_i {i : Nat} {ls st : List Value} {M : am_M} {ps : List Prop} {i' : Nat} {ls' st' : List Value} {M' : am_M} (h : am_dup i ls st M = some (ps, i', ls', st', M')) : ∃ (v : Value) (r : List Value), ((∃ y, v = .int y) ∨ ∃ y, v = .ref y) ∧ st = v :: r ∧ ps = [] ∧ i' = i + 1 ∧ ls' = ls ∧ st' = v :: v :: r ∧ M' = M := by
  unfold am_dup at h
  split at h
  · cases h
    exact ⟨_, _, Or.inl ⟨_, rfl⟩, rfl, rfl, rfl, rfl, rfl, rfl⟩
  · cases h
    exact ⟨_, _, Or.inr ⟨_, rfl⟩, rfl, rfl, rfl, rfl, rfl, rfl⟩
  · cases h
theorem am_dup2_i {i : Nat} {ls st : List Value} {M : am_M} {ps : List Prop} {i' : Nat} {ls' st' : List Value} {M' : am_M} (h : am_dup2 i ls st M = some (ps, i', ls', st', M')) : ∃ (v : Int32) (w : Nat) (r : List Value), st = .int v :: .ref w :: r ∧ ps = [] ∧ i' = i + 1 ∧ ls' = ls ∧ st' = .int v :: .ref w :: .int v :: .ref w :: r ∧ M' = M := by
  unfold am_dup2 at h
  split at h
  · cases h
    exact ⟨_, _, _, rfl, rfl, rfl, rfl, rfl, rfl⟩
  · cases h
theorem am_pop_i {i : Nat} {ls st : List Value} {M : am_M} {ps : List Prop} {i' : Nat} {ls' st' : List Value} {M' : am_M} (h : am_pop i ls st M = some (ps, i', ls', st', M')) : ∃ (v : Int32) (r : List Value), st = .int v :: r ∧ ps = [] ∧ i' = i + 1 ∧ ls' = ls ∧ st' = r ∧ M' = M := by
  unfold am_pop at h
  split at h
  · cases h
    exact ⟨_, _, rfl, rfl, rfl, rfl, rfl, rfl⟩
  · cases h
theorem am_oini_i {i : Nat} {ls st : List Value} {M : am_M} {ps : List Prop} {i' : Nat} {ls' st' : List Value} {M' : am_M} (h : am_oini i ls st M = some (ps, i', ls', st', M')) : ∃ (v : Nat), st = [.ref v] ∧ ps = [] ∧ i' = i + 1 ∧ ls' = ls ∧ st' = [] ∧ M' = M := by
  unfold am_oini at h
  split at h
  · cases h
    exact ⟨_, rfl, rfl, rfl, rfl, rfl, rfl⟩
  · cases h
theorem am_put_i {ci j i : Nat} {ls st : List Value} {M : am_M} {ps : List Prop} {i' : Nat} {ls' st' : List Value} {M' : am_M} (h : am_put ci j i ls st M = some (ps, i', ls', st', M')) : ∃ (v : Value) (k n : Nat) (rs : List Nat) (r : List Value), st = v :: .ref k :: r ∧ M.1[k]? = some (ci + 3, n, rs) ∧ (j < n ∧ rs.length = n) ∧ i' = i + 1 ∧ ls' = ls ∧ st' = r ∧
    ((∃ y, v = .int y ∧ (am_ty ci j = .int ∧ ps = [] ∨ am_ty ci j = .boolean ∧ ps = [y = 0 ∨ y = 1]) ∧ M' = (M.1, am_u M.2.1 k j y, M.2.2)) ∨ (∃ y, v = .long y ∧ am_ty ci j = .long ∧ ps = [] ∧ M' = (M.1, M.2.1, am_u M.2.2 k j y)) ∨ (∃ y, v = .ref y ∧ ((∃ t, am_ty ci j = .array t) ∨ ∃ t, am_ty ci j = .object t) ∧ ps = [] ∧ M' = (M.1.set k (ci + 3, n, rs.set j (y + 1)), M.2.1, M.2.2))) := by
  unfold am_put at h
  split at h
  · split at h
    · rename_i e
      split at h
      · rename_i e2
        obtain ⟨e3, e4⟩ := e2
        subst e3
        split at h
        · rename_i e5
          split at h
          · cases h
            exact ⟨_, _, _, _, _, rfl, e, e4, rfl, rfl, rfl, Or.inl ⟨_, rfl, Or.inl ⟨e5, rfl⟩, rfl⟩⟩
          · cases h
        · rename_i e5
          split at h
          · cases h
            exact ⟨_, _, _, _, _, rfl, e, e4, rfl, rfl, rfl, Or.inl ⟨_, rfl, Or.inr ⟨e5, rfl⟩, rfl⟩⟩
          · cases h
        · rename_i e5
          split at h
          · cases h
            exact ⟨_, _, _, _, _, rfl, e, e4, rfl, rfl, rfl, Or.inr (Or.inl ⟨_, rfl, e5, rfl, rfl⟩)⟩
          · cases h
        · rename_i e5
          split at h
          · cases h
            exact ⟨_, _, _, _, _, rfl, e, e4, rfl, rfl, rfl, Or.inr (Or.inr ⟨_, rfl, Or.inl ⟨_, e5⟩, rfl, rfl⟩)⟩
          · cases h
        · rename_i e5
          split at h
          · cases h
            exact ⟨_, _, _, _, _, rfl, e, e4, rfl, rfl, rfl, Or.inr (Or.inr ⟨_, rfl, Or.inr ⟨_, e5⟩, rfl, rfl⟩)⟩
          · cases h
        · cases h
      · cases h
    · cases h
  · cases h
