/-! ===== WHAT A RUN COMES TO, as an equation ===== -/
theorem am_run_mono : ∀ (f mi i : Nat) (ls st : List Value) (M : am_M) (r : Option Value × am_M), am_run am_code am_meth f mi i ls st M = some r → am_run am_code am_meth (f + 1) mi i ls st M = some r
  | 0, _, _, _, _, _, _, h => by cases h
  | f + 1, mi, i, ls, st, M, (v, M'), h => by
    obtain ⟨E, hE, hc⟩ := am_run_i h
    rw [am_run, hE]
    dsimp only
    rcases hc with ⟨hk, ps, i', ls', st', M1, h1, hps, h2⟩ | ⟨hk, ps, hrt, hps, rfl⟩ | ⟨hk, hc, v1, M1, h1, h2⟩
    · rw [hk]
      show (match am_stp E.2.1 E.2.2.1 E.2.2.2.1 E.2.2.2.2 i ls st M with
        | none => none
        | some (ps, i', ls', st', M') => am_if (am_all ps) (am_run am_code am_meth (f + 1) mi i' ls' st' M')) = _
      rw [h1]
      show am_if (am_all ps) _ = _
      rw [am_if_t hps]
      exact am_run_mono f _ _ _ _ _ _ h2
    · rw [hk]
      show (match am_rt E.2.1 (am_meth mi).2.2.2.2.1 st with
        | none => none
        | some (ps, v) => am_if (am_all ps) (some (v, M'))) = _
      rw [hrt]
      show am_if (am_all ps) _ = _
      rw [am_if_t hps]
    · rw [hk]
      show (if (st.take (am_meth (E.2.2.1.headD 0)).2.2.2.2.2.1).reverse.length = (am_meth (E.2.2.1.headD 0)).2.2.2.2.2.1 ∧ (am_arg (st.take (am_meth (E.2.2.1.headD 0)).2.2.2.2.2.1).reverse).length ≤ (am_meth (E.2.2.1.headD 0)).2.2.2.1 ∧ am_rcv (am_meth (E.2.2.1.headD 0)).2.2.2.2.2.2.1 (am_meth (E.2.2.1.headD 0)).2.2.2.2.2.2.2.1 (st.take (am_meth (E.2.2.1.headD 0)).2.2.2.2.2.1).reverse M = true ∧ am_cat (st.drop (am_meth (E.2.2.1.headD 0)).2.2.2.2.2.1) ≤ 8 then
        (match am_run am_code am_meth (f + 1) (E.2.2.1.headD 0) 0 (am_ent (st.take (am_meth (E.2.2.1.headD 0)).2.2.2.2.2.1).reverse (am_meth (E.2.2.1.headD 0)).2.2.2.1) [] M with
        | none => none
        | some (v1, M1) => am_run am_code am_meth (f + 1) mi (i + 1) ls (v1.toList ++ st.drop (am_meth (E.2.2.1.headD 0)).2.2.2.2.2.1) M1) else none) = _
      rw [if_pos hc, am_run_mono f _ _ _ _ _ _ h1]
      exact am_run_mono f _ _ _ _ _ _ h2
theorem am_run_up {f g mi i : Nat} {ls st : List Value} {M : am_M} {r : Option Value × am_M} (h : am_run am_code am_meth f mi i ls st M = some r) (hg : f ≤ g) : am_run am_code am_meth g mi i ls st M = some r := by
  induction hg with
  | refl => exact h
  | step _ ih => exact am_run_mono _ _ _ _ _ _ _ ih
noncomputable def am_sem (mi i : Nat) (ls st : List Value) (M : am_M) : Option (Option Value × am_M) := @dite _ (∃ (f : Nat) (r : Option Value × am_M), am_run am_code am_meth f mi i ls st M = some r) (Classical.propDecidable _) (fun h => some h.choose_spec.choose) (fun _ => none)
theorem am_sem_of {f mi i : Nat} {ls st : List Value} {M : am_M} {r : Option Value × am_M} (h : am_run am_code am_meth f mi i ls st M = some r) : am_sem mi i ls st M = some r := by
  unfold am_sem
  have hx : ∃ (f : Nat) (r : Option Value × am_M), am_run am_code am_meth f mi i ls st M = some r := ⟨f, r, h⟩
  rw [dif_pos hx]
  have h2 := hx.choose_spec.choose_spec
  have h3 := am_run_up h2 (Nat.le_max_left hx.choose f)
  have h4 := am_run_up h (Nat.le_max_right hx.choose f)
  exact h3.symm.trans h4
theorem am_sem_some {mi i : Nat} {ls st : List Value} {M : am_M} {r : Option Value × am_M} (h : am_sem mi i ls st M = some r) : ∃ f, am_run am_code am_meth f mi i ls st M = some r := by
  unfold am_sem at h
  split at h
  · rename_i hx
    have h2 := hx.choose_spec.choose_spec
    exact ⟨_, h2.trans h⟩
  · cases h
theorem am_sem_ext {mi i mi2 i2 : Nat} {ls st ls2 st2 : List Value} {M M2 : am_M} (h1 : ∀ f r, am_run am_code am_meth f mi i ls st M = some r → ∃ g, am_run am_code am_meth g mi2 i2 ls2 st2 M2 = some r) (h2 : ∀ f r, am_run am_code am_meth f mi2 i2 ls2 st2 M2 = some r → ∃ g, am_run am_code am_meth g mi i ls st M = some r) : am_sem mi i ls st M = am_sem mi2 i2 ls2 st2 M2 := by
  cases e1 : am_sem mi i ls st M with
  | some r =>
    obtain ⟨f, hf⟩ := am_sem_some e1
    obtain ⟨g, hg⟩ := h1 f r hf
    exact (am_sem_of hg).symm
  | none =>
    cases e2 : am_sem mi2 i2 ls2 st2 M2 with
    | none => rfl
    | some r =>
      obtain ⟨f, hf⟩ := am_sem_some e2
      obtain ⟨g, hg⟩ := h2 f r hf
      rw [am_sem_of hg] at e1
      cases e1
/-- a plain instruction -/
theorem am_sem_pl {mi i : Nat} {ls st : List Value} {M : am_M} {E : am_E} (hE : (am_code mi)[i]? = some E) (hk : am_kind E.2.1 E.2.2.1 = 0) {ps : List Prop} {i' : Nat} {ls' st' : List Value} {M' : am_M} (h : am_stp E.2.1 E.2.2.1 E.2.2.2.1 E.2.2.2.2 i ls st M = some (ps, i', ls', st', M')) : am_sem mi i ls st M = am_if (am_all ps) (am_sem mi i' ls' st' M') := by
  have hrun : ∀ f, am_run am_code am_meth (f + 1) mi i ls st M = am_if (am_all ps) (am_run am_code am_meth f mi i' ls' st' M') := by
    intro f
    rw [am_run, hE]
    dsimp only
    rw [hk]
    show (match am_stp E.2.1 E.2.2.1 E.2.2.2.1 E.2.2.2.2 i ls st M with
      | none => none
      | some (ps, i', ls', st', M') => am_if (am_all ps) (am_run am_code am_meth f mi i' ls' st' M')) = _
    rw [h]
  by_cases hp : am_all ps
  · rw [am_if_t hp]
    refine am_sem_ext (fun f r hf => ?_) (fun f r hf => ⟨f + 1, by rw [hrun, am_if_t hp]; exact hf⟩)
    match f, hf with
    | 0, hf => cases hf
    | f + 1, hf =>
      rw [hrun, am_if_t hp] at hf
      exact ⟨f, hf⟩
  · rw [am_if_f hp]
    cases e1 : am_sem mi i ls st M with
    | none => rfl
    | some r =>
      obtain ⟨f, hf⟩ := am_sem_some e1
      match f, hf with
      | 0, hf => cases hf
      | f + 1, hf =>
        rw [hrun, am_if_f hp] at hf
        cases hf
theorem am_sem_rt {mi i : Nat} {ls st : List Value} {M : am_M} {E : am_E} (hE : (am_code mi)[i]? = some E) (hk : am_kind E.2.1 E.2.2.1 = 1) {ps : List Prop} {v : Option Value} (h : am_rt E.2.1 (am_meth mi).2.2.2.2.1 st = some (ps, v)) : am_sem mi i ls st M = am_if (am_all ps) (some (v, M)) := by
  have hrun : ∀ f, am_run am_code am_meth (f + 1) mi i ls st M = am_if (am_all ps) (some (v, M)) := by
    intro f
    rw [am_run, hE]
    dsimp only
    rw [hk]
    show (match am_rt E.2.1 (am_meth mi).2.2.2.2.1 st with
      | none => none
      | some (ps, v) => am_if (am_all ps) (some (v, M))) = _
    rw [h]
  by_cases hp : am_all ps
  · rw [am_if_t hp]
    exact am_sem_of (f := 1) (by rw [hrun, am_if_t hp])
  · rw [am_if_f hp]
    cases e1 : am_sem mi i ls st M with
    | none => rfl
    | some r =>
      obtain ⟨f, hf⟩ := am_sem_some e1
      match f, hf with
      | 0, hf => cases hf
      | f + 1, hf =>
        rw [hrun, am_if_f hp] at hf
        cases hf
theorem am_sem_cl {mi i : Nat} {ls st : List Value} {M : am_M} {E : am_E} (hE : (am_code mi)[i]? = some E) (hk : am_kind E.2.1 E.2.2.1 = 2) (hc : (st.take (am_meth (E.2.2.1.headD 0)).2.2.2.2.2.1).reverse.length = (am_meth (E.2.2.1.headD 0)).2.2.2.2.2.1 ∧ (am_arg (st.take (am_meth (E.2.2.1.headD 0)).2.2.2.2.2.1).reverse).length ≤ (am_meth (E.2.2.1.headD 0)).2.2.2.1 ∧ am_rcv (am_meth (E.2.2.1.headD 0)).2.2.2.2.2.2.1 (am_meth (E.2.2.1.headD 0)).2.2.2.2.2.2.2.1 (st.take (am_meth (E.2.2.1.headD 0)).2.2.2.2.2.1).reverse M = true ∧ am_cat (st.drop (am_meth (E.2.2.1.headD 0)).2.2.2.2.2.1) ≤ 8) : am_sem mi i ls st M = (am_sem (E.2.2.1.headD 0) 0 (am_ent (st.take (am_meth (E.2.2.1.headD 0)).2.2.2.2.2.1).reverse (am_meth (E.2.2.1.headD 0)).2.2.2.1) [] M).bind (fun r => am_sem mi (i + 1) ls (r.1.toList ++ st.drop (am_meth (E.2.2.1.headD 0)).2.2.2.2.2.1) r.2) := by
  have hrun : ∀ f, am_run am_code am_meth (f + 1) mi i ls st M = (match am_run am_code am_meth f (E.2.2.1.headD 0) 0 (am_ent (st.take (am_meth (E.2.2.1.headD 0)).2.2.2.2.2.1).reverse (am_meth (E.2.2.1.headD 0)).2.2.2.1) [] M with
      | none => none
      | some (v1, M1) => am_run am_code am_meth f mi (i + 1) ls (v1.toList ++ st.drop (am_meth (E.2.2.1.headD 0)).2.2.2.2.2.1) M1) := by
    intro f
    rw [am_run, hE]
    dsimp only
    rw [hk]
    show (if (st.take (am_meth (E.2.2.1.headD 0)).2.2.2.2.2.1).reverse.length = (am_meth (E.2.2.1.headD 0)).2.2.2.2.2.1 ∧ (am_arg (st.take (am_meth (E.2.2.1.headD 0)).2.2.2.2.2.1).reverse).length ≤ (am_meth (E.2.2.1.headD 0)).2.2.2.1 ∧ am_rcv (am_meth (E.2.2.1.headD 0)).2.2.2.2.2.2.1 (am_meth (E.2.2.1.headD 0)).2.2.2.2.2.2.2.1 (st.take (am_meth (E.2.2.1.headD 0)).2.2.2.2.2.1).reverse M = true ∧ am_cat (st.drop (am_meth (E.2.2.1.headD 0)).2.2.2.2.2.1) ≤ 8 then _ else none) = _
    rw [if_pos hc]
    rfl
  cases e1 : am_sem (E.2.2.1.headD 0) 0 (am_ent (st.take (am_meth (E.2.2.1.headD 0)).2.2.2.2.2.1).reverse (am_meth (E.2.2.1.headD 0)).2.2.2.1) [] M with
  | none =>
    show am_sem mi i ls st M = none
    cases e2 : am_sem mi i ls st M with
    | none => rfl
    | some r =>
      obtain ⟨f, hf⟩ := am_sem_some e2
      match f, hf with
      | 0, hf => cases hf
      | f + 1, hf =>
        rw [hrun] at hf
        split at hf
        · cases hf
        · rename_i v1 M1 e3
          rw [am_sem_of e3] at e1
          cases e1
  | some q =>
    obtain ⟨v1, M1⟩ := q
    obtain ⟨g, hg⟩ := am_sem_some e1
    show am_sem mi i ls st M = am_sem mi (i + 1) ls (v1.toList ++ st.drop (am_meth (E.2.2.1.headD 0)).2.2.2.2.2.1) M1
    refine am_sem_ext (fun f r hf => ?_) (fun f r hf => ?_)
    · match f, hf with
      | 0, hf => cases hf
      | f + 1, hf =>
        rw [hrun] at hf
        split at hf
        · cases hf
        · rename_i v2 M2 e3
          have e4 := (am_sem_of e3).symm.trans e1
          cases e4
          exact ⟨f, hf⟩
    · refine ⟨(max f g) + 1, ?_⟩
      rw [hrun, am_run_up hg (Nat.le_max_right f g)]
      exact am_run_up hf (Nat.le_max_left f g)
/-- some instructions in a row, the last of which may branch -/
def am_go : List am_E → Nat → List Value → List Value → am_M → am_O
  | [], i, ls, st, M => some ([], i, ls, st, M)
  | E :: r, i, ls, st, M => match am_kind E.2.1 E.2.2.1 with
    | 0 => (match am_stp E.2.1 E.2.2.1 E.2.2.2.1 E.2.2.2.2 i ls st M with
      | none => none
      | some (ps, i', ls', st', M1) => match r with
        | [] => some (ps, i', ls', st', M1)
        | _ :: _ => if i' = i + 1 then (match am_go r (i + 1) ls' st' M1 with
          | none => none
          | some (qs, o) => some (ps ++ qs, o)) else none)
    | _ => none
theorem am_all_app (p q : List Prop) : am_all (p ++ q) ↔ am_all p ∧ am_all q := by
  induction p with
  | nil => simp [am_all]
  | cons a p ih =>
    cases p with
    | nil =>
      cases q with
      | nil => simp [am_all]
      | cons b q => simp [am_all]
    | cons b p =>
      show (a ∧ am_all (b :: p ++ q)) ↔ (a ∧ am_all (b :: p)) ∧ am_all q
      rw [ih, and_assoc]
theorem am_if_if {α : Type} (p q : Prop) (v : Option α) : am_if p (am_if q v) = am_if (p ∧ q) v := by
  by_cases hp : p
  · rw [am_if_t hp]
    by_cases hq : q
    · rw [am_if_t hq, am_if_t ⟨hp, hq⟩]
    · rw [am_if_f hq, am_if_f (fun h => hq h.2)]
  · rw [am_if_f hp, am_if_f (fun h => hp h.1)]
theorem am_sem_gl {mi : Nat} : ∀ (B : List am_E) (i : Nat) (ls st : List Value) (M : am_M) (ps : List Prop) (i' : Nat) (ls' st' : List Value) (M' : am_M), B <+: (am_code mi).drop i → am_go B i ls st M = some (ps, i', ls', st', M') → am_sem mi i ls st M = am_if (am_all ps) (am_sem mi i' ls' st' M')
  | [], i, ls, st, M, ps, i', ls', st', M', _, h => by
    cases h
    rw [am_if_t (p := am_all []) trivial]
  | E :: r, i, ls, st, M, ps, i', ls', st', M', hB, h => by
    obtain ⟨R, hR⟩ := hB
    have hE : (am_code mi)[i]? = some E := by
      have : ((am_code mi).drop i)[0]? = some E := by rw [← hR]; rfl
      rwa [List.getElem?_drop, Nat.add_zero] at this
    have hB2 : r <+: (am_code mi).drop (i + 1) := by
      refine ⟨R, ?_⟩
      have : ((am_code mi).drop i).drop 1 = r ++ R := by rw [← hR]; rfl
      rw [List.drop_drop] at this
      exact this.symm
    rw [am_go] at h
    have hk3 : am_kind E.2.1 E.2.2.1 = 0 ∨ am_kind E.2.1 E.2.2.1 = 1 ∨ am_kind E.2.1 E.2.2.1 = 2 := by
      unfold am_kind
      split <;> (try split) <;> simp
    rcases hk3 with hk | hk | hk
    · rw [hk] at h
      cases h1 : am_stp E.2.1 E.2.2.1 E.2.2.2.1 E.2.2.2.2 i ls st M with
      | none => rw [h1] at h; cases h
      | some o =>
        obtain ⟨ps1, i1, ls1, st1, M1⟩ := o
        rw [h1] at h
        rw [am_sem_pl hE hk h1]
        cases r with
        | nil => cases h; rfl
        | cons E2 r2 =>
          have h9 : (if i1 = i + 1 then (match am_go (E2 :: r2) (i + 1) ls1 st1 M1 with
            | none => none
            | some (qs, o) => some (ps1 ++ qs, o)) else none) = some (ps, i', ls', st', M') := h
          clear h
          split at h9
          · rename_i hi
            subst hi
            cases h2 : am_go (E2 :: r2) (i + 1) ls1 st1 M1 with
            | none => rw [h2] at h9; cases h9
            | some o2 =>
              obtain ⟨qs, i2, ls2, st2, M2⟩ := o2
              rw [h2] at h9
              cases h9
              rw [am_sem_gl (E2 :: r2) (i + 1) ls1 st1 M1 qs i' ls' st' M' hB2 h2, am_if_if]
              by_cases hp : am_all ps1 ∧ am_all qs
              · rw [am_if_t hp, am_if_t ((am_all_app _ _).mpr hp)]
              · rw [am_if_f hp, am_if_f (fun z => hp ((am_all_app _ _).mp z))]
          · cases h9
    · rw [hk] at h; cases h
    · rw [hk] at h; cases h
def am_blk (mi i n : Nat) : List am_E := ((am_code mi).drop i).take n
theorem am_sem_go {mi i : Nat} (n : Nat) {ls st : List Value} {M : am_M} {ps : List Prop} {i' : Nat} {ls' st' : List Value} {M' : am_M} (h : am_go (am_blk mi i n) i ls st M = some (ps, i', ls', st', M')) : am_sem mi i ls st M = am_if (am_all ps) (am_sem mi i' ls' st' M') :=
  am_sem_gl _ i ls st M ps i' ls' st' M' (List.take_prefix _ _) h
theorem am_sem_g0 {mi i : Nat} (n : Nat) {ls st : List Value} {M : am_M} {i' : Nat} {ls' st' : List Value} {M' : am_M} (h : am_go (am_blk mi i n) i ls st M = some ([], i', ls', st', M')) : am_sem mi i ls st M = am_sem mi i' ls' st' M' := by
  rw [am_sem_go n h, am_if_t (p := am_all []) trivial]
theorem am_sem_bif {mi a b : Nat} {p : Prop} [Decidable p] {ls st : List Value} {M : am_M} : am_sem mi (bif decide p then a else b) ls st M = if p then am_sem mi a ls st M else am_sem mi b ls st M := by
  by_cases h : p
  · rw [decide_eq_true h, if_pos h]
    rfl
  · rw [decide_eq_false h, if_neg h]
    rfl
theorem am_sem_bnf {mi a b : Nat} {p : Prop} [Decidable p] {ls st : List Value} {M : am_M} : am_sem mi (bif !decide p then a else b) ls st M = if p then am_sem mi b ls st M else am_sem mi a ls st M := by
  by_cases h : p
  · rw [decide_eq_true h, if_pos h]
    rfl
  · rw [decide_eq_false h, if_neg h]
    rfl
