/-! ===== the script stays as it is; of what kind an answer is ===== -/
def Zs (L : Nat) (s : Nat → Int32) (M : am_M) : Prop := M.1[0]? = some (100, L, []) ∧ M.2.1 0 = s
theorem Zs.k {L : Nat} {s : Nat → Int32} {M : am_M} (hz : Zs L s M) {k t n : Nat} {rs : List Nat} (h : M.1[k]? = some (t, n, rs)) (ht : t ≠ 100 ∨ (rs.length = n ∧ 0 < n)) : 0 ≠ k := by
  intro e
  subst e
  have e := hz.1.symm.trans h
  cases e
  rcases ht with ht | ht
  · exact ht rfl
  · have := ht.1
    rw [List.length_nil] at this
    omega
theorem Zs.u {L : Nat} {s : Nat → Int32} {M : am_M} (hz : Zs L s M) {k j : Nat} {y : Int32} (h : 0 ≠ k) : Zs L s (M.1, am_u M.2.1 k j y, M.2.2) := ⟨hz.1, (funext fun b => by simp [am_u, h]).trans hz.2⟩
theorem Zs.j {L : Nat} {s : Nat → Int32} {M : am_M} (hz : Zs L s M) (J : Nat → Nat → Int64) : Zs L s (M.1, M.2.1, J) := hz
theorem Zs.s {L : Nat} {s : Nat → Int32} {M : am_M} (hz : Zs L s M) {k : Nat} (h : 0 ≠ k) (e : Nat × Nat × List Nat) : Zs L s (M.1.set k e, M.2.1, M.2.2) := ⟨by
  show (M.1.set k e)[0]? = _
  rw [List.getElem?_set_ne (fun q => h q.symm)]
  exact hz.1, hz.2⟩
theorem Zs.n {L : Nat} {s : Nat → Int32} {M : am_M} (hz : Zs L s M) (e : Nat × Nat × List Nat) (J : Nat → Nat → Int64) : Zs L s (M.1 ++ [e], am_z M.2.1 M.1.length 0, J) := by
  have hl : 0 < M.1.length := (List.getElem?_eq_some_iff.mp hz.1).1
  refine ⟨?_, (funext fun b => ?_).trans hz.2⟩
  · show (M.1 ++ [e])[0]? = _
    rw [List.getElem?_append_left hl]
    exact hz.1
  · show am_z M.2.1 M.1.length 0 0 b = _
    unfold am_z
    rw [if_neg (by omega)]
theorem am_stp_Z {L : Nat} {s : Nat → Int32} {ins : Instr} {x : List Nat} {c : Int32} {d : Int64} {i : Nat} {ls st : List Value} {M : am_M} {ps : List Prop} {i' : Nat} {ls' st' : List Value} {M' : am_M} (h : am_stp ins x c d i ls st M = some (ps, i', ls', st', M')) (hz : Zs L s M) : Zs L s M' := by
  unfold am_stp at h
  split at h
  all_goals first
    | (obtain ⟨-, -, -, -, rfl⟩ := am_pu_i h; exact hz)
    | (obtain ⟨_, -, -, -, -, -, rfl⟩ := am_ild_i h; exact hz)
    | (obtain ⟨_, -, -, -, -, -, rfl⟩ := am_ald_i h; exact hz)
    | (obtain ⟨_, -, -, -, -, -, -, rfl⟩ := am_lld_i h; exact hz)
    | (obtain ⟨_, _, -, -, -, -, -, -, rfl⟩ := am_ist_i h; exact hz)
    | (obtain ⟨_, _, -, -, -, -, -, -, rfl⟩ := am_ast_i h; exact hz)
    | (obtain ⟨_, _, -, -, -, -, -, -, rfl⟩ := am_lst_i h; exact hz)
    | (obtain ⟨_, -, -, -, -, -, rfl⟩ := am_inc_i h; exact hz)
    | (obtain ⟨_, _, _, -, -, -, -, -, rfl⟩ := am_i2_i h; exact hz)
    | (obtain ⟨_, _, _, -, -, -, -, -, rfl⟩ := am_i2d_i h; exact hz)
    | (obtain ⟨_, _, _, -, -, -, -, -, rfl⟩ := am_l2_i h; exact hz)
    | (obtain ⟨_, _, _, -, -, -, -, -, rfl⟩ := am_l2d_i h; exact hz)
    | (obtain ⟨_, _, _, -, -, -, -, -, rfl⟩ := am_ls_i h; exact hz)
    | (obtain ⟨_, _, -, -, -, -, -, rfl⟩ := am_b1_i h; exact hz)
    | (obtain ⟨_, _, _, -, -, -, -, -, rfl⟩ := am_b2_i h; exact hz)
    | (obtain ⟨_, _, _, _, _, -, -, -, -, -, -, -, -, rfl⟩ := am_get_i h; exact hz)
    | (obtain ⟨_, _, _, _, _, _, -, -, -, -, -, -, -, rfl⟩ := am_iald_i h; exact hz)
    | (obtain ⟨_, _, _, _, _, -, -, -, -, -, -, rfl⟩ := am_lald_i h; exact hz)
    | (obtain ⟨_, _, _, _, _, _, -, hk, -, -, -, -, rfl⟩ := am_iast_i h; exact hz.u (hz.k hk (Or.inl (by decide))))
    | (obtain ⟨_, _, _, _, _, _, -, hk, -, -, -, -, rfl⟩ := am_zast_i h; exact hz.u (hz.k hk (Or.inl (by decide))))
    | (obtain ⟨_, _, _, _, _, _, -, hk, -, -, -, -, rfl⟩ := am_last_i h; exact hz.j _)
    | (obtain ⟨_, _, _, _, _, -, -, -, -, -, -, -, rfl⟩ := am_len_i h; exact hz)
    | (obtain ⟨_, _, -, -, -, -, -, rfl⟩ := am_newa_i h; exact hz.n _ _)
    | (obtain ⟨_, _, -, -, -, -, -, -, rfl⟩ := am_dup_i h; exact hz)
    | (obtain ⟨_, _, _, -, -, -, -, -, rfl⟩ := am_dup2_i h; exact hz)
    | (obtain ⟨_, _, -, -, -, -, -, rfl⟩ := am_pop_i h; exact hz)
    | (obtain ⟨_, -, -, -, -, -, rfl⟩ := am_oini_i h; exact hz)
    | (obtain ⟨_, _, _, _, _, -, hk, hj, -, -, -, hc⟩ := am_put_i h
       have k0 := hz.k hk (Or.inr ⟨hj.2, by omega⟩)
       rcases hc with ⟨_, -, -, rfl⟩ | ⟨_, -, -, -, rfl⟩ | ⟨_, -, -, -, rfl⟩
       · exact hz.u k0
       · exact hz.j _
       · exact hz.s k0 _)
    | (unfold am_new at h; cases h; exact hz.n _ _)
    | (cases h; exact hz)
    | (cases h; done)
    | (split at h
       · cases h
         exact hz
       · cases h)
theorem am_run_Z {L : Nat} {s : Nat → Int32} : ∀ (f mi i : Nat) (ls st : List Value) (M : am_M) (v : Option Value) (M' : am_M), am_run am_code am_meth f mi i ls st M = some (v, M') → Zs L s M → Zs L s M'
  | 0, _, _, _, _, _, _, _, h, _ => by cases h
  | f + 1, mi, i, ls, st, M, v, M', h, hz => by
    obtain ⟨E, hE, hc⟩ := am_run_i h
    rcases hc with ⟨hk, ps, i', ls', st', M1, h1, hps, h2⟩ | ⟨hk, ps, hrt, hps, rfl⟩ | ⟨hk, hc, v1, M1, h1, h2⟩
    · exact am_run_Z f _ _ _ _ _ _ _ h2 (am_stp_Z h1 hz)
    · exact hz
    · exact am_run_Z f _ _ _ _ _ _ _ h2 (am_run_Z f _ _ _ _ _ _ _ h1 hz)
def am_vk (ret : Option FieldType) (v : Option Value) : Prop := match ret with
  | some .int => ∃ x, v = some (.int x)
  | some .long => ∃ x, v = some (.long x)
  | _ => True
theorem am_run_V : ∀ (f mi i : Nat) (ls st : List Value) (M : am_M) (v : Option Value) (M' : am_M), am_run am_code am_meth f mi i ls st M = some (v, M') → am_vk (am_meth mi).2.2.2.2.1 v
  | 0, _, _, _, _, _, _, _, h => by cases h
  | f + 1, mi, i, ls, st, M, v, M', h => by
    obtain ⟨E, hE, hc⟩ := am_run_i h
    rcases hc with ⟨hk, ps, i', ls', st', M1, h1, hps, h2⟩ | ⟨hk, ps, hrt, hps, rfl⟩ | ⟨hk, hc, v1, M1, h1, h2⟩
    · exact am_run_V f _ _ _ _ _ _ _ h2
    · rcases am_rt_i hrt with ⟨-, hr, -, -⟩ | ⟨-, x, -, hv, hr | ⟨hr, -⟩⟩ | ⟨-, x, -, hv, hr⟩ | ⟨-, x, n, -, -, hr⟩
      · rw [hr]
        trivial
      · rw [hr]
        exact ⟨x, hv⟩
      · rw [hr]
        trivial
      · rw [hr]
        exact ⟨x, hv⟩
      · rw [hr]
        trivial
    · exact am_run_V f _ _ _ _ _ _ _ h2
/-- the script behind a call -/
theorem am_keep {L : Nat} {I I' : Nat → Nat → Int32} {J J' : Nat → Nat → Int64} {mi : Nat} {ls : List Value} {v : Option Value} (h : am_sem mi 0 ls [] (am_T L, I, J) = some (v, (am_T L, I', J'))) : I' 0 = I 0 := by
  obtain ⟨f, hf⟩ := am_sem_some h
  exact (am_run_Z (L := L) (s := I 0) f _ _ _ _ _ _ _ hf ⟨rfl, rfl⟩).2
theorem am_int {mi : Nat} (hr : (am_meth mi).2.2.2.2.1 = some .int) {ls st : List Value} {M M' : am_M} {v : Option Value} (h : am_sem mi 0 ls st M = some (v, M')) : ∃ x, v = some (.int x) := by
  obtain ⟨f, hf⟩ := am_sem_some h
  have := am_run_V f _ _ _ _ _ _ _ hf
  rw [hr] at this
  exact this
theorem am_lng {mi : Nat} (hr : (am_meth mi).2.2.2.2.1 = some .long) {ls st : List Value} {M M' : am_M} {v : Option Value} (h : am_sem mi 0 ls st M = some (v, M')) : ∃ x, v = some (.long x) := by
  obtain ⟨f, hf⟩ := am_sem_some h
  have := am_run_V f _ _ _ _ _ _ _ hf
  rw [hr] at this
  exact this
