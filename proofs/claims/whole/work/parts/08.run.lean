/-! ===== A RUN of the little machine is one of the big one ===== -/
def am_le (M M' : am_M) : Prop := M.1.length ≤ M'.1.length ∧ am_sz M ≤ am_sz M'
theorem am_le.rf {M : am_M} : am_le M M := ⟨Nat.le_refl _, Nat.le_refl _⟩
theorem am_le.tr {A B C : am_M} (h : am_le A B) (h2 : am_le B C) : am_le A C := ⟨Nat.le_trans h.1 h2.1, Nat.le_trans h.2 h2.2⟩
theorem am_le_push (M : am_M) (t : Nat × Nat × List Nat) (I : Nat → Nat → Int32) (J : Nat → Nat → Int64) : am_le M (M.1 ++ [t], I, J) := ⟨by simp, by rw [am_sz_push]; omega⟩
set_option maxHeartbeats 4000000 in
theorem am_stp_le {ins : Instr} {x : List Nat} {c : Int32} {d : Int64} {i : Nat} {ls st : List Value} {M : am_M} {ps : List Prop} {i' : Nat} {ls' st' : List Value} {M' : am_M} (h : am_stp ins x c d i ls st M = some (ps, i', ls', st', M')) : am_le M M' := by
  cases ins with
  | iconst q =>
    obtain ⟨-, -, -, -, rfl⟩ := am_pu_i h
    exact ⟨Nat.le_refl _, Nat.le_refl _⟩
  | bipush q =>
    obtain ⟨-, -, -, -, rfl⟩ := am_pu_i h
    exact ⟨Nat.le_refl _, Nat.le_refl _⟩
  | sipush q =>
    obtain ⟨-, -, -, -, rfl⟩ := am_pu_i h
    exact ⟨Nat.le_refl _, Nat.le_refl _⟩
  | ldc q =>
    obtain ⟨-, -, -, -, rfl⟩ := am_pu_i h
    exact ⟨Nat.le_refl _, Nat.le_refl _⟩
  | ldc_w q =>
    obtain ⟨-, -, -, -, rfl⟩ := am_pu_i h
    exact ⟨Nat.le_refl _, Nat.le_refl _⟩
  | lconst q =>
    obtain ⟨-, -, -, -, rfl⟩ := am_pu_i h
    exact ⟨Nat.le_refl _, Nat.le_refl _⟩
  | ldc2_w q =>
    obtain ⟨-, -, -, -, rfl⟩ := am_pu_i h
    exact ⟨Nat.le_refl _, Nat.le_refl _⟩
  | iload_n q =>
    obtain ⟨z0, -, -, -, -, -, rfl⟩ := am_ild_i h
    exact ⟨Nat.le_refl _, Nat.le_refl _⟩
  | iload q =>
    obtain ⟨z0, -, -, -, -, -, rfl⟩ := am_ild_i h
    exact ⟨Nat.le_refl _, Nat.le_refl _⟩
  | aload_n q =>
    obtain ⟨z0, -, -, -, -, -, rfl⟩ := am_ald_i h
    exact ⟨Nat.le_refl _, Nat.le_refl _⟩
  | lload_n q =>
    obtain ⟨z0, -, -, -, -, -, -, rfl⟩ := am_lld_i h
    exact ⟨Nat.le_refl _, Nat.le_refl _⟩
  | lload q =>
    obtain ⟨z0, -, -, -, -, -, -, rfl⟩ := am_lld_i h
    exact ⟨Nat.le_refl _, Nat.le_refl _⟩
  | istore_n q =>
    obtain ⟨z0, z1, -, -, -, -, -, -, rfl⟩ := am_ist_i h
    exact ⟨Nat.le_refl _, Nat.le_refl _⟩
  | istore q =>
    obtain ⟨z0, z1, -, -, -, -, -, -, rfl⟩ := am_ist_i h
    exact ⟨Nat.le_refl _, Nat.le_refl _⟩
  | astore_n q =>
    obtain ⟨z0, z1, -, -, -, -, -, -, rfl⟩ := am_ast_i h
    exact ⟨Nat.le_refl _, Nat.le_refl _⟩
  | lstore_n q =>
    obtain ⟨z0, z1, -, -, -, -, -, -, rfl⟩ := am_lst_i h
    exact ⟨Nat.le_refl _, Nat.le_refl _⟩
  | lstore q =>
    obtain ⟨z0, z1, -, -, -, -, -, -, rfl⟩ := am_lst_i h
    exact ⟨Nat.le_refl _, Nat.le_refl _⟩
  | iinc q n =>
    obtain ⟨z0, -, -, -, -, -, rfl⟩ := am_inc_i h
    exact ⟨Nat.le_refl _, Nat.le_refl _⟩
  | iadd =>
    obtain ⟨z0, z1, z2, -, -, -, -, -, rfl⟩ := am_i2_i h
    exact ⟨Nat.le_refl _, Nat.le_refl _⟩
  | isub =>
    obtain ⟨z0, z1, z2, -, -, -, -, -, rfl⟩ := am_i2_i h
    exact ⟨Nat.le_refl _, Nat.le_refl _⟩
  | imul =>
    obtain ⟨z0, z1, z2, -, -, -, -, -, rfl⟩ := am_i2_i h
    exact ⟨Nat.le_refl _, Nat.le_refl _⟩
  | iand =>
    obtain ⟨z0, z1, z2, -, -, -, -, -, rfl⟩ := am_i2_i h
    exact ⟨Nat.le_refl _, Nat.le_refl _⟩
  | ior =>
    obtain ⟨z0, z1, z2, -, -, -, -, -, rfl⟩ := am_i2_i h
    exact ⟨Nat.le_refl _, Nat.le_refl _⟩
  | ixor =>
    obtain ⟨z0, z1, z2, -, -, -, -, -, rfl⟩ := am_i2_i h
    exact ⟨Nat.le_refl _, Nat.le_refl _⟩
  | ishl =>
    obtain ⟨z0, z1, z2, -, -, -, -, -, rfl⟩ := am_i2_i h
    exact ⟨Nat.le_refl _, Nat.le_refl _⟩
  | ishr =>
    obtain ⟨z0, z1, z2, -, -, -, -, -, rfl⟩ := am_i2_i h
    exact ⟨Nat.le_refl _, Nat.le_refl _⟩
  | iushr =>
    obtain ⟨z0, z1, z2, -, -, -, -, -, rfl⟩ := am_i2_i h
    exact ⟨Nat.le_refl _, Nat.le_refl _⟩
  | idiv =>
    obtain ⟨z0, z1, z2, -, -, -, -, -, rfl⟩ := am_i2d_i h
    exact ⟨Nat.le_refl _, Nat.le_refl _⟩
  | irem =>
    obtain ⟨z0, z1, z2, -, -, -, -, -, rfl⟩ := am_i2d_i h
    exact ⟨Nat.le_refl _, Nat.le_refl _⟩
  | ladd =>
    obtain ⟨z0, z1, z2, -, -, -, -, -, rfl⟩ := am_l2_i h
    exact ⟨Nat.le_refl _, Nat.le_refl _⟩
  | lsub =>
    obtain ⟨z0, z1, z2, -, -, -, -, -, rfl⟩ := am_l2_i h
    exact ⟨Nat.le_refl _, Nat.le_refl _⟩
  | land =>
    obtain ⟨z0, z1, z2, -, -, -, -, -, rfl⟩ := am_l2_i h
    exact ⟨Nat.le_refl _, Nat.le_refl _⟩
  | lor =>
    obtain ⟨z0, z1, z2, -, -, -, -, -, rfl⟩ := am_l2_i h
    exact ⟨Nat.le_refl _, Nat.le_refl _⟩
  | ldiv =>
    obtain ⟨z0, z1, z2, -, -, -, -, -, rfl⟩ := am_l2d_i h
    exact ⟨Nat.le_refl _, Nat.le_refl _⟩
  | lrem =>
    obtain ⟨z0, z1, z2, -, -, -, -, -, rfl⟩ := am_l2d_i h
    exact ⟨Nat.le_refl _, Nat.le_refl _⟩
  | lshl =>
    obtain ⟨z0, z1, z2, -, -, -, -, -, rfl⟩ := am_ls_i h
    exact ⟨Nat.le_refl _, Nat.le_refl _⟩
  | lshr =>
    obtain ⟨z0, z1, z2, -, -, -, -, -, rfl⟩ := am_ls_i h
    exact ⟨Nat.le_refl _, Nat.le_refl _⟩
  | dup =>
    obtain ⟨z0, z1, -, -, -, -, -, -, rfl⟩ := am_dup_i h
    exact ⟨Nat.le_refl _, Nat.le_refl _⟩
  | dup2 =>
    obtain ⟨z0, z1, z2, -, -, -, -, -, rfl⟩ := am_dup2_i h
    exact ⟨Nat.le_refl _, Nat.le_refl _⟩
  | pop =>
    obtain ⟨z0, z1, -, -, -, -, -, rfl⟩ := am_pop_i h
    exact ⟨Nat.le_refl _, Nat.le_refl _⟩
  | getfield q =>
    obtain ⟨z0, z1, z2, z3, z4, -, -, -, -, -, -, -, -, rfl⟩ := am_get_i h
    exact ⟨Nat.le_refl _, Nat.le_refl _⟩
  | putfield q =>
    obtain ⟨v, k, n, rs, r, -, e1, ⟨-, -⟩, -, -, -, hc⟩ := am_put_i (show am_put (x.getD 0 0) (x.getD 1 0) i ls st M = _ from h)
    rcases hc with ⟨y, -, -, rfl⟩ | ⟨y, -, -, -, rfl⟩ | ⟨y, -, -, -, rfl⟩
    · exact ⟨Nat.le_refl _, Nat.le_refl _⟩
    · exact ⟨Nat.le_refl _, Nat.le_refl _⟩
    · exact ⟨by simp, by rw [am_sz_set M k _ (x.getD 0 0 + 3, n, rs.set (x.getD 1 0) (y + 1)) e1 rfl]; exact Nat.le_refl _⟩
  | iaload =>
    obtain ⟨z0, z1, z2, z3, z4, z5, -, -, -, -, -, -, -, rfl⟩ := am_iald_i h
    exact ⟨Nat.le_refl _, Nat.le_refl _⟩
  | baload =>
    obtain ⟨z0, z1, z2, z3, z4, z5, -, -, -, -, -, -, -, rfl⟩ := am_iald_i h
    exact ⟨Nat.le_refl _, Nat.le_refl _⟩
  | laload =>
    obtain ⟨z0, z1, z2, z3, z4, -, -, -, -, -, -, rfl⟩ := am_lald_i h
    exact ⟨Nat.le_refl _, Nat.le_refl _⟩
  | iastore =>
    obtain ⟨z0, z1, z2, z3, z4, z5, -, -, -, -, -, -, rfl⟩ := am_iast_i h
    exact ⟨Nat.le_refl _, Nat.le_refl _⟩
  | bastore =>
    obtain ⟨z0, z1, z2, z3, z4, z5, -, -, -, -, -, -, rfl⟩ := am_zast_i h
    exact ⟨Nat.le_refl _, Nat.le_refl _⟩
  | lastore =>
    obtain ⟨z0, z1, z2, z3, z4, z5, -, -, -, -, -, -, rfl⟩ := am_last_i h
    exact ⟨Nat.le_refl _, Nat.le_refl _⟩
  | arraylength =>
    obtain ⟨z0, z1, z2, z3, z4, -, -, -, -, -, -, -, rfl⟩ := am_len_i h
    exact ⟨Nat.le_refl _, Nat.le_refl _⟩
  | invokespecial q =>
    obtain ⟨z0, -, -, -, -, -, rfl⟩ := am_oini_i h
    exact ⟨Nat.le_refl _, Nat.le_refl _⟩
  | lcmp =>
    simp only [am_stp] at h
    split at h
    · cases h
      exact am_le.rf
    · cases h
  | i2l =>
    simp only [am_stp] at h
    split at h
    · cases h
      exact am_le.rf
    · cases h
  | l2i =>
    simp only [am_stp] at h
    split at h
    · cases h
      exact am_le.rf
    · cases h
  | goto off =>
    have h : some (([] : List Prop), x.headD 0, ls, st, M) = _ := h
    cases h
    exact am_le.rf
  | ifCond cond off =>
    cases cond <;> (obtain ⟨z0, z1, -, -, -, -, -, rfl⟩ := am_b1_i h; exact am_le.rf)
  | if_icmp cond off =>
    cases cond <;> (obtain ⟨z0, z1, z2, -, -, -, -, -, rfl⟩ := am_b2_i h; exact am_le.rf)
  | tableswitch dflt lo hi offs =>
    simp only [am_stp] at h
    split at h
    · cases h
      exact am_le.rf
    · cases h
  | lookupswitch dflt prs =>
    simp only [am_stp] at h
    split at h
    · cases h
      exact am_le.rf
    · cases h
  | new q =>
    have h : am_new (x.getD 0 0) (x.getD 1 0) i ls st M = _ := h
    unfold am_new at h
    cases h
    exact am_le_push _ _ _ _
  | newarray ty =>
    cases ty with
    | int =>
      obtain ⟨n, r, -, -, -, -, -, rfl⟩ := am_newa_i (show am_newa 0 i ls st M = _ from h)
      exact am_le_push _ _ _ _
    | long =>
      obtain ⟨n, r, -, -, -, -, -, rfl⟩ := am_newa_i (show am_newa 1 i ls st M = _ from h)
      exact am_le_push _ _ _ _
    | boolean =>
      obtain ⟨n, r, -, -, -, -, -, rfl⟩ := am_newa_i (show am_newa 2 i ls st M = _ from h)
      exact am_le_push _ _ _ _
    | _ => cases h
  | _ => cases h
/-- what a run comes to, an instruction at a time -/
theorem am_run_i {CT : Nat → List am_E} {YT : Nat → am_Y} {f mi i : Nat} {ls st : List Value} {M : am_M} {v : Option Value} {M' : am_M} (h : am_run CT YT (f + 1) mi i ls st M = some (v, M')) : ∃ E, (CT mi)[i]? = some E ∧
    ((am_kind E.2.1 E.2.2.1 = 0 ∧ ∃ ps i' ls' st' M1, am_stp E.2.1 E.2.2.1 E.2.2.2.1 E.2.2.2.2 i ls st M = some (ps, i', ls', st', M1) ∧ am_all ps ∧ am_run CT YT f mi i' ls' st' M1 = some (v, M')) ∨
     (am_kind E.2.1 E.2.2.1 = 1 ∧ ∃ ps, am_rt E.2.1 (YT mi).2.2.2.2.1 st = some (ps, v) ∧ am_all ps ∧ M' = M) ∨
     (am_kind E.2.1 E.2.2.1 = 2 ∧ ((st.take (YT (E.2.2.1.headD 0)).2.2.2.2.2.1).reverse.length = (YT (E.2.2.1.headD 0)).2.2.2.2.2.1 ∧ (am_arg (st.take (YT (E.2.2.1.headD 0)).2.2.2.2.2.1).reverse).length ≤ (YT (E.2.2.1.headD 0)).2.2.2.1 ∧ am_rcv (YT (E.2.2.1.headD 0)).2.2.2.2.2.2.1 (YT (E.2.2.1.headD 0)).2.2.2.2.2.2.2.1 (st.take (YT (E.2.2.1.headD 0)).2.2.2.2.2.1).reverse M = true ∧ am_cat (st.drop (YT (E.2.2.1.headD 0)).2.2.2.2.2.1) ≤ 8) ∧ ∃ v1 M1, am_run CT YT f (E.2.2.1.headD 0) 0 (am_ent (st.take (YT (E.2.2.1.headD 0)).2.2.2.2.2.1).reverse (YT (E.2.2.1.headD 0)).2.2.2.1) [] M = some (v1, M1) ∧ am_run CT YT f mi (i + 1) ls (v1.toList ++ st.drop (YT (E.2.2.1.headD 0)).2.2.2.2.2.1) M1 = some (v, M'))) := by
  rw [am_run] at h
  cases hE : (CT mi)[i]? with
  | none => rw [hE] at h; cases h
  | some E =>
    rw [hE] at h
    refine ⟨E, rfl, ?_⟩
    dsimp only at h
    have hk3 : am_kind E.2.1 E.2.2.1 = 0 ∨ am_kind E.2.1 E.2.2.1 = 1 ∨ am_kind E.2.1 E.2.2.1 = 2 := by
      unfold am_kind
      split <;> (try split) <;> simp
    rcases hk3 with hk | hk | hk
    · left
      refine ⟨hk, ?_⟩
      rw [hk] at h
      have h : (match am_stp E.2.1 E.2.2.1 E.2.2.2.1 E.2.2.2.2 i ls st M with
        | none => none
        | some (ps, i', ls', st', M') => am_if (am_all ps) (am_run CT YT f mi i' ls' st' M')) = some (v, M') := h
      split at h
      · cases h
      · rename_i e
        obtain ⟨h1, h2⟩ := am_if_s h
        exact ⟨_, _, _, _, _, e, h1, h2⟩
    · right; left
      refine ⟨hk, ?_⟩
      rw [hk] at h
      have h : (match am_rt E.2.1 (YT mi).2.2.2.2.1 st with
        | none => none
        | some (ps, v) => am_if (am_all ps) (some (v, M))) = some (v, M') := h
      split at h
      · cases h
      · rename_i e
        obtain ⟨h1, h2⟩ := am_if_s h
        cases h2
        exact ⟨_, e, h1, rfl⟩
    · right; right
      refine ⟨hk, ?_⟩
      rw [hk] at h
      have h : (if (st.take (YT (E.2.2.1.headD 0)).2.2.2.2.2.1).reverse.length = (YT (E.2.2.1.headD 0)).2.2.2.2.2.1 ∧ (am_arg (st.take (YT (E.2.2.1.headD 0)).2.2.2.2.2.1).reverse).length ≤ (YT (E.2.2.1.headD 0)).2.2.2.1 ∧ am_rcv (YT (E.2.2.1.headD 0)).2.2.2.2.2.2.1 (YT (E.2.2.1.headD 0)).2.2.2.2.2.2.2.1 (st.take (YT (E.2.2.1.headD 0)).2.2.2.2.2.1).reverse M = true ∧ am_cat (st.drop (YT (E.2.2.1.headD 0)).2.2.2.2.2.1) ≤ 8 then
        (match am_run CT YT f (E.2.2.1.headD 0) 0 (am_ent (st.take (YT (E.2.2.1.headD 0)).2.2.2.2.2.1).reverse (YT (E.2.2.1.headD 0)).2.2.2.1) [] M with
        | none => none
        | some (v1, M1) => am_run CT YT f mi (i + 1) ls (v1.toList ++ st.drop (YT (E.2.2.1.headD 0)).2.2.2.2.2.1) M1) else none) = some (v, M') := h
      split at h
      · rename_i hc
        refine ⟨hc, ?_⟩
        split at h
        · cases h
        · rename_i e
          exact ⟨_, _, e, h⟩
      · cases h
theorem am_run_le (CT : Nat → List am_E) (YT : Nat → am_Y) : ∀ (f mi i : Nat) (ls st : List Value) (M : am_M) (v : Option Value) (M' : am_M), am_run CT YT f mi i ls st M = some (v, M') → am_le M M'
  | 0, _, _, _, _, _, _, _, h => by cases h
  | f + 1, mi, i, ls, st, M, v, M', h => by
    obtain ⟨E, -, h⟩ := am_run_i h
    rcases h with ⟨-, ps, i', ls', st', M1, h1, -, h2⟩ | ⟨-, ps, -, -, rfl⟩ | ⟨-, -, v1, M1, h1, h2⟩
    · exact (am_stp_le h1).tr (am_run_le CT YT f _ _ _ _ _ _ _ h2)
    · exact am_le.rf
    · exact (am_run_le CT YT f _ _ _ _ _ _ _ h1).tr (am_run_le CT YT f _ _ _ _ _ _ _ h2)
/-- the world at another state with the same tables -/
theorem am_Wd.moved {D : va_G} {sb b Lx : Nat} {M : am_M} {u U : State} {H : Heap} (hvm : u.vm.Alike U.vm) (h : am_Wd D sb b Lx M u H) : am_Wd D sb b Lx M U H := by
  obtain ⟨cA, h1, h2, h3, h4, h5⟩ := h
  refine ⟨cA, h1, h2, h3, h4.moved hvm, fun k t hk ht => ?_⟩
  obtain ⟨g1, g2, g3⟩ := h5 k t hk ht
  refine ⟨g1, g2, ?_⟩
  unfold am_KA at g3 ⊢
  split at g3
  · exact ⟨arrOfT_moved hvm g3.1, g3.2.moved hvm⟩
  · exact ⟨arrOfT_moved hvm g3.1, g3.2.moved hvm⟩
  · exact ⟨arrOfT_moved hvm g3.1, g3.2.moved hvm⟩
  · trivial
theorem am_nest_w {s U : State} (hW : s.WarmedH U.vm) (h : ∀ w ∈ am_nest, va_Nw w s) : ∀ w ∈ am_nest, va_Nw w U := by
  intro w hw
  have h0 := h w hw
  simp only [am_nest, List.mem_cons, List.not_mem_nil, or_false] at hw
  rcases hw with rfl | rfl | rfl | rfl | rfl | rfl | rfl | rfl <;> exact va_Nw.warmM hW h0
theorem am_nest_s {s U : State} (hv : s.vm = U.vm) (h : ∀ w ∈ am_nest, va_Nw w s) : ∀ w ∈ am_nest, va_Nw w U := by
  intro w hw
  have h0 := h w hw
  simp only [am_nest, List.mem_cons, List.not_mem_nil, or_false] at hw
  rcases hw with rfl | rfl | rfl | rfl | rfl | rfl | rfl | rfl <;> exact va_Nw.same rfl hv h0
/-- a method's beginning: the world -/
def am_B (D : va_G) (sb b Lx : Nat) (M : am_M) (U : State) : Prop := am_Wd D sb b Lx M U U.heap ∧ va_K D vwCl [] U ∧ ∀ w ∈ am_nest, va_Nw w U
theorem am_blind {D : va_G} {sb b Lx : Nat} {M : am_M} {av : List Value} : FrameBlind (va_Pc av (am_B D sb b Lx M)) := fun a U g mk q =>
  ⟨q.1, am_Wd.moved (u := U) (U := U.calling g mk a) (Vm.Alike.refl U.vm) q.2.1, va_K.moved (u := U) (U := U.calling g mk a) (Vm.Alike.refl U.vm) q.2.2.1, am_nest_s (s := U) (U := U.calling g mk a) rfl q.2.2.2⟩
/-- its end -/
def am_Qm (D : va_G) (sb b Lx : Nat) (v : Option Value) (M' : am_M) : Array Value → State → Outcome → State → Prop := fun _ st oc t => (oc = .returned (v.map (am_cv sb b)) ∧ am_Wd D sb b Lx M' t t.heap) ∧ va_F (am_A b) st t
def am_ws (mi : Nat) : List Cond := Cond.code (am_meth mi).2.1 (am_meth mi).2.2.1 (am_meth mi).2.2.2.1 (am_meth mi).2.2.2.2.1 :: am_tw
/-- what the table says of a method -/
theorem am_yf {mi : Nat} (h : am_yk mi = true) : (am_meth mi).1 = (am_meth mi).2.1.cls ∧ am_g (am_code mi) 0 = 0 ∧ ((am_meth mi).2.1.cls ≠ "java/lang/invoke/MethodHandle" ∧ (am_meth mi).2.1.cls ≠ "java/lang/invoke/VarHandle") ∧ plainName (am_meth mi).2.1.cls = true ∧ Cond.code (am_meth mi).2.1 (am_meth mi).2.2.1 (am_meth mi).2.2.2.1 (am_meth mi).2.2.2.2.1 ∈ am_tw ∧ Cond.initialized (am_meth mi).2.1.cls ∈ am_tw ∧
    ((am_meth mi).2.2.2.2.2.2.1 = 0 → Cond.static (am_meth mi).2.1 ∈ am_tw ∧ (parseMethodDescriptor (am_meth mi).2.1.desc).map (fun d => d.parameters.length) = some (am_meth mi).2.2.2.2.2.1) ∧
    ((am_meth mi).2.2.2.2.2.2.1 = 1 → Cond.instanceMethod (am_meth mi).2.1 ∈ am_tw ∧ Cond.selects (am_meth mi).2.1.cls (am_meth mi).2.1 (am_meth mi).2.1 ∈ am_tw ∧ (parseMethodDescriptor (am_meth mi).2.1.desc).map (fun d => d.parameters.length + 1) = some (am_meth mi).2.2.2.2.2.1 ∧ (vwCl[(am_meth mi).2.2.2.2.2.2.2.1]?).map (fun q => q.1) = some (am_meth mi).2.1.cls) ∧
    ((am_meth mi).2.2.2.2.2.2.1 = 2 → Cond.instanceMethod (am_meth mi).2.1 ∈ am_tw ∧ (am_meth mi).2.1.name = "<init>" ∧ (am_meth mi).2.2.2.2.1 = none ∧ (parseMethodDescriptor (am_meth mi).2.1.desc).map (fun d => d.parameters.length + 1) = some (am_meth mi).2.2.2.2.2.1 ∧ (vwCl[(am_meth mi).2.2.2.2.2.2.2.1]?).map (fun q => q.1) = some (am_meth mi).2.1.cls) := by
  unfold am_yk at h
  generalize am_meth mi = Y at h ⊢
  obtain ⟨own, y, bytes, maxL, ret, n, kind, ci, fr, lo, ps⟩ := Y
  dsimp only at h ⊢
  simp only [Bool.and_eq_true, decide_eq_true_eq] at h
  obtain ⟨⟨⟨⟨⟨⟨⟨h1, h0⟩, h2⟩, h3⟩, h4⟩, h5⟩, h6⟩, h7⟩ := h
  refine ⟨h1, h0, ⟨h2, h3⟩, h4, am_has_m h5, am_has_m h6, fun e => ?_, fun e => ?_, fun e => ?_⟩
  · subst e
    simp only [Bool.and_eq_true, decide_eq_true_eq] at h7
    exact ⟨am_has_m h7.1, h7.2⟩
  · subst e
    simp only [Bool.and_eq_true, decide_eq_true_eq] at h7
    exact ⟨am_has_m h7.1.1.1, am_has_m h7.1.1.2, h7.1.2, h7.2⟩
  · subst e
    simp only [Bool.and_eq_true, decide_eq_true_eq] at h7
    exact ⟨am_has_m h7.1.1.1.1, h7.1.1.1.2, h7.1.1.2, h7.1.2, h7.2⟩
theorem am_arg_in (sb b : Nat) : ∀ (as : List Value) (k i : Nat) (v : Value), (am_arg as)[i]? = some v → v ≠ .null → (k + i, am_cv sb b v) ∈ lv_args k (as.map (am_cv sb b))
  | [], k, i, v, h, _ => by simp [am_arg] at h
  | w :: r, k, i, v, h, hn => by
    rw [List.map_cons]
    unfold lv_args
    rw [am_cv_cat]
    unfold am_arg at h
    split at h
    · rename_i e
      rw [if_pos e]
      match i, h with
      | 0, h => cases h; exact List.mem_cons_self
      | 1, h => cases h; exact absurd rfl hn
      | j + 2, h =>
        have := am_arg_in sb b r (k + 2) j v h hn
        rw [show k + (j + 2) = k + 2 + j by omega]
        exact List.mem_cons_of_mem _ this
    · rename_i e
      rw [if_neg e]
      match i, h with
      | 0, h => cases h; exact List.mem_cons_self
      | j + 1, h =>
        have := am_arg_in sb b r (k + 1) j v h hn
        rw [show k + (j + 1) = k + 1 + j by omega]
        exact List.mem_cons_of_mem _ this
theorem am_arg_sl (sb b : Nat) : ∀ (as : List Value), (lg_sl (as.map (am_cv sb b))).length = (am_arg as).length
  | [] => rfl
  | w :: r => by
    have ih := am_arg_sl sb b r
    have hc := am_cv_cat sb b w
    have e0 : lg_sl ((w :: r).map (am_cv sb b)) = lg_sl [am_cv sb b w] ++ lg_sl (r.map (am_cv sb b)) := by
      unfold lg_sl
      simp
    rw [e0, List.length_append, ih]
    rcases lv_cat w with e | e
    · rw [e] at hc
      have e1 : am_arg (w :: r) = w :: am_arg r := by simp [am_arg, e]
      rw [e1]
      simp [lg_sl, hc]
      try omega
    · rw [e] at hc
      have e1 : am_arg (w :: r) = w :: .null :: am_arg r := by simp [am_arg, e]
      rw [e1]
      simp [lg_sl, hc]
      try omega
theorem am_entry {sb b n : Nat} {as : List Value} (h : (am_arg as).length ≤ n) : am_L sb b (am_ent as n) n ((lg_sl (as.map (am_cv sb b)) ++ List.replicate (n - (lg_sl (as.map (am_cv sb b))).length) Slot.unset).toArray) := by
  have hl := lv_entry (as.map (am_cv sb b)) (n := n) (by rw [am_arg_sl]; exact h)
  refine ⟨by unfold am_ent; simp; omega, hl.1, hl.2.1, fun q hq => hl.2.2 q ?_⟩
  obtain ⟨v, h1, h2, h3⟩ := am_la_m.mp hq
  have hv : v ≠ .null := by rintro rfl; cases h2
  unfold am_ent at h1
  rcases Nat.lt_or_ge q.1 (am_arg as).length with z | z
  · rw [List.getElem?_append_left z] at h1
    have := am_arg_in sb b as 0 q.1 v h1 hv
    rw [Nat.zero_add, ← h3] at this
    exact this
  · rw [List.getElem?_append_right z, List.getElem?_replicate] at h1
    split at h1
    · cases h1
      exact absurd rfl hv
    · cases h1
section AMU
variable {p : Program} {l : Launch} {e : Env} {R : Room} {s : State} {m : MethodId} {args : Array Value} {below : List Frame} {meth : Method} {c : Code} {H : Heap} {locs : List Loc} {cells slots : Nat} {Q : State → Prop}
theorem am_callq {pc : Nat} {ls : Array Slot} {rest st0 : List Value} {A0 : Nat → Prop} {H0 : Heap} {mc ms : Nat} {free : Addr → Prop} {Qa : State → Outcome → State → Prop} {vv : Option Value} {Bd : State → Prop} (hr : va_Run p l e R s m args below meth c H locs cells slots mc ms (F0 m pc ls st0) rest Qa free) (hQ : ∀ st oc t, Qa st oc t → (oc = .returned vv ∧ Bd t) ∧ va_F A0 st t) (hS : va_S A0 H0 H locs) (hf : ∀ q, free q → A0 q)
    (kk : ∀ (t : State) (H1 : Heap) (locs1 : List Loc), t.heap = H1 → s.vm.Alike t.vm → Bd t → va_S A0 H0 H1 locs1 → W p l e R s m args below meth c H1 locs1 (cells + mc) (slots + ms) Q (F0 m (pc + 3) ls (vv.toList ++ rest))) : W p l e R s m args below meth c H locs cells slots Q (F0 m pc ls st0) := by
  intro T hT X
  obtain ⟨v, st₀, t, T', L, h0, X', hL, e1, e2, hq, st⟩ := hr T hT X
  obtain ⟨⟨hv, hb⟩, hz, hk⟩ := hQ _ _ _ hq
  cases hv
  rw [h0] at hz hk
  obtain ⟨t2, a1, b1⟩ := kk t T'.heap (locs ++ L) e1.symm (by rw [← e2]; exact X'.warmed.alike) hb
    ⟨Nat.le_trans hS.1 (by rw [e1]; exact hz), fun q h1 h2 => by rw [e1, hk q (Nat.lt_of_lt_of_le h1 hS.1) h2]; exact hS.2.1 q h1 h2, fun q hq => by
      rcases List.mem_append.mp hq with h | h
      · exact hS.2.2 q h
      · exact hf _ (hL q h)⟩ T' rfl X'
  exact ⟨t2, st t2 a1, b1⟩
end AMU
