/-! ===== THE STEP ===== -/
theorem am_cv_int (sb b : Nat) (v : Int32) : am_cv sb b (.int v) = .int v := rfl
theorem am_cv_long (sb b : Nat) (v : Int64) : am_cv sb b (.long v) = .long v := rfl
theorem am_cv_ref (sb b : Nat) (v : Nat) : am_cv sb b (.ref v) = .ref (am_ad sb b v) := rfl
def am_C (p : Program) (l : Launch) (e : Env) (R : Room) (s : State) (m : MethodId) (args : Array Value) (below : List Frame) (meth : Method) (c : Code) (Q : State → Prop) (D : va_G) (sb b Lx nL n0 z0 : Nat) (g : Nat → Nat) (i : Nat) (ls st : List Value) (M : am_M) : Prop :=
  ∀ (H : Heap) (locs : List Loc) (la : Array Slot), am_L sb b ls nL la → am_Wd D sb b Lx M s H → va_S (am_A b) s.heap H locs → W p l e R s m args below meth c H locs (M.1.length - n0) (am_sz M - z0) Q (F0 m (g i) la (st.map (am_cv sb b)))
def am_Fr (p : Program) (R : Room) (s : State) (m : MethodId) (args : Array Value) (meth : Method) (c : Code) (D : va_G) (mi : Nat) : Prop :=
  p.tables.exec = Jvm.exec ∧ c.code = (am_meth mi).2.2.1 ∧ c.maxLocals = (am_meth mi).2.2.2.1 ∧ s.vm.findClass (am_meth mi).1 = some m.cls ∧ ((am_meth mi).2.1.name = "<init>" → meth.name = "<init>") ∧ (∀ w ∈ am_tw, w.before args s = true) ∧ (∀ w ∈ am_nest, va_Nw w s) ∧ va_K D vwCl [] s ∧ R.frames = (am_meth mi).2.2.2.2.2.2.2.2.1 ∧ R.locals = (am_meth mi).2.2.2.2.2.2.2.2.2.1
theorem am_lsw_ok {pc : Nat} {K : List am_E} {dflt : Int} {d : Nat} (hd : (pc : Int) + dflt = (am_g K d : Int)) (v : Int) : ∀ (ps : List (Int × Int)) (ts : List Nat), am_lok pc K ps ts = true → (pc : Int) + Op.lookupswitch.offset ps dflt v = (am_g K (am_lsw ps ts d v) : Int)
  | [], ts, _ => by
    have e : am_lsw [] ts d v = d := by unfold am_lsw; rfl
    rw [e]
    exact hd
  | (k, o) :: ps, [], h => by simp [am_lok] at h
  | (k, o) :: ps, t :: ts, h => by
    simp only [am_lok, Bool.and_eq_true] at h
    rw [Op.lookupswitch.offset_cons]
    unfold am_lsw
    by_cases e : v = k
    · rw [if_pos e.symm, decide_eq_true e]
      exact of_decide_eq_true h.1
    · rw [if_neg (fun z => e z.symm), decide_eq_false e]
      exact am_lsw_ok hd v ps ts h.2
theorem am_set_self {α : Type} {L : List α} {k : Nat} {t : α} (h : L[k]? = some t) : L = L.set k t := by
  apply List.ext_getElem?
  intro j
  by_cases e : k = j
  · subst e
    rw [List.getElem?_set_self (List.getElem?_eq_some_iff.mp h).1, h]
  · rw [List.getElem?_set_ne e]
theorem am_sz_push (M : am_M) (t : Nat × Nat × List Nat) (I : Nat → Nat → Int32) (J : Nat → Nat → Int64) : am_sz (M.1 ++ [t], I, J) = am_sz M + t.2.1 := by
  unfold am_sz
  simp
theorem am_sz_set (M : am_M) (k : Nat) (t u : Nat × Nat × List Nat) (hk : M.1[k]? = some t) (hn : u.2.1 = t.2.1) (I : Nat → Nat → Int32) (J : Nat → Nat → Int64) : am_sz (M.1.set k u, I, J) = am_sz M := by
  unfold am_sz
  have e : (M.1.set k u).map (fun t => t.2.1) = M.1.map (fun t => t.2.1) := by
    apply List.ext_getElem?
    intro j
    simp only [List.getElem?_map]
    by_cases h : k = j
    · subst h
      rw [List.getElem?_set_self (List.getElem?_eq_some_iff.mp hk).1, hk]
      simp [hn]
    · rw [List.getElem?_set_ne h]
  show ((M.1.set k u).map (fun t => t.2.1)).sum = _
  rw [e]
theorem am_gd {n j : Nat} (f : Nat → Value) (hj : j < n) : vp_V ((List.range n).map f) j = f j := by
  unfold vp_V
  rw [List.getD_eq_getElem?_getD, List.getElem?_map, List.getElem?_range hj]
  rfl
theorem am_dn (ci j : Nat) : am_ty ci j = .int ∨ am_ty ci j = .boolean ∨ am_ty ci j = .long ∨ defaultValue (am_ty ci j) = .null := by
  unfold am_ty
  split <;> (first | unfold tyX0 | unfold tyX1 | unfold tyX2 | unfold tyX3 | unfold tyX4 | unfold tyX5 | unfold tyX6) <;> split <;> (first | exact Or.inl rfl | exact Or.inr (Or.inl rfl) | exact Or.inr (Or.inr (Or.inl rfl)) | exact Or.inr (Or.inr (Or.inr rfl)))
theorem am_fs_gen (n j : Nat) (f g : Nat → Value) (v : Value) (hj : j < n) (hv : g j = v) (ho : ∀ a, a ≠ j → g a = f a) : (List.range n).map g = ((List.range n).map f).set j v := by
  apply List.ext_getElem?
  intro a
  by_cases e : j = a
  · subst e
    rw [List.getElem?_set_self (by simpa using hj), List.getElem?_map, List.getElem?_range hj]
    simp [hv]
  · rw [List.getElem?_set_ne e, List.getElem?_map, List.getElem?_map]
    by_cases ha : a < n
    · rw [List.getElem?_range ha]
      simp [ho a (Ne.symm e)]
    · rw [List.getElem?_eq_none (by simpa using ha)]
      rfl
theorem am_fs_int (sb b : Nat) (cA : Nat → ClassId) (M : am_M) (k ci n : Nat) (rs : List Nat) {j : Nat} (hj : j < n) (y : Int32) (hty : am_ty ci j = .int ∨ am_ty ci j = .boolean) : am_cell sb b cA (M.1, am_u M.2.1 k j y, M.2.2) k (ci + 3, n, rs) = .inr (ci, ((List.range n).map (fun j => am_fv sb b M k ci rs j)).set j (.int y)) := by
  show (Sum.inr (ci, (List.range n).map (fun a => am_fv sb b (M.1, am_u M.2.1 k j y, M.2.2) k ci rs a)) : va_E) = _
  rw [am_fs_gen n j (fun a => am_fv sb b M k ci rs a) _ (.int y) hj ?_ ?_]
  · unfold am_fv
    rcases hty with z | z <;> rw [z] <;> simp [am_u]
  · intro a ha
    show am_fv sb b (M.1, am_u M.2.1 k j y, M.2.2) k ci rs a = am_fv sb b M k ci rs a
    unfold am_fv
    have e : am_u M.2.1 k j y k a = M.2.1 k a := by simp [am_u, ha]
    simp only [e]
theorem am_fs_long (sb b : Nat) (cA : Nat → ClassId) (M : am_M) (k ci n : Nat) (rs : List Nat) {j : Nat} (hj : j < n) (y : Int64) (hty : am_ty ci j = .long) : am_cell sb b cA (M.1, M.2.1, am_u M.2.2 k j y) k (ci + 3, n, rs) = .inr (ci, ((List.range n).map (fun j => am_fv sb b M k ci rs j)).set j (.long y)) := by
  show (Sum.inr (ci, (List.range n).map (fun a => am_fv sb b (M.1, M.2.1, am_u M.2.2 k j y) k ci rs a)) : va_E) = _
  rw [am_fs_gen n j (fun a => am_fv sb b M k ci rs a) _ (.long y) hj ?_ ?_]
  · unfold am_fv
    rw [hty]
    simp [am_u]
  · intro a ha
    show am_fv sb b (M.1, M.2.1, am_u M.2.2 k j y) k ci rs a = am_fv sb b M k ci rs a
    unfold am_fv
    have e : am_u M.2.2 k j y k a = M.2.2 k a := by simp [am_u, ha]
    simp only [e]
theorem am_fs_ref (sb b : Nat) (cA : Nat → ClassId) (M : am_M) (k ci n : Nat) (rs : List Nat) {j : Nat} (hj : j < n) (y : Nat) (hty : (∃ t, am_ty ci j = .array t) ∨ ∃ t, am_ty ci j = .object t) (hr : rs.length = n) (T : List (Nat × Nat × List Nat)) : am_cell sb b cA (T, M.2.1, M.2.2) k (ci + 3, n, rs.set j (y + 1)) = .inr (ci, ((List.range n).map (fun j => am_fv sb b M k ci rs j)).set j (.ref (am_ad sb b y))) := by
  show (Sum.inr (ci, (List.range n).map (fun a => am_fv sb b (T, M.2.1, M.2.2) k ci (rs.set j (y + 1)) a)) : va_E) = _
  rw [am_fs_gen n j (fun a => am_fv sb b M k ci rs a) _ (.ref (am_ad sb b y)) hj ?_ ?_]
  · unfold am_fv
    have e : (rs.set j (y + 1))[j]? = some (y + 1) := List.getElem?_set_self (by omega)
    rcases hty with ⟨t, z⟩ | ⟨t, z⟩ <;> simp only [z, e]
  · intro a ha
    show am_fv sb b (T, M.2.1, M.2.2) k ci (rs.set j (y + 1)) a = am_fv sb b M k ci rs a
    unfold am_fv
    rw [List.getElem?_set_ne (Ne.symm ha)]
section AMT
variable {p : Program} {l : Launch} {e : Env} {R : Room} {s : State} {m : MethodId} {args : Array Value} {below : List Frame} {meth : Method} {c : Code} {Q : State → Prop} {D : va_G} {sb b Lx nL n0 z0 : Nat}
set_option maxHeartbeats 8000000 in
set_option maxRecDepth 20000 in
theorem am_step {mi : Nat} (F : am_Fr p R s m args meth c D mi) (G : am_good mi) (hnL : nL = (am_meth mi).2.2.2.1) {i : Nat} {E : am_E} (hE : (am_code mi)[i]? = some E) (hk0 : am_kind E.2.1 E.2.2.1 = 0) {ls st : List Value} {M : am_M} {ps : List Prop} {i' : Nat} {ls' st' : List Value} {M' : am_M} (h : am_stp E.2.1 E.2.2.1 E.2.2.2.1 E.2.2.2.2 i ls st M = some (ps, i', ls', st', M')) (hp : am_all ps) (hn0 : n0 ≤ M.1.length) (hz0 : z0 ≤ am_sz M) (hrc : M'.1.length - n0 ≤ R.cells) (hrs : am_sz M' - z0 ≤ R.slots)
    (kk : am_C p l e R s m args below meth c Q D sb b Lx nL n0 z0 (am_g (am_code mi)) i' ls' st' M') : am_C p l e R s m args below meth c Q D sb b Lx nL n0 z0 (am_g (am_code mi)) i ls st M := by
  intro H locs la hL hW hS
  obtain ⟨hx, hb, hml, hown, hnm, hts, hnest, hK, hfr, hlo⟩ := F
  obtain ⟨hfl, hwd, -, hdec⟩ := G i E hE
  obtain ⟨pc, ins, x, ct, lg⟩ := E
  have hg : am_g (am_code mi) i = pc := by unfold am_g; rw [hE]
  rw [hg]
  have hdg := of_decide_eq_true hdec
  cases ins with
  | iconst q =>
    have h : am_pu i ls st M (.int ct) = _ := h
    obtain ⟨rfl, rfl, rfl, rfl, rfl⟩ := am_pu_i h
    have hf : am_g (am_code mi) (i + 1) = pc + 1 := of_decide_eq_true hfl
    have k := kk H locs la hL hW hS
    rw [hf] at k
    simp only [List.map_cons, am_cv_int] at k
    exact lv_iconst hx hb hdg (of_decide_eq_true hwd) k
  | bipush q =>
    have h : am_pu i ls st M (.int ct) = _ := h
    obtain ⟨rfl, rfl, rfl, rfl, rfl⟩ := am_pu_i h
    have hf : am_g (am_code mi) (i + 1) = pc + 2 := of_decide_eq_true hfl
    have k := kk H locs la hL hW hS
    rw [hf] at k
    simp only [List.map_cons, am_cv_int] at k
    exact lv_bipush hx hb hdg (of_decide_eq_true hwd) k
  | sipush q =>
    have h : am_pu i ls st M (.int ct) = _ := h
    obtain ⟨rfl, rfl, rfl, rfl, rfl⟩ := am_pu_i h
    have hf : am_g (am_code mi) (i + 1) = pc + 3 := of_decide_eq_true hfl
    have k := kk H locs la hL hW hS
    rw [hf] at k
    simp only [List.map_cons, am_cv_int] at k
    exact lv_sipush hx hb hdg (of_decide_eq_true hwd) k
  | ldc q =>
    have h : am_pu i ls st M (.int ct) = _ := h
    obtain ⟨rfl, rfl, rfl, rfl, rfl⟩ := am_pu_i h
    have hf : am_g (am_code mi) (i + 1) = pc + 2 := of_decide_eq_true hfl
    have k := kk H locs la hL hW hS
    rw [hf] at k
    simp only [List.map_cons, am_cv_int] at k
    exact lv_ldc hx hb hown (hts _ (am_has_m hwd)) hdg k
  | ldc_w q =>
    have h : am_pu i ls st M (.int ct) = _ := h
    obtain ⟨rfl, rfl, rfl, rfl, rfl⟩ := am_pu_i h
    have hf : am_g (am_code mi) (i + 1) = pc + 3 := of_decide_eq_true hfl
    have k := kk H locs la hL hW hS
    rw [hf] at k
    simp only [List.map_cons, am_cv_int] at k
    exact lv_ldcw hx hb hown (hts _ (am_has_m hwd)) hdg k
  | lconst q =>
    have h : am_pu i ls st M (.long lg) = _ := h
    obtain ⟨rfl, rfl, rfl, rfl, rfl⟩ := am_pu_i h
    have hf : am_g (am_code mi) (i + 1) = pc + 1 := of_decide_eq_true hfl
    have k := kk H locs la hL hW hS
    rw [hf] at k
    simp only [List.map_cons, am_cv_long] at k
    exact lv_lconst hx hb hdg (of_decide_eq_true hwd) k
  | ldc2_w q =>
    have h : am_pu i ls st M (.long lg) = _ := h
    obtain ⟨rfl, rfl, rfl, rfl, rfl⟩ := am_pu_i h
    have hf : am_g (am_code mi) (i + 1) = pc + 3 := of_decide_eq_true hfl
    have k := kk H locs la hL hW hS
    rw [hf] at k
    simp only [List.map_cons, am_cv_long] at k
    exact lv_ldc2 hx hb hown (hts _ (am_has_m hwd)) hdg k
  | iload_n q =>
    have h : am_ild q.val i ls st M = _ := h
    obtain ⟨v, e1, rfl, rfl, rfl, rfl, rfl⟩ := am_ild_i h
    have hf : am_g (am_code mi) (i + 1) = pc + 1 := of_decide_eq_true hfl
    have k := kk H locs la hL hW hS
    rw [hf] at k
    simp only [List.map_cons, am_cv_int] at k
    exact lv_iload_n hx hb hdg rfl (hL.at e1 rfl) k
  | iload q =>
    have h : am_ild q i ls st M = _ := h
    obtain ⟨v, e1, rfl, rfl, rfl, rfl, rfl⟩ := am_ild_i h
    have hf : am_g (am_code mi) (i + 1) = pc + 2 := of_decide_eq_true hfl
    have k := kk H locs la hL hW hS
    rw [hf] at k
    simp only [List.map_cons, am_cv_int] at k
    exact lv_iload hx hb hdg (hL.at e1 rfl) k
  | aload_n q =>
    have h : am_ald q.val i ls st M = _ := h
    obtain ⟨v, e1, rfl, rfl, rfl, rfl, rfl⟩ := am_ald_i h
    have hf : am_g (am_code mi) (i + 1) = pc + 1 := of_decide_eq_true hfl
    have k := kk H locs la hL hW hS
    rw [hf] at k
    simp only [List.map_cons, am_cv_ref] at k
    exact lv_aload_n hx hb hdg rfl (hL.at e1 rfl) k
  | lload_n q =>
    have h : am_lld q.val i ls st M = _ := h
    obtain ⟨v, e1, e2, rfl, rfl, rfl, rfl, rfl⟩ := am_lld_i h
    have hf : am_g (am_code mi) (i + 1) = pc + 1 := of_decide_eq_true hfl
    have k := kk H locs la hL hW hS
    rw [hf] at k
    simp only [List.map_cons, am_cv_long] at k
    exact lv_lload_n hx hb hdg rfl (hL.at e1 (decide_eq_true e2)) k
  | lload q =>
    have h : am_lld q i ls st M = _ := h
    obtain ⟨v, e1, e2, rfl, rfl, rfl, rfl, rfl⟩ := am_lld_i h
    have hf : am_g (am_code mi) (i + 1) = pc + 2 := of_decide_eq_true hfl
    have k := kk H locs la hL hW hS
    rw [hf] at k
    simp only [List.map_cons, am_cv_long] at k
    exact lv_lload hx hb hdg (hL.at e1 (decide_eq_true e2)) k
  | istore_n q =>
    have h : am_ist q.val i ls st M = _ := h
    obtain ⟨v, r, rfl, e1, rfl, rfl, rfl, rfl, rfl⟩ := am_ist_i h
    have hf : am_g (am_code mi) (i + 1) = pc + 1 := of_decide_eq_true hfl
    simp only [List.map_cons, am_cv_int]
    refine lv_istore_n hx hb hdg rfl hL.2 (by rw [← hL.1]; exact e1) rfl (fun la2 h2 => ?_)
    have k := kk H locs la2 ⟨by rw [List.length_set]; exact hL.1, am_set1 h2 (fun z => by cases z) e1⟩ hW hS
    rw [hf] at k
    exact k
  | istore q =>
    have h : am_ist q i ls st M = _ := h
    obtain ⟨v, r, rfl, e1, rfl, rfl, rfl, rfl, rfl⟩ := am_ist_i h
    have hf : am_g (am_code mi) (i + 1) = pc + 2 := of_decide_eq_true hfl
    simp only [List.map_cons, am_cv_int]
    refine lv_istore hx hb hdg hL.2 (by rw [← hL.1]; exact e1) rfl (fun la2 h2 => ?_)
    have k := kk H locs la2 ⟨by rw [List.length_set]; exact hL.1, am_set1 h2 (fun z => by cases z) e1⟩ hW hS
    rw [hf] at k
    exact k
  | astore_n q =>
    have h : am_ast q.val i ls st M = _ := h
    obtain ⟨v, r, rfl, e1, rfl, rfl, rfl, rfl, rfl⟩ := am_ast_i h
    have hf : am_g (am_code mi) (i + 1) = pc + 1 := of_decide_eq_true hfl
    simp only [List.map_cons, am_cv_ref]
    refine lv_astore_n hx hb hdg rfl hL.2 (by rw [← hL.1]; exact e1) rfl (fun la2 h2 => ?_)
    have k := kk H locs la2 ⟨by rw [List.length_set]; exact hL.1, am_set1 h2 (fun z => by cases z) e1⟩ hW hS
    rw [hf] at k
    exact k
  | lstore_n q =>
    have h : am_lst q.val i ls st M = _ := h
    obtain ⟨v, r, rfl, e1, rfl, rfl, rfl, rfl, rfl⟩ := am_lst_i h
    have hf : am_g (am_code mi) (i + 1) = pc + 1 := of_decide_eq_true hfl
    simp only [List.map_cons, am_cv_long]
    refine lv_lstore_n hx hb hdg rfl hL.2 (by rw [← hL.1]; exact e1) rfl (fun la2 h2 => ?_)
    have k := kk H locs la2 ⟨by rw [List.length_set, List.length_set]; exact hL.1, am_set2 h2 e1⟩ hW hS
    rw [hf] at k
    exact k
  | lstore q =>
    have h : am_lst q i ls st M = _ := h
    obtain ⟨v, r, rfl, e1, rfl, rfl, rfl, rfl, rfl⟩ := am_lst_i h
    have hf : am_g (am_code mi) (i + 1) = pc + 2 := of_decide_eq_true hfl
    simp only [List.map_cons, am_cv_long]
    refine lv_lstore hx hb hdg hL.2 (by rw [← hL.1]; exact e1) rfl (fun la2 h2 => ?_)
    have k := kk H locs la2 ⟨by rw [List.length_set, List.length_set]; exact hL.1, am_set2 h2 e1⟩ hW hS
    rw [hf] at k
    exact k
  | iinc q n =>
    have h : am_inc q ct i ls st M = _ := h
    obtain ⟨v, e1, rfl, rfl, rfl, rfl, rfl⟩ := am_inc_i h
    have hf : am_g (am_code mi) (i + 1) = pc + 3 := of_decide_eq_true hfl
    have hct : Int32.ofInt n = ct := of_decide_eq_true hwd
    have hq : q < ls.length := (List.getElem?_eq_some_iff.mp e1).1
    obtain ⟨j, hj⟩ := List.getElem?_of_mem (am_la_m (sb := sb) (b := b) (q := (q, .int v)) |>.mpr ⟨.int v, e1, rfl, rfl⟩)
    refine lv_iinc hx hb hdg hL.2 hj (by rw [hct]) (by rw [← hL.1]; exact hq) rfl (fun la2 h2 => ?_)
    have k := kk H locs la2 ⟨by rw [List.length_set]; exact hL.1, am_set1 h2 (fun z => by cases z) hq⟩ hW hS
    rw [hf] at k
    exact k
  | iadd =>
    have h : am_i2 (fun a b => a + b) i ls st M = _ := h
    obtain ⟨a1, b1, r, rfl, rfl, rfl, rfl, rfl, rfl⟩ := am_i2_i h
    have hf : am_g (am_code mi) (i + 1) = pc + 1 := of_decide_eq_true hfl
    have k := kk H locs la hL hW hS
    rw [hf] at k
    simp only [List.map_cons, am_cv_int, am_cv_long, am_cv_ref] at k ⊢
    exact lv_iadd hx hb hdg k
  | isub =>
    have h : am_i2 (fun a b => a - b) i ls st M = _ := h
    obtain ⟨a1, b1, r, rfl, rfl, rfl, rfl, rfl, rfl⟩ := am_i2_i h
    have hf : am_g (am_code mi) (i + 1) = pc + 1 := of_decide_eq_true hfl
    have k := kk H locs la hL hW hS
    rw [hf] at k
    simp only [List.map_cons, am_cv_int, am_cv_long, am_cv_ref] at k ⊢
    exact lv_isub hx hb hdg k
  | imul =>
    have h : am_i2 (fun a b => a * b) i ls st M = _ := h
    obtain ⟨a1, b1, r, rfl, rfl, rfl, rfl, rfl, rfl⟩ := am_i2_i h
    have hf : am_g (am_code mi) (i + 1) = pc + 1 := of_decide_eq_true hfl
    have k := kk H locs la hL hW hS
    rw [hf] at k
    simp only [List.map_cons, am_cv_int, am_cv_long, am_cv_ref] at k ⊢
    exact lv_imul hx hb hdg k
  | iand =>
    have h : am_i2 (fun a b => a &&& b) i ls st M = _ := h
    obtain ⟨a1, b1, r, rfl, rfl, rfl, rfl, rfl, rfl⟩ := am_i2_i h
    have hf : am_g (am_code mi) (i + 1) = pc + 1 := of_decide_eq_true hfl
    have k := kk H locs la hL hW hS
    rw [hf] at k
    simp only [List.map_cons, am_cv_int, am_cv_long, am_cv_ref] at k ⊢
    exact lv_iand hx hb hdg k
  | ior =>
    have h : am_i2 (fun a b => a ||| b) i ls st M = _ := h
    obtain ⟨a1, b1, r, rfl, rfl, rfl, rfl, rfl, rfl⟩ := am_i2_i h
    have hf : am_g (am_code mi) (i + 1) = pc + 1 := of_decide_eq_true hfl
    have k := kk H locs la hL hW hS
    rw [hf] at k
    simp only [List.map_cons, am_cv_int, am_cv_long, am_cv_ref] at k ⊢
    exact lv_ior hx hb hdg k
  | ixor =>
    have h : am_i2 (fun a b => a ^^^ b) i ls st M = _ := h
    obtain ⟨a1, b1, r, rfl, rfl, rfl, rfl, rfl, rfl⟩ := am_i2_i h
    have hf : am_g (am_code mi) (i + 1) = pc + 1 := of_decide_eq_true hfl
    have k := kk H locs la hL hW hS
    rw [hf] at k
    simp only [List.map_cons, am_cv_int, am_cv_long, am_cv_ref] at k ⊢
    exact lv_ixor hx hb hdg k
  | ishl =>
    have h : am_i2 (fun a b => a <<< (b &&& 31)) i ls st M = _ := h
    obtain ⟨a1, b1, r, rfl, rfl, rfl, rfl, rfl, rfl⟩ := am_i2_i h
    have hf : am_g (am_code mi) (i + 1) = pc + 1 := of_decide_eq_true hfl
    have k := kk H locs la hL hW hS
    rw [hf] at k
    simp only [List.map_cons, am_cv_int, am_cv_long, am_cv_ref] at k ⊢
    exact lv_ishl hx hb hdg k
  | ishr =>
    have h : am_i2 (fun a b => a >>> (b &&& 31)) i ls st M = _ := h
    obtain ⟨a1, b1, r, rfl, rfl, rfl, rfl, rfl, rfl⟩ := am_i2_i h
    have hf : am_g (am_code mi) (i + 1) = pc + 1 := of_decide_eq_true hfl
    have k := kk H locs la hL hW hS
    rw [hf] at k
    simp only [List.map_cons, am_cv_int, am_cv_long, am_cv_ref] at k ⊢
    exact lv_ishr hx hb hdg k
  | iushr =>
    have h : am_i2 (fun a b => (a.toUInt32 >>> (b.toUInt32 &&& Int32.toUInt32 31)).toInt32) i ls st M = _ := h
    obtain ⟨a1, b1, r, rfl, rfl, rfl, rfl, rfl, rfl⟩ := am_i2_i h
    have hf : am_g (am_code mi) (i + 1) = pc + 1 := of_decide_eq_true hfl
    have k := kk H locs la hL hW hS
    rw [hf] at k
    simp only [List.map_cons, am_cv_int, am_cv_long, am_cv_ref] at k ⊢
    exact lv_iushr hx hb hdg rfl k
  | idiv =>
    have h : am_i2d (fun a b => a / b) i ls st M = _ := h
    obtain ⟨a1, b1, r, rfl, rfl, rfl, rfl, rfl, rfl⟩ := am_i2d_i h
    have hf : am_g (am_code mi) (i + 1) = pc + 1 := of_decide_eq_true hfl
    have k := kk H locs la hL hW hS
    rw [hf] at k
    simp only [List.map_cons, am_cv_int, am_cv_long, am_cv_ref] at k ⊢
    exact lv_idiv hx hb hdg hp k
  | irem =>
    have h : am_i2d (fun a b => a - a / b * b) i ls st M = _ := h
    obtain ⟨a1, b1, r, rfl, rfl, rfl, rfl, rfl, rfl⟩ := am_i2d_i h
    have hf : am_g (am_code mi) (i + 1) = pc + 1 := of_decide_eq_true hfl
    have k := kk H locs la hL hW hS
    rw [hf] at k
    simp only [List.map_cons, am_cv_int, am_cv_long, am_cv_ref] at k ⊢
    exact lv_irem hx hb hdg hp k
  | ladd =>
    have h : am_l2 (fun a b => a + b) i ls st M = _ := h
    obtain ⟨a1, b1, r, rfl, rfl, rfl, rfl, rfl, rfl⟩ := am_l2_i h
    have hf : am_g (am_code mi) (i + 1) = pc + 1 := of_decide_eq_true hfl
    have k := kk H locs la hL hW hS
    rw [hf] at k
    simp only [List.map_cons, am_cv_int, am_cv_long, am_cv_ref] at k ⊢
    exact lv_ladd hx hb hdg k
  | lsub =>
    have h : am_l2 (fun a b => a - b) i ls st M = _ := h
    obtain ⟨a1, b1, r, rfl, rfl, rfl, rfl, rfl, rfl⟩ := am_l2_i h
    have hf : am_g (am_code mi) (i + 1) = pc + 1 := of_decide_eq_true hfl
    have k := kk H locs la hL hW hS
    rw [hf] at k
    simp only [List.map_cons, am_cv_int, am_cv_long, am_cv_ref] at k ⊢
    exact lv_lsub hx hb hdg k
  | land =>
    have h : am_l2 (fun a b => a &&& b) i ls st M = _ := h
    obtain ⟨a1, b1, r, rfl, rfl, rfl, rfl, rfl, rfl⟩ := am_l2_i h
    have hf : am_g (am_code mi) (i + 1) = pc + 1 := of_decide_eq_true hfl
    have k := kk H locs la hL hW hS
    rw [hf] at k
    simp only [List.map_cons, am_cv_int, am_cv_long, am_cv_ref] at k ⊢
    exact lv_land hx hb hdg k
  | lor =>
    have h : am_l2 (fun a b => a ||| b) i ls st M = _ := h
    obtain ⟨a1, b1, r, rfl, rfl, rfl, rfl, rfl, rfl⟩ := am_l2_i h
    have hf : am_g (am_code mi) (i + 1) = pc + 1 := of_decide_eq_true hfl
    have k := kk H locs la hL hW hS
    rw [hf] at k
    simp only [List.map_cons, am_cv_int, am_cv_long, am_cv_ref] at k ⊢
    exact lv_lor hx hb hdg k
  | ldiv =>
    have h : am_l2d (fun a b => a / b) i ls st M = _ := h
    obtain ⟨a1, b1, r, rfl, rfl, rfl, rfl, rfl, rfl⟩ := am_l2d_i h
    have hf : am_g (am_code mi) (i + 1) = pc + 1 := of_decide_eq_true hfl
    have k := kk H locs la hL hW hS
    rw [hf] at k
    simp only [List.map_cons, am_cv_int, am_cv_long, am_cv_ref] at k ⊢
    exact lv_ldiv hx hb hdg hp k
  | lrem =>
    have h : am_l2d (fun a b => a - a / b * b) i ls st M = _ := h
    obtain ⟨a1, b1, r, rfl, rfl, rfl, rfl, rfl, rfl⟩ := am_l2d_i h
    have hf : am_g (am_code mi) (i + 1) = pc + 1 := of_decide_eq_true hfl
    have k := kk H locs la hL hW hS
    rw [hf] at k
    simp only [List.map_cons, am_cv_int, am_cv_long, am_cv_ref] at k ⊢
    exact lv_lrem hx hb hdg hp k
  | lshl =>
    have h : am_ls (fun a b => a <<< (b.toInt64 &&& 63)) i ls st M = _ := h
    obtain ⟨a1, b1, r, rfl, rfl, rfl, rfl, rfl, rfl⟩ := am_ls_i h
    have hf : am_g (am_code mi) (i + 1) = pc + 1 := of_decide_eq_true hfl
    have k := kk H locs la hL hW hS
    rw [hf] at k
    simp only [List.map_cons, am_cv_int, am_cv_long, am_cv_ref] at k ⊢
    exact lv_lshl hx hb hdg rfl k
  | lshr =>
    have h : am_ls (fun a b => a >>> (b.toInt64 &&& 63)) i ls st M = _ := h
    obtain ⟨a1, b1, r, rfl, rfl, rfl, rfl, rfl, rfl⟩ := am_ls_i h
    have hf : am_g (am_code mi) (i + 1) = pc + 1 := of_decide_eq_true hfl
    have k := kk H locs la hL hW hS
    rw [hf] at k
    simp only [List.map_cons, am_cv_int, am_cv_long, am_cv_ref] at k ⊢
    exact lv_lshr hx hb hdg rfl k
  | lcmp =>
    simp only [am_stp] at h
    split at h
    · cases h
      have hf : am_g (am_code mi) (i + 1) = pc + 1 := of_decide_eq_true hfl
      have k := kk H locs la hL hW hS
      rw [hf] at k
      simp only [List.map_cons, am_cv_int, am_cv_long, am_cv_ref] at k ⊢
      exact W.lcmp hx hb hdg k
    · cases h
  | i2l =>
    simp only [am_stp] at h
    split at h
    · cases h
      have hf : am_g (am_code mi) (i + 1) = pc + 1 := of_decide_eq_true hfl
      have k := kk H locs la hL hW hS
      rw [hf] at k
      simp only [List.map_cons, am_cv_int, am_cv_long, am_cv_ref] at k ⊢
      exact lv_i2l hx hb hdg rfl k
    · cases h
  | l2i =>
    simp only [am_stp] at h
    split at h
    · cases h
      have hf : am_g (am_code mi) (i + 1) = pc + 1 := of_decide_eq_true hfl
      have k := kk H locs la hL hW hS
      rw [hf] at k
      simp only [List.map_cons, am_cv_int, am_cv_long, am_cv_ref] at k ⊢
      exact lv_l2i hx hb hdg rfl k
    · cases h
  | dup =>
    have h : am_dup i ls st M = _ := h
    obtain ⟨v, r, hv, rfl, rfl, rfl, rfl, rfl, rfl⟩ := am_dup_i h
    have hf : am_g (am_code mi) (i + 1) = pc + 1 := of_decide_eq_true hfl
    have k := kk H locs la hL hW hS
    rw [hf] at k
    simp only [List.map_cons] at k ⊢
    exact lv_dup hx hb hdg (by rcases hv with ⟨y, rfl⟩ | ⟨y, rfl⟩ <;> rfl) k
  | dup2 =>
    have h : am_dup2 i ls st M = _ := h
    obtain ⟨v, w, r, rfl, rfl, rfl, rfl, rfl, rfl⟩ := am_dup2_i h
    have hf : am_g (am_code mi) (i + 1) = pc + 1 := of_decide_eq_true hfl
    have k := kk H locs la hL hW hS
    rw [hf] at k
    simp only [List.map_cons, am_cv_int, am_cv_long, am_cv_ref] at k ⊢
    exact lv_dup2_11 hx hb hdg rfl rfl k
  | pop =>
    have h : am_pop i ls st M = _ := h
    obtain ⟨v, r, rfl, rfl, rfl, rfl, rfl, rfl⟩ := am_pop_i h
    have hf : am_g (am_code mi) (i + 1) = pc + 1 := of_decide_eq_true hfl
    have k := kk H locs la hL hW hS
    rw [hf] at k
    simp only [List.map_cons, am_cv_int]
    exact lv_pop hx hb hdg rfl k
  | goto off =>
    have h : some (([] : List Prop), x.headD 0, ls, st, M) = _ := h
    cases h
    exact lv_goto hx hb hdg (of_decide_eq_true hfl) (kk H locs la hL hW hS)
  | ifCond cond off =>
    simp only [am_flow, Bool.and_eq_true] at hfl
    have hf : am_g (am_code mi) (i + 1) = pc + 3 := of_decide_eq_true hfl.2
    have ht : (pc : Int) + off = (am_g (am_code mi) (x.headD 0) : Int) := of_decide_eq_true hfl.1
    cases cond with
    | eq =>
      have h : am_b1 x (fun v => decide (v = 0)) i ls st M = _ := h
      obtain ⟨v, r, rfl, rfl, hi, rfl, rfl, rfl⟩ := am_b1_i h
      try dsimp only at hi
      subst hi
      have k := kk H locs la hL hW hS
      simp only [List.map_cons, am_cv_int]
      refine lv_if_eq hx hb hdg ht (fun z => ?_) (fun z => ?_)
      · rw [decide_eq_true z] at k
        simp only [cond_true, cond_false, Bool.not_true, Bool.not_false] at k
        exact k
      · rw [decide_eq_false z] at k
        simp only [cond_true, cond_false, Bool.not_true, Bool.not_false] at k
        rw [← hf]
        exact k
    | ne =>
      have h : am_b1 x (fun v => !decide (v = 0)) i ls st M = _ := h
      obtain ⟨v, r, rfl, rfl, hi, rfl, rfl, rfl⟩ := am_b1_i h
      try dsimp only at hi
      subst hi
      have k := kk H locs la hL hW hS
      simp only [List.map_cons, am_cv_int]
      refine lv_if_ne hx hb hdg ht (fun z => ?_) (fun z => ?_)
      · rw [decide_eq_false z] at k
        simp only [cond_true, cond_false, Bool.not_true, Bool.not_false] at k
        exact k
      · rw [decide_eq_true z] at k
        simp only [cond_true, cond_false, Bool.not_true, Bool.not_false] at k
        rw [← hf]
        exact k
    | lt =>
      have h : am_b1 x (fun v => decide (v < 0)) i ls st M = _ := h
      obtain ⟨v, r, rfl, rfl, hi, rfl, rfl, rfl⟩ := am_b1_i h
      try dsimp only at hi
      subst hi
      have k := kk H locs la hL hW hS
      simp only [List.map_cons, am_cv_int]
      refine lv_if_lt hx hb hdg ht (fun z => ?_) (fun z => ?_)
      · rw [decide_eq_true z] at k
        simp only [cond_true, cond_false, Bool.not_true, Bool.not_false] at k
        exact k
      · rw [decide_eq_false z] at k
        simp only [cond_true, cond_false, Bool.not_true, Bool.not_false] at k
        rw [← hf]
        exact k
    | ge =>
      have h : am_b1 x (fun v => decide (0 ≤ v)) i ls st M = _ := h
      obtain ⟨v, r, rfl, rfl, hi, rfl, rfl, rfl⟩ := am_b1_i h
      try dsimp only at hi
      subst hi
      have k := kk H locs la hL hW hS
      simp only [List.map_cons, am_cv_int]
      refine lv_if_ge hx hb hdg ht (fun z => ?_) (fun z => ?_)
      · rw [decide_eq_true z] at k
        simp only [cond_true, cond_false, Bool.not_true, Bool.not_false] at k
        exact k
      · rw [decide_eq_false z] at k
        simp only [cond_true, cond_false, Bool.not_true, Bool.not_false] at k
        rw [← hf]
        exact k
    | gt =>
      have h : am_b1 x (fun v => decide (0 < v)) i ls st M = _ := h
      obtain ⟨v, r, rfl, rfl, hi, rfl, rfl, rfl⟩ := am_b1_i h
      try dsimp only at hi
      subst hi
      have k := kk H locs la hL hW hS
      simp only [List.map_cons, am_cv_int]
      refine lv_if_gt hx hb hdg ht (fun z => ?_) (fun z => ?_)
      · rw [decide_eq_true z] at k
        simp only [cond_true, cond_false, Bool.not_true, Bool.not_false] at k
        exact k
      · rw [decide_eq_false z] at k
        simp only [cond_true, cond_false, Bool.not_true, Bool.not_false] at k
        rw [← hf]
        exact k
    | le =>
      have h : am_b1 x (fun v => decide (v ≤ 0)) i ls st M = _ := h
      obtain ⟨v, r, rfl, rfl, hi, rfl, rfl, rfl⟩ := am_b1_i h
      try dsimp only at hi
      subst hi
      have k := kk H locs la hL hW hS
      simp only [List.map_cons, am_cv_int]
      refine lv_if_le hx hb hdg ht (fun z => ?_) (fun z => ?_)
      · rw [decide_eq_true z] at k
        simp only [cond_true, cond_false, Bool.not_true, Bool.not_false] at k
        exact k
      · rw [decide_eq_false z] at k
        simp only [cond_true, cond_false, Bool.not_true, Bool.not_false] at k
        rw [← hf]
        exact k
  | if_icmp cond off =>
    simp only [am_flow, Bool.and_eq_true] at hfl
    have hf : am_g (am_code mi) (i + 1) = pc + 3 := of_decide_eq_true hfl.2
    have ht : (pc : Int) + off = (am_g (am_code mi) (x.headD 0) : Int) := of_decide_eq_true hfl.1
    cases cond with
    | eq =>
      have h : am_b2 x (fun v w => decide (v = w)) i ls st M = _ := h
      obtain ⟨v, w, r, rfl, rfl, hi, rfl, rfl, rfl⟩ := am_b2_i h
      try dsimp only at hi
      subst hi
      have k := kk H locs la hL hW hS
      simp only [List.map_cons, am_cv_int]
      refine lv_icmp_eq hx hb hdg ht (fun z => ?_) (fun z => ?_)
      · rw [decide_eq_true z] at k
        simp only [cond_true, cond_false, Bool.not_true, Bool.not_false] at k
        exact k
      · rw [decide_eq_false z] at k
        simp only [cond_true, cond_false, Bool.not_true, Bool.not_false] at k
        rw [← hf]
        exact k
    | ne =>
      have h : am_b2 x (fun v w => !decide (v = w)) i ls st M = _ := h
      obtain ⟨v, w, r, rfl, rfl, hi, rfl, rfl, rfl⟩ := am_b2_i h
      try dsimp only at hi
      subst hi
      have k := kk H locs la hL hW hS
      simp only [List.map_cons, am_cv_int]
      refine lv_icmp_ne hx hb hdg ht (fun z => ?_) (fun z => ?_)
      · rw [decide_eq_false z] at k
        simp only [cond_true, cond_false, Bool.not_true, Bool.not_false] at k
        exact k
      · rw [decide_eq_true z] at k
        simp only [cond_true, cond_false, Bool.not_true, Bool.not_false] at k
        rw [← hf]
        exact k
    | lt =>
      have h : am_b2 x (fun v w => decide (v < w)) i ls st M = _ := h
      obtain ⟨v, w, r, rfl, rfl, hi, rfl, rfl, rfl⟩ := am_b2_i h
      try dsimp only at hi
      subst hi
      have k := kk H locs la hL hW hS
      simp only [List.map_cons, am_cv_int]
      refine lv_icmp_lt hx hb hdg ht (fun z => ?_) (fun z => ?_)
      · rw [decide_eq_true z] at k
        simp only [cond_true, cond_false, Bool.not_true, Bool.not_false] at k
        exact k
      · rw [decide_eq_false z] at k
        simp only [cond_true, cond_false, Bool.not_true, Bool.not_false] at k
        rw [← hf]
        exact k
    | ge =>
      have h : am_b2 x (fun v w => decide (w ≤ v)) i ls st M = _ := h
      obtain ⟨v, w, r, rfl, rfl, hi, rfl, rfl, rfl⟩ := am_b2_i h
      try dsimp only at hi
      subst hi
      have k := kk H locs la hL hW hS
      simp only [List.map_cons, am_cv_int]
      refine lv_icmp_ge hx hb hdg ht (fun z => ?_) (fun z => ?_)
      · rw [decide_eq_true z] at k
        simp only [cond_true, cond_false, Bool.not_true, Bool.not_false] at k
        exact k
      · rw [decide_eq_false z] at k
        simp only [cond_true, cond_false, Bool.not_true, Bool.not_false] at k
        rw [← hf]
        exact k
    | gt =>
      have h : am_b2 x (fun v w => decide (w < v)) i ls st M = _ := h
      obtain ⟨v, w, r, rfl, rfl, hi, rfl, rfl, rfl⟩ := am_b2_i h
      try dsimp only at hi
      subst hi
      have k := kk H locs la hL hW hS
      simp only [List.map_cons, am_cv_int]
      refine lv_icmp_gt hx hb hdg ht (fun z => ?_) (fun z => ?_)
      · rw [decide_eq_true z] at k
        simp only [cond_true, cond_false, Bool.not_true, Bool.not_false] at k
        exact k
      · rw [decide_eq_false z] at k
        simp only [cond_true, cond_false, Bool.not_true, Bool.not_false] at k
        rw [← hf]
        exact k
    | le =>
      have h : am_b2 x (fun v w => decide (v ≤ w)) i ls st M = _ := h
      obtain ⟨v, w, r, rfl, rfl, hi, rfl, rfl, rfl⟩ := am_b2_i h
      try dsimp only at hi
      subst hi
      have k := kk H locs la hL hW hS
      simp only [List.map_cons, am_cv_int]
      refine lv_icmp_le hx hb hdg ht (fun z => ?_) (fun z => ?_)
      · rw [decide_eq_true z] at k
        simp only [cond_true, cond_false, Bool.not_true, Bool.not_false] at k
        exact k
      · rw [decide_eq_false z] at k
        simp only [cond_true, cond_false, Bool.not_true, Bool.not_false] at k
        rw [← hf]
        exact k
  | tableswitch dflt lo hi offs =>
    simp only [am_stp] at h
    split at h
    · rename_i v r
      cases h
      simp only [am_flow, Bool.and_eq_true] at hfl
      obtain ⟨f1, f2⟩ := hfl
      have k := kk H locs la hL hW hS
      simp only [List.map_cons, am_cv_int]
      by_cases z : v.toInt < lo ∨ hi < v.toInt
      · rw [decide_eq_true z] at k
        exact lv_tableOut hx hb hdg z (of_decide_eq_true f1) k
      · rw [decide_eq_false z] at k
        have z1 : ¬ v.toInt < lo := fun q => z (Or.inl q)
        have z2 : ¬ hi < v.toInt := fun q => z (Or.inr q)
        have f3 := List.all_eq_true.mp f2 (v.toInt - lo).toNat (List.mem_range.mpr (by omega))
        cases ho : offs[(v.toInt - lo).toNat]? with
        | none => rw [ho] at f3; cases f3
        | some o =>
          rw [ho] at f3
          exact lv_tableIn hx hb hdg z1 z2 ho (of_decide_eq_true f3) k
    · cases h
  | lookupswitch dflt prs =>
    simp only [am_stp] at h
    split at h
    · rename_i v r
      cases h
      simp only [am_flow, Bool.and_eq_true] at hfl
      obtain ⟨⟨f0, f1⟩, f2⟩ := hfl
      have k := kk H locs la hL hW hS
      simp only [List.map_cons, am_cv_int]
      exact lv_lookup hx hb hdg f0 rfl (am_lsw_ok (of_decide_eq_true f1) v.toInt _ _ f2) k
    · cases h
  | getfield ix =>
    have h : am_get (x.getD 0 0) (x.getD 1 0) i ls st M = _ := h
    obtain ⟨k0, n, rs, v, r, rfl, e1, e2, e3, rfl, rfl, rfl, rfl, rfl⟩ := am_get_i h
    have hf : am_g (am_code mi) (i + 1) = pc + 3 := of_decide_eq_true hfl
    have k := kk H locs la hL hW hS
    rw [hf] at k
    simp only [am_wrd] at hwd
    split at hwd
    · rename_i q hq
      simp only [Bool.and_eq_true] at hwd
      obtain ⟨w1, w2⟩ := hwd
      obtain ⟨hin, -, -, -⟩ := am_cls_ok _ _ hq
      obtain ⟨cA, hW0⟩ := id hW
      obtain ⟨g1, g2, g3, g4, g5⟩ := id hW0
      have hk1 : 0 < k0 := by
        rcases Nat.eq_zero_or_pos k0 with q0 | q0
        · subst q0
          rw [g3] at e1
          have e4 : (100 : Nat) = x.getD 0 0 + 3 := congrArg (fun t => t.1) (Option.some.inj e1)
          have e5 := (am_cls_ok _ _ hq).2.2.2
          omega
        · exact q0
      obtain ⟨-, g7, -⟩ := g5 k0 _ hk1 e1
      simp only [List.map_cons, am_cv_ref]
      rw [show am_ad sb b k0 = b + k0 by unfold am_ad; rw [if_neg (by omega)]]
      exact va_get (T := q.2.1) (N := q.2.2) hx hb hts hin hown hK (am_one g7) 0 rfl hq (x.getD 1 0) (of_decide_eq_true w1) (hts _ (am_has_m w2)) (fun _ h9 => h9) (v := am_cv sb b v) (by rw [List.getElem?_map, List.getElem?_range e2]; exact congrArg some (am_fld_v e3)) hdg k
    · cases hwd
  | iaload =>
    have h : am_iald 0 i ls st M = _ := h
    obtain ⟨j, k0, t, n, rs, r, rfl, e1, e2, rfl, rfl, rfl, rfl, rfl⟩ := am_iald_i h
    have hf : am_g (am_code mi) (i + 1) = pc + 1 := of_decide_eq_true hfl
    have k := kk H locs la hL hW hS
    rw [hf] at k
    obtain ⟨cA, hW0⟩ := id hW
    obtain ⟨g1, g2, g3, g4, g5⟩ := id hW0
    simp only [List.map_cons, am_cv_ref, am_cv_int] at k ⊢
    rcases Nat.eq_zero_or_pos k0 with q0 | q0
    · subst q0
      rw [g3] at e1
      cases e1
      obtain ⟨scr, y1, y2, y3, y4, y5⟩ := g4
      have hlt : j.toNatClampNeg < Lx := Nat.not_le.mp fun q => hp (Or.inr q)
      exact W.iald hx hb y1 y2 y3 (by rw [y4]; exact hp) (y5 _ hlt) rfl rfl hdg k
    · obtain ⟨g6, g7, g8⟩ := g5 k0 _ q0 e1
      have e3 : t = 0 := by
        rcases e2 with z | z
        · exact z
        · exact absurd z.2 g6
      subst e3
      rw [show am_ad sb b k0 = b + k0 by unfold am_ad; rw [if_neg (by omega)]]
      exact va_iald hx hb (am_Ka hK g8) (am_one g7) 0 0 rfl rfl hp hdg k
  | baload =>
    have h : am_iald 2 i ls st M = _ := h
    obtain ⟨j, k0, t, n, rs, r, rfl, e1, e2, rfl, rfl, rfl, rfl, rfl⟩ := am_iald_i h
    have hf : am_g (am_code mi) (i + 1) = pc + 1 := of_decide_eq_true hfl
    have k := kk H locs la hL hW hS
    rw [hf] at k
    obtain ⟨cA, hW0⟩ := id hW
    obtain ⟨g1, g2, g3, g4, g5⟩ := id hW0
    simp only [List.map_cons, am_cv_ref, am_cv_int] at k ⊢
    have e3 : t = 2 := by
      rcases e2 with z | z
      · exact z
      · exact absurd z.1 (by decide)
    subst e3
    rcases Nat.eq_zero_or_pos k0 with q0 | q0
    · subst q0
      rw [g3] at e1
      cases e1
    · obtain ⟨g6, g7, g8⟩ := g5 k0 _ q0 e1
      rw [show am_ad sb b k0 = b + k0 by unfold am_ad; rw [if_neg (by omega)]]
      exact va_zald hx hb (am_Ka hK g8) (am_one g7) 0 0 rfl rfl hp hdg k
  | laload =>
    have h : am_lald i ls st M = _ := h
    obtain ⟨j, k0, n, rs, r, rfl, e1, rfl, rfl, rfl, rfl, rfl⟩ := am_lald_i h
    have hf : am_g (am_code mi) (i + 1) = pc + 1 := of_decide_eq_true hfl
    have k := kk H locs la hL hW hS
    rw [hf] at k
    obtain ⟨cA, hW0⟩ := id hW
    obtain ⟨g1, g2, g3, g4, g5⟩ := id hW0
    simp only [List.map_cons, am_cv_ref, am_cv_int, am_cv_long] at k ⊢
    rcases Nat.eq_zero_or_pos k0 with q0 | q0
    · subst q0
      rw [g3] at e1
      cases e1
    · obtain ⟨g6, g7, g8⟩ := g5 k0 _ q0 e1
      rw [show am_ad sb b k0 = b + k0 by unfold am_ad; rw [if_neg (by omega)]]
      exact va_lald hx hb (am_Ka hK g8) (am_one g7) 0 0 rfl rfl hp hdg k
  | iastore =>
    have h : am_iast i ls st M = _ := h
    obtain ⟨v, j, k0, n, rs, r, rfl, e1, rfl, rfl, rfl, rfl, rfl⟩ := am_iast_i h
    have hf : am_g (am_code mi) (i + 1) = pc + 1 := of_decide_eq_true hfl
    obtain ⟨cA, hW0⟩ := id hW
    obtain ⟨g1, g2, g3, g4, g5⟩ := id hW0
    simp only [List.map_cons, am_cv_ref, am_cv_int, am_cv_long]
    rcases Nat.eq_zero_or_pos k0 with q0 | q0
    · subst q0
      rw [g3] at e1
      cases e1
    · obtain ⟨g6, g7, g8⟩ := g5 k0 _ q0 e1
      rw [show am_ad sb b k0 = b + k0 by unfold am_ad; rw [if_neg (by omega)]]
      refine am_iastc hx hb g7 g8.1 hp hdg (fun H1 j1 a1 z1 o1 => ?_)
      have k := kk H1 (locs ++ [⟨b + k0, j1⟩]) la hL ⟨cA, hW0.set (t := (0, n, rs)) (t' := (0, n, rs)) e1 g6 rfl (by show M.1 = M.1.set k0 (0, n, rs); exact am_set_self e1) (fun a ha => am_u_n _ _ _ ha) (fun a ha => rfl) z1 o1 (by show va_at D vwCl (b + k0, .inl (cA k0, n, .inl (am_u M.2.1 k0 j.toNatClampNeg v k0))) H1; rw [am_u_s]; exact a1)⟩ (hS.put z1 o1 (by show b < b + k0; omega))
      rw [hf] at k
      exact k
  | bastore =>
    have h : am_zast i ls st M = _ := h
    obtain ⟨v, j, k0, n, rs, r, rfl, e1, rfl, rfl, rfl, rfl, rfl⟩ := am_zast_i h
    have hf : am_g (am_code mi) (i + 1) = pc + 1 := of_decide_eq_true hfl
    obtain ⟨cA, hW0⟩ := id hW
    obtain ⟨g1, g2, g3, g4, g5⟩ := id hW0
    simp only [List.map_cons, am_cv_ref, am_cv_int, am_cv_long]
    rcases Nat.eq_zero_or_pos k0 with q0 | q0
    · subst q0
      rw [g3] at e1
      cases e1
    · obtain ⟨g6, g7, g8⟩ := g5 k0 _ q0 e1
      rw [show am_ad sb b k0 = b + k0 by unfold am_ad; rw [if_neg (by omega)]]
      refine am_zastc hx hb g7 g8.1 hp.1 hp.2 hdg (fun H1 j1 a1 z1 o1 => ?_)
      have k := kk H1 (locs ++ [⟨b + k0, j1⟩]) la hL ⟨cA, hW0.set (t := (2, n, rs)) (t' := (2, n, rs)) e1 g6 rfl (by show M.1 = M.1.set k0 (2, n, rs); exact am_set_self e1) (fun a ha => am_u_n _ _ _ ha) (fun a ha => rfl) z1 o1 (by show va_at D vwCl (b + k0, .inl (cA k0, n, .inl (am_u M.2.1 k0 j.toNatClampNeg v k0))) H1; rw [am_u_s]; exact a1)⟩ (hS.put z1 o1 (by show b < b + k0; omega))
      rw [hf] at k
      exact k
  | lastore =>
    have h : am_last i ls st M = _ := h
    obtain ⟨v, j, k0, n, rs, r, rfl, e1, rfl, rfl, rfl, rfl, rfl⟩ := am_last_i h
    have hf : am_g (am_code mi) (i + 1) = pc + 1 := of_decide_eq_true hfl
    obtain ⟨cA, hW0⟩ := id hW
    obtain ⟨g1, g2, g3, g4, g5⟩ := id hW0
    simp only [List.map_cons, am_cv_ref, am_cv_int, am_cv_long]
    rcases Nat.eq_zero_or_pos k0 with q0 | q0
    · subst q0
      rw [g3] at e1
      cases e1
    · obtain ⟨g6, g7, g8⟩ := g5 k0 _ q0 e1
      rw [show am_ad sb b k0 = b + k0 by unfold am_ad; rw [if_neg (by omega)]]
      refine am_lastc hx hb g7 g8.1 hp hdg (fun H1 j1 a1 z1 o1 => ?_)
      have k := kk H1 (locs ++ [⟨b + k0, j1⟩]) la hL ⟨cA, hW0.set (t := (1, n, rs)) (t' := (1, n, rs)) e1 g6 rfl (by show M.1 = M.1.set k0 (1, n, rs); exact am_set_self e1) (fun a ha => rfl) (fun a ha => am_u_n _ _ _ ha) z1 o1 (by show va_at D vwCl (b + k0, .inl (cA k0, n, .inr (.inl (am_u M.2.2 k0 j.toNatClampNeg v k0)))) H1; rw [am_u_s]; exact a1)⟩ (hS.put z1 o1 (by show b < b + k0; omega))
      rw [hf] at k
      exact k
  | arraylength =>
    have h : am_len i ls st M = _ := h
    obtain ⟨k0, t, n, rs, r, rfl, e1, e2, rfl, rfl, rfl, rfl, rfl⟩ := am_len_i h
    have hf : am_g (am_code mi) (i + 1) = pc + 1 := of_decide_eq_true hfl
    have k := kk H locs la hL hW hS
    rw [hf] at k
    obtain ⟨cA, hW0⟩ := id hW
    obtain ⟨g1, g2, g3, g4, g5⟩ := id hW0
    simp only [List.map_cons, am_cv_ref, am_cv_int] at k ⊢
    rcases Nat.eq_zero_or_pos k0 with q0 | q0
    · subst q0
      rw [g3] at e1
      cases e1
      obtain ⟨scr, y1, y2, y3, y4, y5⟩ := g4
      exact W.alen (n := Int32.ofNat Lx) hx hb y1 y2 (by rw [y4] <;> rfl) rfl rfl hdg k
    · obtain ⟨g6, g7, g8⟩ := g5 k0 _ q0 e1
      rw [show am_ad sb b k0 = b + k0 by unfold am_ad; rw [if_neg (by omega)]]
      have e3 : t = 0 ∨ t = 1 ∨ t = 2 := by
        rcases e2 with z | z
        · omega
        · exact absurd z g6
      rcases e3 with rfl | rfl | rfl
      · exact va_alen hx hb (am_Ka hK g8) (am_one g7) 0 0 rfl rfl rfl hdg k
      · exact va_alen hx hb (am_Ka hK g8) (am_one g7) 0 0 rfl rfl rfl hdg k
      · exact va_alen hx hb (am_Ka hK g8) (am_one g7) 0 0 rfl rfl rfl hdg k
  | putfield ix =>
    have h : am_put (x.getD 0 0) (x.getD 1 0) i ls st M = _ := h
    obtain ⟨v, k0, n, rs, r, rfl, e1, ⟨e2, e6⟩, rfl, rfl, rfl, hc⟩ := am_put_i h
    have hf : am_g (am_code mi) (i + 1) = pc + 3 := of_decide_eq_true hfl
    simp only [am_wrd] at hwd
    split at hwd
    · rename_i q hq
      simp only [Bool.and_eq_true, Bool.or_eq_true] at hwd
      obtain ⟨⟨w1, w2⟩, w3⟩ := hwd
      have hfin : (q.2.1 (x.getD 1 0)).2.2.2 = false ∨ (meth.name = "<init>" ∧ (q.2.1 (x.getD 1 0)).1 = (am_meth mi).1) := by
        rcases w3 with z | z
        · left; simpa using z
        · right; simp only [Bool.and_eq_true, decide_eq_true_eq] at z; exact ⟨hnm z.1, z.2⟩
      obtain ⟨cA, hW0⟩ := id hW
      obtain ⟨g1, g2, g3, g4, g5⟩ := id hW0
      have hk1 : 0 < k0 := by
        rcases Nat.eq_zero_or_pos k0 with q0 | q0
        · subst q0
          rw [g3] at e1
          have e4 : (100 : Nat) = x.getD 0 0 + 3 := congrArg (fun t => t.1) (Option.some.inj e1)
          have e5 := (am_cls_ok _ _ hq).2.2.2
          omega
        · exact q0
      obtain ⟨g6, g7, -⟩ := g5 k0 _ hk1 e1
      have hlen : x.getD 1 0 < ((List.range n).map (fun j => am_fv sb b M k0 (x.getD 0 0) rs j)).length := by simpa using e2
      simp only [List.map_cons, am_cv_ref]
      rw [show am_ad sb b k0 = b + k0 by unfold am_ad; rw [if_neg (by omega)]]
      rcases hc with ⟨y, rfl, hty, rfl⟩ | ⟨y, rfl, hty, rfl, rfl⟩ | ⟨y, rfl, hty, rfl, rfl⟩
      · have hnf : narrow (am_ty (x.getD 0 0) (x.getD 1 0)) (.int y) = .int y ∧ fits (am_ty (x.getD 0 0) (x.getD 1 0)) (.int y) = true := by
          rcases hty with ⟨z, -⟩ | ⟨z, rfl⟩
          · rw [z]; exact ⟨rfl, rfl⟩
          · rw [z]
            rcases hp with rfl | rfl
            · exact ⟨by decide, by decide⟩
            · exact ⟨by decide, by decide⟩
        rw [am_cv_int]
        refine am_putc hx hb hts hq hown hK g7 (of_decide_eq_true w1) (hts _ (am_has_m w2)) hfin hnf.1 hnf.2 hlen hdg (fun H1 j1 a1 z1 o1 => ?_)
        have k := kk H1 (locs ++ [⟨b + k0, j1⟩]) la hL ⟨cA, hW0.set (t := (x.getD 0 0 + 3, n, rs)) (t' := (x.getD 0 0 + 3, n, rs)) e1 g6 rfl (by show M.1 = M.1.set k0 _; exact am_set_self e1) (fun a ha => am_u_n _ _ _ ha) (fun a ha => rfl) z1 o1 (by rw [am_fs_int sb b cA M k0 (x.getD 0 0) n rs e2 y (hty.imp And.left And.left)]; exact a1)⟩ (hS.put z1 o1 (by show b < b + k0; omega))
        rw [hf] at k
        exact k
      · have hnf : narrow (am_ty (x.getD 0 0) (x.getD 1 0)) (.long y) = .long y ∧ fits (am_ty (x.getD 0 0) (x.getD 1 0)) (.long y) = true := by rw [hty]; exact ⟨rfl, rfl⟩
        rw [am_cv_long]
        refine am_putc hx hb hts hq hown hK g7 (of_decide_eq_true w1) (hts _ (am_has_m w2)) hfin hnf.1 hnf.2 hlen hdg (fun H1 j1 a1 z1 o1 => ?_)
        have k := kk H1 (locs ++ [⟨b + k0, j1⟩]) la hL ⟨cA, hW0.set (t := (x.getD 0 0 + 3, n, rs)) (t' := (x.getD 0 0 + 3, n, rs)) e1 g6 rfl (by show M.1 = M.1.set k0 _; exact am_set_self e1) (fun a ha => rfl) (fun a ha => am_u_n _ _ _ ha) z1 o1 (by rw [am_fs_long sb b cA M k0 (x.getD 0 0) n rs e2 y hty]; exact a1)⟩ (hS.put z1 o1 (by show b < b + k0; omega))
        rw [hf] at k
        exact k
      · have hnf : narrow (am_ty (x.getD 0 0) (x.getD 1 0)) (.ref (am_ad sb b y)) = .ref (am_ad sb b y) ∧ fits (am_ty (x.getD 0 0) (x.getD 1 0)) (.ref (am_ad sb b y)) = true := by
          rcases hty with ⟨t, z⟩ | ⟨t, z⟩ <;> (rw [z]; exact ⟨rfl, rfl⟩)
        rw [am_cv_ref]
        refine am_putc hx hb hts hq hown hK g7 (of_decide_eq_true w1) (hts _ (am_has_m w2)) hfin hnf.1 hnf.2 hlen hdg (fun H1 j1 a1 z1 o1 => ?_)
        have k := kk H1 (locs ++ [⟨b + k0, j1⟩]) la hL ⟨cA, hW0.set (t := (x.getD 0 0 + 3, n, rs)) (t' := (x.getD 0 0 + 3, n, rs.set (x.getD 1 0) (y + 1))) e1 g6 rfl rfl (fun a ha => rfl) (fun a ha => rfl) z1 o1 (by rw [am_fs_ref sb b cA M k0 (x.getD 0 0) n rs e2 y hty e6 _]; exact a1)⟩ (hS.put z1 o1 (by show b < b + k0; omega))
        rw [hf] at k
        simp only [List.length_set] at k
        rw [am_sz_set M k0 (x.getD 0 0 + 3, n, rs) (x.getD 0 0 + 3, n, rs.set (x.getD 1 0) (y + 1)) e1 rfl] at k
        exact k
    · cases hwd
  | new ix =>
    have h : am_new (x.getD 0 0) (x.getD 1 0) i ls st M = _ := h
    unfold am_new at h
    cases h
    have hf : am_g (am_code mi) (i + 1) = pc + 3 := of_decide_eq_true hfl
    simp only [am_wrd] at hwd
    split at hwd
    · rename_i q hq
      obtain ⟨C, T, N⟩ := q
      simp only [Bool.and_eq_true] at hwd
      obtain ⟨⟨⟨w1, w2⟩, w3⟩, w4⟩ := hwd
      have hN : N = x.getD 1 0 := of_decide_eq_true w1
      obtain ⟨hin, hty, -, hci⟩ := am_cls_ok _ _ hq
      obtain ⟨cA, hW0⟩ := id hW
      obtain ⟨g1, g2, g3, g4, g5⟩ := id hW0
      have hKn := hK.1 _ _ hq
      have hl1 : (M.1 ++ [(x.getD 0 0 + 3, x.getD 1 0, List.replicate (x.getD 1 0) 0)]).length = M.1.length + 1 := by simp
      simp only [hl1] at hrc
      rw [am_sz_push] at hrs
      dsimp only at hrs
      refine W.newcK hx hb hown (hts _ (am_has_m w2)) (hts _ (am_has_m w3)) (hts _ (am_has_m w4)) rfl hdg (by omega) (by omega) hKn.2.1 rfl fun H1 kC hkC a1 z1 o1 => ?_
      have k := kk H1 locs la hL (hW0.push (t := (x.getD 0 0 + 3, x.getD 1 0, List.replicate (x.getD 1 0) 0)) (by show x.getD 0 0 + 3 ≠ 100; omega) z1 o1 0 ?_ trivial) ⟨Nat.le_trans hS.1 (by omega), fun q h1 h2 => (o1 q (Nat.lt_of_lt_of_le h1 hS.1)).trans (hS.2.1 q h1 h2), hS.2.2⟩
      · rw [hf] at k
        simp only [hl1, List.map_cons, am_cv_ref] at k
        rw [am_sz_push] at k
        dsimp only at k
        rw [show M.1.length + 1 - n0 = M.1.length - n0 + 1 by omega, show am_sz M + x.getD 1 0 - z0 = am_sz M - z0 + x.getD 1 0 by omega, show am_ad sb b M.1.length = H.size by unfold am_ad; rw [if_neg (by have := (List.getElem?_eq_some_iff.mp g3).1; omega), g1]] at k
        rw [hN]
        exact k
      · refine ⟨_, hq, (u_born (am_ty (x.getD 0 0)) hts hin hKn hkC a1 hty).to (fun j hj => ?_)⟩
        have hj2 : j < x.getD 1 0 := by rw [← hN]; exact hj
        refine Eq.trans ?_ (am_gd _ hj2).symm
        show defaultValue (am_ty (x.getD 0 0) j) = am_fv _ _ _ _ _ _ _
        have hrs : (List.replicate (x.getD 1 0) 0)[j]? = some 0 := by rw [List.getElem?_replicate, if_pos hj2]
        unfold am_fv
        rcases am_dn (x.getD 0 0) j with z | z | z | z
        · rw [z]; simp [am_z, defaultValue]
        · rw [z]; simp [am_z, defaultValue]
        · rw [z]; simp [am_z, defaultValue]
        · rw [z]
          split <;> rename_i e <;> (try (rw [e] at z; cases z))
          rw [hrs]
    · cases hwd
  | newarray ty =>
    have hf : am_g (am_code mi) (i + 1) = pc + 2 := of_decide_eq_true hfl
    obtain ⟨cA, hW0⟩ := id hW
    obtain ⟨g1, g2, g3, g4, g5⟩ := id hW0
    cases ty with
    | int =>
      have h : am_newa 0 i ls st M = _ := h
      obtain ⟨n, r, rfl, rfl, rfl, rfl, rfl, rfl⟩ := am_newa_i h
      have hl1 : (M.1 ++ [(0, n.toNatClampNeg, ([] : List Nat))]).length = M.1.length + 1 := by simp
      simp only [hl1] at hrc
      rw [am_sz_push] at hrs
      dsimp only at hrs
      simp only [List.map_cons, am_cv_int]
      obtain ⟨hp1, hp2⟩ : ¬ n < 0 ∧ n.toNatClampNeg ≤ 10000 := hp
      refine va_newaK hx hb (hts _ (am_has_m hwd)) rfl hdg rfl hp1 rfl (by show n.toNatClampNeg * 4 ≤ _; omega) (by omega) (by omega) rfl fun H1 c0 a1 z1 o1 hAr hNm => ?_
      have k := kk H1 locs la hL (hW0.push (t := (0, n.toNatClampNeg, ([] : List Nat))) (by show (0 : Nat) ≠ 100; decide) z1 o1 c0 ?_ ⟨hAr, hNm⟩) ⟨Nat.le_trans hS.1 (by omega), fun q h1 h2 => (o1 q (Nat.lt_of_lt_of_le h1 hS.1)).trans (hS.2.1 q h1 h2), hS.2.2⟩
      · rw [hf] at k
        simp only [hl1, List.map_cons, am_cv_ref] at k
        rw [am_sz_push] at k
        dsimp only at k
        rw [show M.1.length + 1 - n0 = M.1.length - n0 + 1 by omega, show am_sz M + n.toNatClampNeg - z0 = am_sz M - z0 + n.toNatClampNeg by omega, show am_ad sb b M.1.length = H.size by unfold am_ad; rw [if_neg (by have := (List.getElem?_eq_some_iff.mp g3).1; omega), g1]] at k
        exact k
      · show H1[H.size]? = some (vp_cell c0 (n.toNatClampNeg, _))
        rw [a1]
        have e0 : am_z M.2.1 M.1.length 0 M.1.length = fun _ => 0 := by funext j; simp [am_z]
        show _ = some (vp_cell c0 (n.toNatClampNeg, .inl (am_z M.2.1 M.1.length 0 M.1.length)))
        rw [e0]
        rfl
    | long =>
      have h : am_newa 1 i ls st M = _ := h
      obtain ⟨n, r, rfl, rfl, rfl, rfl, rfl, rfl⟩ := am_newa_i h
      have hl1 : (M.1 ++ [(1, n.toNatClampNeg, ([] : List Nat))]).length = M.1.length + 1 := by simp
      simp only [hl1] at hrc
      rw [am_sz_push] at hrs
      dsimp only at hrs
      simp only [List.map_cons, am_cv_int]
      obtain ⟨hp1, hp2⟩ : ¬ n < 0 ∧ n.toNatClampNeg ≤ 10000 := hp
      refine va_newaK hx hb (hts _ (am_has_m hwd)) rfl hdg rfl hp1 rfl (by show n.toNatClampNeg * 8 ≤ _; omega) (by omega) (by omega) rfl fun H1 c0 a1 z1 o1 hAr hNm => ?_
      have k := kk H1 locs la hL (hW0.push (t := (1, n.toNatClampNeg, ([] : List Nat))) (by show (1 : Nat) ≠ 100; decide) z1 o1 c0 ?_ ⟨hAr, hNm⟩) ⟨Nat.le_trans hS.1 (by omega), fun q h1 h2 => (o1 q (Nat.lt_of_lt_of_le h1 hS.1)).trans (hS.2.1 q h1 h2), hS.2.2⟩
      · rw [hf] at k
        simp only [hl1, List.map_cons, am_cv_ref] at k
        rw [am_sz_push] at k
        dsimp only at k
        rw [show M.1.length + 1 - n0 = M.1.length - n0 + 1 by omega, show am_sz M + n.toNatClampNeg - z0 = am_sz M - z0 + n.toNatClampNeg by omega, show am_ad sb b M.1.length = H.size by unfold am_ad; rw [if_neg (by have := (List.getElem?_eq_some_iff.mp g3).1; omega), g1]] at k
        exact k
      · show H1[H.size]? = some (vp_cell c0 (n.toNatClampNeg, _))
        rw [a1]
        have e0 : am_z M.2.2 M.1.length 0 M.1.length = fun _ => 0 := by funext j; simp [am_z]
        show _ = some (vp_cell c0 (n.toNatClampNeg, .inr (.inl (am_z M.2.2 M.1.length 0 M.1.length))))
        rw [e0]
        rfl
    | boolean =>
      have h : am_newa 2 i ls st M = _ := h
      obtain ⟨n, r, rfl, rfl, rfl, rfl, rfl, rfl⟩ := am_newa_i h
      have hl1 : (M.1 ++ [(2, n.toNatClampNeg, ([] : List Nat))]).length = M.1.length + 1 := by simp
      simp only [hl1] at hrc
      rw [am_sz_push] at hrs
      dsimp only at hrs
      simp only [List.map_cons, am_cv_int]
      obtain ⟨hp1, hp2⟩ : ¬ n < 0 ∧ n.toNatClampNeg ≤ 10000 := hp
      refine va_newaK hx hb (hts _ (am_has_m hwd)) rfl hdg rfl hp1 rfl (by show n.toNatClampNeg * 1 ≤ _; omega) (by omega) (by omega) rfl fun H1 c0 a1 z1 o1 hAr hNm => ?_
      have k := kk H1 locs la hL (hW0.push (t := (2, n.toNatClampNeg, ([] : List Nat))) (by show (2 : Nat) ≠ 100; decide) z1 o1 c0 ?_ ⟨hAr, hNm⟩) ⟨Nat.le_trans hS.1 (by omega), fun q h1 h2 => (o1 q (Nat.lt_of_lt_of_le h1 hS.1)).trans (hS.2.1 q h1 h2), hS.2.2⟩
      · rw [hf] at k
        simp only [hl1, List.map_cons, am_cv_ref] at k
        rw [am_sz_push] at k
        dsimp only at k
        rw [show M.1.length + 1 - n0 = M.1.length - n0 + 1 by omega, show am_sz M + n.toNatClampNeg - z0 = am_sz M - z0 + n.toNatClampNeg by omega, show am_ad sb b M.1.length = H.size by unfold am_ad; rw [if_neg (by have := (List.getElem?_eq_some_iff.mp g3).1; omega), g1]] at k
        exact k
      · show H1[H.size]? = some (vp_cell c0 (n.toNatClampNeg, _))
        rw [a1]
        have e0 : am_z M.2.1 M.1.length 0 M.1.length = fun _ => 0 := by funext j; simp [am_z]
        show _ = some (vp_cell c0 (n.toNatClampNeg, .inl (am_z M.2.1 M.1.length 0 M.1.length)))
        rw [e0]
        rfl
    | _ => cases h
  | invokespecial ix =>
    have h : am_oini i ls st M = _ := h
    obtain ⟨v, rfl, rfl, rfl, rfl, rfl, rfl⟩ := am_oini_i h
    have hf : am_g (am_code mi) (i + 1) = pc + 3 := of_decide_eq_true hfl
    have k := kk H locs la hL hW hS
    rw [hf] at k
    by_cases z : x.headD 0 = 9999
    · simp only [am_wrd, z, if_true, Bool.and_eq_true] at hwd
      obtain ⟨⟨⟨⟨w1, w2⟩, w3⟩, w4⟩, w5⟩ := hwd
      refine W.objInit hx hb hown (hts _ (am_has_m w1)) (hts _ (am_has_m w2)) (hts _ (am_has_m w3)) rfl (by show la.size = _; rw [hml, ← hnL]; exact hL.2.1) (a := am_ad sb b v) (rest := []) rfl hdg (by rw [hfr]; exact of_decide_eq_true w4) (by rw [hlo]; exact of_decide_eq_true w5) ?_
      exact k
    · have e : am_kind (Instr.invokespecial ix) x = 2 := by unfold am_kind; rw [if_neg z]
      rw [show am_kind (pc, Instr.invokespecial ix, x, ct, lg).2.1 (pc, Instr.invokespecial ix, x, ct, lg).2.2.1 = am_kind (Instr.invokespecial ix) x from rfl, e] at hk0
      cases hk0
  | _ => cases h
end AMT
