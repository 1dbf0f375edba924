/-! ===== the rows of the world ===== -/
def am_tw : List Cond := lw_tbl.filter goodWord
theorem am_has_m {p : Nat} {w : Cond} (h : am_has p w = true) : w ∈ am_tw := by
  unfold am_has at h
  simp only [Bool.and_eq_true] at h
  exact List.mem_filter.mpr ⟨List.mem_of_getElem? (of_decide_eq_true h.1), h.2⟩
theorem am_tw_good {w : Cond} (h : w ∈ am_tw) : w ∈ lw_tbl ∧ goodWord w = true := List.mem_filter.mp h
theorem am_lay_m {C : String} {T : u_T} {N : Nat} {ps : List Nat} (h : (List.range N).all (fun j => am_has (ps.getD j 0) (u_lay C T j)) = true) : ∀ w ∈ u_ws C T N, w ∈ am_tw := by
  intro w hw
  unfold u_ws at hw
  obtain ⟨j, hj, rfl⟩ := List.mem_map.mp hw
  exact am_has_m (List.all_eq_true.mp h j hj)
theorem am_cls_ok : ∀ (ci : Nat) (q : vw_C), vwCl[ci]? = some q → (∀ w ∈ u_ws q.1 q.2.1 q.2.2, w ∈ am_tw) ∧ (∀ k, k < q.2.2 → parseFieldDescriptor (q.2.1 k).2.2.1 = some (am_ty ci k)) ∧ (∀ a, a < q.2.2 → ∀ b, b < q.2.2 → a ≠ b → (q.2.1 a).2.1 ≠ (q.2.1 b).2.1) ∧ ci < 7 := by
  intro ci q hq
  match ci, hq with
  | 0, hq => cases hq; exact ⟨am_lay_m am_lay0, tyX0_ok, nmX0, by omega⟩
  | 1, hq => cases hq; exact ⟨am_lay_m am_lay1, tyX1_ok, nmX1, by omega⟩
  | 2, hq => cases hq; exact ⟨am_lay_m am_lay2, tyX2_ok, nmX2, by omega⟩
  | 3, hq => cases hq; exact ⟨am_lay_m am_lay3, tyX3_ok, nmX3, by omega⟩
  | 4, hq => cases hq; exact ⟨am_lay_m am_lay4, tyX4_ok, nmX4, by omega⟩
  | 5, hq => cases hq; exact ⟨am_lay_m am_lay5, tyX5_ok, nmX5, by omega⟩
  | 6, hq => cases hq; exact ⟨am_lay_m am_lay6, tyX6_ok, nmX6, by omega⟩
  | k + 7, hq => simp [vwCl] at hq
theorem am_one {D : va_G} {cl : List vw_C} {x : Nat × va_E} {H : Heap} (h : va_at D cl x H) : va_P D cl [x] H := by
  intro k q hq
  have hz : k < 1 := (List.getElem?_eq_some_iff.mp hq).1
  rw [show k = 0 by omega] at hq
  cases hq
  exact h
theorem am_Ka {D : va_G} {cl : List vw_C} {s : State} {cA : ClassId} {ty : FieldType} (hK : va_K D cl [] s) (h : ArrOfT s cA ty ∧ va_RA s cA ty) : va_K D cl [(cA, ty)] s := by
  refine ⟨hK.1, fun k q hq => ?_⟩
  have hz : k < 1 := (List.getElem?_eq_some_iff.mp hq).1
  rw [show k = 0 by omega] at hq
  cases hq
  exact h
/-- a new cell -/
theorem am_W0.push {D : va_G} {sb b Lx : Nat} {cA : Nat → ClassId} {M : am_M} {s : State} {H H' : Heap} (h : am_W0 D sb b Lx cA M s H) {t : Nat × Nat × List Nat} (ht : t.1 ≠ 100) (hz : H'.size = H.size + 1) (ho : ∀ q : Nat, q < H.size → H'[q]? = H[q]?) (c0 : ClassId) (hc : va_at D vwCl (H.size, am_cell sb b (fun _ => c0) (M.1 ++ [t], am_z M.2.1 M.1.length 0, am_z M.2.2 M.1.length 0) M.1.length t) H') (hKA : am_KA s c0 t.1) : am_Wd D sb b Lx (M.1 ++ [t], am_z M.2.1 M.1.length 0, am_z M.2.2 M.1.length 0) s H' := by
  obtain ⟨h1, h2, h3, h4, h5⟩ := h
  have hl0 : 0 < M.1.length := (List.getElem?_eq_some_iff.mp h3).1
  have hzI : ∀ a, a ≠ M.1.length → am_z M.2.1 M.1.length 0 a = M.2.1 a := fun a ha => by funext j; simp [am_z, ha]
  have hzJ : ∀ a, a ≠ M.1.length → am_z M.2.2 M.1.length 0 a = M.2.2 a := fun a ha => by funext j; simp [am_z, ha]
  refine ⟨fun k => if k = M.1.length then c0 else cA k, by rw [hz, h1]; simp; omega, h2, by show (M.1 ++ [t])[0]? = _; rw [List.getElem?_append_left hl0]; exact h3, ?_, fun k u hk hu => ?_⟩
  · show va_X sb Lx (am_z M.2.1 M.1.length 0 0) s H'
    rw [hzI 0 (by omega)]
    exact h4.kept (ho sb (by omega))
  · by_cases e : k = M.1.length
    · subst e
      have hu' : (M.1 ++ [t])[M.1.length]? = some u := hu
      rw [List.getElem?_append_right (Nat.le_refl _), Nat.sub_self] at hu'
      cases hu'
      have ec : am_cell sb b (fun k => if k = M.1.length then c0 else cA k) (M.1 ++ [t], am_z M.2.1 M.1.length 0, am_z M.2.2 M.1.length 0) M.1.length t = am_cell sb b (fun _ => c0) (M.1 ++ [t], am_z M.2.1 M.1.length 0, am_z M.2.2 M.1.length 0) M.1.length t := by
        unfold am_cell
        simp only [if_true]
      refine ⟨ht, ?_, by simpa using hKA⟩
      rw [ec, ← h1]
      exact hc
    · have hu' : (M.1 ++ [t])[k]? = some u := hu
      have hlt : k < M.1.length := by
        have := (List.getElem?_eq_some_iff.mp hu').1
        simp at this
        omega
      rw [List.getElem?_append_left hlt] at hu'
      obtain ⟨g0, g1, g2⟩ := h5 k u hk hu'
      have ec : am_cell sb b (fun k => if k = M.1.length then c0 else cA k) (M.1 ++ [t], am_z M.2.1 M.1.length 0, am_z M.2.2 M.1.length 0) k u = am_cell sb b cA M k u := by
        unfold am_cell am_fv
        simp only [hzI k e, hzJ k e, if_neg e]
      refine ⟨g0, ?_, by simpa [e] using g2⟩
      rw [ec]
      exact g1.kept (ho _ (by show b + k < H.size; omega))
section AMR
variable {p : Program} {l : Launch} {e : Env} {R : Room} {s : State} {m : MethodId} {args : Array Value} {below : List Frame} {meth : Method} {c : Code} {H : Heap} {locs : List Loc} {cells slots : Nat} {Q : State → Prop}
variable {cc : ByteArray} {pc : Nat} {ls : Array Slot} {rest : List Value} {D : va_G} {a : Nat}
theorem am_putc (hexec : p.tables.exec = Jvm.exec) (hb : c.code = cc) (hts : ∀ w ∈ am_tw, w.before args s = true) {own : String} {index ci : Nat} {q : vw_C} (hq : vwCl[ci]? = some q) (hown : s.vm.findClass own = some m.cls) (hK : va_K D vwCl [] s) {fs : List Value} (he : va_at D vwCl (a, .inr (ci, fs)) H) {k : Nat} (hk : k < q.2.2) (hlink : (Cond.fieldLink own index (q.2.1 k).1 (q.2.1 k).2.1 (q.2.1 k).2.2.1).before args s = true) (hfin : (q.2.1 k).2.2.2 = false ∨ (meth.name = "<init>" ∧ (q.2.1 k).1 = own)) {v : Value} (hn : narrow (am_ty ci k) v = v) (hfit : fits (am_ty ci k) v = true) (hl : k < fs.length)
    (hdg : decode cc pc = .ok (.putfield index, 3)) (kk : ∀ (H1 : Heap) (j : Nat), va_at D vwCl (a, .inr (ci, fs.set k v)) H1 → H1.size = H.size → (∀ x : Nat, x ≠ a → H1[x]? = H[x]?) → W p l e R s m args below meth c H1 (locs ++ [⟨a, j⟩]) cells slots Q (F0 m (pc + 3) ls rest)) : W p l e R s m args below meth c H locs cells slots Q (F0 m pc ls (v :: .ref a :: rest)) := by
  obtain ⟨C, T, N⟩ := q
  obtain ⟨hin, hty, hnm, -⟩ := am_cls_ok ci _ hq
  have hap := va_apart (own := own) hts hin (am_ty ci) hty hnm hK hq
  obtain ⟨r, h1, cell, q1, q2, q3, q4⟩ := he
  have hr : r = (C, T, N) := Option.some.inj (h1.symm.trans hq)
  subst hr
  obtain ⟨hS, hfc, kC, hkC, hkind⟩ := hK.1 ci _ hq
  obtain ⟨cf, kf, fi, f, hi, hsl⟩ := hS k hk
  have hlay := hts _ (hin _ (u_in_lay hk))
  have hst := (u_facts hfc hkC (u_lays hts hin hk) hi).1
  unfold u_lay at hlay
  by_cases hf : (T k).2.2.2 = true
  · rw [if_pos hf] at hlay
    obtain ⟨hin2, hdecl⟩ := hfin.resolve_left (fun z => by rw [hf] at z; cases z)
    have hcf : m.cls = cf := by
      obtain ⟨_, _, c', _, _, _, -, -, hf', -, -, -, hown2, -⟩ := Cond.laysFinal_spec hlay
      have e1 : c' = cf := by have := hi.symm.trans hf'; simp at this; exact this.1.symm
      rw [hdecl] at hown2
      rw [← e1]; exact Option.some.inj (hown.symm.trans hown2)
    have h6 := u_fits hfc hkC hkind (Or.inr hlay) hi (hty k hk) hn hfit
    refine W.putFinK hexec hb hown hlink hi hst hcf hin2 (by rw [q2]; exact h6) q1 q3 (by rw [hsl]; exact k2_hasslot (q4 k hk)) rfl rfl hdg fun H' e1 e2 e3 => ?_
    rw [hsl] at e1
    exact kk H' f.slot ⟨_, hq, t_OB.to (V := updV (vp_V fs) k v) ⟨_, e1, q2, q3, t_set q4 hap hk v⟩ (fun j _ => vp_updV_set hl v j)⟩ e2 e3
  · rw [if_neg hf] at hlay
    have h6 := u_store hfc hkC hkind hlay hi (hty k hk) hn hfit
    refine W.putK hexec hb (f := f) ⟨hown, hlink, ⟨_, _, _, hi⟩, hst⟩ (by rw [q2]; exact h6) q1 q3 (by rw [hsl]; exact k2_hasslot (q4 k hk)) rfl rfl hdg fun H' e1 e2 e3 => ?_
    rw [hsl] at e1
    exact kk H' f.slot ⟨_, hq, t_OB.to (V := updV (vp_V fs) k v) ⟨_, e1, q2, q3, t_set q4 hap hk v⟩ (fun j _ => vp_updV_set hl v j)⟩ e2 e3
theorem am_iastc (hexec : p.tables.exec = Jvm.exec) (hb : c.code = cc) {cA : ClassId} {n : Nat} {f : Nat → Int32} (he : va_at D vwCl (a, .inl (cA, n, .inl f)) H) (hA : ArrOfT s cA .int) {i x : Int32} (hin : vp_in i n) (hdg : decode cc pc = .ok (.iastore, 1))
    (kk : ∀ (H1 : Heap) (j : Nat), va_at D vwCl (a, .inl (cA, n, .inl (upd f i.toNatClampNeg x))) H1 → H1.size = H.size → (∀ x : Nat, x ≠ a → H1[x]? = H[x]?) → W p l e R s m args below meth c H1 (locs ++ [⟨a, j⟩]) cells slots Q (F0 m (pc + 1) ls rest)) : W p l e R s m args below meth c H locs cells slots Q (F0 m pc ls (.int x :: .int i :: .ref a :: rest)) := by
  refine W.iast hexec hb he (hA n (fun j => .int (f j))) (fun q => by cases q) (by show ¬ (i < 0 ∨ (arrV _ _ _).slots.size ≤ _); rw [arrV_size]; exact hin) rfl rfl hdg fun H1 e z oq => ?_
  refine kk H1 _ ?_ z oq
  show H1[a]? = some (vp_cell _ _)
  rw [e]
  rw [vp_cell_i, vp_cell_i, arrV_store]
  congr 2
  funext q
  by_cases hq : q = i.toNatClampNeg
  · subst hq
    simp [updV, upd]
  · simp [updV, upd, hq]
theorem am_zastc (hexec : p.tables.exec = Jvm.exec) (hb : c.code = cc) {cA : ClassId} {n : Nat} {f : Nat → Int32} (he : va_at D vwCl (a, .inl (cA, n, .inl f)) H) (hA : ArrOfT s cA .boolean) {i x : Int32} (hin : vp_in i n) (hv : vp_nar .boolean x = x) (hdg : decode cc pc = .ok (.bastore, 1))
    (kk : ∀ (H1 : Heap) (j : Nat), va_at D vwCl (a, .inl (cA, n, .inl (upd f i.toNatClampNeg x))) H1 → H1.size = H.size → (∀ x : Nat, x ≠ a → H1[x]? = H[x]?) → W p l e R s m args below meth c H1 (locs ++ [⟨a, j⟩]) cells slots Q (F0 m (pc + 1) ls rest)) : W p l e R s m args below meth c H locs cells slots Q (F0 m pc ls (.int x :: .int i :: .ref a :: rest)) := by
  refine W.zast hexec hb he (hA n (fun j => .int (f j))) (fun q => by cases q) (by show ¬ (i < 0 ∨ (arrV _ _ _).slots.size ≤ _); rw [arrV_size]; exact hin) rfl rfl hdg fun H1 e z oq => ?_
  refine kk H1 _ ?_ z oq
  rw [← hv]
  show H1[a]? = some (vp_cell _ _)
  rw [e]
  rw [vp_cell_i, vp_cell_i, arrV_store]
  congr 2
  funext q
  by_cases hq : q = i.toNatClampNeg
  · subst hq
    simp [updV, upd, vp_nar]
    try rfl
  · simp [updV, upd, hq]
theorem am_lastc (hexec : p.tables.exec = Jvm.exec) (hb : c.code = cc) {cA : ClassId} {n : Nat} {f : Nat → Int64} (he : va_at D vwCl (a, .inl (cA, n, .inr (.inl f))) H) (hA : ArrOfT s cA .long) {i : Int32} {x : Int64} (hin : vp_in i n) (hdg : decode cc pc = .ok (.lastore, 1))
    (kk : ∀ (H1 : Heap) (j : Nat), va_at D vwCl (a, .inl (cA, n, .inr (.inl (vp_updL f i.toNatClampNeg x)))) H1 → H1.size = H.size → (∀ x : Nat, x ≠ a → H1[x]? = H[x]?) → W p l e R s m args below meth c H1 (locs ++ [⟨a, j⟩]) cells slots Q (F0 m (pc + 1) ls rest)) : W p l e R s m args below meth c H locs cells slots Q (F0 m pc ls (.long x :: .int i :: .ref a :: rest)) := by
  refine W.last hexec hb he (hA n (fun j => .long (f j))) (fun q => by cases q) (by show ¬ (i < 0 ∨ (arrV _ _ _).slots.size ≤ _); rw [arrV_size]; exact hin) rfl rfl hdg fun H1 e z oq => ?_
  refine kk H1 _ ?_ z oq
  show H1[a]? = some (vp_cell _ _)
  rw [e]
  rw [vp_cell_l, vp_cell_l, arrV_store]
  congr 2
  funext q
  by_cases hq : q = i.toNatClampNeg
  · subst hq
    simp [updV, vp_updL]
  · simp [updV, vp_updL, hq]
end AMR
