/-! ===== SOUND: what the little machine runs, the big one runs ===== -/
def am_P (f : Nat) : Prop := ∀ (p : Program) (l : Launch) (e : Env) (R : Room) (s : State) (m : MethodId) (args : Array Value) (below : List Frame) (meth : Method) (c : Code) (Q : State → Prop) (D : va_G) (sb b Lx n0 z0 mi : Nat), am_Fr p R s m args meth c D mi → mi < 179 → ∀ (i : Nat) (ls st : List Value) (M : am_M) (v : Option Value) (M' : am_M), am_run am_code am_meth f mi i ls st M = some (v, M') → n0 ≤ M.1.length → z0 ≤ am_sz M → M'.1.length - n0 ≤ R.cells → am_sz M' - z0 ≤ R.slots →
  (∀ (i2 : Nat) (ls2 st2 : List Value) (E : am_E) (ps : List Prop), (am_code mi)[i2]? = some E → am_rt E.2.1 (am_meth mi).2.2.2.2.1 st2 = some (ps, v) → am_all ps → am_C p l e R s m args below meth c Q D sb b Lx (am_meth mi).2.2.2.1 n0 z0 (am_g (am_code mi)) i2 ls2 st2 M') →
  am_C p l e R s m args below meth c Q D sb b Lx (am_meth mi).2.2.2.1 n0 z0 (am_g (am_code mi)) i ls st M
theorem am_rt_i {ins : Instr} {ret : Option FieldType} {st : List Value} {ps : List Prop} {v : Option Value} (h : am_rt ins ret st = some (ps, v)) : (ins = .return_ ∧ ret = none ∧ st = [] ∧ v = none) ∨ (ins = .ireturn ∧ ∃ x : Int32, st = [.int x] ∧ v = some (.int x) ∧ (ret = some .int ∨ (ret = some .boolean ∧ ps = [x = 0 ∨ x = 1]))) ∨ (ins = .lreturn ∧ ∃ x : Int64, st = [.long x] ∧ v = some (.long x) ∧ ret = some .long) ∨ (ins = .areturn ∧ ∃ (x : Nat) (n : String), st = [.ref x] ∧ v = some (.ref x) ∧ ret = some (.object n)) := by
  unfold am_rt at h
  split at h
  · split at h
    · split at h
      · cases h
        exact Or.inl ⟨rfl, rfl, rfl, rfl⟩
      · cases h
    · cases h
  · split at h
    · split at h
      · cases h
        exact Or.inr (Or.inl ⟨rfl, _, rfl, rfl, Or.inl rfl⟩)
      · cases h
    · split at h
      · cases h
        exact Or.inr (Or.inl ⟨rfl, _, rfl, rfl, Or.inr ⟨rfl, rfl⟩⟩)
      · cases h
    · cases h
  · split at h
    · split at h
      · cases h
        exact Or.inr (Or.inr (Or.inl ⟨rfl, _, rfl, rfl, rfl⟩))
      · cases h
    · cases h
  · split at h
    · split at h
      · cases h
        exact Or.inr (Or.inr (Or.inr ⟨rfl, _, _, rfl, rfl, rfl⟩))
      · cases h
    · cases h
  · cases h
abbrev am_Rm (mj : Nat) (M M' : am_M) : Room := { frames := (am_meth mj).2.2.2.2.2.2.2.2.1, cells := M'.1.length - M.1.length, slots := am_sz M' - am_sz M, locals := (am_meth mj).2.2.2.2.2.2.2.2.2.1 }
theorem am_len_ok : am_YL.length = 179 := by decide +kernel
set_option maxHeartbeats 4000000 in
theorem am_met {f : Nat} (IH : am_P f) {mj : Nat} (h0 : mj ≠ 0) (hmj : mj < 177) {l : Launch} {D : va_G} {sb b Lx : Nat} {as : List Value} {M : am_M} {v : Option Value} {M' : am_M} (hrun : am_run am_code am_meth f mj 0 (am_ent as (am_meth mj).2.2.2.1) [] M = some (v, M')) (hlen : (am_arg as).length ≤ (am_meth mj).2.2.2.1) :
    Met l (am_meth mj).2.1 (am_ws mj) { frames := (am_meth mj).2.2.2.2.2.2.2.2.1, cells := M'.1.length - M.1.length, slots := am_sz M' - am_sz M, locals := (am_meth mj).2.2.2.2.2.2.2.2.2.1 } (va_Pc (as.map (am_cv sb b)) (am_B D sb b Lx M)) (am_Qm D sb b Lx v M') (M'.1.length - M.1.length) (am_sz M' - am_sz M) (am_A b) := by
  obtain ⟨y1, y2, y3, y4, y5, y6, y7, y8, y9⟩ := am_yf ((am_y_ok mj hmj).resolve_left h0)
  refine Met.ofW (cc := (am_meth mj).2.2.1) (maxL := (am_meth mj).2.2.2.1) (ret := (am_meth mj).2.2.2.2.1) y4 rfl ?_
  intro p e s m args below meth c s₁ B hml hv
  obtain ⟨rfl, hW, hK, hN⟩ := hv
  have hts := atoms_spec (ws := am_ws mj) B.pre
  have hts' : ∀ w ∈ am_tw, w.before _ s = true := fun w h => hts w (List.mem_cons_of_mem _ h)
  have hown : s.vm.findClass (am_meth mj).1 = some m.cls := by rw [y1]; exact findClass_of_methodNamed B.named
  have hx := B.exec
  have hb := B.bytes
  have hr := B.returns
  have hlocks := B.notSynchronized
  have F : am_Fr p (am_Rm mj M M') s m _ meth c D mj := ⟨hx, hb, hml, hown, fun h => (name_of_methodNamed B.named B.method).1.trans h, hts', hN, hK, rfl, rfl⟩
  rw [lg_entry_eq]
  have hL := am_entry (sb := sb) (b := b) hlen
  have K : am_C p l e (am_Rm mj M M') s m (as.map (am_cv sb b)).toArray below meth c (MQ below (am_Qm D sb b Lx v M') (as.map (am_cv sb b)).toArray s (M'.1.length - M.1.length) (am_sz M' - am_sz M) (am_A b)) D sb b Lx (am_meth mj).2.2.2.1 M.1.length (am_sz M) (am_g (am_code mj)) 0 (am_ent as (am_meth mj).2.2.2.1) [] M := by
    refine IH p l e (am_Rm mj M M') s m (as.map (am_cv sb b)).toArray below meth c _ D sb b Lx M.1.length (am_sz M) mj F (by omega) 0 _ [] M v M' hrun (Nat.le_refl _) (Nat.le_refl _) (Nat.le_refl _) (Nat.le_refl _) ?_
    intro i2 ls2 st2 E ps hE hrt hps H locs la hL2 hW2 hS
    obtain ⟨-, -, -, hdec⟩ := am_g_ok mj (by omega) i2 E hE
    obtain ⟨pc, ins, x, ct, lg⟩ := E
    have hg : am_g (am_code mj) i2 = pc := by unfold am_g; rw [hE]
    rw [hg]
    have hdg := of_decide_eq_true hdec
    have hq : ∀ (o : Option Value), v.map (am_cv sb b) = o → ∀ t : State, t.heap = H → s.WarmedH t.vm → am_Qm D sb b Lx v M' (as.map (am_cv sb b)).toArray s (.returned o) t := fun o ho t ht hWm => ⟨⟨by rw [ho], by rw [ht]; exact am_Wd.moved hWm.alike hW2⟩, hS.F ht⟩
    rcases am_rt_i hrt with ⟨z1, z2, rfl, rfl⟩ | ⟨z1, y, rfl, rfl, z2⟩ | ⟨z1, y, rfl, rfl, z2⟩ | ⟨z1, y, n, rfl, rfl, z2⟩
    · have z1 : ins = .return_ := z1
      subst z1
      exact W.vret hx hb (hr.trans z2) (hq none rfl) hS.2.2 hdg
    · have z1 : ins = .ireturn := z1
      subst z1
      rcases z2 with z2 | ⟨z2, rfl⟩
      · exact W.iret hx hb (hr.trans z2) (hq _ rfl) hS.2.2 hdg
      · exact W.zret (ty := .boolean) hx hb (hr.trans z2) (by rcases hps with rfl | rfl <;> decide) (hq _ rfl) hS.2.2 hdg
    · have z1 : ins = .lreturn := z1
      subst z1
      exact W.lret hx hb (hr.trans z2) (hq _ rfl) hS.2.2 hdg
    · have z1 : ins = .areturn := z1
      subst z1
      exact W.aret hx hb (hr.trans z2) (Or.inl ⟨_, rfl⟩) (Or.inr ⟨_, rfl⟩) (hq _ rfl) hS.2.2 hdg
  have k := K s.heap [] _ hL hW va_S.rf
  rw [y2, Nat.sub_self, Nat.sub_self] at k
  exact k
theorem am_goodIn {mj : Nat} (h : Cond.code (am_meth mj).2.1 (am_meth mj).2.2.1 (am_meth mj).2.2.2.1 (am_meth mj).2.2.2.2.1 ∈ am_tw) : GoodIn am_tw (am_ws mj) := by
  intro w hw
  rcases List.mem_cons.mp hw with rfl | hw
  · exact ⟨h, good_of_word (am_tw_good h).2⟩
  · exact ⟨hw, good_of_word (am_tw_good hw).2⟩
theorem am_tl (sb b : Nat) (v : Option Value) (r : List Value) : (v.toList ++ r).map (am_cv sb b) = (v.map (am_cv sb b)).toList ++ r.map (am_cv sb b) := by
  cases v <;> simp
theorem am_cat_map (sb b : Nat) (st : List Value) : ((st.map (am_cv sb b)).map fun v => v.category).sum = am_cat st := by
  unfold am_cat
  rw [List.map_map]
  congr 1
  apply List.map_congr_left
  intro v _
  exact am_cv_cat sb b v
theorem am_nest_math : am_nest.all (fun w => match w with | .methodLinkNest _ _ y _ => decide (y.cls ≠ "java/lang/Math") | _ => true) = true := by decide +kernel
set_option maxHeartbeats 4000000 in
theorem am_sound : ∀ f, am_P f
  | 0 => by
    intro p l e R s m args below meth c Q D sb b Lx n0 z0 mi F hmi i ls st M v M' h
    cases h
  | f + 1 => by
    have ih := am_sound f
    intro p l e R s m args below meth c Q D sb b Lx n0 z0 mi F hmi i ls st M v M' h hn0 hz0 hrc hrs hret
    obtain ⟨E, hE, hc⟩ := am_run_i h
    rcases hc with ⟨hk, ps, i', ls', st', M1, h1, hps, h2⟩ | ⟨hk, ps, hrt, hps, rfl⟩ | ⟨hk, ⟨hna, hlen, hrcv, hcat⟩, v1, M1, h1, h2⟩
    · have hle := am_run_le _ _ _ _ _ _ _ _ _ _ h2
      have hle1 := am_stp_le h1
      have hl1 := hle.1
      have hl2 := hle.2
      have hl3 := hle1.1
      have hl4 := hle1.2
      exact am_step F (am_g_ok mi hmi) rfl hE hk h1 hps hn0 hz0 (by omega) (by omega) (ih p l e R s m args below meth c Q D sb b Lx n0 z0 mi F hmi i' ls' st' M1 v M' h2 (by omega) (by omega) hrc hrs hret)
    · exact hret i ls st E ps hE hrt hps
    · obtain ⟨hfl, hwd, hrm, hdec⟩ := am_g_ok mi hmi i E hE
      unfold am_rm at hrm
      rw [if_pos hk] at hrm
      simp only [Bool.and_eq_true, decide_eq_true_eq] at hrm
      obtain ⟨⟨⟨r1, r2⟩, r3⟩, r4⟩ := hrm
      rw [am_len_ok] at r2
      obtain ⟨pc, ins, x, ct, lg⟩ := E
      dsimp only at hk hna hlen hrcv hcat h1 h2 hfl hwd hdec r1 r2 r3 r4
      rcases (Classical.em (x.headD 0 < 177)).symm with hbig | r2
      · have hj : x.headD 0 = 177 ∨ x.headD 0 = 178 := by omega
        have hins : ∃ ix, ins = .invokestatic ix := by
          cases ins with
          | invokestatic ix => exact ⟨ix, rfl⟩
          | invokevirtual ix =>
            simp only [am_wrd, Bool.and_eq_true, decide_eq_true_eq] at hwd
            rcases hj with hj | hj
            · rw [hj] at hwd
              exact absurd hwd.1.1 (by decide +kernel)
            · rw [hj] at hwd
              exact absurd hwd.1.1 (by decide +kernel)
          | invokespecial ix =>
            simp only [am_wrd, if_neg (show ¬ x.headD 0 = 9999 by omega), Bool.and_eq_true, decide_eq_true_eq] at hwd
            rcases hj with hj | hj
            · rw [hj] at hwd
              exact absurd hwd.1.1 (by decide +kernel)
            · rw [hj] at hwd
              exact absurd hwd.1.1 (by decide +kernel)
          | _ => cases hk
        obtain ⟨ix, rfl⟩ := hins
        have hf : am_g (am_code mi) (i + 1) = pc + 3 := of_decide_eq_true hfl
        simp only [am_wrd, Bool.and_eq_true, decide_eq_true_eq] at hwd
        obtain ⟨-, hwd2⟩ := hwd
        rcases hj with hj | hj
        · have hmx : (am_meth 177).2.2.2.2.2.1 = 2 := rfl
          rw [hj] at hna hlen h1 h2 r3 r4
          rw [hj] at hwd2
          have hl : Cond.methodLink (am_meth mi).1 ix Lib.Math.max.name ∈ am_tw := by
            by_cases hz : x.getD 1 0 = 0
            · rw [if_pos hz] at hwd2
              exact am_has_m hwd2
            · rw [if_neg hz] at hwd2
              have hm := List.mem_of_getElem? (of_decide_eq_true hwd2)
              exact absurd (List.all_eq_true.mp am_nest_math _ hm) (by show ¬ (decide (("java/lang/Math" : String) ≠ "java/lang/Math")) = true; decide)
          have hcat2 : am_cat (st.drop 2) ≤ 8 := by
            rw [hj] at hcat
            exact hcat
          obtain ⟨a1, b1, has, rfl, rfl⟩ := am_max h1 (by rw [hna]; rfl) hlen
          have hst : st = .int b1 :: .int a1 :: st.drop 2 := by
            have e1 : st.take 2 = [.int b1, .int a1] := by
              rw [← List.reverse_reverse (st.take 2)]
              exact congrArg List.reverse has
            have e2 := (List.take_append_drop 2 st).symm
            rw [e1] at e2
            exact e2
          have K := ih p l e R s m args below meth c Q D sb b Lx n0 z0 mi F hmi (i + 1) ls _ _ v M' h2 hn0 hz0 hrc hrs hret
          intro H locs la hL hW hS
          obtain ⟨hx, hb, hml, hown, hnm, hts, hnest, hK, hfr, hlo⟩ := F
          have hg : am_g (am_code mi) i = pc := by unfold am_g; rw [hE]
          rw [hg]
          have hdg := of_decide_eq_true hdec
          dsimp only at hdg
          have k := K H locs la hL hW hS
          rw [hf, am_tl] at k
          rw [hst]
          have hc3 : (((st.drop 2).map (am_cv sb b)).map fun v => v.category).sum ≤ 8 := by
            rw [am_cat_map]
            exact hcat2
          have hm2 : (am_meth 177).2.2.2.1 = 2 := rfl
          rw [hm2] at r4
          have hle2 := am_run_le _ _ _ _ _ _ _ _ _ _ h2
          have hl3 := hle2.1
          have hl4 := hle2.2
          exact va_mmax hx hb (hml.trans hL.2.1.symm) hown (hts _ hl) (hts _ (am_has_m (p := 505) (by decide +kernel))) (hts _ (am_has_m (p := 74) (by decide +kernel))) (hts _ (am_has_m (p := 506) (by decide +kernel))) (by rw [hfr]; omega) (by rw [hlo]; omega) (by omega) (by omega) hdg k
        · have hmx : (am_meth 178).2.2.2.2.2.1 = 2 := rfl
          rw [hj] at hna hlen h1 h2 r3 r4
          rw [hj] at hwd2
          have hl : Cond.methodLink (am_meth mi).1 ix Lib.Math.min.name ∈ am_tw := by
            by_cases hz : x.getD 1 0 = 0
            · rw [if_pos hz] at hwd2
              exact am_has_m hwd2
            · rw [if_neg hz] at hwd2
              have hm := List.mem_of_getElem? (of_decide_eq_true hwd2)
              exact absurd (List.all_eq_true.mp am_nest_math _ hm) (by show ¬ (decide (("java/lang/Math" : String) ≠ "java/lang/Math")) = true; decide)
          have hcat2 : am_cat (st.drop 2) ≤ 8 := by
            rw [hj] at hcat
            exact hcat
          obtain ⟨a1, b1, has, rfl, rfl⟩ := am_min h1 (by rw [hna]; rfl) hlen
          have hst : st = .int b1 :: .int a1 :: st.drop 2 := by
            have e1 : st.take 2 = [.int b1, .int a1] := by
              rw [← List.reverse_reverse (st.take 2)]
              exact congrArg List.reverse has
            have e2 := (List.take_append_drop 2 st).symm
            rw [e1] at e2
            exact e2
          have K := ih p l e R s m args below meth c Q D sb b Lx n0 z0 mi F hmi (i + 1) ls _ _ v M' h2 hn0 hz0 hrc hrs hret
          intro H locs la hL hW hS
          obtain ⟨hx, hb, hml, hown, hnm, hts, hnest, hK, hfr, hlo⟩ := F
          have hg : am_g (am_code mi) i = pc := by unfold am_g; rw [hE]
          rw [hg]
          have hdg := of_decide_eq_true hdec
          dsimp only at hdg
          have k := K H locs la hL hW hS
          rw [hf, am_tl] at k
          rw [hst]
          have hc3 : (((st.drop 2).map (am_cv sb b)).map fun v => v.category).sum ≤ 8 := by
            rw [am_cat_map]
            exact hcat2
          have hm2 : (am_meth 178).2.2.2.1 = 2 := rfl
          rw [hm2] at r4
          have hle2 := am_run_le _ _ _ _ _ _ _ _ _ _ h2
          have hl3 := hle2.1
          have hl4 := hle2.2
          exact va_mmin hx hb (hml.trans hL.2.1.symm) hown (hts _ hl) (hts _ (am_has_m (p := 494) (by decide +kernel))) (hts _ (am_has_m (p := 74) (by decide +kernel))) (hts _ (am_has_m (p := 495) (by decide +kernel))) (by rw [hfr]; omega) (by rw [hlo]; omega) (by omega) (by omega) hdg k
      have hM := am_met ih (by omega) r2 (l := l) (D := D) (sb := sb) (b := b) (Lx := Lx) h1 hlen
      obtain ⟨y1, y2, y3, y4, y5, y6, y7, y8, y9⟩ := am_yf ((am_y_ok _ r2).resolve_left (by omega))
      have hle1 := am_run_le _ _ _ _ _ _ _ _ _ _ h1
      have hle2 := am_run_le _ _ _ _ _ _ _ _ _ _ h2
      have hl1 := hle1.1
      have hl2 := hle1.2
      have hl3 := hle2.1
      have hl4 := hle2.2
      have K := ih p l e R s m args below meth c Q D sb b Lx n0 z0 mi F hmi (i + 1) ls _ M1 v M' h2 (by omega) (by omega) hrc hrs hret
      intro H locs la hL hW hS
      obtain ⟨hx, hb, hml, hown, hnm, hts, hnest, hK, hfr, hlo⟩ := F
      have hg : am_g (am_code mi) i = pc := by unfold am_g; rw [hE]
      rw [hg]
      have hdg := of_decide_eq_true hdec
      dsimp only at hdg
      generalize hj : x.headD 0 = mj at hk hna hlen hrcv hcat h1 h2 r1 r2 r3 r4 hM y1 y2 y3 y4 y5 y6 y7 y8 y9 K
      generalize has : (st.take (am_meth mj).2.2.2.2.2.1).reverse = as at hna hlen hrcv h1 hM
      generalize hre : st.drop (am_meth mj).2.2.2.2.2.1 = rest at hcat h2 K
      have hst : st.map (am_cv sb b) = (as.map (am_cv sb b)).reverse ++ rest.map (am_cv sb b) := by
        rw [← has, ← hre, ← List.map_reverse, List.reverse_reverse, ← List.map_append, List.take_append_drop]
      have hroom : 2 * (F0 m pc la (st.map (am_cv sb b))).monitorRoom + ((rest.map (am_cv sb b)).map fun v => v.category).sum ≤ 8 := lv_room (by rw [am_cat_map]; exact hcat)
      have hPc : ∀ U : State, U.heap = H → s.WarmedH U.vm → va_Pc (as.map (am_cv sb b)) (am_B D sb b Lx M) (as.map (am_cv sb b)).toArray U := fun U hU hWm => ⟨rfl, by rw [hU]; exact am_Wd.moved hWm.alike hW, va_K.moved hWm.alike hK, am_nest_w hWm hnest⟩
      have hfin : ∀ (t : State) (H1 : Heap) (locs1 : List Loc), am_g (am_code mi) (i + 1) = pc + 3 → t.heap = H1 → s.vm.Alike t.vm → am_Wd D sb b Lx M1 t t.heap → va_S (am_A b) s.heap H1 locs1 → W p l e R s m args below meth c H1 locs1 (M.1.length - n0 + (M1.1.length - M.1.length)) (am_sz M - z0 + (am_sz M1 - am_sz M)) Q (F0 m (pc + 3) la ((v1.map (am_cv sb b)).toList ++ rest.map (am_cv sb b))) := by
        intro t H1 locs1 hf ht hvm hB hS1
        have k := K H1 locs1 la hL (am_Wd.moved hvm.symm (by rw [← ht]; exact hB)) hS1
        rw [hf, am_tl] at k
        exact W.cs (by omega) (by omega) k
      have hcells : M.1.length - n0 + (M1.1.length - M.1.length) ≤ R.cells ∧ am_sz M - z0 + (am_sz M1 - am_sz M) ≤ R.slots := ⟨by omega, by omega⟩
      have hR : (am_meth mj).2.2.2.2.2.2.2.2.1 + 1 ≤ R.frames ∧ 8 + ((am_meth mj).2.2.2.1 + 11) + (am_meth mj).2.2.2.2.2.2.2.2.2.1 ≤ R.locals := ⟨by rw [hfr]; exact r3, by rw [hlo]; exact r4⟩
      cases ins with
      | invokestatic ix =>
        have hf : am_g (am_code mi) (i + 1) = pc + 3 := of_decide_eq_true hfl
        simp only [am_wrd, hj, Bool.and_eq_true, decide_eq_true_eq] at hwd
        obtain ⟨w1, w2⟩ := hwd
        obtain ⟨u1, u2⟩ := y7 w1
        by_cases hz : x.getD 1 0 = 0
        · rw [if_pos hz] at w2
          have hr := va_runS (As := as.map (am_cv sb b)) (rest := rest.map (am_cv sb b)) (g := F0 m pc la (st.map (am_cv sb b))) (cells := M.1.length - n0) (slots := am_sz M - z0) (H := H) (locs := locs) (e := e) (below := below) (meth := meth) ⟨hx, hb, hml, hown, hts⟩ hM ⟨callB_of (am_meth mj).2.2.2.2.2.1 hts (am_goodIn y5) rfl rfl rfl (hts _ y6) (hts _ (am_has_m w2)) ⟨y3.1, y3.2, u2⟩ hR, hts _ u1⟩ ⟨am_blind, hPc⟩ rfl (by rw [List.length_map]; exact hna) hL.2.1 hst hroom hdg hcells
          exact am_callq hr (fun st oc t h => h) hS (fun q h => h) (fun t H1 locs1 ht hvm hB hS1 => hfin t H1 locs1 hf ht hvm hB hS1)
        · rw [if_neg hz] at w2
          have hnw := hnest _ (List.mem_of_getElem? (of_decide_eq_true w2))
          have hr := va_runSN (As := as.map (am_cv sb b)) (rest := rest.map (am_cv sb b)) (g := F0 m pc la (st.map (am_cv sb b))) (cells := M.1.length - n0) (slots := am_sz M - z0) (H := H) (locs := locs) (e := e) (below := below) (meth := meth) ⟨hx, hb, hml, hown, hts⟩ hM ⟨va_cnB (am_meth mj).2.2.2.2.2.1 hts (am_goodIn y5) rfl rfl rfl hnw (hts _ y6) ⟨y3.1, y3.2, u2⟩ hR, hts _ u1, trivial⟩ ⟨am_blind, hPc⟩ rfl (by rw [List.length_map]; exact hna) hL.2.1 hst hroom hdg hcells
          exact am_callq hr (fun st oc t h => h) hS (fun q h => h) (fun t H1 locs1 ht hvm hB hS1 => hfin t H1 locs1 hf ht hvm hB hS1)
      | invokevirtual ix =>
        have hf : am_g (am_code mi) (i + 1) = pc + 3 := of_decide_eq_true hfl
        simp only [am_wrd, hj, Bool.and_eq_true, decide_eq_true_eq] at hwd
        obtain ⟨⟨w1, -⟩, w2⟩ := hwd
        obtain ⟨u1, u2, u3, u4⟩ := y8 w1
        rw [w1] at hrcv
        obtain ⟨k0, A2, n, rs, rfl, e1⟩ : ∃ (k0 : Nat) (A2 : List Value) (n : Nat) (rs : List Nat), as = .ref k0 :: A2 ∧ M.1[k0]? = some ((am_meth mj).2.2.2.2.2.2.2.1 + 3, n, rs) := by
          unfold am_rcv at hrcv
          simp only at hrcv
          split at hrcv
          · split at hrcv
            · rename_i e1
              have e2 := of_decide_eq_true hrcv
              rw [e2] at e1
              exact ⟨_, _, _, _, rfl, e1⟩
            · cases hrcv
          · cases hrcv
        obtain ⟨q, hq, hqc⟩ := Option.map_eq_some_iff.mp u4
        obtain ⟨cA, hW0⟩ := id hW
        obtain ⟨g1, g2, g3, g4, g5⟩ := id hW0
        have hk1 : 0 < k0 := by
          rcases Nat.eq_zero_or_pos k0 with q0 | q0
          · subst q0
            rw [g3] at e1
            have e4 : (100 : Nat) = (am_meth mj).2.2.2.2.2.2.2.1 + 3 := congrArg (fun t => t.1) (Option.some.inj e1)
            have e5 := (am_cls_ok _ _ hq).2.2.2
            omega
          · exact q0
        obtain ⟨-, g7, -⟩ := g5 k0 _ hk1 e1
        have had : am_ad sb b k0 = b + k0 := by unfold am_ad; rw [if_neg (by omega)]
        simp only [List.map_cons, am_cv_ref, List.reverse_cons, List.append_assoc, List.singleton_append, had] at hst hM hPc
        have hrv := va_recv hK (am_one g7) hq (q0 := 0) rfl
        rw [hqc] at hrv
        have hn2 : (parseMethodDescriptor (am_meth mj).2.1.desc).map (fun d => d.parameters.length) = some A2.length := by
          obtain ⟨d, hd, hd2⟩ := Option.map_eq_some_iff.mp u3
          rw [hd]
          simp only [List.length_cons] at hna
          have hd3 : d.parameters.length + 1 = (am_meth mj).2.2.2.2.2.1 := hd2
          show some d.parameters.length = some A2.length
          congr 1
          omega
        have hr := va_runV (C := (am_meth mj).2.1.cls) (b := b + k0) (As := A2.map (am_cv sb b)) (rest := rest.map (am_cv sb b)) (g := F0 m pc la (st.map (am_cv sb b))) (cells := M.1.length - n0) (slots := am_sz M - z0) (H := H) (locs := locs) (e := e) (below := below) (meth := meth) ⟨hx, hb, hml, hown, hts⟩ hM ⟨callB_of A2.length hts (am_goodIn y5) rfl rfl rfl (hts _ y6) (hts _ (am_has_m w2)) ⟨y3.1, y3.2, hn2⟩ hR, hts _ u1, hts _ u2⟩ ⟨am_blind, hrv, hPc⟩ rfl (by rw [List.length_map]) hL.2.1 hst hroom hdg hcells
        exact am_callq hr (fun st oc t h => h) hS (fun q h => h) (fun t H1 locs1 ht hvm hB hS1 => hfin t H1 locs1 hf ht hvm hB hS1)
      | invokespecial ix =>
        have hf : am_g (am_code mi) (i + 1) = pc + 3 := of_decide_eq_true hfl
        have hz : ¬ mj = 9999 := by omega
        simp only [am_wrd, hj, if_neg hz, Bool.and_eq_true, decide_eq_true_eq] at hwd
        obtain ⟨⟨w1, -⟩, w2⟩ := hwd
        obtain ⟨u1, u2, u3, u4, u5⟩ := y9 w1
        rw [w1] at hrcv
        obtain ⟨k0, A2, n, rs, rfl, e1⟩ : ∃ (k0 : Nat) (A2 : List Value) (n : Nat) (rs : List Nat), as = .ref k0 :: A2 ∧ M.1[k0]? = some ((am_meth mj).2.2.2.2.2.2.2.1 + 3, n, rs) := by
          unfold am_rcv at hrcv
          simp only at hrcv
          split at hrcv
          · split at hrcv
            · rename_i e1
              have e2 := of_decide_eq_true hrcv
              rw [e2] at e1
              exact ⟨_, _, _, _, rfl, e1⟩
            · cases hrcv
          · cases hrcv
        obtain ⟨q, hq, hqc⟩ := Option.map_eq_some_iff.mp u5
        obtain ⟨cA, hW0⟩ := id hW
        obtain ⟨g1, g2, g3, g4, g5⟩ := id hW0
        have hk1 : 0 < k0 := by
          rcases Nat.eq_zero_or_pos k0 with q0 | q0
          · subst q0
            rw [g3] at e1
            have e4 : (100 : Nat) = (am_meth mj).2.2.2.2.2.2.2.1 + 3 := congrArg (fun t => t.1) (Option.some.inj e1)
            have e5 := (am_cls_ok _ _ hq).2.2.2
            omega
          · exact q0
        have had : am_ad sb b k0 = b + k0 := by unfold am_ad; rw [if_neg (by omega)]
        simp only [List.map_cons, am_cv_ref, List.reverse_cons, List.append_assoc, List.singleton_append, had] at hst hM hPc
        have hn2 : (parseMethodDescriptor (am_meth mj).2.1.desc).map (fun d => d.parameters.length) = some A2.length := by
          obtain ⟨d, hd, hd2⟩ := Option.map_eq_some_iff.mp u4
          rw [hd]
          simp only [List.length_cons] at hna
          have hd3 : d.parameters.length + 1 = (am_meth mj).2.2.2.2.2.1 := hd2
          show some d.parameters.length = some A2.length
          congr 1
          omega
        have hws : am_ws mj = Cond.code (am_meth mj).2.1 (am_meth mj).2.2.1 (am_meth mj).2.2.2.1 none :: am_tw := by unfold am_ws; rw [u3]
        have hr := va_runI (b := b + k0) (As := A2.map (am_cv sb b)) (rest := rest.map (am_cv sb b)) (g := F0 m pc la (st.map (am_cv sb b))) (cells := M.1.length - n0) (slots := am_sz M - z0) (H := H) (locs := locs) (e := e) (below := below) (meth := meth) ⟨hx, hb, hml, hown, hts⟩ hM ⟨callB_of A2.length hts (am_goodIn y5) hws rfl rfl (hts _ y6) (hts _ (am_has_m w2)) ⟨y3.1, y3.2, hn2⟩ hR, u2, hts _ u1⟩ ⟨am_blind, hPc⟩ rfl (by rw [List.length_map]) hL.2.1 hst hroom hdg hcells
        exact am_callq hr (fun st oc t h => h) hS (fun q h => h) (fun t H1 locs1 ht hvm hB hS1 => hfin t H1 locs1 hf ht hvm hB hS1)
      | _ => cases hk
