theorem qM_ofH {l : Launch} {g : qG} {y : MethodName} {cc : ByteArray} {maxL : Nat} {ret : Option FieldType} {hh : List (Nat × Nat × Nat × Nat)} {rm : Room} {kv : Int → Option Value} {av : List Value} {S S' : qS} {o : qO} {L : List (Nat × Value)}
    (hy : plainName y.cls = true) (hL : lv_args 0 av = L) (hsz : (lg_sl av).length ≤ maxL) (hl : l.stackTraces = false) (hA : qAd g)
    (body : ∀ (p : Program) (e : Env) (s : State) (m : MethodId) (below : List Frame) (meth : Method) (c : Code), qC g p l s m av.toArray meth c y.cls cc maxL → meth.sig.returnType = ret → c.exceptionTable.toList = tableOf hh →
      qZ g p l e rm s m av.toArray below meth c (qQ g below kv o S' av.toArray s rm) maxL S L 0 [] 0 0) : qM l g y (.codeWith y cc maxL ret hh) rm kv av S o S' := by
  refine vx_ofWH (cc := cc) (maxL := maxL) (ret := ret) (hh := hh) hy rfl ?_
  intro p e s m args below meth c s₁ B hml hv
  obtain ⟨rfl, hP, hAm⟩ := hv
  have hts : ∀ w ∈ qAW, w.before av.toArray s = true := fun w hw => atoms_spec (ws := .codeWith y cc maxL ret hh :: qAW) B.pre w (List.mem_cons_of_mem _ hw)
  have ht := vx_table (x := y) B (atoms_spec (ws := .codeWith y cc maxL ret hh :: qAW) B.pre _ List.mem_cons_self)
  have hl1 := lv_entry av (n := maxL) hsz
  rw [lg_entry_eq]
  rw [hL] at hl1
  exact body p e s m below meth c ⟨B.exec, B.bytes, hml, findClass_of_methodNamed B.named, hts, hAm, hA, B.notSynchronized, hl⟩ B.returns ht s.heap [] _ hP va_S.rf hl1
section QWR
variable {g : qG} {p : Program} {l : Launch} {e : Env} {R : Room} {s : State} {m : MethodId} {args : Array Value} {below : List Frame} {meth : Method} {c : Code} {Q : State → Prop} {nL : Nat} {S : qS} {L L' : List (Nat × Value)} {pc : Nat} {st : List Value} {k n : Nat} {own : String} {cc : ByteArray}
theorem z_catch {E : String} (C : qC g p l s m args meth c own cc nL) (pre : List ExceptionTableEntry) (x : ExceptionTableEntry) (suf : List ExceptionTableEntry) (hsplit : c.exceptionTable.toList = pre ++ x :: suf) (hpass : ∀ z ∈ pre, z.catchType ≠ 0 ∧ ∃ nm : String, Cond.classLink own z.catchType nm ∈ qAW ∧ va_Nc E nm s) (hx : covers x pc = true) (h0 : x.catchType ≠ 0) (hlink : Cond.classLink own x.catchType E ∈ qAW) (hcast : Cond.castable E E ∈ qNW) (kk : ∀ q9 : Nat, qZ g p l e R s m args below meth c Q nL S L (x.handlerPc) ([.ref q9]) k n) : qY g p l e R s m args below meth c Q nL S L pc st k n E :=
  fun H locs ls ce q9 hP hS hl hce hcv hcl => vx_catch C.2.2.2.1 pre x suf hsplit (fun z hz => Or.inr ⟨(hpass z hz).1, (hpass z hz).2.choose, C.2.2.2.2.1 _ (hpass z hz).2.choose_spec.1, (hpass z hz).2.choose_spec.2⟩) hx h0 (C.2.2.2.2.1 _ hlink) (va_Nw.use (qNw_ot (List.mem_filter.mp hcast).2) (C.2.2.2.2.2.1.2.2.1 _ hcast)) hce hcv hcl (kk q9 H locs ls hP hS hl)
theorem z_callSW {st0 : List Value} {y : MethodName} {bytes : ByteArray} {maxL i n9 : Nat} {ret : Option FieldType} {hh : List (Nat × Nat × Nat × Nat)} {rm : Room} {kv : Int → Option Value} {As : List Value} {S' : qS} {r0 : Int} (C : qC g p l s m args meth c own cc nL)
    (hM : qM l g y (.codeWith y bytes maxL ret hh) rm kv As S (.inr r0) S') (hst : st0 = As.reverse ++ st) (hw : ∀ w ∈ va_wsS own i y [.codeWith y bytes maxL ret hh], w ∈ qAW)
    (hd : y.cls ≠ "java/lang/invoke/MethodHandle" ∧ y.cls ≠ "java/lang/invoke/VarHandle" ∧ (parseMethodDescriptor y.desc).map (fun d => d.parameters.length) = some n9) (hn : As.length = n9)
    (hR : rm.frames + 1 ≤ R.frames ∧ 8 + (maxL + 11) + rm.locals ≤ R.locals) (hcs : k + rm.cells ≤ R.cells ∧ n + rm.slots ≤ R.slots) (hcat : (st.map fun v => v.category).sum ≤ 8) (d : decode cc pc = .ok (.invokestatic i, 3))
    (kr : qZ g p l e R s m args below meth c Q nL S' L (pc + 3) ((kv r0).toList ++ st) (k + rm.cells) (n + rm.slots)) : qZ g p l e R s m args below meth c Q nL S L pc st0 k n := by
  refine z_run (a9 := As.toArray) (o := .inr r0) (fun H locs ls hP hS hl => ?_) (fun E h => nomatch h) (fun r h => by cases h; exact kr)
  exact vx_runSX (qCF C) hM (vx_cwSW n9 C.2.2.2.2.1 (qGood (ws := va_wsS own i y (.codeWith y bytes maxL ret hh :: qAW)) (fun w h => by
      rcases List.mem_append.mp h with h | h
      · exact hw w (List.mem_append_left _ h)
      · rcases List.mem_cons.mp h with rfl | h
        · exact hw _ (List.mem_append_right _ List.mem_cons_self)
        · exact h)) rfl rfl rfl hd hR) ⟨qPc_blind, qPre C hP hS⟩ rfl hn hl.1 hst (lv_room hcat) d hcs
end QWR
theorem qcast_iae : (Jvm.Cond.castable "java/lang/IllegalArgumentException" "java/lang/IllegalArgumentException") ∈ qNW := qNWi 381 (by decide +kernel) (by decide +kernel)
theorem qcast_ise : (Jvm.Cond.castable "java/lang/IllegalStateException" "java/lang/IllegalStateException") ∈ qNW := qNWi 453 (by decide +kernel) (by decide +kernel)
theorem qcast_ioo : (Jvm.Cond.castable "java/lang/IndexOutOfBoundsException" "java/lang/IndexOutOfBoundsException") ∈ qNW := qNWi 498 (by decide +kernel) (by decide +kernel)
theorem qcl_13 : (Jvm.Cond.classLink "AxleScaleLaw" (13 : Nat) "java/lang/IllegalArgumentException") ∈ qAW := qAWi 373 (by decide +kernel) (by decide +kernel)
theorem qcl_15 : (Jvm.Cond.classLink "AxleScaleLaw" (15 : Nat) "java/lang/IllegalStateException") ∈ qAW := qAWi 374 (by decide +kernel) (by decide +kernel)
theorem qcl_24 : (Jvm.Cond.classLink "AxleScaleLaw" (24 : Nat) "java/lang/IndexOutOfBoundsException") ∈ qAW := qAWi 486 (by decide +kernel) (by decide +kernel)
set_option maxHeartbeats 4000000 in
set_option maxRecDepth 100000 in
theorem met_L_append (l : Launch) (g : qG) (hl : l.stackTraces = false) (hA : qAd g) (n9 : Nat) (S : qS) (p1 : Int) (r : Int × qS) (hm : ML_append n9 S p1 = some r) : qM l g yL_append (.codeWith yL_append cL_append 4 (some .int) [(0, 9, 12, 13), (0, 9, 15, 15)]) rmL_append qkI [.ref (qad g 0), .int (qI p1), .ref (qad g 127)] S (.inr r.1) r.2 := by
  rw [ML_append] at hm
  refine qM_ofH (L := [(0, .ref (qad g 0)), (1, .int (qI p1)), (2, .ref (qad g 127))]) (by decide +kernel) rfl (Nat.le_of_ble_eq_true rfl) hl hA ?_
  intro p e s m below meth c C hr hT
  have C : qC g p l s m ([.ref (qad g 0), .int (qI p1), .ref (qad g 127)] : List Value).toArray meth c RL cL_append 4 := C
  refine z_aload_n C dL_append_0 2 rfl ?_
  refine z_iconst (x := 0) C dL_append_1 rfl ?_
  refine z_aload_n C dL_append_2 0 rfl ?_
  refine z_iload_n C dL_append_3 1 rfl ?_
  obtain ⟨a, ha, hm⟩ := qb_i hm
  refine iv_L_7 C (met_X3_append l g hl hA n9 S p1 _ ha) rfl ⟨by decide, by decide⟩ ⟨by decide, by decide⟩ (Nat.le_of_ble_eq_true rfl) dL_append_4 (fun E he => ?_) (fun v he => ?_)
  · have hm := qy_l hm he
    rcases Classical.em (E = "java/lang/IllegalArgumentException") with c1 | c1
    · have hm := qt_i hm c1
      subst c1
      refine z_catch C [] (⟨0, 9, 12, 13⟩ : ExceptionTableEntry) [(⟨0, 9, 15, 15⟩ : ExceptionTableEntry)] hT (fun z hz => absurd hz List.not_mem_nil) (by decide) (by decide) qcl_13 qcast_iae (fun q9 => ?_)
      refine z_astore_n (L' := [(3, .ref q9), (0, .ref (qad g 0)), (1, .int (qI p1)), (2, .ref (qad g 127))]) C dL_append_12 (by decide) rfl ?_
      refine z_iconst (x := 1) C dL_append_13 rfl ?_
      exact z_iret C hr (by decide) (by decide) (by cases hm; rfl) dL_append_14
    have hm := qf_i hm c1
    rcases Classical.em (E = "java/lang/IllegalStateException") with c1 | c1
    · have hm := qt_i hm c1
      subst c1
      refine z_catch C [(⟨0, 9, 12, 13⟩ : ExceptionTableEntry)] (⟨0, 9, 15, 15⟩ : ExceptionTableEntry) [] hT (fun z hz => by rw [List.mem_singleton.mp hz]; exact ⟨by decide, "java/lang/IllegalArgumentException", qcl_13, C.2.2.2.2.2.1.2.2.2.2.2.2.2.1⟩) (by decide) (by decide) qcl_15 qcast_ise (fun q9 => ?_)
      refine z_astore_n (L' := [(3, .ref q9), (0, .ref (qad g 0)), (1, .int (qI p1)), (2, .ref (qad g 127))]) C dL_append_15 (by decide) rfl ?_
      refine z_iconst (x := 2) C dL_append_16 rfl ?_
      exact z_iret C hr (by decide) (by decide) (by cases hm; rfl) dL_append_17
    have hm := qf_i hm c1
    cases hm
  · have hm := qy_r hm he
    obtain ⟨h5, hm⟩ := qg_i hm
    refine z_i2l C dL_append_7 h5 ?_
    refine z_last C rfl (by decide) dL_append_8 ?_
    obtain ⟨S2, e2, hm⟩ := ql_i hm
    refine z_S e2 ?_
    refine z_goto (tgt := 18) C dL_append_9 (by decide) ?_
    refine z_iconst (x := 0) C dL_append_18 rfl ?_
    exact z_iret C hr (by decide) (by decide) (by cases hm; rfl) dL_append_19
set_option maxHeartbeats 4000000 in
set_option maxRecDepth 100000 in
theorem met_L_about (l : Launch) (g : qG) (hl : l.stackTraces = false) (hA : qAd g) (n9 : Nat) (S : qS) (p1 : Int) (r : Int × qS) (hm : ML_about n9 S p1 = some r) : qM l g yL_about (.codeWith yL_about cL_about 4 (some .int) [(0, 9, 12, 13)]) rmL_about qkI [.ref (qad g 0), .int (qI p1), .ref (qad g 127)] S (.inr r.1) r.2 := by
  rw [ML_about] at hm
  refine qM_ofH (L := [(0, .ref (qad g 0)), (1, .int (qI p1)), (2, .ref (qad g 127))]) (by decide +kernel) rfl (Nat.le_of_ble_eq_true rfl) hl hA ?_
  intro p e s m below meth c C hr hT
  have C : qC g p l s m ([.ref (qad g 0), .int (qI p1), .ref (qad g 127)] : List Value).toArray meth c RL cL_about 4 := C
  refine z_aload_n C dL_about_0 2 rfl ?_
  refine z_iconst (x := 0) C dL_about_1 rfl ?_
  refine z_aload_n C dL_about_2 0 rfl ?_
  refine z_iload_n C dL_about_3 1 rfl ?_
  obtain ⟨a, ha, hm⟩ := qb_i hm
  refine iv_L_17 C (met_X3_about l g hl hA n9 S p1 _ ha) rfl ⟨by decide, by decide⟩ ⟨by decide, by decide⟩ (Nat.le_of_ble_eq_true rfl) dL_about_4 (fun E he => ?_) (fun v he => ?_)
  · have hm := qy_l hm he
    rcases Classical.em (E = "java/lang/IllegalArgumentException") with c1 | c1
    · have hm := qt_i hm c1
      subst c1
      refine z_catch C [] (⟨0, 9, 12, 13⟩ : ExceptionTableEntry) [] hT (fun z hz => absurd hz List.not_mem_nil) (by decide) (by decide) qcl_13 qcast_iae (fun q9 => ?_)
      refine z_astore_n (L' := [(3, .ref q9), (0, .ref (qad g 0)), (1, .int (qI p1)), (2, .ref (qad g 127))]) C dL_about_12 (by decide) rfl ?_
      refine z_iconst (x := 1) C dL_about_13 rfl ?_
      exact z_iret C hr (by decide) (by decide) (by cases hm; rfl) dL_about_14
    have hm := qf_i hm c1
    cases hm
  · have hm := qy_r hm he
    obtain ⟨h5, hm⟩ := qg_i hm
    refine z_i2l C dL_about_7 h5 ?_
    refine z_last C rfl (by decide) dL_about_8 ?_
    obtain ⟨S2, e2, hm⟩ := ql_i hm
    refine z_S e2 ?_
    refine z_goto (tgt := 15) C dL_about_9 (by decide) ?_
    refine z_iconst (x := 0) C dL_about_15 rfl ?_
    exact z_iret C hr (by decide) (by decide) (by cases hm; rfl) dL_about_16
set_option maxHeartbeats 4000000 in
set_option maxRecDepth 100000 in
theorem met_L_axle (l : Launch) (g : qG) (hl : l.stackTraces = false) (hA : qAd g) (n9 : Nat) (S : qS) (p1 : Int) (p2 : Int) (r : Int × qS) (hm : ML_axle n9 S p1 p2 = some r) : qM l g yL_axle (.codeWith yL_axle cL_axle 5 (some .int) [(0, 10, 13, 24), (0, 10, 17, 13)]) rmL_axle qkI [.ref (qad g 0), .int (qI p1), .int (qI p2), .ref (qad g 127)] S (.inr r.1) r.2 := by
  rw [ML_axle] at hm
  refine qM_ofH (L := [(0, .ref (qad g 0)), (1, .int (qI p1)), (2, .int (qI p2)), (3, .ref (qad g 127))]) (by decide +kernel) rfl (Nat.le_of_ble_eq_true rfl) hl hA ?_
  intro p e s m below meth c C hr hT
  have C : qC g p l s m ([.ref (qad g 0), .int (qI p1), .int (qI p2), .ref (qad g 127)] : List Value).toArray meth c RL cL_axle 5 := C
  refine z_aload_n C dL_axle_0 3 rfl ?_
  refine z_iconst (x := 0) C dL_axle_1 rfl ?_
  refine z_aload_n C dL_axle_2 0 rfl ?_
  refine z_iload_n C dL_axle_3 1 rfl ?_
  refine z_iload_n C dL_axle_4 2 rfl ?_
  obtain ⟨a, ha, hm⟩ := qb_i hm
  refine iv_L_20 C (met_X3_axle l g hl hA n9 S p1 p2 _ ha) rfl ⟨by decide, by decide⟩ ⟨by decide, by decide⟩ (Nat.le_of_ble_eq_true rfl) dL_axle_5 (fun E he => ?_) (fun v he => ?_)
  · have hm := qy_l hm he
    rcases Classical.em (E = "java/lang/IndexOutOfBoundsException") with c1 | c1
    · have hm := qt_i hm c1
      subst c1
      refine z_catch C [] (⟨0, 10, 13, 24⟩ : ExceptionTableEntry) [(⟨0, 10, 17, 13⟩ : ExceptionTableEntry)] hT (fun z hz => absurd hz List.not_mem_nil) (by decide) (by decide) qcl_24 qcast_ioo (fun q9 => ?_)
      refine z_astore (L' := [(4, .ref q9), (0, .ref (qad g 0)), (1, .int (qI p1)), (2, .int (qI p2)), (3, .ref (qad g 127))]) C dL_axle_13 (by decide) rfl ?_
      refine z_iconst (x := 1) C dL_axle_15 rfl ?_
      exact z_iret C hr (by decide) (by decide) (by cases hm; rfl) dL_axle_16
    have hm := qf_i hm c1
    rcases Classical.em (E = "java/lang/IllegalArgumentException") with c1 | c1
    · have hm := qt_i hm c1
      subst c1
      refine z_catch C [(⟨0, 10, 13, 24⟩ : ExceptionTableEntry)] (⟨0, 10, 17, 13⟩ : ExceptionTableEntry) [] hT (fun z hz => by rw [List.mem_singleton.mp hz]; exact ⟨by decide, "java/lang/IndexOutOfBoundsException", qcl_24, C.2.2.2.2.2.1.2.2.2.2.2.2.2.2.1⟩) (by decide) (by decide) qcl_13 qcast_iae (fun q9 => ?_)
      refine z_astore (L' := [(4, .ref q9), (0, .ref (qad g 0)), (1, .int (qI p1)), (2, .int (qI p2)), (3, .ref (qad g 127))]) C dL_axle_17 (by decide) rfl ?_
      refine z_iconst (x := 2) C dL_axle_19 rfl ?_
      exact z_iret C hr (by decide) (by decide) (by cases hm; rfl) dL_axle_20
    have hm := qf_i hm c1
    cases hm
  · have hm := qy_r hm he
    obtain ⟨h5, hm⟩ := qg_i hm
    refine z_i2l C dL_axle_8 h5 ?_
    refine z_last C rfl (by decide) dL_axle_9 ?_
    obtain ⟨S2, e2, hm⟩ := ql_i hm
    refine z_S e2 ?_
    refine z_goto (tgt := 21) C dL_axle_10 (by decide) ?_
    refine z_iconst (x := 0) C dL_axle_21 rfl ?_
    exact z_iret C hr (by decide) (by decide) (by cases hm; rfl) dL_axle_22
set_option maxHeartbeats 4000000 in
set_option maxRecDepth 100000 in
theorem met_L_car (l : Launch) (g : qG) (hl : l.stackTraces = false) (hA : qAd g) (n9 : Nat) (S : qS) (p1 : Int) (p2 : Int) (r : Int × qS) (hm : ML_car n9 S p1 p2 = some r) : qM l g yL_car (.codeWith yL_car cL_car 5 (some .int) [(0, 10, 13, 24), (0, 10, 17, 13)]) rmL_car qkI [.ref (qad g 0), .int (qI p1), .int (qI p2), .ref (qad g 127)] S (.inr r.1) r.2 := by
  rw [ML_car] at hm
  refine qM_ofH (L := [(0, .ref (qad g 0)), (1, .int (qI p1)), (2, .int (qI p2)), (3, .ref (qad g 127))]) (by decide +kernel) rfl (Nat.le_of_ble_eq_true rfl) hl hA ?_
  intro p e s m below meth c C hr hT
  have C : qC g p l s m ([.ref (qad g 0), .int (qI p1), .int (qI p2), .ref (qad g 127)] : List Value).toArray meth c RL cL_car 5 := C
  refine z_aload_n C dL_car_0 3 rfl ?_
  refine z_iconst (x := 0) C dL_car_1 rfl ?_
  refine z_aload_n C dL_car_2 0 rfl ?_
  refine z_iload_n C dL_car_3 1 rfl ?_
  refine z_iload_n C dL_car_4 2 rfl ?_
  obtain ⟨a, ha, hm⟩ := qb_i hm
  refine iv_L_26 C (met_X3_car l g hl hA n9 S p1 p2 _ ha) rfl ⟨by decide, by decide⟩ ⟨by decide, by decide⟩ (Nat.le_of_ble_eq_true rfl) dL_car_5 (fun E he => ?_) (fun v he => ?_)
  · have hm := qy_l hm he
    rcases Classical.em (E = "java/lang/IndexOutOfBoundsException") with c1 | c1
    · have hm := qt_i hm c1
      subst c1
      refine z_catch C [] (⟨0, 10, 13, 24⟩ : ExceptionTableEntry) [(⟨0, 10, 17, 13⟩ : ExceptionTableEntry)] hT (fun z hz => absurd hz List.not_mem_nil) (by decide) (by decide) qcl_24 qcast_ioo (fun q9 => ?_)
      refine z_astore (L' := [(4, .ref q9), (0, .ref (qad g 0)), (1, .int (qI p1)), (2, .int (qI p2)), (3, .ref (qad g 127))]) C dL_car_13 (by decide) rfl ?_
      refine z_iconst (x := 1) C dL_car_15 rfl ?_
      exact z_iret C hr (by decide) (by decide) (by cases hm; rfl) dL_car_16
    have hm := qf_i hm c1
    rcases Classical.em (E = "java/lang/IllegalArgumentException") with c1 | c1
    · have hm := qt_i hm c1
      subst c1
      refine z_catch C [(⟨0, 10, 13, 24⟩ : ExceptionTableEntry)] (⟨0, 10, 17, 13⟩ : ExceptionTableEntry) [] hT (fun z hz => by rw [List.mem_singleton.mp hz]; exact ⟨by decide, "java/lang/IndexOutOfBoundsException", qcl_24, C.2.2.2.2.2.1.2.2.2.2.2.2.2.2.1⟩) (by decide) (by decide) qcl_13 qcast_iae (fun q9 => ?_)
      refine z_astore (L' := [(4, .ref q9), (0, .ref (qad g 0)), (1, .int (qI p1)), (2, .int (qI p2)), (3, .ref (qad g 127))]) C dL_car_17 (by decide) rfl ?_
      refine z_iconst (x := 2) C dL_car_19 rfl ?_
      exact z_iret C hr (by decide) (by decide) (by cases hm; rfl) dL_car_20
    have hm := qf_i hm c1
    cases hm
  · have hm := qy_r hm he
    obtain ⟨h5, hm⟩ := qg_i hm
    refine z_i2l C dL_car_8 h5 ?_
    refine z_last C rfl (by decide) dL_car_9 ?_
    obtain ⟨S2, e2, hm⟩ := ql_i hm
    refine z_S e2 ?_
    refine z_goto (tgt := 21) C dL_car_10 (by decide) ?_
    refine z_iconst (x := 0) C dL_car_21 rfl ?_
    exact z_iret C hr (by decide) (by decide) (by cases hm; rfl) dL_car_22
set_option maxHeartbeats 4000000 in
set_option maxRecDepth 100000 in
theorem met_L_train (l : Launch) (g : qG) (hl : l.stackTraces = false) (hA : qAd g) (n9 : Nat) (S : qS) (p1 : Int) (p2 : Int) (r : Int × qS) (hm : ML_train n9 S p1 p2 = some r) : qM l g yL_train (.codeWith yL_train cL_train 5 (some .int) [(0, 10, 13, 24), (0, 10, 17, 13)]) rmL_train qkI [.ref (qad g 0), .int (qI p1), .int (qI p2), .ref (qad g 127)] S (.inr r.1) r.2 := by
  rw [ML_train] at hm
  refine qM_ofH (L := [(0, .ref (qad g 0)), (1, .int (qI p1)), (2, .int (qI p2)), (3, .ref (qad g 127))]) (by decide +kernel) rfl (Nat.le_of_ble_eq_true rfl) hl hA ?_
  intro p e s m below meth c C hr hT
  have C : qC g p l s m ([.ref (qad g 0), .int (qI p1), .int (qI p2), .ref (qad g 127)] : List Value).toArray meth c RL cL_train 5 := C
  refine z_aload_n C dL_train_0 3 rfl ?_
  refine z_iconst (x := 0) C dL_train_1 rfl ?_
  refine z_aload_n C dL_train_2 0 rfl ?_
  refine z_iload_n C dL_train_3 1 rfl ?_
  refine z_iload_n C dL_train_4 2 rfl ?_
  obtain ⟨a, ha, hm⟩ := qb_i hm
  refine iv_L_29 C (met_X3_train l g hl hA n9 S p1 p2 _ ha) rfl ⟨by decide, by decide⟩ ⟨by decide, by decide⟩ (Nat.le_of_ble_eq_true rfl) dL_train_5 (fun E he => ?_) (fun v he => ?_)
  · have hm := qy_l hm he
    rcases Classical.em (E = "java/lang/IndexOutOfBoundsException") with c1 | c1
    · have hm := qt_i hm c1
      subst c1
      refine z_catch C [] (⟨0, 10, 13, 24⟩ : ExceptionTableEntry) [(⟨0, 10, 17, 13⟩ : ExceptionTableEntry)] hT (fun z hz => absurd hz List.not_mem_nil) (by decide) (by decide) qcl_24 qcast_ioo (fun q9 => ?_)
      refine z_astore (L' := [(4, .ref q9), (0, .ref (qad g 0)), (1, .int (qI p1)), (2, .int (qI p2)), (3, .ref (qad g 127))]) C dL_train_13 (by decide) rfl ?_
      refine z_iconst (x := 1) C dL_train_15 rfl ?_
      exact z_iret C hr (by decide) (by decide) (by cases hm; rfl) dL_train_16
    have hm := qf_i hm c1
    rcases Classical.em (E = "java/lang/IllegalArgumentException") with c1 | c1
    · have hm := qt_i hm c1
      subst c1
      refine z_catch C [(⟨0, 10, 13, 24⟩ : ExceptionTableEntry)] (⟨0, 10, 17, 13⟩ : ExceptionTableEntry) [] hT (fun z hz => by rw [List.mem_singleton.mp hz]; exact ⟨by decide, "java/lang/IndexOutOfBoundsException", qcl_24, C.2.2.2.2.2.1.2.2.2.2.2.2.2.2.1⟩) (by decide) (by decide) qcl_13 qcast_iae (fun q9 => ?_)
      refine z_astore (L' := [(4, .ref q9), (0, .ref (qad g 0)), (1, .int (qI p1)), (2, .int (qI p2)), (3, .ref (qad g 127))]) C dL_train_17 (by decide) rfl ?_
      refine z_iconst (x := 2) C dL_train_19 rfl ?_
      exact z_iret C hr (by decide) (by decide) (by cases hm; rfl) dL_train_20
    have hm := qf_i hm c1
    cases hm
  · have hm := qy_r hm he
    obtain ⟨h5, hm⟩ := qg_i hm
    refine z_i2l C dL_train_8 h5 ?_
    refine z_last C rfl (by decide) dL_train_9 ?_
    obtain ⟨S2, e2, hm⟩ := ql_i hm
    refine z_S e2 ?_
    refine z_goto (tgt := 21) C dL_train_10 (by decide) ?_
    refine z_iconst (x := 0) C dL_train_21 rfl ?_
    exact z_iret C hr (by decide) (by decide) (by cases hm; rfl) dL_train_22
set_option maxHeartbeats 4000000 in
set_option maxRecDepth 100000 in
theorem met_L_setting (l : Launch) (g : qG) (hl : l.stackTraces = false) (hA : qAd g) (n9 : Nat) (S : qS) (p1 : Int) (r : Int × qS) (hm : ML_setting n9 S p1 = some r) : qM l g yL_setting (.codeWith yL_setting cL_setting 4 (some .int) [(0, 9, 12, 13)]) rmL_setting qkI [.ref (qad g 0), .int (qI p1), .ref (qad g 127)] S (.inr r.1) r.2 := by
  rw [ML_setting] at hm
  refine qM_ofH (L := [(0, .ref (qad g 0)), (1, .int (qI p1)), (2, .ref (qad g 127))]) (by decide +kernel) rfl (Nat.le_of_ble_eq_true rfl) hl hA ?_
  intro p e s m below meth c C hr hT
  have C : qC g p l s m ([.ref (qad g 0), .int (qI p1), .ref (qad g 127)] : List Value).toArray meth c RL cL_setting 4 := C
  refine z_aload_n C dL_setting_0 2 rfl ?_
  refine z_iconst (x := 0) C dL_setting_1 rfl ?_
  refine z_aload_n C dL_setting_2 0 rfl ?_
  refine z_iload_n C dL_setting_3 1 rfl ?_
  obtain ⟨a, ha, hm⟩ := qb_i hm
  refine iv_L_32 C (met_X3_setting l g hl hA n9 S p1 _ ha) rfl ⟨by decide, by decide⟩ ⟨by decide, by decide⟩ (Nat.le_of_ble_eq_true rfl) dL_setting_4 (fun E he => ?_) (fun v he => ?_)
  · have hm := qy_l hm he
    rcases Classical.em (E = "java/lang/IllegalArgumentException") with c1 | c1
    · have hm := qt_i hm c1
      subst c1
      refine z_catch C [] (⟨0, 9, 12, 13⟩ : ExceptionTableEntry) [] hT (fun z hz => absurd hz List.not_mem_nil) (by decide) (by decide) qcl_13 qcast_iae (fun q9 => ?_)
      refine z_astore_n (L' := [(3, .ref q9), (0, .ref (qad g 0)), (1, .int (qI p1)), (2, .ref (qad g 127))]) C dL_setting_12 (by decide) rfl ?_
      refine z_iconst (x := 1) C dL_setting_13 rfl ?_
      exact z_iret C hr (by decide) (by decide) (by cases hm; rfl) dL_setting_14
    have hm := qf_i hm c1
    cases hm
  · have hm := qy_r hm he
    obtain ⟨h5, hm⟩ := qg_i hm
    refine z_i2l C dL_setting_7 h5 ?_
    refine z_last C rfl (by decide) dL_setting_8 ?_
    obtain ⟨S2, e2, hm⟩ := ql_i hm
    refine z_S e2 ?_
    refine z_goto (tgt := 15) C dL_setting_9 (by decide) ?_
    refine z_iconst (x := 0) C dL_setting_15 rfl ?_
    exact z_iret C hr (by decide) (by decide) (by cases hm; rfl) dL_setting_16
set_option maxHeartbeats 4000000 in
set_option maxRecDepth 100000 in
theorem met_L_roll (l : Launch) (g : qG) (hl : l.stackTraces = false) (hA : qAd g) (n9 : Nat) (S : qS) (p1 : Int) (p2 : Int) (r : Int × qS) (hm : ML_roll n9 S p1 p2 = some r) : qM l g yL_roll (.codeWith yL_roll cL_roll 5 (some .int) [(0, 10, 13, 13), (0, 10, 17, 15)]) rmL_roll qkI [.ref (qad g 0), .int (qI p1), .int (qI p2), .ref (qad g 127)] S (.inr r.1) r.2 := by
  rw [ML_roll] at hm
  refine qM_ofH (L := [(0, .ref (qad g 0)), (1, .int (qI p1)), (2, .int (qI p2)), (3, .ref (qad g 127))]) (by decide +kernel) rfl (Nat.le_of_ble_eq_true rfl) hl hA ?_
  intro p e s m below meth c C hr hT
  have C : qC g p l s m ([.ref (qad g 0), .int (qI p1), .int (qI p2), .ref (qad g 127)] : List Value).toArray meth c RL cL_roll 5 := C
  refine z_aload_n C dL_roll_0 3 rfl ?_
  refine z_iconst (x := 0) C dL_roll_1 rfl ?_
  refine z_aload_n C dL_roll_2 0 rfl ?_
  refine z_iload_n C dL_roll_3 1 rfl ?_
  refine z_iload_n C dL_roll_4 2 rfl ?_
  obtain ⟨a, ha, hm⟩ := qb_i hm
  refine iv_L_35 C (met_X3_roll l g hl hA n9 S p1 p2 _ ha) rfl ⟨by decide, by decide⟩ ⟨by decide, by decide⟩ (Nat.le_of_ble_eq_true rfl) dL_roll_5 (fun E he => ?_) (fun v he => ?_)
  · have hm := qy_l hm he
    rcases Classical.em (E = "java/lang/IllegalArgumentException") with c1 | c1
    · have hm := qt_i hm c1
      subst c1
      refine z_catch C [] (⟨0, 10, 13, 13⟩ : ExceptionTableEntry) [(⟨0, 10, 17, 15⟩ : ExceptionTableEntry)] hT (fun z hz => absurd hz List.not_mem_nil) (by decide) (by decide) qcl_13 qcast_iae (fun q9 => ?_)
      refine z_astore (L' := [(4, .ref q9), (0, .ref (qad g 0)), (1, .int (qI p1)), (2, .int (qI p2)), (3, .ref (qad g 127))]) C dL_roll_13 (by decide) rfl ?_
      refine z_iconst (x := 1) C dL_roll_15 rfl ?_
      exact z_iret C hr (by decide) (by decide) (by cases hm; rfl) dL_roll_16
    have hm := qf_i hm c1
    rcases Classical.em (E = "java/lang/IllegalStateException") with c1 | c1
    · have hm := qt_i hm c1
      subst c1
      refine z_catch C [(⟨0, 10, 13, 13⟩ : ExceptionTableEntry)] (⟨0, 10, 17, 15⟩ : ExceptionTableEntry) [] hT (fun z hz => by rw [List.mem_singleton.mp hz]; exact ⟨by decide, "java/lang/IllegalArgumentException", qcl_13, C.2.2.2.2.2.1.2.2.2.2.2.2.2.1⟩) (by decide) (by decide) qcl_15 qcast_ise (fun q9 => ?_)
      refine z_astore (L' := [(4, .ref q9), (0, .ref (qad g 0)), (1, .int (qI p1)), (2, .int (qI p2)), (3, .ref (qad g 127))]) C dL_roll_17 (by decide) rfl ?_
      refine z_iconst (x := 2) C dL_roll_19 rfl ?_
      exact z_iret C hr (by decide) (by decide) (by cases hm; rfl) dL_roll_20
    have hm := qf_i hm c1
    cases hm
  · have hm := qy_r hm he
    obtain ⟨h5, hm⟩ := qg_i hm
    refine z_i2l C dL_roll_8 h5 ?_
    refine z_last C rfl (by decide) dL_roll_9 ?_
    obtain ⟨S2, e2, hm⟩ := ql_i hm
    refine z_S e2 ?_
    refine z_goto (tgt := 21) C dL_roll_10 (by decide) ?_
    refine z_iconst (x := 0) C dL_roll_21 rfl ?_
    exact z_iret C hr (by decide) (by decide) (by cases hm; rfl) dL_roll_22
set_option maxHeartbeats 4000000 in
set_option maxRecDepth 100000 in
theorem met_L_record (l : Launch) (g : qG) (hl : l.stackTraces = false) (hA : qAd g) (n9 : Nat) (S : qS)  (r : Int × qS) (hm : ML_record n9 S  = some r) : qM l g yL_record (.codeWith yL_record cL_record 3 (some .int) [(0, 8, 11, 15)]) rmL_record qkI [.ref (qad g 0), .ref (qad g 127)] S (.inr r.1) r.2 := by
  rw [ML_record] at hm
  refine qM_ofH (L := [(0, .ref (qad g 0)), (1, .ref (qad g 127))]) (by decide +kernel) rfl (Nat.le_of_ble_eq_true rfl) hl hA ?_
  intro p e s m below meth c C hr hT
  have C : qC g p l s m ([.ref (qad g 0), .ref (qad g 127)] : List Value).toArray meth c RL cL_record 3 := C
  refine z_aload_n C dL_record_0 1 rfl ?_
  refine z_iconst (x := 0) C dL_record_1 rfl ?_
  refine z_aload_n C dL_record_2 0 rfl ?_
  obtain ⟨a, ha, hm⟩ := qb_i hm
  refine iv_L_38 C (met_X3_record l g hl hA n9 S  _ ha) rfl ⟨by decide, by decide⟩ ⟨by decide, by decide⟩ (Nat.le_of_ble_eq_true rfl) dL_record_3 (fun E he => ?_) (fun v he => ?_)
  · have hm := qy_l hm he
    rcases Classical.em (E = "java/lang/IllegalStateException") with c1 | c1
    · have hm := qt_i hm c1
      subst c1
      refine z_catch C [] (⟨0, 8, 11, 15⟩ : ExceptionTableEntry) [] hT (fun z hz => absurd hz List.not_mem_nil) (by decide) (by decide) qcl_15 qcast_ise (fun q9 => ?_)
      refine z_astore_n (L' := [(2, .ref q9), (0, .ref (qad g 0)), (1, .ref (qad g 127))]) C dL_record_11 (by decide) rfl ?_
      refine z_iconst (x := 1) C dL_record_12 rfl ?_
      exact z_iret C hr (by decide) (by decide) (by cases hm; rfl) dL_record_13
    have hm := qf_i hm c1
    cases hm
  · have hm := qy_r hm he
    obtain ⟨h5, hm⟩ := qg_i hm
    refine z_i2l C dL_record_6 h5 ?_
    refine z_last C rfl (by decide) dL_record_7 ?_
    obtain ⟨S2, e2, hm⟩ := ql_i hm
    refine z_S e2 ?_
    refine z_goto (tgt := 14) C dL_record_8 (by decide) ?_
    refine z_iconst (x := 0) C dL_record_14 rfl ?_
    exact z_iret C hr (by decide) (by decide) (by cases hm; rfl) dL_record_15
set_option maxHeartbeats 4000000 in
set_option maxRecDepth 100000 in
theorem met_L_strike (l : Launch) (g : qG) (hl : l.stackTraces = false) (hA : qAd g) (n9 : Nat) (S : qS) (p1 : Int) (r : Int × qS) (hm : ML_strike n9 S p1 = some r) : qM l g yL_strike (.codeWith yL_strike cL_strike 4 (some .int) [(0, 9, 12, 24)]) rmL_strike qkI [.ref (qad g 0), .int (qI p1), .ref (qad g 127)] S (.inr r.1) r.2 := by
  rw [ML_strike] at hm
  refine qM_ofH (L := [(0, .ref (qad g 0)), (1, .int (qI p1)), (2, .ref (qad g 127))]) (by decide +kernel) rfl (Nat.le_of_ble_eq_true rfl) hl hA ?_
  intro p e s m below meth c C hr hT
  have C : qC g p l s m ([.ref (qad g 0), .int (qI p1), .ref (qad g 127)] : List Value).toArray meth c RL cL_strike 4 := C
  refine z_aload_n C dL_strike_0 2 rfl ?_
  refine z_iconst (x := 0) C dL_strike_1 rfl ?_
  refine z_aload_n C dL_strike_2 0 rfl ?_
  refine z_iload_n C dL_strike_3 1 rfl ?_
  obtain ⟨a, ha, hm⟩ := qb_i hm
  refine iv_L_42 C (met_X3_strike l g hl hA n9 S p1 _ ha) rfl ⟨by decide, by decide⟩ ⟨by decide, by decide⟩ (Nat.le_of_ble_eq_true rfl) dL_strike_4 (fun E he => ?_) (fun v he => ?_)
  · have hm := qy_l hm he
    rcases Classical.em (E = "java/lang/IndexOutOfBoundsException") with c1 | c1
    · have hm := qt_i hm c1
      subst c1
      refine z_catch C [] (⟨0, 9, 12, 24⟩ : ExceptionTableEntry) [] hT (fun z hz => absurd hz List.not_mem_nil) (by decide) (by decide) qcl_24 qcast_ioo (fun q9 => ?_)
      refine z_astore_n (L' := [(3, .ref q9), (0, .ref (qad g 0)), (1, .int (qI p1)), (2, .ref (qad g 127))]) C dL_strike_12 (by decide) rfl ?_
      refine z_iconst (x := 1) C dL_strike_13 rfl ?_
      exact z_iret C hr (by decide) (by decide) (by cases hm; rfl) dL_strike_14
    have hm := qf_i hm c1
    cases hm
  · have hm := qy_r hm he
    obtain ⟨h5, hm⟩ := qg_i hm
    refine z_i2l C dL_strike_7 h5 ?_
    refine z_last C rfl (by decide) dL_strike_8 ?_
    obtain ⟨S2, e2, hm⟩ := ql_i hm
    refine z_S e2 ?_
    refine z_goto (tgt := 15) C dL_strike_9 (by decide) ?_
    refine z_iconst (x := 0) C dL_strike_15 rfl ?_
    exact z_iret C hr (by decide) (by decide) (by cases hm; rfl) dL_strike_16
set_option maxHeartbeats 4000000 in
set_option maxRecDepth 100000 in
theorem met_L_weigh (l : Launch) (g : qG) (hl : l.stackTraces = false) (hA : qAd g) (n9 : Nat) (S : qS) (p1 : Int) (p2 : Int) (r : Int × qS) (hm : ML_weigh n9 S p1 p2 = some r) : qM l g yL_weigh (.codeWith yL_weigh cL_weigh 5 (some .int) [(0, 10, 13, 24), (0, 10, 17, 13)]) rmL_weigh qkI [.ref (qad g 0), .int (qI p1), .int (qI p2), .ref (qad g 127)] S (.inr r.1) r.2 := by
  rw [ML_weigh] at hm
  refine qM_ofH (L := [(0, .ref (qad g 0)), (1, .int (qI p1)), (2, .int (qI p2)), (3, .ref (qad g 127))]) (by decide +kernel) rfl (Nat.le_of_ble_eq_true rfl) hl hA ?_
  intro p e s m below meth c C hr hT
  have C : qC g p l s m ([.ref (qad g 0), .int (qI p1), .int (qI p2), .ref (qad g 127)] : List Value).toArray meth c RL cL_weigh 5 := C
  refine z_aload_n C dL_weigh_0 3 rfl ?_
  refine z_iconst (x := 0) C dL_weigh_1 rfl ?_
  refine z_aload_n C dL_weigh_2 0 rfl ?_
  refine z_iload_n C dL_weigh_3 1 rfl ?_
  refine z_iload_n C dL_weigh_4 2 rfl ?_
  obtain ⟨a, ha, hm⟩ := qb_i hm
  refine iv_L_45 C (met_X3_weigh l g hl hA n9 S p1 p2 _ ha) rfl ⟨by decide, by decide⟩ ⟨by decide, by decide⟩ (Nat.le_of_ble_eq_true rfl) dL_weigh_5 (fun E he => ?_) (fun v he => ?_)
  · have hm := qy_l hm he
    rcases Classical.em (E = "java/lang/IndexOutOfBoundsException") with c1 | c1
    · have hm := qt_i hm c1
      subst c1
      refine z_catch C [] (⟨0, 10, 13, 24⟩ : ExceptionTableEntry) [(⟨0, 10, 17, 13⟩ : ExceptionTableEntry)] hT (fun z hz => absurd hz List.not_mem_nil) (by decide) (by decide) qcl_24 qcast_ioo (fun q9 => ?_)
      refine z_astore (L' := [(4, .ref q9), (0, .ref (qad g 0)), (1, .int (qI p1)), (2, .int (qI p2)), (3, .ref (qad g 127))]) C dL_weigh_13 (by decide) rfl ?_
      refine z_iconst (x := 1) C dL_weigh_15 rfl ?_
      exact z_iret C hr (by decide) (by decide) (by cases hm; rfl) dL_weigh_16
    have hm := qf_i hm c1
    rcases Classical.em (E = "java/lang/IllegalArgumentException") with c1 | c1
    · have hm := qt_i hm c1
      subst c1
      refine z_catch C [(⟨0, 10, 13, 24⟩ : ExceptionTableEntry)] (⟨0, 10, 17, 13⟩ : ExceptionTableEntry) [] hT (fun z hz => by rw [List.mem_singleton.mp hz]; exact ⟨by decide, "java/lang/IndexOutOfBoundsException", qcl_24, C.2.2.2.2.2.1.2.2.2.2.2.2.2.2.1⟩) (by decide) (by decide) qcl_13 qcast_iae (fun q9 => ?_)
      refine z_astore (L' := [(4, .ref q9), (0, .ref (qad g 0)), (1, .int (qI p1)), (2, .int (qI p2)), (3, .ref (qad g 127))]) C dL_weigh_17 (by decide) rfl ?_
      refine z_iconst (x := 2) C dL_weigh_19 rfl ?_
      exact z_iret C hr (by decide) (by decide) (by cases hm; rfl) dL_weigh_20
    have hm := qf_i hm c1
    cases hm
  · have hm := qy_r hm he
    obtain ⟨h5, hm⟩ := qg_i hm
    refine z_i2l C dL_weigh_8 h5 ?_
    refine z_last C rfl (by decide) dL_weigh_9 ?_
    obtain ⟨S2, e2, hm⟩ := ql_i hm
    refine z_S e2 ?_
    refine z_goto (tgt := 21) C dL_weigh_10 (by decide) ?_
    refine z_iconst (x := 0) C dL_weigh_21 rfl ?_
    exact z_iret C hr (by decide) (by decide) (by cases hm; rfl) dL_weigh_22
set_option maxHeartbeats 4000000 in
set_option maxRecDepth 100000 in
theorem met_L_bill (l : Launch) (g : qG) (hl : l.stackTraces = false) (hA : qAd g) (n9 : Nat) (S : qS) (p1 : Int) (p2 : Int) (r : Int × qS) (hm : ML_bill n9 S p1 p2 = some r) : qM l g yL_bill (.codeWith yL_bill cL_bill 5 (some .int) [(0, 10, 13, 13)]) rmL_bill qkI [.ref (qad g 0), .int (qI p1), .int (qI p2), .ref (qad g 127)] S (.inr r.1) r.2 := by
  rw [ML_bill] at hm
  refine qM_ofH (L := [(0, .ref (qad g 0)), (1, .int (qI p1)), (2, .int (qI p2)), (3, .ref (qad g 127))]) (by decide +kernel) rfl (Nat.le_of_ble_eq_true rfl) hl hA ?_
  intro p e s m below meth c C hr hT
  have C : qC g p l s m ([.ref (qad g 0), .int (qI p1), .int (qI p2), .ref (qad g 127)] : List Value).toArray meth c RL cL_bill 5 := C
  refine z_aload_n C dL_bill_0 3 rfl ?_
  refine z_iconst (x := 0) C dL_bill_1 rfl ?_
  refine z_aload_n C dL_bill_2 0 rfl ?_
  refine z_iload_n C dL_bill_3 1 rfl ?_
  refine z_iload_n C dL_bill_4 2 rfl ?_
  obtain ⟨a, ha, hm⟩ := qb_i hm
  refine iv_L_48 C (met_X3_bill l g hl hA n9 S p1 p2 _ ha) rfl ⟨by decide, by decide⟩ ⟨by decide, by decide⟩ (Nat.le_of_ble_eq_true rfl) dL_bill_5 (fun E he => ?_) (fun v he => ?_)
  · have hm := qy_l hm he
    rcases Classical.em (E = "java/lang/IllegalArgumentException") with c1 | c1
    · have hm := qt_i hm c1
      subst c1
      refine z_catch C [] (⟨0, 10, 13, 13⟩ : ExceptionTableEntry) [] hT (fun z hz => absurd hz List.not_mem_nil) (by decide) (by decide) qcl_13 qcast_iae (fun q9 => ?_)
      refine z_astore (L' := [(4, .ref q9), (0, .ref (qad g 0)), (1, .int (qI p1)), (2, .int (qI p2)), (3, .ref (qad g 127))]) C dL_bill_13 (by decide) rfl ?_
      refine z_iconst (x := 1) C dL_bill_15 rfl ?_
      exact z_iret C hr (by decide) (by decide) (by cases hm; rfl) dL_bill_16
    have hm := qf_i hm c1
    cases hm
  · have hm := qy_r hm he
    obtain ⟨h5, hm⟩ := qg_i hm
    refine z_i2l C dL_bill_8 h5 ?_
    refine z_last C rfl (by decide) dL_bill_9 ?_
    obtain ⟨S2, e2, hm⟩ := ql_i hm
    refine z_S e2 ?_
    refine z_goto (tgt := 17) C dL_bill_10 (by decide) ?_
    refine z_iconst (x := 0) C dL_bill_17 rfl ?_
    exact z_iret C hr (by decide) (by decide) (by cases hm; rfl) dL_bill_18
set_option maxHeartbeats 4000000 in
set_option maxRecDepth 100000 in
theorem met_L_set (l : Launch) (g : qG) (hl : l.stackTraces = false) (hA : qAd g) (n9 : Nat) (S : qS) (p1 : Int) (p2 : Int) (r : Int × qS) (hm : ML_set n9 S p1 p2 = some r) : qM l g yL_set (.codeWith yL_set cL_set 5 (some .int) [(0, 10, 13, 13)]) rmL_set qkI [.ref (qad g 0), .int (qI p1), .int (qI p2), .ref (qad g 127)] S (.inr r.1) r.2 := by
  rw [ML_set] at hm
  refine qM_ofH (L := [(0, .ref (qad g 0)), (1, .int (qI p1)), (2, .int (qI p2)), (3, .ref (qad g 127))]) (by decide +kernel) rfl (Nat.le_of_ble_eq_true rfl) hl hA ?_
  intro p e s m below meth c C hr hT
  have C : qC g p l s m ([.ref (qad g 0), .int (qI p1), .int (qI p2), .ref (qad g 127)] : List Value).toArray meth c RL cL_set 5 := C
  refine z_aload_n C dL_set_0 3 rfl ?_
  refine z_iconst (x := 0) C dL_set_1 rfl ?_
  refine z_aload_n C dL_set_2 0 rfl ?_
  refine z_iload_n C dL_set_3 1 rfl ?_
  refine z_iload_n C dL_set_4 2 rfl ?_
  obtain ⟨a, ha, hm⟩ := qb_i hm
  refine iv_L_51 C (met_X3_set l g hl hA n9 S p1 p2 _ ha) rfl ⟨by decide, by decide⟩ ⟨by decide, by decide⟩ (Nat.le_of_ble_eq_true rfl) dL_set_5 (fun E he => ?_) (fun v he => ?_)
  · have hm := qy_l hm he
    rcases Classical.em (E = "java/lang/IllegalArgumentException") with c1 | c1
    · have hm := qt_i hm c1
      subst c1
      refine z_catch C [] (⟨0, 10, 13, 13⟩ : ExceptionTableEntry) [] hT (fun z hz => absurd hz List.not_mem_nil) (by decide) (by decide) qcl_13 qcast_iae (fun q9 => ?_)
      refine z_astore (L' := [(4, .ref q9), (0, .ref (qad g 0)), (1, .int (qI p1)), (2, .int (qI p2)), (3, .ref (qad g 127))]) C dL_set_13 (by decide) rfl ?_
      refine z_iconst (x := 1) C dL_set_15 rfl ?_
      exact z_iret C hr (by decide) (by decide) (by cases hm; rfl) dL_set_16
    have hm := qf_i hm c1
    cases hm
  · have hm := qy_r hm he
    obtain ⟨h5, hm⟩ := qg_i hm
    refine z_i2l C dL_set_8 h5 ?_
    refine z_last C rfl (by decide) dL_set_9 ?_
    obtain ⟨S2, e2, hm⟩ := ql_i hm
    refine z_S e2 ?_
    refine z_goto (tgt := 17) C dL_set_10 (by decide) ?_
    refine z_iconst (x := 0) C dL_set_17 rfl ?_
    exact z_iret C hr (by decide) (by decide) (by cases hm; rfl) dL_set_18
set_option maxHeartbeats 4000000 in
set_option maxRecDepth 100000 in
theorem met_L_leave (l : Launch) (g : qG) (hl : l.stackTraces = false) (hA : qAd g) (n9 : Nat) (S : qS)  (r : Int × qS) (hm : ML_leave n9 S  = some r) : qM l g yL_leave (.codeWith yL_leave cL_leave 3 (some .int) [(0, 8, 11, 15)]) rmL_leave qkI [.ref (qad g 0), .ref (qad g 127)] S (.inr r.1) r.2 := by
  rw [ML_leave] at hm
  refine qM_ofH (L := [(0, .ref (qad g 0)), (1, .ref (qad g 127))]) (by decide +kernel) rfl (Nat.le_of_ble_eq_true rfl) hl hA ?_
  intro p e s m below meth c C hr hT
  have C : qC g p l s m ([.ref (qad g 0), .ref (qad g 127)] : List Value).toArray meth c RL cL_leave 3 := C
  refine z_aload_n C dL_leave_0 1 rfl ?_
  refine z_iconst (x := 0) C dL_leave_1 rfl ?_
  refine z_aload_n C dL_leave_2 0 rfl ?_
  obtain ⟨a, ha, hm⟩ := qb_i hm
  refine iv_L_54 C (met_X3_leave l g hl hA n9 S  _ ha) rfl ⟨by decide, by decide⟩ ⟨by decide, by decide⟩ (Nat.le_of_ble_eq_true rfl) dL_leave_3 (fun E he => ?_) (fun v he => ?_)
  · have hm := qy_l hm he
    rcases Classical.em (E = "java/lang/IllegalStateException") with c1 | c1
    · have hm := qt_i hm c1
      subst c1
      refine z_catch C [] (⟨0, 8, 11, 15⟩ : ExceptionTableEntry) [] hT (fun z hz => absurd hz List.not_mem_nil) (by decide) (by decide) qcl_15 qcast_ise (fun q9 => ?_)
      refine z_astore_n (L' := [(2, .ref q9), (0, .ref (qad g 0)), (1, .ref (qad g 127))]) C dL_leave_11 (by decide) rfl ?_
      refine z_iconst (x := 1) C dL_leave_12 rfl ?_
      exact z_iret C hr (by decide) (by decide) (by cases hm; rfl) dL_leave_13
    have hm := qf_i hm c1
    cases hm
  · have hm := qy_r hm he
    obtain ⟨h5, hm⟩ := qg_i hm
    refine z_i2l C dL_leave_6 h5 ?_
    refine z_last C rfl (by decide) dL_leave_7 ?_
    obtain ⟨S2, e2, hm⟩ := ql_i hm
    refine z_S e2 ?_
    refine z_goto (tgt := 14) C dL_leave_8 (by decide) ?_
    refine z_iconst (x := 0) C dL_leave_14 rfl ?_
    exact z_iret C hr (by decide) (by decide) (by cases hm; rfl) dL_leave_15
set_option maxHeartbeats 4000000 in
set_option maxRecDepth 100000 in
theorem met_L_undo (l : Launch) (g : qG) (hl : l.stackTraces = false) (hA : qAd g) (n9 : Nat) (S : qS)  (r : Int × qS) (hm : ML_undo n9 S  = some r) : qM l g yL_undo (.codeWith yL_undo cL_undo 3 (some .int) [(0, 8, 11, 15)]) rmL_undo qkI [.ref (qad g 0), .ref (qad g 127)] S (.inr r.1) r.2 := by
  rw [ML_undo] at hm
  refine qM_ofH (L := [(0, .ref (qad g 0)), (1, .ref (qad g 127))]) (by decide +kernel) rfl (Nat.le_of_ble_eq_true rfl) hl hA ?_
  intro p e s m below meth c C hr hT
  have C : qC g p l s m ([.ref (qad g 0), .ref (qad g 127)] : List Value).toArray meth c RL cL_undo 3 := C
  refine z_aload_n C dL_undo_0 1 rfl ?_
  refine z_iconst (x := 0) C dL_undo_1 rfl ?_
  refine z_aload_n C dL_undo_2 0 rfl ?_
  obtain ⟨a, ha, hm⟩ := qb_i hm
  refine iv_L_57 C (met_X3_undo l g hl hA n9 S  _ ha) rfl ⟨by decide, by decide⟩ ⟨by decide, by decide⟩ (Nat.le_of_ble_eq_true rfl) dL_undo_3 (fun E he => ?_) (fun v he => ?_)
  · have hm := qy_l hm he
    rcases Classical.em (E = "java/lang/IllegalStateException") with c1 | c1
    · have hm := qt_i hm c1
      subst c1
      refine z_catch C [] (⟨0, 8, 11, 15⟩ : ExceptionTableEntry) [] hT (fun z hz => absurd hz List.not_mem_nil) (by decide) (by decide) qcl_15 qcast_ise (fun q9 => ?_)
      refine z_astore_n (L' := [(2, .ref q9), (0, .ref (qad g 0)), (1, .ref (qad g 127))]) C dL_undo_11 (by decide) rfl ?_
      refine z_iconst (x := 1) C dL_undo_12 rfl ?_
      exact z_iret C hr (by decide) (by decide) (by cases hm; rfl) dL_undo_13
    have hm := qf_i hm c1
    cases hm
  · have hm := qy_r hm he
    obtain ⟨h5, hm⟩ := qg_i hm
    refine z_i2l C dL_undo_6 h5 ?_
    refine z_last C rfl (by decide) dL_undo_7 ?_
    obtain ⟨S2, e2, hm⟩ := ql_i hm
    refine z_S e2 ?_
    refine z_goto (tgt := 14) C dL_undo_8 (by decide) ?_
    refine z_iconst (x := 0) C dL_undo_14 rfl ?_
    exact z_iret C hr (by decide) (by decide) (by cases hm; rfl) dL_undo_15
set_option maxHeartbeats 4000000 in
set_option maxRecDepth 100000 in
theorem met_L_without (l : Launch) (g : qG) (hl : l.stackTraces = false) (hA : qAd g) (n9 : Nat) (S : qS) (p1 : Int) (r : Int × qS) (hm : ML_without n9 S p1 = some r) : qM l g yL_without (.codeWith yL_without cL_without 4 (some .int) [(0, 9, 12, 24)]) rmL_without qkI [.ref (qad g 0), .int (qI p1), .ref (qad g 127)] S (.inr r.1) r.2 := by
  rw [ML_without] at hm
  refine qM_ofH (L := [(0, .ref (qad g 0)), (1, .int (qI p1)), (2, .ref (qad g 127))]) (by decide +kernel) rfl (Nat.le_of_ble_eq_true rfl) hl hA ?_
  intro p e s m below meth c C hr hT
  have C : qC g p l s m ([.ref (qad g 0), .int (qI p1), .ref (qad g 127)] : List Value).toArray meth c RL cL_without 4 := C
  refine z_aload_n C dL_without_0 2 rfl ?_
  refine z_iconst (x := 0) C dL_without_1 rfl ?_
  refine z_aload_n C dL_without_2 0 rfl ?_
  refine z_iload_n C dL_without_3 1 rfl ?_
  obtain ⟨a, ha, hm⟩ := qb_i hm
  refine iv_L_60 C (met_X3_without l g hl hA n9 S p1 _ ha) rfl ⟨by decide, by decide⟩ ⟨by decide, by decide⟩ (Nat.le_of_ble_eq_true rfl) dL_without_4 (fun E he => ?_) (fun v he => ?_)
  · have hm := qy_l hm he
    rcases Classical.em (E = "java/lang/IndexOutOfBoundsException") with c1 | c1
    · have hm := qt_i hm c1
      subst c1
      refine z_catch C [] (⟨0, 9, 12, 24⟩ : ExceptionTableEntry) [] hT (fun z hz => absurd hz List.not_mem_nil) (by decide) (by decide) qcl_24 qcast_ioo (fun q9 => ?_)
      refine z_astore_n (L' := [(3, .ref q9), (0, .ref (qad g 0)), (1, .int (qI p1)), (2, .ref (qad g 127))]) C dL_without_12 (by decide) rfl ?_
      refine z_iconst (x := 1) C dL_without_13 rfl ?_
      exact z_iret C hr (by decide) (by decide) (by cases hm; rfl) dL_without_14
    have hm := qf_i hm c1
    cases hm
  · have hm := qy_r hm he
    obtain ⟨h5, hm⟩ := qg_i hm
    refine z_i2l C dL_without_7 h5 ?_
    refine z_last C rfl (by decide) dL_without_8 ?_
    obtain ⟨S2, e2, hm⟩ := ql_i hm
    refine z_S e2 ?_
    refine z_goto (tgt := 15) C dL_without_9 (by decide) ?_
    refine z_iconst (x := 0) C dL_without_15 rfl ?_
    exact z_iret C hr (by decide) (by decide) (by cases hm; rfl) dL_without_16
set_option maxHeartbeats 4000000 in
set_option maxRecDepth 100000 in
theorem met_L_sureness (l : Launch) (g : qG) (hl : l.stackTraces = false) (hA : qAd g) (n9 : Nat) (S : qS) (p1 : Int) (r : Int × qS) (hm : ML_sureness n9 S p1 = some r) : qM l g yL_sureness (.codeWith yL_sureness cL_sureness 4 (some .int) [(0, 9, 12, 24)]) rmL_sureness qkI [.ref (qad g 0), .int (qI p1), .ref (qad g 127)] S (.inr r.1) r.2 := by
  rw [ML_sureness] at hm
  refine qM_ofH (L := [(0, .ref (qad g 0)), (1, .int (qI p1)), (2, .ref (qad g 127))]) (by decide +kernel) rfl (Nat.le_of_ble_eq_true rfl) hl hA ?_
  intro p e s m below meth c C hr hT
  have C : qC g p l s m ([.ref (qad g 0), .int (qI p1), .ref (qad g 127)] : List Value).toArray meth c RL cL_sureness 4 := C
  refine z_aload_n C dL_sureness_0 2 rfl ?_
  refine z_iconst (x := 0) C dL_sureness_1 rfl ?_
  refine z_aload_n C dL_sureness_2 0 rfl ?_
  refine z_iload_n C dL_sureness_3 1 rfl ?_
  obtain ⟨a, ha, hm⟩ := qb_i hm
  refine iv_L_63 C (met_X3_sureness l g hl hA n9 S p1 _ ha) rfl ⟨by decide, by decide⟩ ⟨by decide, by decide⟩ (Nat.le_of_ble_eq_true rfl) dL_sureness_4 (fun E he => ?_) (fun v he => ?_)
  · have hm := qy_l hm he
    rcases Classical.em (E = "java/lang/IndexOutOfBoundsException") with c1 | c1
    · have hm := qt_i hm c1
      subst c1
      refine z_catch C [] (⟨0, 9, 12, 24⟩ : ExceptionTableEntry) [] hT (fun z hz => absurd hz List.not_mem_nil) (by decide) (by decide) qcl_24 qcast_ioo (fun q9 => ?_)
      refine z_astore_n (L' := [(3, .ref q9), (0, .ref (qad g 0)), (1, .int (qI p1)), (2, .ref (qad g 127))]) C dL_sureness_12 (by decide) rfl ?_
      refine z_iconst (x := 1) C dL_sureness_13 rfl ?_
      exact z_iret C hr (by decide) (by decide) (by cases hm; rfl) dL_sureness_14
    have hm := qf_i hm c1
    cases hm
  · have hm := qy_r hm he
    obtain ⟨h5, hm⟩ := qg_i hm
    refine z_i2l C dL_sureness_7 h5 ?_
    refine z_last C rfl (by decide) dL_sureness_8 ?_
    obtain ⟨S2, e2, hm⟩ := ql_i hm
    refine z_S e2 ?_
    refine z_goto (tgt := 15) C dL_sureness_9 (by decide) ?_
    refine z_iconst (x := 0) C dL_sureness_15 rfl ?_
    exact z_iret C hr (by decide) (by decide) (by cases hm; rfl) dL_sureness_16
set_option maxHeartbeats 4000000 in
set_option maxRecDepth 100000 in
theorem met_L_plans (l : Launch) (g : qG) (hl : l.stackTraces = false) (hA : qAd g) (n9 : Nat) (S : qS) (p1 : Int) (r : Int × qS) (hm : ML_plans n9 S p1 = some r) : qM l g yL_plans (.codeWith yL_plans cL_plans 4 (some .int) [(0, 9, 12, 24)]) rmL_plans qkI [.ref (qad g 0), .int (qI p1), .ref (qad g 127)] S (.inr r.1) r.2 := by
  rw [ML_plans] at hm
  refine qM_ofH (L := [(0, .ref (qad g 0)), (1, .int (qI p1)), (2, .ref (qad g 127))]) (by decide +kernel) rfl (Nat.le_of_ble_eq_true rfl) hl hA ?_
  intro p e s m below meth c C hr hT
  have C : qC g p l s m ([.ref (qad g 0), .int (qI p1), .ref (qad g 127)] : List Value).toArray meth c RL cL_plans 4 := C
  refine z_aload_n C dL_plans_0 2 rfl ?_
  refine z_iconst (x := 0) C dL_plans_1 rfl ?_
  refine z_aload_n C dL_plans_2 0 rfl ?_
  refine z_iload_n C dL_plans_3 1 rfl ?_
  obtain ⟨a, ha, hm⟩ := qb_i hm
  refine iv_L_66 C (met_X3_plans l g hl hA n9 S p1 _ ha) rfl ⟨by decide, by decide⟩ ⟨by decide, by decide⟩ (Nat.le_of_ble_eq_true rfl) dL_plans_4 (fun E he => ?_) (fun v he => ?_)
  · have hm := qy_l hm he
    rcases Classical.em (E = "java/lang/IndexOutOfBoundsException") with c1 | c1
    · have hm := qt_i hm c1
      subst c1
      refine z_catch C [] (⟨0, 9, 12, 24⟩ : ExceptionTableEntry) [] hT (fun z hz => absurd hz List.not_mem_nil) (by decide) (by decide) qcl_24 qcast_ioo (fun q9 => ?_)
      refine z_astore_n (L' := [(3, .ref q9), (0, .ref (qad g 0)), (1, .int (qI p1)), (2, .ref (qad g 127))]) C dL_plans_12 (by decide) rfl ?_
      refine z_iconst (x := 1) C dL_plans_13 rfl ?_
      exact z_iret C hr (by decide) (by decide) (by cases hm; rfl) dL_plans_14
    have hm := qf_i hm c1
    cases hm
  · have hm := qy_r hm he
    obtain ⟨h5, hm⟩ := qg_i hm
    refine z_i2l C dL_plans_7 h5 ?_
    refine z_last C rfl (by decide) dL_plans_8 ?_
    obtain ⟨S2, e2, hm⟩ := ql_i hm
    refine z_S e2 ?_
    refine z_goto (tgt := 15) C dL_plans_9 (by decide) ?_
    refine z_iconst (x := 0) C dL_plans_15 rfl ?_
    exact z_iret C hr (by decide) (by decide) (by cases hm; rfl) dL_plans_16
set_option maxHeartbeats 4000000 in
set_option maxRecDepth 100000 in
theorem met_L_heavy (l : Launch) (g : qG) (hl : l.stackTraces = false) (hA : qAd g) (n9 : Nat) (S : qS) (p1 : Int) (r : Int × qS) (hm : ML_heavy n9 S p1 = some r) : qM l g yL_heavy (.codeWith yL_heavy cL_heavy 4 (some .int) [(0, 9, 12, 13)]) rmL_heavy qkI [.ref (qad g 0), .int (qI p1), .ref (qad g 127)] S (.inr r.1) r.2 := by
  rw [ML_heavy] at hm
  refine qM_ofH (L := [(0, .ref (qad g 0)), (1, .int (qI p1)), (2, .ref (qad g 127))]) (by decide +kernel) rfl (Nat.le_of_ble_eq_true rfl) hl hA ?_
  intro p e s m below meth c C hr hT
  have C : qC g p l s m ([.ref (qad g 0), .int (qI p1), .ref (qad g 127)] : List Value).toArray meth c RL cL_heavy 4 := C
  refine z_aload_n C dL_heavy_0 2 rfl ?_
  refine z_iconst (x := 0) C dL_heavy_1 rfl ?_
  refine z_aload_n C dL_heavy_2 0 rfl ?_
  refine z_iload_n C dL_heavy_3 1 rfl ?_
  obtain ⟨a, ha, hm⟩ := qb_i hm
  refine iv_L_69 C (met_X3_heavy l g hl hA n9 S p1 _ ha) rfl ⟨by decide, by decide⟩ ⟨by decide, by decide⟩ (Nat.le_of_ble_eq_true rfl) dL_heavy_4 (fun E he => ?_) (fun v he => ?_)
  · have hm := qy_l hm he
    rcases Classical.em (E = "java/lang/IllegalArgumentException") with c1 | c1
    · have hm := qt_i hm c1
      subst c1
      refine z_catch C [] (⟨0, 9, 12, 13⟩ : ExceptionTableEntry) [] hT (fun z hz => absurd hz List.not_mem_nil) (by decide) (by decide) qcl_13 qcast_iae (fun q9 => ?_)
      refine z_astore_n (L' := [(3, .ref q9), (0, .ref (qad g 0)), (1, .int (qI p1)), (2, .ref (qad g 127))]) C dL_heavy_12 (by decide) rfl ?_
      refine z_iconst (x := 1) C dL_heavy_13 rfl ?_
      exact z_iret C hr (by decide) (by decide) (by cases hm; rfl) dL_heavy_14
    have hm := qf_i hm c1
    cases hm
  · have hm := qy_r hm he
    obtain ⟨h5, hm⟩ := qg_i hm
    refine z_i2l C dL_heavy_7 h5 ?_
    refine z_last C rfl (by decide) dL_heavy_8 ?_
    obtain ⟨S2, e2, hm⟩ := ql_i hm
    refine z_S e2 ?_
    refine z_goto (tgt := 15) C dL_heavy_9 (by decide) ?_
    refine z_iconst (x := 0) C dL_heavy_15 rfl ?_
    exact z_iret C hr (by decide) (by decide) (by cases hm; rfl) dL_heavy_16
set_option maxHeartbeats 4000000 in
set_option maxRecDepth 100000 in
theorem met_L_runScript (l : Launch) (g : qG) (hl : l.stackTraces = false) (hA : qAd g) (n9 : Nat) (S : qS) (p1 : Int) (p2 : Int) (r : Int × qS) (hm : ML_runScript n9 S p1 p2 = some r) : qM l g yL_runScript (.codeWith yL_runScript cL_runScript 6 (some .int) [(0, 11, 14, 13)]) rmL_runScript qkI [.ref (qad g 0), .int (qI p1), .long (qL p2), .ref (qad g 127)] S (.inr r.1) r.2 := by
  rw [ML_runScript] at hm
  refine qM_ofH (L := [(0, .ref (qad g 0)), (1, .int (qI p1)), (2, .long (qL p2)), (4, .ref (qad g 127))]) (by decide +kernel) rfl (Nat.le_of_ble_eq_true rfl) hl hA ?_
  intro p e s m below meth c C hr hT
  have C : qC g p l s m ([.ref (qad g 0), .int (qI p1), .long (qL p2), .ref (qad g 127)] : List Value).toArray meth c RL cL_runScript 6 := C
  refine z_aload C dL_runScript_0 3 rfl ?_
  refine z_iconst (x := 0) C dL_runScript_2 rfl ?_
  refine z_aload_n C dL_runScript_3 0 rfl ?_
  refine z_iload_n C dL_runScript_4 1 rfl ?_
  refine z_lload_n C dL_runScript_5 2 rfl ?_
  obtain ⟨a, ha, hm⟩ := qb_i hm
  refine iv_L_72 C (met_X3_runScript l g hl hA n9 S p1 p2 _ ha) rfl ⟨by decide, by decide⟩ ⟨by decide, by decide⟩ (Nat.le_of_ble_eq_true rfl) dL_runScript_6 (fun E he => ?_) (fun v he => ?_)
  · have hm := qy_l hm he
    rcases Classical.em (E = "java/lang/IllegalArgumentException") with c1 | c1
    · have hm := qt_i hm c1
      subst c1
      refine z_catch C [] (⟨0, 11, 14, 13⟩ : ExceptionTableEntry) [] hT (fun z hz => absurd hz List.not_mem_nil) (by decide) (by decide) qcl_13 qcast_iae (fun q9 => ?_)
      refine z_astore (L' := [(5, .ref q9), (0, .ref (qad g 0)), (1, .int (qI p1)), (2, .long (qL p2)), (4, .ref (qad g 127))]) C dL_runScript_14 (by decide) rfl ?_
      refine z_iconst (x := 1) C dL_runScript_16 rfl ?_
      exact z_iret C hr (by decide) (by decide) (by cases hm; rfl) dL_runScript_17
    have hm := qf_i hm c1
    cases hm
  · have hm := qy_r hm he
    obtain ⟨h5, hm⟩ := qg_i hm
    refine z_i2l C dL_runScript_9 h5 ?_
    refine z_last C rfl (by decide) dL_runScript_10 ?_
    obtain ⟨S2, e2, hm⟩ := ql_i hm
    refine z_S e2 ?_
    refine z_goto (tgt := 18) C dL_runScript_11 (by decide) ?_
    refine z_iconst (x := 0) C dL_runScript_18 rfl ?_
    exact z_iret C hr (by decide) (by decide) (by cases hm; rfl) dL_runScript_19
set_option maxHeartbeats 4000000 in
set_option maxRecDepth 100000 in
theorem met_L_simulate (l : Launch) (g : qG) (hl : l.stackTraces = false) (hA : qAd g) (n9 : Nat) (S : qS) (p1 : Int) (p3 : Int) (r : Int × qS) (hm : ML_simulate n9 S p1 p3 = some r) : qM l g yL_simulate (.codeWith yL_simulate cL_simulate 6 (some .int) [(0, 11, 14, 13)]) rmL_simulate qkI [.ref (qad g 0), .long (qL p1), .int (qI p3), .ref (qad g 127)] S (.inr r.1) r.2 := by
  rw [ML_simulate] at hm
  refine qM_ofH (L := [(0, .ref (qad g 0)), (1, .long (qL p1)), (3, .int (qI p3)), (4, .ref (qad g 127))]) (by decide +kernel) rfl (Nat.le_of_ble_eq_true rfl) hl hA ?_
  intro p e s m below meth c C hr hT
  have C : qC g p l s m ([.ref (qad g 0), .long (qL p1), .int (qI p3), .ref (qad g 127)] : List Value).toArray meth c RL cL_simulate 6 := C
  refine z_aload C dL_simulate_0 3 rfl ?_
  refine z_iconst (x := 0) C dL_simulate_2 rfl ?_
  refine z_aload_n C dL_simulate_3 0 rfl ?_
  refine z_lload_n C dL_simulate_4 1 rfl ?_
  refine z_iload_n C dL_simulate_5 2 rfl ?_
  obtain ⟨a, ha, hm⟩ := qb_i hm
  refine iv_L_76 C (met_X3_simulate l g hl hA n9 S p1 p3 _ ha) rfl ⟨by decide, by decide⟩ ⟨by decide, by decide⟩ (Nat.le_of_ble_eq_true rfl) dL_simulate_6 (fun E he => ?_) (fun v he => ?_)
  · have hm := qy_l hm he
    rcases Classical.em (E = "java/lang/IllegalArgumentException") with c1 | c1
    · have hm := qt_i hm c1
      subst c1
      refine z_catch C [] (⟨0, 11, 14, 13⟩ : ExceptionTableEntry) [] hT (fun z hz => absurd hz List.not_mem_nil) (by decide) (by decide) qcl_13 qcast_iae (fun q9 => ?_)
      refine z_astore (L' := [(5, .ref q9), (0, .ref (qad g 0)), (1, .long (qL p1)), (3, .int (qI p3)), (4, .ref (qad g 127))]) C dL_simulate_14 (by decide) rfl ?_
      refine z_iconst (x := 1) C dL_simulate_16 rfl ?_
      exact z_iret C hr (by decide) (by decide) (by cases hm; rfl) dL_simulate_17
    have hm := qf_i hm c1
    cases hm
  · have hm := qy_r hm he
    obtain ⟨h5, hm⟩ := qg_i hm
    refine z_i2l C dL_simulate_9 h5 ?_
    refine z_last C rfl (by decide) dL_simulate_10 ?_
    obtain ⟨S2, e2, hm⟩ := ql_i hm
    refine z_S e2 ?_
    refine z_goto (tgt := 18) C dL_simulate_11 (by decide) ?_
    refine z_iconst (x := 0) C dL_simulate_18 rfl ?_
    exact z_iret C hr (by decide) (by decide) (by cases hm; rfl) dL_simulate_19
set_option maxHeartbeats 4000000 in
set_option maxRecDepth 100000 in
theorem met_L_save (l : Launch) (g : qG) (hl : l.stackTraces = false) (hA : qAd g) (n9 : Nat) (S : qS) (p1 : Int) (r : Int × qS) (hm : ML_save n9 S p1 = some r) : qM l g yL_save (.codeWith yL_save cL_save 4 (some .int) [(0, 9, 12, 24)]) rmL_save qkI [.ref (qad g 0), .int (qI p1), .ref (qad g 127)] S (.inr r.1) r.2 := by
  rw [ML_save] at hm
  refine qM_ofH (L := [(0, .ref (qad g 0)), (1, .int (qI p1)), (2, .ref (qad g 127))]) (by decide +kernel) rfl (Nat.le_of_ble_eq_true rfl) hl hA ?_
  intro p e s m below meth c C hr hT
  have C : qC g p l s m ([.ref (qad g 0), .int (qI p1), .ref (qad g 127)] : List Value).toArray meth c RL cL_save 4 := C
  refine z_aload_n C dL_save_0 2 rfl ?_
  refine z_iconst (x := 0) C dL_save_1 rfl ?_
  refine z_aload_n C dL_save_2 0 rfl ?_
  refine z_iload_n C dL_save_3 1 rfl ?_
  obtain ⟨a, ha, hm⟩ := qb_i hm
  refine iv_L_80 C (met_X3_save l g hl hA n9 S p1 _ ha) rfl ⟨by decide, by decide⟩ ⟨by decide, by decide⟩ (Nat.le_of_ble_eq_true rfl) dL_save_4 (fun E he => ?_) (fun v he => ?_)
  · have hm := qy_l hm he
    rcases Classical.em (E = "java/lang/IndexOutOfBoundsException") with c1 | c1
    · have hm := qt_i hm c1
      subst c1
      refine z_catch C [] (⟨0, 9, 12, 24⟩ : ExceptionTableEntry) [] hT (fun z hz => absurd hz List.not_mem_nil) (by decide) (by decide) qcl_24 qcast_ioo (fun q9 => ?_)
      refine z_astore_n (L' := [(3, .ref q9), (0, .ref (qad g 0)), (1, .int (qI p1)), (2, .ref (qad g 127))]) C dL_save_12 (by decide) rfl ?_
      refine z_iconst (x := 1) C dL_save_13 rfl ?_
      exact z_iret C hr (by decide) (by decide) (by cases hm; rfl) dL_save_14
    have hm := qf_i hm c1
    cases hm
  · have hm := qy_r hm he
    obtain ⟨h5, hm⟩ := qg_i hm
    refine z_i2l C dL_save_7 h5 ?_
    refine z_last C rfl (by decide) dL_save_8 ?_
    obtain ⟨S2, e2, hm⟩ := ql_i hm
    refine z_S e2 ?_
    refine z_goto (tgt := 15) C dL_save_9 (by decide) ?_
    refine z_iconst (x := 0) C dL_save_15 rfl ?_
    exact z_iret C hr (by decide) (by decide) (by cases hm; rfl) dL_save_16
set_option maxHeartbeats 4000000 in
set_option maxRecDepth 100000 in
theorem met_L_restore (l : Launch) (g : qG) (hl : l.stackTraces = false) (hA : qAd g) (n9 : Nat) (S : qS) (p1 : Int) (r : Int × qS) (hm : ML_restore n9 S p1 = some r) : qM l g yL_restore (.codeWith yL_restore cL_restore 4 (some .int) [(0, 9, 12, 24), (0, 9, 15, 15)]) rmL_restore qkI [.ref (qad g 0), .int (qI p1), .ref (qad g 127)] S (.inr r.1) r.2 := by
  rw [ML_restore] at hm
  refine qM_ofH (L := [(0, .ref (qad g 0)), (1, .int (qI p1)), (2, .ref (qad g 127))]) (by decide +kernel) rfl (Nat.le_of_ble_eq_true rfl) hl hA ?_
  intro p e s m below meth c C hr hT
  have C : qC g p l s m ([.ref (qad g 0), .int (qI p1), .ref (qad g 127)] : List Value).toArray meth c RL cL_restore 4 := C
  refine z_aload_n C dL_restore_0 2 rfl ?_
  refine z_iconst (x := 0) C dL_restore_1 rfl ?_
  refine z_aload_n C dL_restore_2 0 rfl ?_
  refine z_iload_n C dL_restore_3 1 rfl ?_
  obtain ⟨a, ha, hm⟩ := qb_i hm
  refine iv_L_83 C (met_X3_restore l g hl hA n9 S p1 _ ha) rfl ⟨by decide, by decide⟩ ⟨by decide, by decide⟩ (Nat.le_of_ble_eq_true rfl) dL_restore_4 (fun E he => ?_) (fun v he => ?_)
  · have hm := qy_l hm he
    rcases Classical.em (E = "java/lang/IndexOutOfBoundsException") with c1 | c1
    · have hm := qt_i hm c1
      subst c1
      refine z_catch C [] (⟨0, 9, 12, 24⟩ : ExceptionTableEntry) [(⟨0, 9, 15, 15⟩ : ExceptionTableEntry)] hT (fun z hz => absurd hz List.not_mem_nil) (by decide) (by decide) qcl_24 qcast_ioo (fun q9 => ?_)
      refine z_astore_n (L' := [(3, .ref q9), (0, .ref (qad g 0)), (1, .int (qI p1)), (2, .ref (qad g 127))]) C dL_restore_12 (by decide) rfl ?_
      refine z_iconst (x := 1) C dL_restore_13 rfl ?_
      exact z_iret C hr (by decide) (by decide) (by cases hm; rfl) dL_restore_14
    have hm := qf_i hm c1
    rcases Classical.em (E = "java/lang/IllegalStateException") with c1 | c1
    · have hm := qt_i hm c1
      subst c1
      refine z_catch C [(⟨0, 9, 12, 24⟩ : ExceptionTableEntry)] (⟨0, 9, 15, 15⟩ : ExceptionTableEntry) [] hT (fun z hz => by rw [List.mem_singleton.mp hz]; exact ⟨by decide, "java/lang/IndexOutOfBoundsException", qcl_24, C.2.2.2.2.2.1.2.2.2.2.2.2.2.2.2⟩) (by decide) (by decide) qcl_15 qcast_ise (fun q9 => ?_)
      refine z_astore_n (L' := [(3, .ref q9), (0, .ref (qad g 0)), (1, .int (qI p1)), (2, .ref (qad g 127))]) C dL_restore_15 (by decide) rfl ?_
      refine z_iconst (x := 2) C dL_restore_16 rfl ?_
      exact z_iret C hr (by decide) (by decide) (by cases hm; rfl) dL_restore_17
    have hm := qf_i hm c1
    cases hm
  · have hm := qy_r hm he
    obtain ⟨h5, hm⟩ := qg_i hm
    refine z_i2l C dL_restore_7 h5 ?_
    refine z_last C rfl (by decide) dL_restore_8 ?_
    obtain ⟨S2, e2, hm⟩ := ql_i hm
    refine z_S e2 ?_
    refine z_goto (tgt := 18) C dL_restore_9 (by decide) ?_
    refine z_iconst (x := 0) C dL_restore_18 rfl ?_
    exact z_iret C hr (by decide) (by decide) (by cases hm; rfl) dL_restore_19
