section QZC
variable {g : qG} {p : Program} {l : Launch} {e : Env} {R : Room} {s : State} {m : MethodId} {args : Array Value} {below : List Frame} {meth : Method} {c : Code} {Q : State → Prop} {nL : Nat} {S : qS} {L L' : List (Nat × Value)} {pc : Nat} {st : List Value} {k n : Nat} {own : String} {cc : ByteArray}
/-- a thrown exception of class E lies over this frame -/
def qY (g : qG) (p : Program) (l : Launch) (e : Env) (R : Room) (s : State) (m : MethodId) (args : Array Value) (below : List Frame) (meth : Method) (c : Code) (Q : State → Prop) (nL : Nat) (S : qS) (L : List (Nat × Value)) (pc : Nat) (st : List Value) (k n : Nat) (E : String) : Prop :=
  ∀ (H : Heap) (locs : List Loc) (ls : Array Slot) (ce : Cell) (q9 : Nat), va_P (qD g) qcls (qW g S) H → va_S (qA g) s.heap H locs → lv_has ls nL L → H[q9]? = some ce → ce.vm = .none → s.vm.findClass E = some ce.cls → vx_W p l e R s m args below meth c H locs k n Q (F0 m pc ls st) q9
theorem qGood {ws : List Cond} (h : ∀ w ∈ ws, w ∈ qAW) : GoodIn qAW ws := fun w hw => ⟨h w hw, good_of_word (List.mem_filter.mp (h w hw)).2⟩
theorem qCF (C : qC g p l s m args meth c own cc nL) : CallFix p m c cc nL s args qAW own := ⟨C.1, C.2.1, C.2.2.1, C.2.2.2.1, C.2.2.2.2.1⟩
theorem z_run {st0 : List Value} {kv : Int → Option Value} {o : qO} {S' : qS} {a9 : Array Value} {rm : Room}
    (hr : ∀ (H : Heap) (locs : List Loc) (ls : Array Slot), va_P (qD g) qcls (qW g S) H → va_S (qA g) s.heap H locs → lv_has ls nL L → vx_Run p l e R s m args below meth c H locs k n rm.cells rm.slots (F0 m pc ls st0) st (qQc g kv o S' a9) (qXc g o S') (qA g))
    (kx : ∀ E, o = .inl E → qY g p l e R s m args below meth c Q nL S' L pc st (k + rm.cells) (n + rm.slots) E)
    (kr : ∀ r, o = .inr r → qZ g p l e R s m args below meth c Q nL S' L (pc + 3) ((kv r).toList ++ st) (k + rm.cells) (n + rm.slots)) : qZ g p l e R s m args below meth c Q nL S L pc st0 k n := by
  intro H locs ls hP hS hl T hT X
  rcases hr H locs ls hP hS hl T hT X with ⟨v, st₀, t, T', L9, h0, X', hL, e1, e2, ⟨r, ho, hv, hP1, hF⟩, stp⟩ | ⟨q, st₀, t, T', L9, E, ce, h0, X', hL, e1, e2, ⟨ho, hP1, hF⟩, hce, hcv, hcl, stp⟩
  · obtain ⟨-, -, k3⟩ := vx_keep h0 e1 hS (fun q _ h => h) (fun q h => h) hL hF
    cases hv
    obtain ⟨t2, a1, b1⟩ := kr r ho T'.heap (locs ++ L9) ls (by rw [e1]; exact hP1) k3 hl T' rfl X'
    exact ⟨t2, stp t2 a1, b1⟩
  · obtain ⟨-, -, k3⟩ := vx_keep h0 e1 hS (fun q _ h => h) (fun q h => h) hL hF
    obtain ⟨t2, a1, b1⟩ := kx E ho T'.heap (locs ++ L9) ls ce q (by rw [e1]; exact hP1) k3 hl (by rw [e1]; exact hce) hcv hcl T' rfl X'
    exact ⟨t2, stp.trans a1, b1⟩
/-- not caught here: the method throws it -/
theorem z_thr {kv : Int → Option Value} {o : qO} {S' : qS} {rm : Room} {E : String} (C : qC g p l s m args meth c own cc nL) (hT : ∀ x ∈ c.exceptionTable.toList, False) (hk : k ≤ rm.cells) (hn : n ≤ rm.slots) (hm : some ((Sum.inl E : qO), S) = some (o, S')) :
    qY g p l e R s m args below meth c (qQ g below kv o S' args s rm) nL S L pc st k n E := by
  intro H locs ls ce q9 hP hS hl hce hcv hcl
  cases hm
  exact vx_out (fun x hx => (hT x hx).elim) C.2.2.2.2.2.2.2.1 hce hcv hcl (fun t ht _ => ⟨rfl, by rw [ht]; exact hP, hS.F ht⟩) hS.2.2 hk hn
theorem z_iret {o : qO} {S' : qS} {rm : Room} {x : Int} (C : qC g p l s m args meth c own cc nL) (hr : meth.sig.returnType = some .int) (hk : k ≤ rm.cells) (hn : n ≤ rm.slots) (hm : some ((Sum.inr x : qO), S) = some (o, S')) (d : decode cc pc = .ok (.ireturn, 1)) :
    qZ g p l e R s m args below meth c (qQ g below qkI o S' args s rm) nL S L pc [.int (qI x)] k n := by
  intro H locs ls hP hS hl
  cases hm
  exact vx_ret (W.widen (k := rm.cells) (n := rm.slots) hk hn (W.iret C.1 C.2.1 hr (fun t ht hW => ⟨x, rfl, rfl, by rw [ht]; exact hP, hS.F ht⟩) hS.2.2 d (hlocks := C.2.2.2.2.2.2.2.1)))
theorem z_zret {o : qO} {S' : qS} {rm : Room} {x : Int} (C : qC g p l s m args meth c own cc nL) (hr : meth.sig.returnType = some .boolean) (h01 : x = 0 ∨ x = 1) (hk : k ≤ rm.cells) (hn : n ≤ rm.slots) (hm : some ((Sum.inr x : qO), S) = some (o, S')) (d : decode cc pc = .ok (.ireturn, 1)) :
    qZ g p l e R s m args below meth c (qQ g below qkI o S' args s rm) nL S L pc [.int (qI x)] k n := by
  intro H locs ls hP hS hl
  cases hm
  exact vx_ret (W.widen (k := rm.cells) (n := rm.slots) hk hn (W.zret C.1 C.2.1 hr (by rcases h01 with rfl | rfl <;> rfl) (fun t ht hW => ⟨x, rfl, rfl, by rw [ht]; exact hP, hS.F ht⟩) hS.2.2 d (hlocks := C.2.2.2.2.2.2.2.1)))
theorem z_lret {o : qO} {S' : qS} {rm : Room} {x : Int} (C : qC g p l s m args meth c own cc nL) (hr : meth.sig.returnType = some .long) (hk : k ≤ rm.cells) (hn : n ≤ rm.slots) (hm : some ((Sum.inr x : qO), S) = some (o, S')) (d : decode cc pc = .ok (.lreturn, 1)) :
    qZ g p l e R s m args below meth c (qQ g below qkL o S' args s rm) nL S L pc [.long (qL x)] k n := by
  intro H locs ls hP hS hl
  cases hm
  exact vx_ret (W.widen (k := rm.cells) (n := rm.slots) hk hn (W.lret C.1 C.2.1 hr (fun t ht hW => ⟨x, rfl, rfl, by rw [ht]; exact hP, hS.F ht⟩) hS.2.2 d (hlocks := C.2.2.2.2.2.2.2.1)))
theorem z_vret {o : qO} {S' : qS} {rm : Room} (C : qC g p l s m args meth c own cc nL) (hr : meth.sig.returnType = none) (hk : k ≤ rm.cells) (hn : n ≤ rm.slots) (hm : some ((Sum.inr 0 : qO), S) = some (o, S')) (d : decode cc pc = .ok (.return_, 1)) :
    qZ g p l e R s m args below meth c (qQ g below qkV o S' args s rm) nL S L pc [] k n := by
  intro H locs ls hP hS hl
  cases hm
  exact vx_ret (W.widen (k := rm.cells) (n := rm.slots) hk hn (W.vret C.1 C.2.1 hr (fun t ht hW => ⟨0, rfl, rfl, by rw [ht]; exact hP, hS.F ht⟩) hS.2.2 d (hlocks := C.2.2.2.2.2.2.2.1)))
theorem qPre {av : List Value} {H : Heap} {locs : List Loc} (C : qC g p l s m args meth c own cc nL) (hP : va_P (qD g) qcls (qW g S) H) (hS : va_S (qA g) s.heap H locs) : ∀ U : State, U.heap = H → s.WarmedH U.vm → qPc g av S av.toArray U :=
  fun U hU hW => ⟨rfl, by rw [hU]; exact hP, qAmb_warm hU hW hS C.2.2.2.2.2.1⟩
theorem z_callV {st0 : List Value} {y : MethodName} {Cn : String} {bytes : ByteArray} {maxL ci i n9 q N : Nat} {ret : Option FieldType} {rm : Room} {kv : Int → Option Value} {As fs : List Value} {T : u_T} {S' : qS} {o : qO} (C : qC g p l s m args meth c own cc nL)
    (hM : qM l g y (.code y bytes maxL ret) rm kv (.ref (qad g q) :: As) S o S') (hst : st0 = As.reverse ++ .ref (qad g q) :: st) (hq : q < 128) (hcell : qcell g q (S q) = .inr (ci, fs)) (hc : qcls[ci]? = some (Cn, T, N)) (hw : ∀ w ∈ wsV own i Cn y [.code y bytes maxL ret], w ∈ qAW)
    (hd : y.cls = Cn ∧ y.cls ≠ "java/lang/invoke/MethodHandle" ∧ y.cls ≠ "java/lang/invoke/VarHandle" ∧ (parseMethodDescriptor y.desc).map (fun d => d.parameters.length) = some n9) (hn : As.length = n9)
    (hR : rm.frames + 1 ≤ R.frames ∧ 8 + (maxL + 11) + rm.locals ≤ R.locals) (hcs : k + rm.cells ≤ R.cells ∧ n + rm.slots ≤ R.slots) (hcat : (st.map fun v => v.category).sum ≤ 8) (d : decode cc pc = .ok (.invokevirtual i, 3))
    (kx : ∀ E, o = .inl E → qY g p l e R s m args below meth c Q nL S' L pc st (k + rm.cells) (n + rm.slots) E) (kr : ∀ r, o = .inr r → qZ g p l e R s m args below meth c Q nL S' L (pc + 3) ((kv r).toList ++ st) (k + rm.cells) (n + rm.slots)) : qZ g p l e R s m args below meth c Q nL S L pc st0 k n := by
  refine z_run (a9 := (Value.ref (qad g q) :: As).toArray) (fun H locs ls hP hS hl => ?_) kx kr
  exact vx_runV (qCF C) hM (cwV n9 C.2.2.2.2.1 (qGood (ws := wsV own i Cn y (.code y bytes maxL ret :: qAW)) (fun w h => by
      rcases List.mem_append.mp h with h | h
      · exact hw w (List.mem_append_left _ h)
      · rcases List.mem_cons.mp h with rfl | h
        · exact hw _ (List.mem_append_right _ List.mem_cons_self)
        · exact h)) rfl rfl rfl hd hR) ⟨qPc_blind, va_recv C.2.2.2.2.2.1.1 hP (q0 := q) hc (by rw [qW_get hq, hcell]), qPre C hP hS⟩ rfl hn hl.1 hst (lv_room hcat) d hcs
theorem z_callS {st0 : List Value} {y : MethodName} {bytes : ByteArray} {maxL i n9 : Nat} {ret : Option FieldType} {rm : Room} {kv : Int → Option Value} {As : List Value} {S' : qS} {o : qO} (C : qC g p l s m args meth c own cc nL)
    (hM : qM l g y (.code y bytes maxL ret) rm kv As S o S') (hst : st0 = As.reverse ++ st) (hw : ∀ w ∈ va_wsS own i y [.code y bytes maxL ret], w ∈ qAW)
    (hd : y.cls ≠ "java/lang/invoke/MethodHandle" ∧ y.cls ≠ "java/lang/invoke/VarHandle" ∧ (parseMethodDescriptor y.desc).map (fun d => d.parameters.length) = some n9) (hn : As.length = n9)
    (hR : rm.frames + 1 ≤ R.frames ∧ 8 + (maxL + 11) + rm.locals ≤ R.locals) (hcs : k + rm.cells ≤ R.cells ∧ n + rm.slots ≤ R.slots) (hcat : (st.map fun v => v.category).sum ≤ 8) (d : decode cc pc = .ok (.invokestatic i, 3))
    (kx : ∀ E, o = .inl E → qY g p l e R s m args below meth c Q nL S' L pc st (k + rm.cells) (n + rm.slots) E) (kr : ∀ r, o = .inr r → qZ g p l e R s m args below meth c Q nL S' L (pc + 3) ((kv r).toList ++ st) (k + rm.cells) (n + rm.slots)) : qZ g p l e R s m args below meth c Q nL S L pc st0 k n := by
  refine z_run (a9 := As.toArray) (fun H locs ls hP hS hl => ?_) kx kr
  exact vx_runS (qCF C) hM (va_cwS n9 C.2.2.2.2.1 (qGood (ws := va_wsS own i y (.code y bytes maxL ret :: qAW)) (fun w h => by
      rcases List.mem_append.mp h with h | h
      · exact hw w (List.mem_append_left _ h)
      · rcases List.mem_cons.mp h with rfl | h
        · exact hw _ (List.mem_append_right _ List.mem_cons_self)
        · exact h)) rfl rfl rfl hd hR) ⟨qPc_blind, qPre C hP hS⟩ rfl hn hl.1 hst (lv_room hcat) d hcs
theorem z_callSN {st0 : List Value} {y : MethodName} {host : String} {bytes : ByteArray} {maxL i n9 : Nat} {ret : Option FieldType} {rm : Room} {kv : Int → Option Value} {As : List Value} {S' : qS} {o : qO} (C : qC g p l s m args meth c own cc nL)
    (hM : qM l g y (.code y bytes maxL ret) rm kv As S o S') (hst : st0 = As.reverse ++ st) (hw : ∀ w ∈ ([.static y, .initialized y.cls, .code y bytes maxL ret] : List Cond), w ∈ qAW) (hwn : Cond.methodLinkNest own i y host ∈ qNW)
    (hd : y.cls ≠ "java/lang/invoke/MethodHandle" ∧ y.cls ≠ "java/lang/invoke/VarHandle" ∧ (parseMethodDescriptor y.desc).map (fun d => d.parameters.length) = some n9) (hn : As.length = n9)
    (hR : rm.frames + 1 ≤ R.frames ∧ 8 + (maxL + 11) + rm.locals ≤ R.locals) (hcs : k + rm.cells ≤ R.cells ∧ n + rm.slots ≤ R.slots) (hcat : (st.map fun v => v.category).sum ≤ 8) (d : decode cc pc = .ok (.invokestatic i, 3))
    (kx : ∀ E, o = .inl E → qY g p l e R s m args below meth c Q nL S' L pc st (k + rm.cells) (n + rm.slots) E) (kr : ∀ r, o = .inr r → qZ g p l e R s m args below meth c Q nL S' L (pc + 3) ((kv r).toList ++ st) (k + rm.cells) (n + rm.slots)) : qZ g p l e R s m args below meth c Q nL S L pc st0 k n := by
  refine z_run (a9 := As.toArray) (fun H locs ls hP hS hl => ?_) kx kr
  exact vx_runSN (qCF C) hM ⟨va_cnB n9 C.2.2.2.2.1 (qGood (ws := .code y bytes maxL ret :: qAW) (fun w h => by
      rcases List.mem_cons.mp h with rfl | h
      · exact hw _ (List.mem_cons_of_mem _ (List.mem_cons_of_mem _ List.mem_cons_self))
      · exact h)) rfl rfl rfl (C.2.2.2.2.2.1.2.2.1 _ hwn) (C.2.2.2.2.1 _ (hw _ (List.mem_cons_of_mem _ List.mem_cons_self))) hd hR, C.2.2.2.2.1 _ (hw _ List.mem_cons_self), trivial⟩ ⟨qPc_blind, qPre C hP hS⟩ rfl hn hl.1 hst (lv_room hcat) d hcs
/-- throw new E("text") -/
theorem qXw {ic : Nat} {cls : String} {names : List String} (C : qC g p l s m args meth c own cc nL) (hww : ∀ w ∈ vx_atS own ic cls names, w ∈ qAW ∨ w ∈ qNW) : (∀ w ∈ vx_atS own ic cls names, w.before args s = true) ∧ ∀ w ∈ vx_atS own ic cls names, vx_ot w = true := by
  refine ⟨fun w hw => ?_, fun w hw => ?_⟩
  · rcases hww w hw with h | h
    · exact C.2.2.2.2.1 w h
    · exact va_Nw.use (qNw_ot (List.mem_filter.mp h).2) (C.2.2.2.2.2.1.2.2.1 w h)
  · unfold vx_ot
    rcases hww w hw with h | h
    · rw [(List.mem_filter.mp h).2, Bool.or_true]
    · rw [qNw_ot (List.mem_filter.mp h).2, Bool.true_or]
theorem qAW_ot {w : Cond} (h : w ∈ qAW) : vx_ot w = true := by unfold vx_ot; rw [(List.mem_filter.mp h).2, Bool.or_true]
theorem z_throwS {kv : Int → Option Value} {o : qO} {S' : qS} {rm : Room} {ik is ic : Nat} {cls text : String} {names : List String} (C : qC g p l s m args meth c RX3 cc nL) (hT : ∀ x ∈ c.exceptionTable.toList, False)
    (hww : ∀ w ∈ vx_atS RX3 ic cls names, w ∈ qAW ∨ w ∈ qNW) (hk9 : Cond.classLink RX3 ik cls ∈ qAW) (hini : Cond.initialized cls ∈ qAW) (hstr : (is, text) ∈ qStr) (hcls : Bundle.fit cls = true) (hnames : ∀ n ∈ names, Bundle.fit n = true)
    (hR : names.length + 3 < R.frames ∧ (st.map fun v => v.category).sum + (13 * (names.length + 1) + 43) ≤ R.locals) (hcs : k + 1 ≤ R.cells ∧ n + 6 ≤ R.slots) (hk : k + 1 ≤ rm.cells) (hn : n + 6 ≤ rm.slots) (hm : some ((Sum.inl cls : qO), S) = some (o, S'))
    (d0 : decode cc pc = .ok (.new ik, 3)) (d3 : decode cc (pc + 3) = .ok (.dup, 1)) (d4 : decode cc (pc + 4) = .ok (.ldc is, 2)) (d6 : decode cc (pc + 6) = .ok (.invokespecial ic, 3)) (d9 : decode cc (pc + 9) = .ok (.athrow, 1)) :
    qZ g p l e R s m args below meth c (qQ g below kv o S' args s rm) nL S L pc st k n := by
  intro H locs ls hP hS hl
  cases hm
  have hX := qXw C hww
  refine vx_throwS C.1 C.2.1 C.2.2.2.2.2.2.2.2 C.2.2.2.1 hcls hnames (C.2.2.2.2.1 _ hk9) (C.2.2.2.2.1 _ hini) (C.2.2.2.2.2.1.2.2.2.2.2.2.1 _ hstr) hX.1 (fun w hw => ?_) C.2.2.2.2.2.1.2.2.2.2.2.1.1 C.2.2.2.2.2.1.2.2.2.2.2.1.2 hS (hl.1.trans C.2.2.1.symm) d0 d3 d4 d6 d9 (fun x hx => (hT x hx).elim) hR.1 hR.2 hcs.1 hcs.2 C.2.2.2.2.2.2.2.1 (fun t _ h1 h2 => ⟨rfl, hP.kept (fun k q hk => h2 q.1 (hP k q hk).lt), Nat.le_trans hS.1 h1, fun q h3 h4 => (h2 q (Nat.lt_of_lt_of_le h3 hS.1)).trans (hS.2.1 q h3 h4)⟩) hS.2.2 hk hn
  rcases List.mem_cons.mp hw with rfl | hw
  · exact qAW_ot hk9
  · rcases List.mem_cons.mp hw with rfl | hw
    · exact qAW_ot hini
    · exact hX.2 w hw
theorem z_throwSW {kv : Int → Option Value} {o : qO} {S' : qS} {rm : Room} {ik is ic : Nat} {cls text : String} {names : List String} (C : qC g p l s m args meth c RX3 cc nL) (hT : ∀ x ∈ c.exceptionTable.toList, False)
    (hww : ∀ w ∈ vx_atS RX3 ic cls names, w ∈ qAW ∨ w ∈ qNW) (hk9 : Cond.classLink RX3 ik cls ∈ qAW) (hini : Cond.initialized cls ∈ qAW) (hstr : (is, text) ∈ qStr) (hcls : Bundle.fit cls = true) (hnames : ∀ n ∈ names, Bundle.fit n = true)
    (hR : names.length + 3 < R.frames ∧ (st.map fun v => v.category).sum + (13 * (names.length + 1) + 43) ≤ R.locals) (hcs : k + 1 ≤ R.cells ∧ n + 6 ≤ R.slots) (hk : k + 1 ≤ rm.cells) (hn : n + 6 ≤ rm.slots) (hm : some ((Sum.inl cls : qO), S) = some (o, S'))
    (d0 : decode cc pc = .ok (.new ik, 3)) (d3 : decode cc (pc + 3) = .ok (.dup, 1)) (d4 : decode cc (pc + 4) = .ok (.ldc_w is, 3)) (d7 : decode cc (pc + 7) = .ok (.invokespecial ic, 3)) (d10 : decode cc (pc + 10) = .ok (.athrow, 1)) :
    qZ g p l e R s m args below meth c (qQ g below kv o S' args s rm) nL S L pc st k n := by
  intro H locs ls hP hS hl
  cases hm
  have hX := qXw C hww
  refine vx_throwSW C.1 C.2.1 C.2.2.2.2.2.2.2.2 C.2.2.2.1 hcls hnames (C.2.2.2.2.1 _ hk9) (C.2.2.2.2.1 _ hini) (C.2.2.2.2.2.1.2.2.2.2.2.2.1 _ hstr) hX.1 (fun w hw => ?_) C.2.2.2.2.2.1.2.2.2.2.2.1.1 C.2.2.2.2.2.1.2.2.2.2.2.1.2 hS (hl.1.trans C.2.2.1.symm) d0 d3 d4 d7 d10 (fun x hx => (hT x hx).elim) hR.1 hR.2 hcs.1 hcs.2 C.2.2.2.2.2.2.2.1 (fun t _ h1 h2 => ⟨rfl, hP.kept (fun k q hk => h2 q.1 (hP k q hk).lt), Nat.le_trans hS.1 h1, fun q h3 h4 => (h2 q (Nat.lt_of_lt_of_le h3 hS.1)).trans (hS.2.1 q h3 h4)⟩) hS.2.2 hk hn
  rcases List.mem_cons.mp hw with rfl | hw
  · exact qAW_ot hk9
  · rcases List.mem_cons.mp hw with rfl | hw
    · exact qAW_ot hini
    · exact hX.2 w hw
/-! Math's own -/
def qmax (x y : Int) : Int := if x < y then y else x
def qmin (x y : Int) : Int := if y < x then y else x
def qabs (x : Int) : Int := if 0 ≤ x then x else 0 - x
theorem z_mmax {i : Nat} {x y : Int} (C : qC g p l s m args meth c own cc nL) (hw : ∀ w ∈ ([.methodLink own i Lib.Math.max.name, .static Lib.Math.max.name, .initialized "java/lang/Math", .code Lib.Math.max.name Lib.Math.max.code 2 (some .int)] : List Cond), w ∈ qAW) (hR : 1 ≤ R.frames ∧ (st.map fun v => v.category).sum + 13 ≤ R.locals) (hcs : k ≤ R.cells ∧ n ≤ R.slots) (h : qR x ∧ qR y) (d : decode cc pc = .ok (.invokestatic i, 3)) (kk : qZ g p l e R s m args below meth c Q nL S L (pc + 3) (.int (qI (qmax x y)) :: st) k n) : qZ g p l e R s m args below meth c Q nL S L pc (.int (qI y) :: .int (qI x) :: st) k n := by
  intro H locs ls hP hS hl
  have f : ∀ w ∈ ([.methodLink own i Lib.Math.max.name, .static Lib.Math.max.name, .initialized "java/lang/Math", .code Lib.Math.max.name Lib.Math.max.code 2 (some .int)] : List Cond), w.before args s = true := fun w hw9 => C.2.2.2.2.1 w (hw w hw9)
  refine va_mmax C.1 C.2.1 (C.2.2.1.trans hl.1.symm) C.2.2.2.1 (f _ List.mem_cons_self) (f _ (List.mem_cons_of_mem _ List.mem_cons_self)) (f _ (List.mem_cons_of_mem _ (List.mem_cons_of_mem _ List.mem_cons_self))) (f _ (List.mem_cons_of_mem _ (List.mem_cons_of_mem _ (List.mem_cons_of_mem _ List.mem_cons_self)))) hR.1 hR.2 hcs.1 hcs.2 d ?_
  have e : (if qI x < qI y then qI y else qI x) = qI (qmax x y) := by
    unfold qmax
    by_cases hxy : x < y
    · rw [if_pos ((qI_lt h.1 h.2).mpr hxy), if_pos hxy]
    · rw [if_neg (fun z => hxy ((qI_lt h.1 h.2).mp z)), if_neg hxy]
  rw [e]
  exact kk H locs ls hP hS hl
theorem z_mmin {i : Nat} {x y : Int} (C : qC g p l s m args meth c own cc nL) (hw : ∀ w ∈ ([.methodLink own i Lib.Math.min.name, .static Lib.Math.min.name, .initialized "java/lang/Math", .code Lib.Math.min.name Lib.Math.min.code 2 (some .int)] : List Cond), w ∈ qAW) (hR : 1 ≤ R.frames ∧ (st.map fun v => v.category).sum + 13 ≤ R.locals) (hcs : k ≤ R.cells ∧ n ≤ R.slots) (h : qR x ∧ qR y) (d : decode cc pc = .ok (.invokestatic i, 3)) (kk : qZ g p l e R s m args below meth c Q nL S L (pc + 3) (.int (qI (qmin x y)) :: st) k n) : qZ g p l e R s m args below meth c Q nL S L pc (.int (qI y) :: .int (qI x) :: st) k n := by
  intro H locs ls hP hS hl
  have f : ∀ w ∈ ([.methodLink own i Lib.Math.min.name, .static Lib.Math.min.name, .initialized "java/lang/Math", .code Lib.Math.min.name Lib.Math.min.code 2 (some .int)] : List Cond), w.before args s = true := fun w hw9 => C.2.2.2.2.1 w (hw w hw9)
  refine va_mmin C.1 C.2.1 (C.2.2.1.trans hl.1.symm) C.2.2.2.1 (f _ List.mem_cons_self) (f _ (List.mem_cons_of_mem _ List.mem_cons_self)) (f _ (List.mem_cons_of_mem _ (List.mem_cons_of_mem _ List.mem_cons_self))) (f _ (List.mem_cons_of_mem _ (List.mem_cons_of_mem _ (List.mem_cons_of_mem _ List.mem_cons_self)))) hR.1 hR.2 hcs.1 hcs.2 d ?_
  have e : (if qI y < qI x then qI y else qI x) = qI (qmin x y) := by
    unfold qmin
    by_cases hxy : y < x
    · rw [if_pos ((qI_lt h.2 h.1).mpr hxy), if_pos hxy]
    · rw [if_neg (fun z => hxy ((qI_lt h.2 h.1).mp z)), if_neg hxy]
  rw [e]
  exact kk H locs ls hP hS hl
theorem z_mabs {i : Nat} {x : Int} (C : qC g p l s m args meth c own cc nL) (hw : ∀ w ∈ ([.methodLink own i Lib.Math.abs.name, .static Lib.Math.abs.name, .initialized "java/lang/Math", .code Lib.Math.abs.name Lib.Math.abs.code 1 (some .int)] : List Cond), w ∈ qAW) (hR : 1 ≤ R.frames ∧ (st.map fun v => v.category).sum + 13 ≤ R.locals) (hcs : k ≤ R.cells ∧ n ≤ R.slots) (h : qR x) (d : decode cc pc = .ok (.invokestatic i, 3)) (kk : qZ g p l e R s m args below meth c Q nL S L (pc + 3) (.int (qI (qabs x)) :: st) k n) : qZ g p l e R s m args below meth c Q nL S L pc (.int (qI x) :: st) k n := by
  intro H locs ls hP hS hl
  have f : ∀ w ∈ ([.methodLink own i Lib.Math.abs.name, .static Lib.Math.abs.name, .initialized "java/lang/Math", .code Lib.Math.abs.name Lib.Math.abs.code 1 (some .int)] : List Cond), w.before args s = true := fun w hw9 => C.2.2.2.2.1 w (hw w hw9)
  refine va_mabs C.1 C.2.1 (C.2.2.1.trans hl.1.symm) C.2.2.2.1 (f _ List.mem_cons_self) (f _ (List.mem_cons_of_mem _ List.mem_cons_self)) (f _ (List.mem_cons_of_mem _ (List.mem_cons_of_mem _ List.mem_cons_self))) (f _ (List.mem_cons_of_mem _ (List.mem_cons_of_mem _ (List.mem_cons_of_mem _ List.mem_cons_self)))) hR.1 hR.2 hcs.1 hcs.2 d ?_
  have e : (if 0 ≤ qI x then qI x else 0 - qI x) = qI (qabs x) := by
    unfold qabs
    by_cases hx : 0 ≤ x
    · rw [if_pos ((qI_ge0 h).mpr hx), if_pos hx]
    · rw [if_neg (fun z => hx ((qI_ge0 h).mp z)), if_neg hx, qI_neg]
  rw [e]
  exact kk H locs ls hP hS hl
end QZC
