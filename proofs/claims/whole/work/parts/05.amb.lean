/-! what every method finds around its world: the tables, the static arrays, what a throw needs -/
def qAW : List Cond := lw_tbl.filter goodWord
def qNw : Cond → Bool
  | .castable _ _ => true
  | .declares _ => true
  | .fieldLinkNest _ _ _ _ _ _ => true
  | .methodLinkNest _ _ _ _ => true
  | _ => false
def qNW : List Cond := lw_tbl.filter qNw
theorem qNw_ot {w : Cond} (h : qNw w = true) : w.onTables = true := by
  cases w <;> first | rfl | (simp [qNw] at h; done)
theorem qNw_warm {w : Cond} (hw : qNw w = true) {s U : State} (hW : s.WarmedH U.vm) (h : va_Nw w s) : va_Nw w U := by
  cases w <;> first | (simp [qNw] at hw; done) | exact va_Nw.warmC hW h | exact va_Nw.warmD hW h | exact va_Nw.warmF hW h | exact va_Nw.warmM hW h
def qF0 : Nat → Value := fun j => .int (([4, 6, 15, 40] : List Int32).getD j 0)
def qF1 : Nat → Value := fun j => .int (([1, 1, 0, 2] : List Int32).getD j 0)
def qF2 : Nat → Value := fun j => .int (([20, 40, 60, 60] : List Int32).getD j 0)
def qStr : List (Nat × String) := [(46, "no character code"), (57, "the text is full"), (73, "no such number"), (288, "no such axle"), (102, "no such number of an axle"), (123, "no such car"), (126, "no such number of a car"), (290, "no such train"), (145, "no such number of a train"), (174, "no such setting"), (185, "no such pause or weight"), (187, "there are 30 axles"), (196, "no record, or too many axles"), (203, "no such weight"), (208, "no such train or bill"), (216, "no such setting or value"), (221, "there is no train"), (230, "nothing is remembered"), (256, "a weight is not negative"), (258, "no such number of commands"), (264, "no script of so many commands"), (271, "no such number of axles"), (292, "no such save slot"), (283, "nothing has been saved there")]
def qAmb (g : qG) (U : State) : Prop :=
  va_K (qD g) qcls (qtys g) U ∧ qB g ≤ U.heap.size ∧ (∀ w ∈ qNW, va_Nw w U) ∧
  (va_Z "AxleScale" "FIRST_SETTINGS" "[I" (.ref (qt g 0)) (qA g) U U.heap ∧ va_Z "AxleScale" "LEAST_SETTINGS" "[I" (.ref (qt g 1)) (qA g) U U.heap ∧ va_Z "AxleScale" "MOST_SETTINGS" "[I" (.ref (qt g 2)) (qA g) U U.heap) ∧
  (va_T .int (qt g 0) 4 qF0 (qA g) U U.heap ∧ va_T .int (qt g 1) 4 qF1 (qA g) U U.heap ∧ va_T .int (qt g 2) 4 qF2 (qA g) U U.heap) ∧
  (vx_Zq Bundle.tN "UNASSIGNED_STACK" Bundle.steD (qA g) U U.heap ∧ vx_Zq Bundle.tN "SUPPRESSED_SENTINEL" Bundle.listD (qA g) U U.heap) ∧
  (∀ q ∈ qStr, vk_R RX3 q.1 q.2 (qsa g q.1) U) ∧
  (va_Nc "java/lang/IllegalStateException" "java/lang/IllegalArgumentException" U ∧ va_Nc "java/lang/IllegalArgumentException" "java/lang/IndexOutOfBoundsException" U ∧ va_Nc "java/lang/IllegalStateException" "java/lang/IndexOutOfBoundsException" U)
theorem qAmb_warm {g : qG} {s U : State} {H : Heap} {locs : List Loc} (hU : U.heap = H) (hW : s.WarmedH U.vm) (hS : va_S (qA g) s.heap H locs) (h : qAmb g s) : qAmb g U := by
  obtain ⟨h1, h2, h3, ⟨z0, z1, z2⟩, ⟨t0, t1, t2⟩, ⟨u0, u1⟩, h4, n0, n1, n2⟩ := h
  subst hU
  have hv := hW.alike
  exact ⟨va_K.moved hv h1, Nat.le_trans h2 hS.1, fun w hw => qNw_warm (List.mem_filter.mp hw).2 hW (h3 w hw),
    ⟨va_Z.moved hv (z0.kept hS.2.1), va_Z.moved hv (z1.kept hS.2.1), va_Z.moved hv (z2.kept hS.2.1)⟩,
    ⟨va_T.moved hv (t0.kept hS.2.1), va_T.moved hv (t1.kept hS.2.1), va_T.moved hv (t2.kept hS.2.1)⟩,
    ⟨vx_Zq.moved hv (u0.kept hS.2.1), vx_Zq.moved hv (u1.kept hS.2.1)⟩,
    fun q hq => vk_R.warm hW (h4 q hq), va_Nc.moved hv n0, va_Nc.moved hv n1, va_Nc.moved hv n2⟩
theorem qAmb_same {g : qG} {u U : State} (hv : U.vm = u.vm) (hh : U.heap = u.heap) (h : qAmb g u) : qAmb g U := by
  obtain ⟨h1, h2, h3, ⟨z0, z1, z2⟩, ⟨t0, t1, t2⟩, ⟨u0, u1⟩, h4, n0, n1, n2⟩ := h
  have hva : u.vm.Alike U.vm := by rw [hv]; exact Vm.Alike.refl _
  unfold qAmb
  rw [hh]
  exact ⟨va_K.moved hva h1, h2, fun w hw => va_Nw.same (qNw_ot (List.mem_filter.mp hw).2) hv.symm (h3 w hw),
    ⟨va_Z.moved hva z0, va_Z.moved hva z1, va_Z.moved hva z2⟩, ⟨va_T.moved hva t0, va_T.moved hva t1, va_T.moved hva t2⟩,
    ⟨vx_Zq.moved hva u0, vx_Zq.moved hva u1⟩, fun q hq => vk_R.same hv (h4 q hq), va_Nc.moved hva n0, va_Nc.moved hva n1, va_Nc.moved hva n2⟩
/-! a method's contract: from the state S and these arguments, the outcome o and the state S' -/
def qkI : Int → Option Value := fun r => some (.int (qI r))
def qkL : Int → Option Value := fun r => some (.long (qL r))
def qkV : Int → Option Value := fun _ => none
def qPc (g : qG) (av : List Value) (S : qS) : Array Value → State → Prop := va_Pc av (fun U => va_P (qD g) qcls (qW g S) U.heap ∧ qAmb g U)
def qQc (g : qG) (kv : Int → Option Value) (o : qO) (S' : qS) : Array Value → State → Outcome → State → Prop := fun _ st oc t => ∃ r : Int, o = .inr r ∧ oc = .returned (kv r) ∧ va_P (qD g) qcls (qW g S') t.heap ∧ va_F (qA g) st t
def qXc (g : qG) (o : qO) (S' : qS) : String → State → State → Prop := fun E st t => o = .inl E ∧ va_P (qD g) qcls (qW g S') t.heap ∧ va_F (qA g) st t
def qM (l : Launch) (g : qG) (y : MethodName) (w1 : Cond) (rm : Room) (kv : Int → Option Value) (av : List Value) (S : qS) (o : qO) (S' : qS) : Prop :=
  vx_Met l y (w1 :: qAW) rm (qPc g av S) (qQc g kv o S') (qXc g o S') rm.cells rm.slots (qA g)
def qQ (g : qG) (below : List Frame) (kv : Int → Option Value) (o : qO) (S' : qS) (args : Array Value) (s : State) (rm : Room) : State → Prop :=
  vx_MQ below (qQc g kv o S') (qXc g o S') args s rm.cells rm.slots (qA g)
theorem qPc_blind {g : qG} {av : List Value} {S : qS} : FrameBlind (qPc g av S) := fun a U gg mk q => ⟨q.1, q.2.1, qAmb_same (u := U) rfl rfl q.2.2⟩
def qC (g : qG) (p : Program) (l : Launch) (s : State) (m : MethodId) (args : Array Value) (meth : Method) (c : Code) (own : String) (cc : ByteArray) (nL : Nat) : Prop :=
  p.tables.exec = Jvm.exec ∧ c.code = cc ∧ c.maxLocals = nL ∧ s.vm.findClass own = some m.cls ∧ (∀ w ∈ qAW, w.before args s = true) ∧ qAmb g s ∧ qAd g ∧ meth.locks = false ∧ l.stackTraces = false
/-- the judgement: from this place, with these locals and this stack, over the state S -/
def qZ (g : qG) (p : Program) (l : Launch) (e : Env) (R : Room) (s : State) (m : MethodId) (args : Array Value) (below : List Frame) (meth : Method) (c : Code) (Q : State → Prop) (nL : Nat) (S : qS) (L : List (Nat × Value)) (pc : Nat) (st : List Value) (k n : Nat) : Prop :=
  ∀ (H : Heap) (locs : List Loc) (ls : Array Slot), va_P (qD g) qcls (qW g S) H → va_S (qA g) s.heap H locs → lv_has ls nL L → W p l e R s m args below meth c H locs k n Q (F0 m pc ls st)
theorem qM_of {l : Launch} {g : qG} {y : MethodName} {cc : ByteArray} {maxL : Nat} {ret : Option FieldType} {rm : Room} {kv : Int → Option Value} {av : List Value} {S S' : qS} {o : qO} {L : List (Nat × Value)}
    (hy : plainName y.cls = true) (hL : lv_args 0 av = L) (hsz : (lg_sl av).length ≤ maxL) (hl : l.stackTraces = false) (hA : qAd g)
    (body : ∀ (p : Program) (e : Env) (s : State) (m : MethodId) (below : List Frame) (meth : Method) (c : Code), qC g p l s m av.toArray meth c y.cls cc maxL → meth.sig.returnType = ret → (∀ x ∈ c.exceptionTable.toList, False) →
      qZ g p l e rm s m av.toArray below meth c (qQ g below kv o S' av.toArray s rm) maxL S L 0 [] 0 0) : qM l g y (.code y cc maxL ret) rm kv av S o S' := by
  refine vx_ofW (cc := cc) (maxL := maxL) (ret := ret) hy rfl ?_
  intro p e s m args below meth c s₁ B hml ht hv
  obtain ⟨rfl, hP, hAm⟩ := hv
  have hts : ∀ w ∈ qAW, w.before av.toArray s = true := fun w hw => atoms_spec (ws := .code y cc maxL ret :: qAW) B.pre w (List.mem_cons_of_mem _ hw)
  have hl1 := lv_entry av (n := maxL) hsz
  rw [lg_entry_eq]
  rw [hL] at hl1
  exact body p e s m below meth c ⟨B.exec, B.bytes, hml, findClass_of_methodNamed B.named, hts, hAm, hA, B.notSynchronized, hl⟩ B.returns ht s.heap [] _ hP va_S.rf hl1

