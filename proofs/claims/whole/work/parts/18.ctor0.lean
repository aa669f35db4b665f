/-! the constructors: a world that grows -/
def qV (g : qG) (p : Program) (l : Launch) (e : Env) (R : Room) (s : State) (m : MethodId) (args : Array Value) (below : List Frame) (meth : Method) (c : Code) (Q : State → Prop) (nL : Nat) (A : Nat → Prop) (ws : va_W) (L : List (Nat × Value)) (pc : Nat) (st : List Value) (k n : Nat) : Prop :=
  ∀ (H : Heap) (locs : List Loc) (ls : Array Slot), va_P (qD g) qcls ws H → va_D A ws → va_S A s.heap H locs → lv_has ls nL L → W p l e R s m args below meth c H locs k n Q (F0 m pc ls st)
def qCv (g : qG) (p : Program) (s : State) (m : MethodId) (args : Array Value) (meth : Method) (c : Code) (A : Nat → Prop) (own : String) (cc : ByteArray) (nL : Nat) : Prop :=
  p.tables.exec = Jvm.exec ∧ c.code = cc ∧ c.maxLocals = nL ∧ s.vm.findClass own = some m.cls ∧ (∀ w ∈ qAW, w.before args s = true) ∧ qAmb g s ∧ meth.locks = false ∧ (∀ q : Nat, s.heap.size ≤ q → A q) ∧ (∀ q : Nat, A q → qA g q) ∧ va_AO "AxleScale$Recording" s
def qN (l : Launch) (g : qG) (y : MethodName) (w1 : Cond) (rm : Room) (h0 : Nat) (e0 : va_E) (Post : va_W → Prop) : Prop :=
  ∀ sz : Nat, Met l y (w1 :: qAW) rm (va_Pc [.ref h0] (fun U => U.heap.size = sz ∧ va_P (qD g) qcls [(h0, e0)] U.heap ∧ va_D (qA g) [(h0, e0)] ∧ qAmb g U ∧ va_AO "AxleScale$Recording" U)) (va_Qv (S := va_W) Post (fun w1 t => va_P (qD g) qcls w1 t.heap ∧ va_D (va_A [(h0, e0)] sz) w1) (va_A [(h0, e0)] sz)) rm.cells rm.slots (va_A [(h0, e0)] sz)
theorem qS_sub {A B : Nat → Prop} {H0 H : Heap} {locs : List Loc} (hAB : ∀ q, A q → B q) (hS : va_S A H0 H locs) : va_S B H0 H locs := ⟨hS.1, fun q h1 h2 => hS.2.1 q h1 (fun h => h2 (hAB q h)), fun q hq => hAB _ (hS.2.2 q hq)⟩
theorem qjoin {A0 : Nat → Prop} {D : va_G} {cl : List vw_C} {W0 w1 : va_W} {h0 : Nat} {e0 : va_E} {H H1 : Heap} (hP : va_P D cl (W0 ++ [(h0, e0)]) H) (hD : va_D A0 (W0 ++ [(h0, e0)])) (hk : ∀ q : Nat, q < H.size → ¬ va_A [(h0, e0)] H.size q → H1[q]? = H[q]?) (hF : ∀ q, va_A [(h0, e0)] H.size q → A0 q) (hP1 : va_P D cl w1 H1) (hD1 : va_D (va_A [(h0, e0)] H.size) w1) : va_P D cl (W0 ++ w1) H1 ∧ va_D A0 (W0 ++ w1) := by
  have up : ∀ (k : Nat) (q : Nat × va_E), W0[k]? = some q → (W0 ++ [(h0, e0)])[k]? = some q := fun k q hq => by
    rw [List.getElem?_append_left (List.getElem?_eq_some_iff.mp hq).1]; exact hq
  have hW : ∀ (k : Nat) (q : Nat × va_E), W0[k]? = some q → q.1 < H.size ∧ ¬ va_A [(h0, e0)] H.size q.1 := by
    intro k q hq
    have hkl := (List.getElem?_eq_some_iff.mp hq).1
    have hl := (hP k q (up k q hq)).lt
    refine ⟨hl, fun h => ?_⟩
    rcases h with ⟨k2, e, h⟩ | h
    · have hk2 : k2 = 0 := by
        have h9 := (List.getElem?_eq_some_iff.mp h).1
        simp only [List.length_singleton] at h9
        omega
      subst hk2
      have h3 := Option.some.inj h
      have h2 : (W0 ++ [(h0, e0)])[W0.length]? = some (h0, e0) := by rw [List.getElem?_append_right (Nat.le_refl _), Nat.sub_self]; rfl
      have h4 := hD.1 k W0.length q (h0, e0) (up k q hq) h2 (congrArg Prod.fst h3).symm
      omega
    · omega
  refine ⟨va_P.app (fun k q hq => (hP k q (up k q hq)).kept (hk q.1 (hW k q hq).1 (hW k q hq).2)) hP1, va_D.app ⟨fun i j x y hi hj hxy => hD.1 i j x y (up i x hi) (up j y hj) hxy, fun k q hq => hD.2 k q (up k q hq)⟩ (hD1.weaken (fun k q _ h => hF q.1 h)) (fun i j x y hx hy hxy => ?_)⟩
  exact (hW i x hx).2 (by rw [hxy]; exact hD1.2 j y hy)
section QCT
variable {g : qG} {p : Program} {l : Launch} {e : Env} {R : Room} {s : State} {m : MethodId} {args : Array Value} {below : List Frame} {meth : Method} {c : Code} {Q : State → Prop} {nL : Nat} {A : Nat → Prop} {ws ws' : va_W} {L L' : List (Nat × Value)} {pc : Nat} {st : List Value} {k n : Nat} {own : String} {cc : ByteArray}
theorem v_iconst {i x : Int} (C : qCv g p s m args meth c A own cc nL) (d : decode cc pc = .ok (.iconst i, 1)) (hv : Int32.ofInt i = qI x) (kk : qV g p l e R s m args below meth c Q nL A ws L (pc + 1) (.int (qI x) :: st) k n) : qV g p l e R s m args below meth c Q nL A ws L pc st k n := fun H locs ls hP hD hS hl => lv_iconst C.1 C.2.1 d hv (kk H locs ls hP hD hS hl)
theorem v_bipush {i x : Int} (C : qCv g p s m args meth c A own cc nL) (d : decode cc pc = .ok (.bipush i, 2)) (hv : (Int8.ofInt i).toInt32 = qI x) (kk : qV g p l e R s m args below meth c Q nL A ws L (pc + 2) (.int (qI x) :: st) k n) : qV g p l e R s m args below meth c Q nL A ws L pc st k n := fun H locs ls hP hD hS hl => lv_bipush C.1 C.2.1 d hv (kk H locs ls hP hD hS hl)
theorem v_sipush {i x : Int} (C : qCv g p s m args meth c A own cc nL) (d : decode cc pc = .ok (.sipush i, 3)) (hv : (Int16.ofInt i).toInt32 = qI x) (kk : qV g p l e R s m args below meth c Q nL A ws L (pc + 3) (.int (qI x) :: st) k n) : qV g p l e R s m args below meth c Q nL A ws L pc st k n := fun H locs ls hP hD hS hl => lv_sipush C.1 C.2.1 d hv (kk H locs ls hP hD hS hl)
theorem v_aload_n {i : Fin 4} {x : Nat} (C : qCv g p s m args meth c A own cc nL) (d : decode cc pc = .ok (.aload_n i, 1)) (j : Nat) (hj : L[j]? = some ((i : Nat), .ref x)) (kk : qV g p l e R s m args below meth c Q nL A ws L (pc + 1) (.ref x :: st) k n) : qV g p l e R s m args below meth c Q nL A ws L pc st k n := fun H locs ls hP hD hS hl => lv_aload_n C.1 C.2.1 d rfl (lv_at hl j hj) (kk H locs ls hP hD hS hl)
theorem v_iload_n {i : Fin 4} {x : Int32} (C : qCv g p s m args meth c A own cc nL) (d : decode cc pc = .ok (.iload_n i, 1)) (j : Nat) (hj : L[j]? = some ((i : Nat), .int x)) (kk : qV g p l e R s m args below meth c Q nL A ws L (pc + 1) (.int x :: st) k n) : qV g p l e R s m args below meth c Q nL A ws L pc st k n := fun H locs ls hP hD hS hl => lv_iload_n C.1 C.2.1 d rfl (lv_at hl j hj) (kk H locs ls hP hD hS hl)
theorem v_istore_n {i : Fin 4} {x : Int32} (C : qCv g p s m args meth c A own cc nL) (d : decode cc pc = .ok (.istore_n i, 1)) (hn : (i : Nat) < nL) (hL : ((i : Nat), Value.int x) :: L.filter (fun q : Nat × Value => !(q.1 == (i : Nat)) && !(q.1 + 1 == (i : Nat) && q.2.category == 2)) = L') (kk : qV g p l e R s m args below meth c Q nL A ws L' (pc + 1) st k n) : qV g p l e R s m args below meth c Q nL A ws L pc (.int x :: st) k n := fun H locs ls hP hD hS hl => lv_istore_n C.1 C.2.1 d rfl hl hn hL (fun ls' h' => kk H locs ls' hP hD hS h')
theorem v_istore {i : Nat} {x : Int32} (C : qCv g p s m args meth c A own cc nL) (d : decode cc pc = .ok (.istore i, 2)) (hn : i < nL) (hL : (i, Value.int x) :: L.filter (fun q : Nat × Value => !(q.1 == i) && !(q.1 + 1 == i && q.2.category == 2)) = L') (kk : qV g p l e R s m args below meth c Q nL A ws L' (pc + 2) st k n) : qV g p l e R s m args below meth c Q nL A ws L pc (.int x :: st) k n := fun H locs ls hP hD hS hl => lv_istore C.1 C.2.1 d hl hn hL (fun ls' h' => kk H locs ls' hP hD hS h')
theorem v_astore_n {i : Fin 4} {x : Nat} (C : qCv g p s m args meth c A own cc nL) (d : decode cc pc = .ok (.astore_n i, 1)) (hn : (i : Nat) < nL) (hL : ((i : Nat), Value.ref x) :: L.filter (fun q : Nat × Value => !(q.1 == (i : Nat)) && !(q.1 + 1 == (i : Nat) && q.2.category == 2)) = L') (kk : qV g p l e R s m args below meth c Q nL A ws L' (pc + 1) st k n) : qV g p l e R s m args below meth c Q nL A ws L pc (.ref x :: st) k n := fun H locs ls hP hD hS hl => lv_astore_n C.1 C.2.1 d rfl hl hn hL (fun ls' h' => kk H locs ls' hP hD hS h')
theorem v_iinc {i : Nat} {a x y : Int} (C : qCv g p s m args meth c A own cc nL) (d : decode cc pc = .ok (.iinc i a, 3)) (j : Nat) (hj : L[j]? = some (i, .int (qI x))) (hy : x + a = y) (hn : i < nL) (hL : (i, Value.int (qI y)) :: L.filter (fun q : Nat × Value => !(q.1 == i) && !(q.1 + 1 == i && q.2.category == 2)) = L') (kk : qV g p l e R s m args below meth c Q nL A ws L' (pc + 3) st k n) : qV g p l e R s m args below meth c Q nL A ws L pc st k n := fun H locs ls hP hD hS hl => lv_iinc C.1 C.2.1 d hl hj (hy ▸ qI_add x a) hn hL (fun ls' h' => kk H locs ls' hP hD hS h')
theorem v_dup {v : Value} (C : qCv g p s m args meth c A own cc nL) (d : decode cc pc = .ok (.dup, 1)) (hv : v.category = 1) (kk : qV g p l e R s m args below meth c Q nL A ws L (pc + 1) (v :: v :: st) k n) : qV g p l e R s m args below meth c Q nL A ws L pc (v :: st) k n := fun H locs ls hP hD hS hl => lv_dup C.1 C.2.1 d hv (kk H locs ls hP hD hS hl)
theorem v_goto {off : Int} {tgt : Nat} (C : qCv g p s m args meth c A own cc nL) (d : decode cc pc = .ok (.goto off, 3)) (ht : (pc : Int) + off = (tgt : Int)) (kk : qV g p l e R s m args below meth c Q nL A ws L tgt st k n) : qV g p l e R s m args below meth c Q nL A ws L pc st k n := fun H locs ls hP hD hS hl => lv_goto C.1 C.2.1 d ht (kk H locs ls hP hD hS hl)
theorem v_icmp_ge {x y : Int} {off : Int} {tgt : Nat} (C : qCv g p s m args meth c A own cc nL) (d : decode cc pc = .ok (.if_icmp .ge off, 3)) (ht : (pc : Int) + off = (tgt : Int)) (h : qR x ∧ qR y) (kt : y ≤ x → qV g p l e R s m args below meth c Q nL A ws L tgt st k n) (kf : ¬ y ≤ x → qV g p l e R s m args below meth c Q nL A ws L (pc + 3) st k n) : qV g p l e R s m args below meth c Q nL A ws L pc (.int (qI y) :: .int (qI x) :: st) k n := fun H locs ls hP hD hS hl => lv_icmp_ge C.1 C.2.1 d ht (fun z => kt ((qI_le h.2 h.1).mp z) H locs ls hP hD hS hl) (fun z => kf (fun q => z ((qI_le h.2 h.1).mpr q)) H locs ls hP hD hS hl)
theorem v_sub (ks : List Nat) (hL : lv_pick L ks = L') (kk : qV g p l e R s m args below meth c Q nL A ws L' pc st k n) : qV g p l e R s m args below meth c Q nL A ws L pc st k n := fun H locs ls hP hD hS hl => kk H locs ls hP hD hS (lv_sub hl ks hL)
theorem v_objInit {i a : Nat} (C : qCv g p s m args meth c A own cc nL) (hw : ∀ w ∈ ([.methodLink own i objectInit, .instanceMethod objectInit, .code objectInit ⟨#[0xb1]⟩ 1 none] : List Cond), w ∈ qAW) (hR : 1 ≤ R.frames ∧ (st.map fun v => v.category).sum + 12 ≤ R.locals) (d : decode cc pc = .ok (.invokespecial i, 3)) (kk : qV g p l e R s m args below meth c Q nL A ws L (pc + 3) st k n) : qV g p l e R s m args below meth c Q nL A ws L pc (.ref a :: st) k n := by
  intro H locs ls hP hD hS hl
  have f : ∀ w ∈ ([.methodLink own i objectInit, .instanceMethod objectInit, .code objectInit ⟨#[0xb1]⟩ 1 none] : List Cond), w.before args s = true := fun w h => C.2.2.2.2.1 w (hw w h)
  refine W.objInit C.1 C.2.1 C.2.2.2.1 (f _ List.mem_cons_self) (f _ (List.mem_cons_of_mem _ List.mem_cons_self)) (f _ (List.mem_cons_of_mem _ (List.mem_cons_of_mem _ List.mem_cons_self))) rfl (by rw [C.2.2.1]; exact hl.1) rfl d hR.1 (by show 2 * 0 + _ + 12 ≤ _; have := hR.2; omega) ?_
  exact kk H locs ls hP hD hS hl
theorem v_newaI {N : Nat} {x : Int} (C : qCv g p s m args meth c A own cc nL) (hx : x = (N : Int)) (hN : N ≤ 10000) (hw : Cond.arrayClass .int ∈ qAW) (hcs : k + 1 ≤ R.cells ∧ n + N ≤ R.slots) (d : decode cc pc = .ok (.newarray .int, 2)) (kk : ∀ q : Nat, qV g p l e R s m args below meth c Q nL A (ws ++ [(q, qAr g N (fun _ => 0))]) L (pc + 2) (.ref q :: st) (k + 1) (n + N)) : qV g p l e R s m args below meth c Q nL A ws L pc (.int (qI x) :: st) k n := by
  subst hx
  intro H locs ls hP hD hS hl
  refine va_newa (atype := .int) C.1 C.2.1 (C.2.2.2.2.1 _ hw) (ty := .int) rfl C.2.2.2.2.2.1.1 hP hD hS C.2.2.2.2.2.2.2.1 (N' := N) (a0 := (N, .inl (qia (fun _ => 0)))) (fun cA => rfl) (by rw [qI_lt0 (by omega)]; omega) (by rw [qI_nat (by omega) (by omega)]; exact Int.toNat_natCast N) (by show N * _ ≤ _; simp only [componentBytes]; omega) hcs.1 hcs.2 d (fun q cA H1 hK hP1 hD1 hS1 => ?_)
  have e1 : cA = qcI g := by
    have h1 := (hK.2 4 (cA, .int) rfl).2
    have h2 := (hK.2 0 (qcI g, .int) rfl).2
    exact Option.some.inj ((show s.vm.findClass _ = some cA from h1).symm.trans (show s.vm.findClass _ = some (qcI g) from h2))
  subst e1
  exact kk q H1 locs ls hP1 hD1 hS1 hl
theorem v_newaZ {N : Nat} {x : Int} (C : qCv g p s m args meth c A own cc nL) (hx : x = (N : Int)) (hN : N ≤ 10000) (hw : Cond.arrayClass .boolean ∈ qAW) (hcs : k + 1 ≤ R.cells ∧ n + N ≤ R.slots) (d : decode cc pc = .ok (.newarray .boolean, 2)) (kk : ∀ q : Nat, qV g p l e R s m args below meth c Q nL A (ws ++ [(q, .inl (qcZ g, N, .inl (qia (fun _ => 0))))]) L (pc + 2) (.ref q :: st) (k + 1) (n + N)) : qV g p l e R s m args below meth c Q nL A ws L pc (.int (qI x) :: st) k n := by
  subst hx
  intro H locs ls hP hD hS hl
  refine va_newa (atype := .boolean) C.1 C.2.1 (C.2.2.2.2.1 _ hw) (ty := .boolean) rfl C.2.2.2.2.2.1.1 hP hD hS C.2.2.2.2.2.2.2.1 (N' := N) (a0 := (N, .inl (qia (fun _ => 0)))) (fun cA => rfl) (by rw [qI_lt0 (by omega)]; omega) (by rw [qI_nat (by omega) (by omega)]; exact Int.toNat_natCast N) (by show N * _ ≤ _; simp only [componentBytes]; omega) hcs.1 hcs.2 d (fun q cA H1 hK hP1 hD1 hS1 => ?_)
  have e1 : cA = qcZ g := by
    have h1 := (hK.2 4 (cA, .boolean) rfl).2
    have h2 := (hK.2 1 (qcZ g, .boolean) rfl).2
    exact Option.some.inj ((show s.vm.findClass _ = some cA from h1).symm.trans (show s.vm.findClass _ = some (qcZ g) from h2))
  subst e1
  exact kk q H1 locs ls hP1 hD1 hS1 hl
theorem v_newaL {N : Nat} {x : Int} (C : qCv g p s m args meth c A own cc nL) (hx : x = (N : Int)) (hN : N ≤ 10000) (hw : Cond.arrayClass .long ∈ qAW) (hcs : k + 1 ≤ R.cells ∧ n + N ≤ R.slots) (d : decode cc pc = .ok (.newarray .long, 2)) (kk : ∀ q : Nat, qV g p l e R s m args below meth c Q nL A (ws ++ [(q, .inl (qcL g, N, .inr (.inl (qla (fun _ => 0)))))]) L (pc + 2) (.ref q :: st) (k + 1) (n + N)) : qV g p l e R s m args below meth c Q nL A ws L pc (.int (qI x) :: st) k n := by
  subst hx
  intro H locs ls hP hD hS hl
  refine va_newa (atype := .long) C.1 C.2.1 (C.2.2.2.2.1 _ hw) (ty := .long) rfl C.2.2.2.2.2.1.1 hP hD hS C.2.2.2.2.2.2.2.1 (N' := N) (a0 := (N, .inr (.inl (qla (fun _ => 0))))) (fun cA => rfl) (by rw [qI_lt0 (by omega)]; omega) (by rw [qI_nat (by omega) (by omega)]; exact Int.toNat_natCast N) (by show N * _ ≤ _; simp only [componentBytes]; omega) hcs.1 hcs.2 d (fun q cA H1 hK hP1 hD1 hS1 => ?_)
  have e1 : cA = qcL g := by
    have h1 := (hK.2 4 (cA, .long) rfl).2
    have h2 := (hK.2 2 (qcL g, .long) rfl).2
    exact Option.some.inj ((show s.vm.findClass _ = some cA from h1).symm.trans (show s.vm.findClass _ = some (qcL g) from h2))
  subst e1
  exact kk q H1 locs ls hP1 hD1 hS1 hl
theorem v_newaQ {N i : Nat} {x : Int} (C : qCv g p s m args meth c A own cc nL) (hx : x = (N : Int)) (hN : N ≤ 10000) (hw : Cond.classLink own i "AxleScale$Recording" ∈ qAW) (hcs : k + 1 ≤ R.cells ∧ n + N ≤ R.slots) (d : decode cc pc = .ok (.anewarray i, 3)) (kk : ∀ q : Nat, qV g p l e R s m args below meth c Q nL A (ws ++ [(q, .inl (qcQ g, N, .inr (.inr (.inr (.inr (fun _ => none))))))]) L (pc + 3) (.ref q :: st) (k + 1) (n + N)) : qV g p l e R s m args below meth c Q nL A ws L pc (.int (qI x) :: st) k n := by
  subst hx
  intro H locs ls hP hD hS hl
  refine va_newq C.1 C.2.1 C.2.2.2.1 (C.2.2.2.2.1 _ hw) C.2.2.2.2.2.2.2.2.2 C.2.2.2.2.2.1.1 hP hD hS C.2.2.2.2.2.2.2.1 (N' := N) (by rw [qI_lt0 (by omega)]; omega) (by rw [qI_nat (by omega) (by omega)]; exact Int.toNat_natCast N) (by omega) hcs.1 hcs.2 d (fun q cA H1 hK hP1 hD1 hS1 => ?_)
  have e1 : cA = qcQ g := by
    obtain ⟨_, _, _, _, _, h1⟩ := (hK.2 4 (cA, .object "AxleScale$Recording") rfl).2
    obtain ⟨_, _, _, _, _, h2⟩ := (hK.2 3 (qcQ g, .object "AxleScale$Recording") rfl).2
    exact Option.some.inj (h1.symm.trans h2)
  subst e1
  exact kk q H1 locs ls hP1 hD1 hS1 hl
theorem v_new {i ci N : Nat} {Cn : String} {T : u_T} {ty : Nat → FieldType} {fs : List Value} (C : qCv g p s m args meth c A own cc nL) (hc : qcls[ci]? = some (Cn, T, N)) (hin : ∀ w ∈ u_ws Cn T N, w ∈ qAW) (hty : ∀ k, k < N → parseFieldDescriptor (T k).2.2.1 = some (ty k)) (hw : ∀ w ∈ ([.classLink own i Cn, .instantiable Cn N, .initialized Cn] : List Cond), w ∈ qAW) (hfs : ∀ j, j < N → defaultValue (ty j) = vp_V fs j) (hcs : k + 1 ≤ R.cells ∧ n + N ≤ R.slots) (d : decode cc pc = .ok (.new i, 3)) (kk : ∀ q : Nat, qV g p l e R s m args below meth c Q nL A (ws ++ [(q, .inr (ci, fs))]) L (pc + 3) (.ref q :: st) (k + 1) (n + N)) : qV g p l e R s m args below meth c Q nL A ws L pc st k n := by
  intro H locs ls hP hD hS hl
  have f : ∀ w ∈ ([.classLink own i Cn, .instantiable Cn N, .initialized Cn] : List Cond), w.before args s = true := fun w h => C.2.2.2.2.1 w (hw w h)
  exact va_new C.1 C.2.1 C.2.2.2.2.1 hin ty hty C.2.2.2.1 (f _ List.mem_cons_self) (f _ (List.mem_cons_of_mem _ List.mem_cons_self)) (f _ (List.mem_cons_of_mem _ (List.mem_cons_of_mem _ List.mem_cons_self))) C.2.2.2.2.2.1.1 hP hD hS C.2.2.2.2.2.2.2.1 hc hfs hcs.1 hcs.2 d (fun q H1 hP1 hD1 hS1 => kk q H1 locs ls hP1 hD1 hS1 hl)
theorem v_putF {q0 ci i N kf a : Nat} {Cn : String} {T : u_T} {fs : List Value} {v : Value} {ty : FieldType} {ty0 : Nat → FieldType} (C : qCv g p s m args meth c A own cc nL) (hin2 : meth.name = "<init>") (he : ws[q0]? = some (a, .inr (ci, fs))) (hc : qcls[ci]? = some (Cn, T, N)) (hin : ∀ w ∈ u_ws Cn T N, w ∈ qAW) (hty : ∀ k, k < N → parseFieldDescriptor (T k).2.2.1 = some (ty0 k)) (hnm : ∀ a, a < N → ∀ b, b < N → a ≠ b → (T a).2.1 ≠ (T b).2.1) (hk : kf < N) (hl9 : kf < fs.length) (hw : Cond.fieldLink own i own (T kf).2.1 (T kf).2.2.1 ∈ qAW) (hs : (T kf).1 = own) (hfin : (T kf).2.2.2 = true) (hd : parseFieldDescriptor (T kf).2.2.1 = some ty) (hn : narrow ty v = v) (hfit : fits ty v = true) (d : decode cc pc = .ok (.putfield i, 3)) (hws : ws.set q0 (a, .inr (ci, fs.set kf v)) = ws') (kk : qV g p l e R s m args below meth c Q nL A ws' L (pc + 3) st k n) : qV g p l e R s m args below meth c Q nL A ws L pc (v :: .ref a :: st) k n := fun H locs ls hP hD hS hl => va_putF (ref := own) C.1 C.2.1 C.2.2.2.2.1 hin ty0 hty hnm C.2.2.2.1 C.2.2.2.2.2.1.1 hP hD hS q0 he hc kf hk (C.2.2.2.2.1 _ hw) (fun x h => by rw [← hs]; exact h) hfin hin2 hs hd hn hfit hl9 d (fun H1 locs1 hP1 hD1 hS1 => kk H1 locs1 ls (hws ▸ hP1) (hws ▸ hD1) hS1 hl)
theorem v_get {q0 ci i N kf a : Nat} {Cn ref : String} {T : u_T} {fs : List Value} {v : Value} (C : qCv g p s m args meth c A own cc nL) (he : ws[q0]? = some (a, .inr (ci, fs))) (hc : qcls[ci]? = some (Cn, T, N)) (hin : ∀ w ∈ u_ws Cn T N, w ∈ qAW) (hk : kf < N) (hw : Cond.fieldLink own i ref (T kf).2.1 (T kf).2.2.1 ∈ qAW) (hs : (T kf).1 = ref) (hv : fs[kf]? = some v) (d : decode cc pc = .ok (.getfield i, 3)) (kk : qV g p l e R s m args below meth c Q nL A ws L (pc + 3) (v :: st) k n) : qV g p l e R s m args below meth c Q nL A ws L pc (.ref a :: st) k n := fun H locs ls hP hD hS hl => va_get C.1 C.2.1 C.2.2.2.2.1 hin C.2.2.2.1 C.2.2.2.2.2.1.1 hP q0 he hc kf hk (C.2.2.2.2.1 _ hw) (fun x h => by rw [← hs]; exact h) hv d (kk H locs ls hP hD hS hl)
theorem v_iast {q0 N a : Nat} {f : Nat → Int} {x v : Int} (C : qCv g p s m args meth c A own cc nL) (he : ws[q0]? = some (a, qAr g N f)) (h : 0 ≤ x ∧ x < (N : Int)) (hN : N ≤ 2147483647) (d : decode cc pc = .ok (.iastore, 1)) (hws : ws.set q0 (a, qAr g N (fun i => if i = x.toNat then v else f i)) = ws') (kk : qV g p l e R s m args below meth c Q nL A ws' L (pc + 1) st k n) : qV g p l e R s m args below meth c Q nL A ws L pc (.int (qI v) :: .int (qI x) :: .ref a :: st) k n := fun H locs ls hP hD hS hl => va_iast C.1 C.2.1 C.2.2.2.2.2.1.1 hP hD hS q0 0 (f := qia f) (n := N) he rfl (qI_in h hN) d (fun H1 locs1 hP1 hD1 hS1 => kk H1 locs1 ls (by rw [qia_up (by omega)] at hP1; exact hws ▸ hP1) (by rw [qia_up (by omega)] at hD1; exact hws ▸ hD1) hS1 hl)
theorem v_astq {q0 qv N a v : Nat} {vs : List Value} {f : Nat → Option Nat} {x : Int} (C : qCv g p s m args meth c A own cc nL) (he : ws[q0]? = some (a, .inl (qcQ g, N, .inr (.inr (.inr (.inr f)))))) (hv : ws[qv]? = some (v, .inr (1, vs))) (h : 0 ≤ x ∧ x < (N : Int)) (hN : N ≤ 2147483647) (d : decode cc pc = .ok (.aastore, 1)) (hws : ws.set q0 (a, .inl (qcQ g, N, .inr (.inr (.inr (.inr (va_up f x.toNat (some v))))))) = ws') (kk : qV g p l e R s m args below meth c Q nL A ws' L (pc + 1) st k n) : qV g p l e R s m args below meth c Q nL A ws L pc (.ref v :: .int (qI x) :: .ref a :: st) k n := fun H locs ls hP hD hS hl => va_astq (r := (RX1, TX1, 5)) C.1 C.2.1 C.2.2.2.2.2.1.1 hP hD hS q0 3 qv 1 (f := f) (n := N) he rfl hv rfl (qI_in h hN) d (fun H1 locs1 hP1 hD1 hS1 => kk H1 locs1 ls (by rw [qI_nat h.1 (by omega)] at hP1; exact hws ▸ hP1) (by rw [qI_nat h.1 (by omega)] at hD1; exact hws ▸ hD1) hS1 hl)
theorem v_gs0 {i : Nat} (C : qCv g p s m args meth c A own cc nL) (hw : Cond.fieldLinkNest own i "AxleScale" "FIRST_SETTINGS" "[I" "AxleScale" ∈ qNW) (d : decode cc pc = .ok (.getstatic i, 3)) (kk : qV g p l e R s m args below meth c Q nL A ws L (pc + 3) (.ref (qt g 0) :: st) k n) : qV g p l e R s m args below meth c Q nL A ws L pc st k n := fun H locs ls hP hD hS hl => va_getsN C.1 C.2.1 C.2.2.2.2.2.1.2.2.2.1.1 (qS_sub C.2.2.2.2.2.2.2.2.1 hS) C.2.2.2.1 (va_Nw.use (qNw_ot (List.mem_filter.mp hw).2) (C.2.2.2.2.2.1.2.2.1 _ hw)) (fun x h => h) d (kk H locs ls hP hD hS hl)
theorem v_tl0 (C : qCv g p s m args meth c A own cc nL) (d : decode cc pc = .ok (.arraylength, 1)) (kk : qV g p l e R s m args below meth c Q nL A ws L (pc + 1) (.int (qI 4) :: st) k n) : qV g p l e R s m args below meth c Q nL A ws L pc (.ref (qt g 0) :: st) k n := fun H locs ls hP hD hS hl => va_tlen C.1 C.2.1 C.2.2.2.2.2.1.2.2.2.2.1.1 (qS_sub C.2.2.2.2.2.2.2.2.1 hS) (v := qI 4) rfl d (kk H locs ls hP hD hS hl)
theorem v_ti0 {x : Int} (C : qCv g p s m args meth c A own cc nL) (h : 0 ≤ x ∧ x < 4) (d : decode cc pc = .ok (.iaload, 1)) (kk : qV g p l e R s m args below meth c Q nL A ws L (pc + 1) (.int (qI (qF0i x.toNat)) :: st) k n) : qV g p l e R s m args below meth c Q nL A ws L pc (.int (qI x) :: .ref (qt g 0) :: st) k n := fun H locs ls hP hD hS hl => va_ti C.1 C.2.1 C.2.2.2.2.2.1.2.2.2.2.1.1 (qS_sub C.2.2.2.2.2.2.2.2.1 hS) (qI_in h (by decide)) (v := .int (qI (qF0i x.toNat))) (by rw [qI_nat h.1 (by omega)]; exact qF0_eq _ (by omega)) d (kk H locs ls hP hD hS hl)
theorem v_ws (hws : ws = ws') (kk : qV g p l e R s m args below meth c Q nL A ws' L pc st k n) : qV g p l e R s m args below meth c Q nL A ws L pc st k n := hws ▸ kk
theorem v_callI {y : MethodName} {bytes : ByteArray} {maxL i h0 : Nat} {rm : Room} {e0 : va_E} {Post : va_W → Prop} {W0 : va_W}  (C : qCv g p s m args meth c A own cc nL) (hM : qN l g y (.code y bytes maxL none) rm h0 e0 Post) (hws : ws = W0 ++ [(h0, e0)]) (hw : ∀ w ∈ ([.code y bytes maxL none, .initialized y.cls, .methodLink own i y, .instanceMethod y] : List Cond), w ∈ qAW)  (hn1 : y.name = "<init>") (hd : y.cls ≠ "java/lang/invoke/MethodHandle" ∧ y.cls ≠ "java/lang/invoke/VarHandle" ∧ (parseMethodDescriptor y.desc).map (fun d => d.parameters.length) = some 0) (hR : rm.frames + 1 ≤ R.frames ∧ 8 + (maxL + 11) + rm.locals ≤ R.locals) (hcs : k + rm.cells ≤ R.cells ∧ n + rm.slots ≤ R.slots) (hcat : (st.map fun v => v.category).sum ≤ 8) (d : decode cc pc = .ok (.invokespecial i, 3)) (kk : ∀ w1 : va_W, Post w1 → qV g p l e R s m args below meth c Q nL A (W0 ++ w1) L (pc + 3) st (k + rm.cells) (n + rm.slots)) : qV g p l e R s m args below meth c Q nL A ws L pc (.ref h0 :: st) k n := by
  intro H locs ls hP hD hS hl
  subst hws
  have up : ∀ (k : Nat) (q : Nat × va_E), [(h0, e0)][k]? = some q → (W0 ++ [(h0, e0)])[W0.length + k]? = some q := fun k q hq => by
    rw [List.getElem?_append_right (Nat.le_add_right _ _), Nat.add_sub_cancel_left]; exact hq
  have hP0 : va_P (qD g) qcls [(h0, e0)] H := fun k q hk => hP _ q (up k q hk)
  have hD0 : va_D A [(h0, e0)] := ⟨fun i j x y hi hj hxy => by have := hD.1 _ _ x y (up i x hi) (up j y hj) hxy; omega, fun k q hk => hD.2 _ q (up k q hk)⟩
  have hF : ∀ q, va_A [(h0, e0)] H.size q → A q := fun q h => by
    rcases h with ⟨k2, e, h⟩ | h
    · exact hD0.2 k2 (q, e) h
    · exact C.2.2.2.2.2.2.2.1 q (Nat.le_trans hS.1 h)
  have f := fun w (h : w ∈ ([.code y bytes maxL none, .initialized y.cls, .methodLink own i y, .instanceMethod y] : List Cond)) => C.2.2.2.2.1 w (hw w h)
  refine va_callv (va_runI (As := []) (rest := st) ⟨C.1, C.2.1, C.2.2.1, C.2.2.2.1, C.2.2.2.2.1⟩ (hM H.size) (cwI 0 C.2.2.2.2.1 (qGood (ws := .code y bytes maxL none :: qAW) (fun w h => (List.mem_cons.mp h).elim (fun e => e ▸ hw _ List.mem_cons_self) id)) rfl rfl rfl (f _ (List.mem_cons_of_mem _ List.mem_cons_self)) (f _ (List.mem_cons_of_mem _ (List.mem_cons_of_mem _ List.mem_cons_self))) (f _ (List.mem_cons_of_mem _ (List.mem_cons_of_mem _ (List.mem_cons_of_mem _ List.mem_cons_self)))) hn1 hd hR) ⟨fun a U gg mk q => ⟨q.1, q.2.1, q.2.2.1, q.2.2.2.1, qAmb_same (u := U) rfl rfl q.2.2.2.2.1, va_AO.moved (u := U) (Vm.Alike.refl _) q.2.2.2.2.2⟩, fun U hU hW => ⟨rfl, by rw [hU], by rw [hU]; exact hP0, hD0.weaken (fun _ q _ h => C.2.2.2.2.2.2.2.2.1 q.1 h), qAmb_warm hU hW (qS_sub C.2.2.2.2.2.2.2.2.1 hS) C.2.2.2.2.2.1, va_AO.moved hW.alike C.2.2.2.2.2.2.2.2.2⟩⟩ rfl rfl hl.1 rfl (lv_room hcat) d hcs) hS (fun q _ h => hF q h) hF (fun w1 t H1 locs1 ht hvm hpost hB hz hk hS1 => ?_)
  obtain ⟨hP1, hD1⟩ := hB
  rw [ht] at hP1
  obtain ⟨hP2, hD2⟩ := qjoin hP hD hk hF hP1 hD1
  exact kk w1 hpost H1 locs1 ls hP2 hD2 hS1 hl
theorem v_callIN {y : MethodName} {bytes : ByteArray} {maxL i h0 : Nat} {rm : Room} {e0 : va_E} {Post : va_W → Prop} {W0 : va_W} {host : String} (C : qCv g p s m args meth c A own cc nL) (hM : qN l g y (.code y bytes maxL none) rm h0 e0 Post) (hws : ws = W0 ++ [(h0, e0)]) (hw : ∀ w ∈ ([.code y bytes maxL none, .initialized y.cls, .instanceMethod y] : List Cond), w ∈ qAW) (hwn : Cond.methodLinkNest own i y host ∈ qNW) (hn1 : y.name = "<init>") (hd : y.cls ≠ "java/lang/invoke/MethodHandle" ∧ y.cls ≠ "java/lang/invoke/VarHandle" ∧ (parseMethodDescriptor y.desc).map (fun d => d.parameters.length) = some 0) (hR : rm.frames + 1 ≤ R.frames ∧ 8 + (maxL + 11) + rm.locals ≤ R.locals) (hcs : k + rm.cells ≤ R.cells ∧ n + rm.slots ≤ R.slots) (hcat : (st.map fun v => v.category).sum ≤ 8) (d : decode cc pc = .ok (.invokespecial i, 3)) (kk : ∀ w1 : va_W, Post w1 → qV g p l e R s m args below meth c Q nL A (W0 ++ w1) L (pc + 3) st (k + rm.cells) (n + rm.slots)) : qV g p l e R s m args below meth c Q nL A ws L pc (.ref h0 :: st) k n := by
  intro H locs ls hP hD hS hl
  subst hws
  have up : ∀ (k : Nat) (q : Nat × va_E), [(h0, e0)][k]? = some q → (W0 ++ [(h0, e0)])[W0.length + k]? = some q := fun k q hq => by
    rw [List.getElem?_append_right (Nat.le_add_right _ _), Nat.add_sub_cancel_left]; exact hq
  have hP0 : va_P (qD g) qcls [(h0, e0)] H := fun k q hk => hP _ q (up k q hk)
  have hD0 : va_D A [(h0, e0)] := ⟨fun i j x y hi hj hxy => by have := hD.1 _ _ x y (up i x hi) (up j y hj) hxy; omega, fun k q hk => hD.2 _ q (up k q hk)⟩
  have hF : ∀ q, va_A [(h0, e0)] H.size q → A q := fun q h => by
    rcases h with ⟨k2, e, h⟩ | h
    · exact hD0.2 k2 (q, e) h
    · exact C.2.2.2.2.2.2.2.1 q (Nat.le_trans hS.1 h)
  have f := fun w (h : w ∈ ([.code y bytes maxL none, .initialized y.cls, .instanceMethod y] : List Cond)) => C.2.2.2.2.1 w (hw w h)
  refine va_callv (va_runIN (As := []) (rest := st) ⟨C.1, C.2.1, C.2.2.1, C.2.2.2.1, C.2.2.2.2.1⟩ (hM H.size) (⟨va_cnB 0 C.2.2.2.2.1 (qGood (ws := .code y bytes maxL none :: qAW) (fun w h => (List.mem_cons.mp h).elim (fun e => e ▸ hw _ List.mem_cons_self) id)) rfl rfl rfl (C.2.2.2.2.2.1.2.2.1 _ hwn) (f _ (List.mem_cons_of_mem _ List.mem_cons_self)) hd hR, hn1, f _ (List.mem_cons_of_mem _ (List.mem_cons_of_mem _ List.mem_cons_self))⟩) ⟨fun a U gg mk q => ⟨q.1, q.2.1, q.2.2.1, q.2.2.2.1, qAmb_same (u := U) rfl rfl q.2.2.2.2.1, va_AO.moved (u := U) (Vm.Alike.refl _) q.2.2.2.2.2⟩, fun U hU hW => ⟨rfl, by rw [hU], by rw [hU]; exact hP0, hD0.weaken (fun _ q _ h => C.2.2.2.2.2.2.2.2.1 q.1 h), qAmb_warm hU hW (qS_sub C.2.2.2.2.2.2.2.2.1 hS) C.2.2.2.2.2.1, va_AO.moved hW.alike C.2.2.2.2.2.2.2.2.2⟩⟩ rfl rfl hl.1 rfl (lv_room hcat) d hcs) hS (fun q _ h => hF q h) hF (fun w1 t H1 locs1 ht hvm hpost hB hz hk hS1 => ?_)
  obtain ⟨hP1, hD1⟩ := hB
  rw [ht] at hP1
  obtain ⟨hP2, hD2⟩ := qjoin hP hD hk hF hP1 hD1
  exact kk w1 hpost H1 locs1 ls hP2 hD2 hS1 hl
theorem v_ret {Post : va_W → Prop} {rm : Room} (C : qCv g p s m args meth c A own cc nL) (hr : meth.sig.returnType = none) (hk : k ≤ rm.cells) (hn : n ≤ rm.slots) (hp : Post ws) (d : decode cc pc = .ok (.return_, 1)) : qV g p l e R s m args below meth c (MQ below (va_Qv (S := va_W) Post (fun w1 t => va_P (qD g) qcls w1 t.heap ∧ va_D A w1) A) args s rm.cells rm.slots A) nL A ws L pc [] k n := by
  intro H locs ls hP hD hS hl
  exact W.widen (k := rm.cells) (n := rm.slots) hk hn (W.vret C.1 C.2.1 hr (fun t ht hW => ⟨⟨ws, rfl, hp, by rw [ht]; exact hP, hD⟩, hS.F ht⟩) hS.2.2 d (hlocks := C.2.2.2.2.2.2.1))
end QCT
theorem qN_of {l : Launch} {g : qG} {y : MethodName} {cc : ByteArray} {maxL : Nat} {rm : Room} {h0 : Nat} {e0 : va_E} {Post : va_W → Prop} (hy : plainName y.cls = true) (hsz : 1 ≤ maxL)
    (body : ∀ (p : Program) (e : Env) (s : State) (m : MethodId) (below : List Frame) (meth : Method) (c : Code) (A : Nat → Prop), qCv g p s m ([.ref h0] : List Value).toArray meth c A y.cls cc maxL → meth.name = y.name → meth.sig.returnType = none →
      qV g p l e rm s m ([.ref h0] : List Value).toArray below meth c (MQ below (va_Qv (S := va_W) Post (fun w1 t => va_P (qD g) qcls w1 t.heap ∧ va_D A w1) A) ([.ref h0] : List Value).toArray s rm.cells rm.slots A) maxL A [(h0, e0)] [(0, .ref h0)] 0 [] 0 0) : qN l g y (.code y cc maxL none) rm h0 e0 Post := by
  intro sz
  refine Met.ofW (cc := cc) (maxL := maxL) (ret := none) hy rfl ?_
  intro p e s m args below meth c s₁ B hml hv
  obtain ⟨rfl, hsz9, hP, hD, hAm, hAo⟩ := hv
  have hts : ∀ w ∈ qAW, w.before ([.ref h0] : List Value).toArray s = true := fun w hw => atoms_spec (ws := .code y cc maxL none :: qAW) B.pre w (List.mem_cons_of_mem _ hw)
  subst hsz9
  have hDs := hD.self (sz := s.heap.size)
  have hsub : ∀ q : Nat, va_A [(h0, e0)] s.heap.size q → qA g q := fun q h => by
    rcases h with ⟨k2, e, h⟩ | h
    · exact hD.2 k2 (q, e) h
    · exact Nat.le_trans hAm.2.1 h
  have hl1 := lv_entry ([.ref h0]) (n := maxL) hsz
  rw [lg_entry_eq]
  exact body p e s m below meth c (va_A [(h0, e0)] s.heap.size) ⟨B.exec, B.bytes, hml, findClass_of_methodNamed B.named, hts, hAm, B.notSynchronized, fun q h => Or.inr h, hsub, hAo⟩ (name_of_methodNamed B.named B.method).1 B.returns s.heap [] _ hP hDs va_S.rf hl1
