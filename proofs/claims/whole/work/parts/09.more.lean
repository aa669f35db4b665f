theorem qx_ofW {l : Launch} {y : MethodName} {ws ws' : List Cond} {rm : Room} {Pc : Array Value → State → Prop} {Qc : Array Value → State → Outcome → State → Prop} {XC : String → State → State → Prop} {mc ms : Nat} {free : Addr → Prop} {cc : ByteArray} {maxL : Nat} {ret : Option FieldType}
    (hy : plainFor y = true) (hw : ws = Cond.code y cc maxL ret :: ws')
    (body : ∀ p e s m args below meth c s₁, BodyLoose p l y (headSpec ws rm) cc maxL ret e s m args below meth c s₁ → c.maxLocals = maxL → (∀ x ∈ c.exceptionTable.toList, False) → Pc args s →
      W p l e (headSpec ws rm).room s m args below meth c s.heap [] 0 0 (vx_MQ below Qc XC args s mc ms free) (entryFrame m args maxL)) : vx_Met l y ws rm Pc Qc XC mc ms free := by
  refine MetFree.of_bodySF (code := cc) (maxLocals := maxL) (ret := ret) hy ?_ ?_
  · intro args s m h hn
    obtain ⟨meth, c, h1, h2, h3, h4, h5, h6, -, -⟩ := Cond.code_spec hn (atoms_spec (ws := ws) h _ (by rw [hw]; exact List.mem_cons_self))
    exact ⟨meth, c, h1, h2, h3, h4, h5, h6⟩
  · intro p e s m args below meth c s₁ B hml hP _
    have hh0 : s₁.heap = s.heap := by rw [B.state]; rfl
    have ht : ∀ x ∈ c.exceptionTable.toList, False := by
      obtain ⟨meth9, c9, h1, h2, -, -, -, -, h7, -⟩ := Cond.code_spec B.named (atoms_spec (ws := ws) B.pre _ (by rw [hw]; exact List.mem_cons_self))
      cases Option.some.inj (h1.symm.trans B.method)
      cases Option.some.inj (h2.symm.trans (Stand.of_body B).code)
      intro x hx
      rw [Array.isEmpty_iff.mp h7] at hx
      cases hx
    obtain ⟨t, a1, o, b1, b2, b3⟩ := body p e s m args below meth c s₁ B hml ht hP s₁ hh0 (Stand.of_body B)
    exact ⟨t, o, a1, b1, b2, b3⟩
theorem qM_ofF {l : Launch} {g : qG} {y : MethodName} {cc : ByteArray} {maxL : Nat} {ret : Option FieldType} {rm : Room} {kv : Int → Option Value} {av : List Value} {S S' : qS} {o : qO} {L : List (Nat × Value)}
    (hy : plainFor y = true) (hL : lv_args 0 av = L) (hsz : (lg_sl av).length ≤ maxL) (hl : l.stackTraces = false) (hA : qAd g)
    (body : ∀ (p : Program) (e : Env) (s : State) (m : MethodId) (below : List Frame) (meth : Method) (c : Code), qC g p l s m av.toArray meth c y.cls cc maxL → meth.sig.returnType = ret → (∀ x ∈ c.exceptionTable.toList, False) →
      qZ g p l e rm s m av.toArray below meth c (qQ g below kv o S' av.toArray s rm) maxL S L 0 [] 0 0) : qM l g y (.code y cc maxL ret) rm kv av S o S' := by
  refine qx_ofW (cc := cc) (maxL := maxL) (ret := ret) hy rfl ?_
  intro p e s m args below meth c s₁ B hml ht hv
  obtain ⟨rfl, hP, hAm⟩ := hv
  have hts : ∀ w ∈ qAW, w.before av.toArray s = true := fun w hw => atoms_spec (ws := .code y cc maxL ret :: qAW) B.pre w (List.mem_cons_of_mem _ hw)
  have hl1 := lv_entry av (n := maxL) hsz
  rw [lg_entry_eq]
  rw [hL] at hl1
  exact body p e s m below meth c ⟨B.exec, B.bytes, hml, findClass_of_methodNamed B.named, hts, hAm, hA, B.notSynchronized, hl⟩ B.returns ht s.heap [] _ hP va_S.rf hl1
def qlen (q : Nat) : Nat := qk q - 10
theorem qlen_eq {q : Nat} (h : 10 ≤ qk q) : qk q = qlen q + 10 := by unfold qlen; omega
theorem qlen_le (q : Nat) : qlen q ≤ 2147483647 := by
  unfold qlen
  have h : qk q ≤ 1400 := by
    rcases Nat.lt_or_ge q 128 with h1 | h1
    · exact (by decide +kernel : ∀ q, q < 128 → qk q ≤ 1400) q h1
    · exact Nat.le_trans (Nat.le_of_eq (qgetD_ge (l := qkl) (d := 9) (Nat.le_trans qkl_len h1))) (by decide)
  omega
theorem qlen_R (q : Nat) : qR (qlen q : Int) := by
  have := qlen_le q
  constructor <;> omega
theorem qRl_of {x : Int} (h : qR x) : qRl x := by
  have h1 := h.1
  have h2 := h.2
  constructor <;> omega
def qy {α : Type} (a : qO) (x : String → Option α) (k : Int → Option α) : Option α := match a with
  | .inl E => x E
  | .inr r => k r
theorem qy_l {α : Type} {a : qO} {x : String → Option α} {k : Int → Option α} {r : α} {E : String} (h : qy a x k = some r) (he : a = .inl E) : x E = some r := by subst he; exact h
theorem qy_r {α : Type} {a : qO} {x : String → Option α} {k : Int → Option α} {r : α} {v : Int} (h : qy a x k = some r) (he : a = .inr v) : k v = some r := by subst he; exact h
section QZD
variable {g : qG} {p : Program} {l : Launch} {e : Env} {R : Room} {s : State} {m : MethodId} {args : Array Value} {below : List Frame} {meth : Method} {c : Code} {Q : State → Prop} {nL : Nat} {S : qS} {L L' : List (Nat × Value)} {pc : Nat} {st : List Value} {k n : Nat} {own : String} {cc : ByteArray}
theorem z_ldcw {i : Nat} {v : Int32} {x : Int} (C : qC g p l s m args meth c own cc nL) (d : decode cc pc = .ok (.ldc_w i, 3)) (hw : Cond.constant own i v ∈ qAW) (hv : v = qI x) (kk : qZ g p l e R s m args below meth c Q nL S L (pc + 3) (.int (qI x) :: st) k n) : qZ g p l e R s m args below meth c Q nL S L pc st k n := fun H locs ls hP hS hl => lv_ldcw C.1 C.2.1 C.2.2.2.1 (hv ▸ C.2.2.2.2.1 _ hw) d (kk H locs ls hP hS hl)
end QZD
