set_option maxHeartbeats 4000000 in
set_option maxRecDepth 100000 in
theorem met_X2_add (l : Launch) (g : qG) (hl : l.stackTraces = false) (hA : qAd g) (n9 : Nat) (S : qS) (p1 : Int) (r : Int × qS) (hm : MX2_add n9 S p1 = some r) : qM l g yX2_add (.code yX2_add cX2_add 2 (some .boolean)) rmX2_add qkI [.ref (qad g 1), .int (qI p1)] S (.inr r.1) r.2 := by
  rw [MX2_add] at hm
  refine qM_of (L := [(0, .ref (qad g 1)), (1, .int (qI p1))]) (by decide +kernel) rfl (Nat.le_of_ble_eq_true rfl) hl hA ?_
  intro p e s m below meth c C hr hT
  have C : qC g p l s m ([.ref (qad g 1), .int (qI p1)] : List Value).toArray meth c RX2 cX2_add 2 := C
  refine z_aload_n C dX2_add_0 0 rfl ?_
  refine gf_X2_27 C rfl dX2_add_1 ?_
  obtain ⟨h1, hm⟩ := qg_i hm
  refine z_if_lt (tgt := 16) C dX2_add_4 (by decide) h1 (fun c2 => ?_) (fun c2 => ?_)
  · have hm := qt_i hm c2
    refine z_iconst (x := 0) C dX2_add_16 rfl ?_
    exact z_zret C hr (by decide) (by decide) (by decide) (by cases hm; rfl) dX2_add_17
  · have hm := qf_i hm c2
    refine z_aload_n C dX2_add_7 0 rfl ?_
    refine gf_X2_27 C rfl dX2_add_8 ?_
    refine z_bipush (x := 120) C dX2_add_11 (by decide +kernel) ?_
    refine z_icmp_lt (tgt := 18) C dX2_add_13 (by decide) ⟨h1, (by decide)⟩ (fun c3 => ?_) (fun c3 => ?_)
    · have hm := qt_i hm c3
      refine z_aload_n C dX2_add_18 0 rfl ?_
      refine gf_X2_9 C rfl dX2_add_19 ?_
      refine z_aload_n C dX2_add_22 0 rfl ?_
      refine gf_X2_27 C rfl dX2_add_23 ?_
      refine z_iload_n C dX2_add_26 1 rfl ?_
      obtain ⟨h4, hm⟩ := qg_i hm
      refine z_iast (N := 120) C rfl h4 (by decide) dX2_add_27 ?_
      obtain ⟨S5, e6, hm⟩ := ql_i hm
      refine z_S e6 ?_
      refine z_aload_n C dX2_add_28 0 rfl ?_
      refine z_dup C dX2_add_29 rfl ?_
      refine gf_X2_27 C rfl dX2_add_30 ?_
      refine z_iconst (x := 1) C dX2_add_33 rfl ?_
      refine z_iadd C dX2_add_34 ?_
      refine pf_X2_27 C rfl dX2_add_35 ?_
      obtain ⟨S7, e8, hm⟩ := ql_i hm
      refine z_S e8 ?_
      refine z_iconst (x := 1) C dX2_add_38 rfl ?_
      exact z_zret C hr (by decide) (by decide) (by decide) (by cases hm; rfl) dX2_add_39
    · have hm := qf_i hm c3
      refine z_iconst (x := 0) C dX2_add_16 rfl ?_
      exact z_zret C hr (by decide) (by decide) (by decide) (by cases hm; rfl) dX2_add_17

set_option maxHeartbeats 4000000 in
set_option maxRecDepth 100000 in
theorem met_X2_characterAt (l : Launch) (g : qG) (hl : l.stackTraces = false) (hA : qAd g) (n9 : Nat) (S : qS) (p1 : Int) (r : Int) (hm : MX2_characterAt n9 S p1 = some r) : qM l g yX2_characterAt (.code yX2_characterAt cX2_characterAt 3 (some .int)) rmX2_characterAt qkI [.ref (qad g 1), .int (qI p1)] S (.inr r) S := by
  rw [MX2_characterAt] at hm
  refine qM_of (L := [(0, .ref (qad g 1)), (1, .int (qI p1))]) (by decide +kernel) rfl (Nat.le_of_ble_eq_true rfl) hl hA ?_
  intro p e s m below meth c C hr hT
  have C : qC g p l s m ([.ref (qad g 1), .int (qI p1)] : List Value).toArray meth c RX2 cX2_characterAt 3 := C
  refine z_iload_n C dX2_characterAt_0 1 rfl ?_
  obtain ⟨h1, hm⟩ := qg_i hm
  obtain ⟨j3, e7, hm⟩ := ql_i hm
  have hj3 : ∀ (v2 : Int), j3 v2 = some r → qZ g p l e rmX2_characterAt s m ([.ref (qad g 1), .int (qI p1)] : List Value).toArray below meth c (qQ g below qkI (.inr r) S ([.ref (qad g 1), .int (qI p1)] : List Value).toArray s rmX2_characterAt) 3 S [(0, .ref (qad g 1)), (1, .int (qI p1))] 23 [.int (qI v2)] 0 0 := by
    intro v2 hm
    rw [e7] at hm
    refine z_istore_n (L' := [(2, .int (qI v2)), (0, .ref (qad g 1)), (1, .int (qI p1))]) C dX2_characterAt_23 (by decide) rfl ?_
    refine z_iload_n C dX2_characterAt_24 0 rfl ?_
    obtain ⟨h4, hm⟩ := qg_i hm
    refine z_if_eq (tgt := 37) C dX2_characterAt_25 (by decide) h4 (fun c5 => ?_) (fun c5 => ?_)
    · have hm := qt_i hm c5
      refine z_iconst (x := (-1)) C dX2_characterAt_37 rfl ?_
      exact z_iret C hr (by decide) (by decide) (by cases hm; rfl) dX2_characterAt_38
    · have hm := qf_i hm c5
      refine z_aload_n C dX2_characterAt_28 1 rfl ?_
      refine gf_X2_9 C rfl dX2_characterAt_29 ?_
      refine z_iload_n C dX2_characterAt_32 2 rfl ?_
      obtain ⟨h6, hm⟩ := qg_i hm
      refine z_iald (N := 120) C rfl h6 (by decide) dX2_characterAt_33 ?_
      refine z_goto (tgt := 38) C dX2_characterAt_34 (by decide) ?_
      exact z_iret C hr (by decide) (by decide) (by cases hm; rfl) dX2_characterAt_38
  clear e7
  obtain ⟨j8, e9, hm⟩ := ql_i hm
  have hj8 : j8 = some r → qZ g p l e rmX2_characterAt s m ([.ref (qad g 1), .int (qI p1)] : List Value).toArray below meth c (qQ g below qkI (.inr r) S ([.ref (qad g 1), .int (qI p1)] : List Value).toArray s rmX2_characterAt) 3 S [(0, .ref (qad g 1)), (1, .int (qI p1))] 22 [] 0 0 := by
    intro  hm
    rw [e9] at hm
    refine z_iconst (x := 0) C dX2_characterAt_22 rfl ?_
    exact hj3 0 hm
  clear e9
  refine z_if_lt (tgt := 22) C dX2_characterAt_1 (by decide) h1 (fun c10 => ?_) (fun c10 => ?_)
  · have hm := qt_i hm c10
    exact hj8  hm
  · have hm := qf_i hm c10
    refine z_iload_n C dX2_characterAt_4 1 rfl ?_
    refine z_aload_n C dX2_characterAt_5 0 rfl ?_
    refine gf_X2_27 C rfl dX2_characterAt_6 ?_
    obtain ⟨h11, hm⟩ := qg_i hm
    refine z_icmp_ge (tgt := 22) C dX2_characterAt_9 (by decide) ⟨h1, h11⟩ (fun c12 => ?_) (fun c12 => ?_)
    · have hm := qt_i hm c12
      exact hj8  hm
    · have hm := qf_i hm c12
      refine z_iload_n C dX2_characterAt_12 1 rfl ?_
      refine z_bipush (x := 120) C dX2_characterAt_13 (by decide +kernel) ?_
      refine z_icmp_ge (tgt := 22) C dX2_characterAt_15 (by decide) ⟨h1, (by decide)⟩ (fun c13 => ?_) (fun c13 => ?_)
      · have hm := qt_i hm c13
        exact hj8  hm
      · have hm := qf_i hm c13
        refine z_iconst (x := 1) C dX2_characterAt_18 rfl ?_
        refine z_goto (tgt := 23) C dX2_characterAt_19 (by decide) ?_
        exact hj3 1 hm

set_option maxHeartbeats 4000000 in
set_option maxRecDepth 100000 in
theorem met_X2_closeRepeat_l88 {g : qG} {p : Program} {l : Launch} {e : Env} {s : State} {m : MethodId} {args : Array Value} {below : List Frame} {meth : Method} {c : Code} (C : qC g p l s m args meth c RX2 cX2_closeRepeat 5) (hr : meth.sig.returnType = (some .int)) (hT : ∀ x ∈ c.exceptionTable.toList, False) (n9 : Nat) (p1 : Int) (x16 : Int) (x20 : Int) {r : Int × qS} (k143 : qS → Option (Int × qS)) (hk143 : ∀ (y1 : qS), k143 y1 = some r → qZ g p l e rmX2_closeRepeat s m args below meth c (qQ g below qkI (.inr r.1) r.2 args s rmX2_closeRepeat) 5 y1 [(0, .ref (qad g 1)), (1, .int (qI p1)), (3, .int (qI x20))] 143 [] 0 0) : ∀ (f : Nat) (S29 : qS) (x30 : Int), MX2_closeRepeat_l88 n9 p1 x16 x20 k143 f S29 x30 = some r → qZ g p l e rmX2_closeRepeat s m args below meth c (qQ g below qkI (.inr r.1) r.2 args s rmX2_closeRepeat) 5 S29 [(0, .ref (qad g 1)), (1, .int (qI p1)), (2, .int (qI x16)), (3, .int (qI x20)), (4, .int (qI x30))] 88 [] 0 0 := by
  intro f
  induction f with
  | zero => intro S29 x30 hm; rw [MX2_closeRepeat_l88] at hm; cases hm
  | succ f ih =>
    intro S29 x30 hm
    rw [MX2_closeRepeat_l88] at hm
    have hl := C.2.2.2.2.2.2.2.2
    have hA := C.2.2.2.2.2.2.1
    refine z_iload C dX2_closeRepeat_88 4 rfl ?_
    refine z_iload_n C dX2_closeRepeat_90 3 rfl ?_
    obtain ⟨h31, hm⟩ := qg_i hm
    obtain ⟨h32, hm⟩ := qg_i hm
    refine z_icmp_ge (tgt := 143) C dX2_closeRepeat_91 (by decide) ⟨h31, h32⟩ (fun c33 => ?_) (fun c33 => ?_)
    · have hm := qt_i hm c33
      refine z_sub (L' := [(0, .ref (qad g 1)), (1, .int (qI p1)), (3, .int (qI x20))]) [0, 1, 3] rfl ?_
      exact hk143 S29 hm
    · have hm := qf_i hm c33
      refine z_iload C dX2_closeRepeat_94 4 rfl ?_
      refine z_bipush (x := 30) C dX2_closeRepeat_96 (by decide +kernel) ?_
      refine z_icmp_ge (tgt := 143) C dX2_closeRepeat_98 (by decide) ⟨h31, (by decide)⟩ (fun c34 => ?_) (fun c34 => ?_)
      · have hm := qt_i hm c34
        refine z_sub (L' := [(0, .ref (qad g 1)), (1, .int (qI p1)), (3, .int (qI x20))]) [0, 1, 3] rfl ?_
        exact hk143 S29 hm
      · have hm := qf_i hm c34
        refine z_aload_n C dX2_closeRepeat_101 0 rfl ?_
        refine gf_X2_15 C rfl dX2_closeRepeat_102 ?_
        refine z_iload C dX2_closeRepeat_105 4 rfl ?_
        refine z_aload_n C dX2_closeRepeat_107 0 rfl ?_
        refine gf_X2_15 C rfl dX2_closeRepeat_108 ?_
        refine z_iload C dX2_closeRepeat_111 4 rfl ?_
        refine z_iload_n C dX2_closeRepeat_113 2 rfl ?_
        refine z_isub C dX2_closeRepeat_114 ?_
        obtain ⟨a35, h36, hm⟩ := qb_i hm
        refine iv_X2_53 C (met_X3_at l g hl hA n9 S29 3 (x30 - x16) _ h36) ⟨by decide, by decide⟩ ⟨by decide, by decide⟩ (Nat.le_of_ble_eq_true rfl) dX2_closeRepeat_115 ?_
        obtain ⟨h37, hm⟩ := qg_i hm
        refine z_iast (N := 30) C rfl h37 (by decide) dX2_closeRepeat_118 ?_
        obtain ⟨S38, e39, hm⟩ := ql_i hm
        refine z_S e39 ?_
        refine z_aload_n C dX2_closeRepeat_119 0 rfl ?_
        refine gf_X2_18 C rfl dX2_closeRepeat_120 ?_
        refine z_iload C dX2_closeRepeat_123 4 rfl ?_
        refine z_aload_n C dX2_closeRepeat_125 0 rfl ?_
        refine gf_X2_18 C rfl dX2_closeRepeat_126 ?_
        refine z_iload C dX2_closeRepeat_129 4 rfl ?_
        refine z_iload_n C dX2_closeRepeat_131 2 rfl ?_
        refine z_isub C dX2_closeRepeat_132 ?_
        obtain ⟨a40, h41, hm⟩ := qb_i hm
        refine iv_X2_53 C (met_X3_at l g hl hA n9 S38 4 (x30 - x16) _ h41) ⟨by decide, by decide⟩ ⟨by decide, by decide⟩ (Nat.le_of_ble_eq_true rfl) dX2_closeRepeat_133 ?_
        obtain ⟨h42, hm⟩ := qg_i hm
        refine z_iast (N := 30) C rfl h42 (by decide) dX2_closeRepeat_136 ?_
        obtain ⟨S43, e44, hm⟩ := ql_i hm
        refine z_S e44 ?_
        refine z_iinc (L' := [(4, .int (qI (x30 + 1))), (0, .ref (qad g 1)), (1, .int (qI p1)), (2, .int (qI x16)), (3, .int (qI x20))]) C dX2_closeRepeat_137 4 rfl (by decide) rfl ?_
        refine z_goto (tgt := 88) C dX2_closeRepeat_140 (by decide) ?_
        refine z_sub (L' := [(0, .ref (qad g 1)), (1, .int (qI p1)), (2, .int (qI x16)), (3, .int (qI x20)), (4, .int (qI (x30 + 1)))]) [1, 2, 3, 4, 0] rfl ?_
        exact ih S43 (x30 + 1) hm

set_option maxHeartbeats 4000000 in
set_option maxRecDepth 100000 in
theorem met_X2_closeRepeat (l : Launch) (g : qG) (hl : l.stackTraces = false) (hA : qAd g) (n9 : Nat) (S : qS) (p1 : Int) (r : Int × qS) (hm : MX2_closeRepeat n9 S p1 = some r) : qM l g yX2_closeRepeat (.code yX2_closeRepeat cX2_closeRepeat 5 (some .int)) rmX2_closeRepeat qkI [.ref (qad g 1), .int (qI p1)] S (.inr r.1) r.2 := by
  rw [MX2_closeRepeat] at hm
  refine qM_of (L := [(0, .ref (qad g 1)), (1, .int (qI p1))]) (by decide +kernel) rfl (Nat.le_of_ble_eq_true rfl) hl hA ?_
  intro p e s m below meth c C hr hT
  have C : qC g p l s m ([.ref (qad g 1), .int (qI p1)] : List Value).toArray meth c RX2 cX2_closeRepeat 5 := C
  refine z_aload_n C dX2_closeRepeat_0 0 rfl ?_
  refine gf_X2_34 C rfl dX2_closeRepeat_1 ?_
  obtain ⟨h1, hm⟩ := qg_i hm
  obtain ⟨j2, e5, hm⟩ := ql_i hm
  have hj2 : j2 = some r → qZ g p l e rmX2_closeRepeat s m ([.ref (qad g 1), .int (qI p1)] : List Value).toArray below meth c (qQ g below qkI (.inr r.1) r.2 ([.ref (qad g 1), .int (qI p1)] : List Value).toArray s rmX2_closeRepeat) 5 S [(0, .ref (qad g 1)), (1, .int (qI p1))] 27 [] 0 0 := by
    intro  hm
    rw [e5] at hm
    refine z_aload_n C dX2_closeRepeat_27 0 rfl ?_
    refine z_iload_n C dX2_closeRepeat_28 1 rfl ?_
    refine pf_X2_37 C rfl dX2_closeRepeat_29 ?_
    obtain ⟨S3, e4, hm⟩ := ql_i hm
    refine z_S e4 ?_
    refine z_iload_n C dX2_closeRepeat_32 1 rfl ?_
    exact z_iret C hr (by decide) (by decide) (by cases hm; rfl) dX2_closeRepeat_33
  clear e5
  refine z_if_le (tgt := 27) C dX2_closeRepeat_4 (by decide) h1 (fun c6 => ?_) (fun c6 => ?_)
  · have hm := qt_i hm c6
    exact hj2  hm
  · have hm := qf_i hm c6
    refine z_aload_n C dX2_closeRepeat_7 0 rfl ?_
    refine gf_X2_31 C rfl dX2_closeRepeat_8 ?_
    refine z_aload_n C dX2_closeRepeat_11 0 rfl ?_
    refine gf_X2_24 C rfl dX2_closeRepeat_12 ?_
    refine z_aload_n C dX2_closeRepeat_15 0 rfl ?_
    refine gf_X2_34 C rfl dX2_closeRepeat_16 ?_
    refine z_iconst (x := 1) C dX2_closeRepeat_19 rfl ?_
    refine z_isub C dX2_closeRepeat_20 ?_
    obtain ⟨a7, h8, hm⟩ := qb_i hm
    refine iv_X2_53 C (met_X3_at l g hl hA n9 S 6 ((S 1 8) - 1) _ h8) ⟨by decide, by decide⟩ ⟨by decide, by decide⟩ (Nat.le_of_ble_eq_true rfl) dX2_closeRepeat_21 ?_
    obtain ⟨h9, hm⟩ := qg_i hm
    obtain ⟨h10, hm⟩ := qg_i hm
    refine z_icmp_ne (tgt := 34) C dX2_closeRepeat_24 (by decide) ⟨h9, h10⟩ (fun c11 => ?_) (fun c11 => ?_)
    · have hm := qt_i hm c11
      exact hj2  hm
    · have hm := qf_i hm c11
      refine z_aload_n C dX2_closeRepeat_34 0 rfl ?_
      refine z_dup C dX2_closeRepeat_35 rfl ?_
      refine gf_X2_34 C rfl dX2_closeRepeat_36 ?_
      refine z_iconst (x := 1) C dX2_closeRepeat_39 rfl ?_
      refine z_isub C dX2_closeRepeat_40 ?_
      refine pf_X2_34 C rfl dX2_closeRepeat_41 ?_
      obtain ⟨S12, e13, hm⟩ := ql_i hm
      refine z_S e13 ?_
      refine z_aload_n C dX2_closeRepeat_44 0 rfl ?_
      refine gf_X2_31 C rfl dX2_closeRepeat_45 ?_
      refine z_aload_n C dX2_closeRepeat_48 0 rfl ?_
      refine gf_X2_24 C rfl dX2_closeRepeat_49 ?_
      refine z_aload_n C dX2_closeRepeat_52 0 rfl ?_
      refine gf_X2_34 C rfl dX2_closeRepeat_53 ?_
      obtain ⟨a14, h15, hm⟩ := qb_i hm
      refine iv_X2_53 C (met_X3_at l g hl hA n9 S12 6 (S12 1 8) _ h15) ⟨by decide, by decide⟩ ⟨by decide, by decide⟩ (Nat.le_of_ble_eq_true rfl) dX2_closeRepeat_56 ?_
      refine z_isub C dX2_closeRepeat_59 ?_
      obtain ⟨x16, e17, hm⟩ := ql_i hm
      refine z_topi e17 ?_
      refine z_istore_n (L' := [(2, .int (qI x16)), (0, .ref (qad g 1)), (1, .int (qI p1))]) C dX2_closeRepeat_60 (by decide) rfl ?_
      refine z_aload_n C dX2_closeRepeat_61 1 rfl ?_
      refine gf_X2_31 C rfl dX2_closeRepeat_62 ?_
      refine z_iload_n C dX2_closeRepeat_65 0 rfl ?_
      refine z_aload_n C dX2_closeRepeat_66 1 rfl ?_
      refine gf_X2_21 C rfl dX2_closeRepeat_67 ?_
      refine z_aload_n C dX2_closeRepeat_70 1 rfl ?_
      refine gf_X2_34 C rfl dX2_closeRepeat_71 ?_
      obtain ⟨a18, h19, hm⟩ := qb_i hm
      refine iv_X2_53 C (met_X3_at l g hl hA n9 S12 5 (S12 1 8) _ h19) ⟨by decide, by decide⟩ ⟨by decide, by decide⟩ (Nat.le_of_ble_eq_true rfl) dX2_closeRepeat_74 ?_
      refine z_iconst (x := 1) C dX2_closeRepeat_77 rfl ?_
      refine z_isub C dX2_closeRepeat_78 ?_
      refine z_imul C dX2_closeRepeat_79 ?_
      refine z_iadd C dX2_closeRepeat_80 ?_
      obtain ⟨x20, e21, hm⟩ := ql_i hm
      refine z_topi e21 ?_
      refine z_istore_n (L' := [(3, .int (qI x20)), (2, .int (qI x16)), (0, .ref (qad g 1)), (1, .int (qI p1))]) C dX2_closeRepeat_81 (by decide) rfl ?_
      refine z_aload_n C dX2_closeRepeat_82 2 rfl ?_
      refine gf_X2_31 C rfl dX2_closeRepeat_83 ?_
      obtain ⟨x22, e23, hm⟩ := ql_i hm
      refine z_topi e23 ?_
      refine z_istore (L' := [(4, .int (qI x22)), (3, .int (qI x20)), (2, .int (qI x16)), (0, .ref (qad g 1)), (1, .int (qI p1))]) C dX2_closeRepeat_86 (by decide) rfl ?_
      obtain ⟨j25, e28, hm⟩ := ql_i hm
      have hj25 : ∀ (S24 : qS), j25 S24 = some r → qZ g p l e rmX2_closeRepeat s m ([.ref (qad g 1), .int (qI p1)] : List Value).toArray below meth c (qQ g below qkI (.inr r.1) r.2 ([.ref (qad g 1), .int (qI p1)] : List Value).toArray s rmX2_closeRepeat) 5 S24 [(0, .ref (qad g 1)), (1, .int (qI p1)), (3, .int (qI x20))] 143 [] 0 0 := by
        intro S24 hm
        rw [e28] at hm
        refine z_aload_n C dX2_closeRepeat_143 0 rfl ?_
        refine z_iload_n C dX2_closeRepeat_144 2 rfl ?_
        refine pf_X2_31 C rfl dX2_closeRepeat_145 ?_
        obtain ⟨S26, e27, hm⟩ := ql_i hm
        refine z_S e27 ?_
        refine z_iload_n C dX2_closeRepeat_148 1 rfl ?_
        refine z_iconst (x := 1) C dX2_closeRepeat_149 rfl ?_
        refine z_iadd C dX2_closeRepeat_150 ?_
        exact z_iret C hr (by decide) (by decide) (by cases hm; rfl) dX2_closeRepeat_151
      clear e28
      refine z_sub (L' := [(0, .ref (qad g 1)), (1, .int (qI p1)), (2, .int (qI x16)), (3, .int (qI x20)), (4, .int (qI x22))]) [3, 4, 2, 1, 0] rfl ?_
      exact met_X2_closeRepeat_l88 C hr hT n9 p1 x16 x20 j25 hj25 n9 S12 x22 hm

set_option maxHeartbeats 4000000 in
set_option maxRecDepth 100000 in
theorem met_X2_digitAt (l : Launch) (g : qG) (hl : l.stackTraces = false) (hA : qAd g) (n9 : Nat) (S : qS) (p1 : Int) (r : Int) (hm : MX2_digitAt n9 S p1 = some r) : qM l g yX2_digitAt (.code yX2_digitAt cX2_digitAt 3 (some .int)) rmX2_digitAt qkI [.ref (qad g 1), .int (qI p1)] S (.inr r) S := by
  rw [MX2_digitAt] at hm
  refine qM_of (L := [(0, .ref (qad g 1)), (1, .int (qI p1))]) (by decide +kernel) rfl (Nat.le_of_ble_eq_true rfl) hl hA ?_
  intro p e s m below meth c C hr hT
  have C : qC g p l s m ([.ref (qad g 1), .int (qI p1)] : List Value).toArray meth c RX2 cX2_digitAt 3 := C
  refine z_aload_n C dX2_digitAt_0 0 rfl ?_
  refine z_iload_n C dX2_digitAt_1 1 rfl ?_
  obtain ⟨a1, h2, hm⟩ := qb_i hm
  refine iv_X2_40 C (met_X2_characterAt l g hl hA n9 S p1 _ h2) rfl ⟨by decide, by decide⟩ ⟨by decide, by decide⟩ (Nat.le_of_ble_eq_true rfl) dX2_digitAt_2 ?_
  refine z_istore_n (L' := [(2, .int (qI a1)), (0, .ref (qad g 1)), (1, .int (qI p1))]) C dX2_digitAt_5 (by decide) rfl ?_
  refine z_iload_n C dX2_digitAt_6 0 rfl ?_
  refine z_bipush (x := 48) C dX2_digitAt_7 (by decide +kernel) ?_
  obtain ⟨h3, hm⟩ := qg_i hm
  refine z_icmp_lt (tgt := 25) C dX2_digitAt_9 (by decide) ⟨h3, (by decide)⟩ (fun c4 => ?_) (fun c4 => ?_)
  · have hm := qt_i hm c4
    refine z_iconst (x := (-1)) C dX2_digitAt_25 rfl ?_
    exact z_iret C hr (by decide) (by decide) (by cases hm; rfl) dX2_digitAt_26
  · have hm := qf_i hm c4
    refine z_iload_n C dX2_digitAt_12 0 rfl ?_
    refine z_bipush (x := 57) C dX2_digitAt_13 (by decide +kernel) ?_
    refine z_icmp_gt (tgt := 25) C dX2_digitAt_15 (by decide) ⟨h3, (by decide)⟩ (fun c5 => ?_) (fun c5 => ?_)
    · have hm := qt_i hm c5
      refine z_iconst (x := (-1)) C dX2_digitAt_25 rfl ?_
      exact z_iret C hr (by decide) (by decide) (by cases hm; rfl) dX2_digitAt_26
    · have hm := qf_i hm c5
      refine z_iload_n C dX2_digitAt_18 0 rfl ?_
      refine z_bipush (x := 48) C dX2_digitAt_19 (by decide +kernel) ?_
      refine z_isub C dX2_digitAt_21 ?_
      refine z_goto (tgt := 26) C dX2_digitAt_22 (by decide) ?_
      exact z_iret C hr (by decide) (by decide) (by cases hm; rfl) dX2_digitAt_26

set_option maxHeartbeats 4000000 in
set_option maxRecDepth 100000 in
theorem met_X2_readNumber (l : Launch) (g : qG) (hl : l.stackTraces = false) (hA : qAd g) (n9 : Nat) (S : qS) (p1 : Int) (p2 : Int) (r : Int × qS) (hm : MX2_readNumber n9 S p1 p2 = some r) : qM l g yX2_readNumber (.code yX2_readNumber cX2_readNumber 6 (some .int)) rmX2_readNumber qkI [.ref (qad g 1), .int (qI p1), .int (qI p2)] S (.inr r.1) r.2 := by
  rw [MX2_readNumber] at hm
  refine qM_of (L := [(0, .ref (qad g 1)), (1, .int (qI p1)), (2, .int (qI p2))]) (by decide +kernel) rfl (Nat.le_of_ble_eq_true rfl) hl hA ?_
  intro p e s m below meth c C hr hT
  have C : qC g p l s m ([.ref (qad g 1), .int (qI p1), .int (qI p2)] : List Value).toArray meth c RX2 cX2_readNumber 6 := C
  refine z_aload_n C dX2_readNumber_0 0 rfl ?_
  refine z_iload_n C dX2_readNumber_1 1 rfl ?_
  obtain ⟨a1, h2, hm⟩ := qb_i hm
  refine iv_X2_61 C (met_X2_digitAt l g hl hA n9 S p1 _ h2) rfl ⟨by decide, by decide⟩ ⟨by decide, by decide⟩ (Nat.le_of_ble_eq_true rfl) dX2_readNumber_2 ?_
  refine z_istore_n (L' := [(3, .int (qI a1)), (0, .ref (qad g 1)), (1, .int (qI p1)), (2, .int (qI p2))]) C dX2_readNumber_5 (by decide) rfl ?_
  refine z_iload_n C dX2_readNumber_6 0 rfl ?_
  refine z_iconst (x := (-1)) C dX2_readNumber_7 rfl ?_
  obtain ⟨h3, hm⟩ := qg_i hm
  obtain ⟨j4, e7, hm⟩ := ql_i hm
  have hj4 : j4 = some r → qZ g p l e rmX2_readNumber s m ([.ref (qad g 1), .int (qI p1), .int (qI p2)] : List Value).toArray below meth c (qQ g below qkI (.inr r.1) r.2 ([.ref (qad g 1), .int (qI p1), .int (qI p2)] : List Value).toArray s rmX2_readNumber) 6 S [(0, .ref (qad g 1)), (1, .int (qI p1))] 19 [] 0 0 := by
    intro  hm
    rw [e7] at hm
    refine z_aload_n C dX2_readNumber_19 0 rfl ?_
    refine z_iload_n C dX2_readNumber_20 1 rfl ?_
    refine pf_X2_37 C rfl dX2_readNumber_21 ?_
    obtain ⟨S5, e6, hm⟩ := ql_i hm
    refine z_S e6 ?_
    refine z_iconst (x := 0) C dX2_readNumber_24 rfl ?_
    exact z_iret C hr (by decide) (by decide) (by cases hm; rfl) dX2_readNumber_25
  clear e7
  refine z_icmp_eq (tgt := 19) C dX2_readNumber_8 (by decide) ⟨h3, (by decide)⟩ (fun c8 => ?_) (fun c8 => ?_)
  · have hm := qt_i hm c8
    refine z_sub (L' := [(0, .ref (qad g 1)), (1, .int (qI p1))]) [1, 2] rfl ?_
    exact hj4  hm
  · have hm := qf_i hm c8
    refine z_bipush (x := 10) C dX2_readNumber_11 (by decide +kernel) ?_
    refine z_iload_n C dX2_readNumber_13 0 rfl ?_
    refine z_imul C dX2_readNumber_14 ?_
    refine z_iload_n C dX2_readNumber_15 3 rfl ?_
    obtain ⟨h9, hm⟩ := qg_i hm
    obtain ⟨h10, hm⟩ := qg_i hm
    refine z_icmp_le (tgt := 26) C dX2_readNumber_16 (by decide) ⟨h9, h10⟩ (fun c11 => ?_) (fun c11 => ?_)
    · have hm := qt_i hm c11
      refine z_aload_n C dX2_readNumber_26 1 rfl ?_
      refine z_iload_n C dX2_readNumber_27 2 rfl ?_
      refine z_iconst (x := 1) C dX2_readNumber_28 rfl ?_
      refine z_iadd C dX2_readNumber_29 ?_
      obtain ⟨a12, h13, hm⟩ := qb_i hm
      refine iv_X2_61 C (met_X2_digitAt l g hl hA n9 S (p1 + 1) _ h13) rfl ⟨by decide, by decide⟩ ⟨by decide, by decide⟩ (Nat.le_of_ble_eq_true rfl) dX2_readNumber_30 ?_
      refine z_istore (L' := [(4, .int (qI a12)), (3, .int (qI a1)), (0, .ref (qad g 1)), (1, .int (qI p1)), (2, .int (qI p2))]) C dX2_readNumber_33 (by decide) rfl ?_
      refine z_bipush (x := 10) C dX2_readNumber_35 (by decide +kernel) ?_
      refine z_iload_n C dX2_readNumber_37 1 rfl ?_
      refine z_imul C dX2_readNumber_38 ?_
      refine z_iload C dX2_readNumber_39 0 rfl ?_
      refine z_iadd C dX2_readNumber_41 ?_
      obtain ⟨x14, e15, hm⟩ := ql_i hm
      refine z_topi e15 ?_
      refine z_istore (L' := [(5, .int (qI x14)), (4, .int (qI a12)), (3, .int (qI a1)), (0, .ref (qad g 1)), (1, .int (qI p1)), (2, .int (qI p2))]) C dX2_readNumber_42 (by decide) rfl ?_
      refine z_iload C dX2_readNumber_44 1 rfl ?_
      refine z_iconst (x := (-1)) C dX2_readNumber_46 rfl ?_
      obtain ⟨h16, hm⟩ := qg_i hm
      obtain ⟨j17, e20, hm⟩ := ql_i hm
      have hj17 : j17 = some r → qZ g p l e rmX2_readNumber s m ([.ref (qad g 1), .int (qI p1), .int (qI p2)] : List Value).toArray below meth c (qQ g below qkI (.inr r.1) r.2 ([.ref (qad g 1), .int (qI p1), .int (qI p2)] : List Value).toArray s rmX2_readNumber) 6 S [(0, .ref (qad g 1)), (1, .int (qI p1))] 62 [] 0 0 := by
        intro  hm
        rw [e20] at hm
        refine z_aload_n C dX2_readNumber_62 0 rfl ?_
        refine z_iload_n C dX2_readNumber_63 1 rfl ?_
        refine z_iconst (x := 1) C dX2_readNumber_64 rfl ?_
        refine z_iadd C dX2_readNumber_65 ?_
        refine pf_X2_37 C rfl dX2_readNumber_66 ?_
        obtain ⟨S18, e19, hm⟩ := ql_i hm
        refine z_S e19 ?_
        refine z_iconst (x := 0) C dX2_readNumber_69 rfl ?_
        exact z_iret C hr (by decide) (by decide) (by cases hm; rfl) dX2_readNumber_70
      clear e20
      refine z_icmp_eq (tgt := 62) C dX2_readNumber_47 (by decide) ⟨h16, (by decide)⟩ (fun c21 => ?_) (fun c21 => ?_)
      · have hm := qt_i hm c21
        refine z_sub (L' := [(0, .ref (qad g 1)), (1, .int (qI p1))]) [3, 4] rfl ?_
        exact hj17  hm
      · have hm := qf_i hm c21
        refine z_iload C dX2_readNumber_50 0 rfl ?_
        refine z_iconst (x := 1) C dX2_readNumber_52 rfl ?_
        obtain ⟨h22, hm⟩ := qg_i hm
        refine z_icmp_lt (tgt := 62) C dX2_readNumber_53 (by decide) ⟨h22, (by decide)⟩ (fun c23 => ?_) (fun c23 => ?_)
        · have hm := qt_i hm c23
          refine z_sub (L' := [(0, .ref (qad g 1)), (1, .int (qI p1))]) [3, 4] rfl ?_
          exact hj17  hm
        · have hm := qf_i hm c23
          refine z_iload C dX2_readNumber_56 0 rfl ?_
          refine z_iload_n C dX2_readNumber_58 5 rfl ?_
          refine z_icmp_le (tgt := 71) C dX2_readNumber_59 (by decide) ⟨h22, h10⟩ (fun c24 => ?_) (fun c24 => ?_)
          · have hm := qt_i hm c24
            refine z_iload C dX2_readNumber_71 0 rfl ?_
            exact z_iret C hr (by decide) (by decide) (by cases hm; rfl) dX2_readNumber_73
          · have hm := qf_i hm c24
            refine z_sub (L' := [(0, .ref (qad g 1)), (1, .int (qI p1))]) [3, 4] rfl ?_
            exact hj17  hm
    · have hm := qf_i hm c11
      refine z_sub (L' := [(0, .ref (qad g 1)), (1, .int (qI p1))]) [1, 2] rfl ?_
      exact hj4  hm

set_option maxHeartbeats 4000000 in
set_option maxRecDepth 100000 in
theorem met_X2_readAxle (l : Launch) (g : qG) (hl : l.stackTraces = false) (hA : qAd g) (n9 : Nat) (S : qS) (p1 : Int) (r : Int × qS) (hm : MX2_readAxle n9 S p1 = some r) : qM l g yX2_readAxle (.code yX2_readAxle cX2_readAxle 4 (some .int)) rmX2_readAxle qkI [.ref (qad g 1), .int (qI p1)] S (.inr r.1) r.2 := by
  rw [MX2_readAxle] at hm
  refine qM_of (L := [(0, .ref (qad g 1)), (1, .int (qI p1))]) (by decide +kernel) rfl (Nat.le_of_ble_eq_true rfl) hl hA ?_
  intro p e s m below meth c C hr hT
  have C : qC g p l s m ([.ref (qad g 1), .int (qI p1)] : List Value).toArray meth c RX2 cX2_readAxle 4 := C
  refine z_aload_n C dX2_readAxle_0 0 rfl ?_
  refine z_iload_n C dX2_readAxle_1 1 rfl ?_
  refine z_bipush (x := 60) C dX2_readAxle_2 (by decide +kernel) ?_
  obtain ⟨a1, h2, hm⟩ := qb_i hm
  refine iv_X2_57 C (met_X2_readNumber l g hl hA n9 S p1 60 _ h2) rfl ⟨by decide, by decide⟩ ⟨by decide, by decide⟩ (Nat.le_of_ble_eq_true rfl) dX2_readAxle_4 ?_
  refine z_istore_n (L' := [(2, .int (qI a1.1)), (0, .ref (qad g 1)), (1, .int (qI p1))]) C dX2_readAxle_7 (by decide) rfl ?_
  refine z_aload_n C dX2_readAxle_8 1 rfl ?_
  refine gf_X2_37 C rfl dX2_readAxle_9 ?_
  refine z_iconst (x := (-1)) C dX2_readAxle_12 rfl ?_
  obtain ⟨h3, hm⟩ := qg_i hm
  refine z_icmp_eq (tgt := 18) C dX2_readAxle_13 (by decide) ⟨h3, (by decide)⟩ (fun c4 => ?_) (fun c4 => ?_)
  · have hm := qt_i hm c4
    refine z_aload_n C dX2_readAxle_18 1 rfl ?_
    refine z_iload_n C dX2_readAxle_19 2 rfl ?_
    refine z_iconst (x := 2) C dX2_readAxle_20 rfl ?_
    refine z_iadd C dX2_readAxle_21 ?_
    refine z_bipush (x := 99) C dX2_readAxle_22 (by decide +kernel) ?_
    obtain ⟨a5, h6, hm⟩ := qb_i hm
    refine iv_X2_57 C (met_X2_readNumber l g hl hA n9 a1.2 (p1 + 2) 99 _ h6) rfl ⟨by decide, by decide⟩ ⟨by decide, by decide⟩ (Nat.le_of_ble_eq_true rfl) dX2_readAxle_24 ?_
    refine z_istore_n (L' := [(3, .int (qI a5.1)), (2, .int (qI a1.1)), (0, .ref (qad g 1)), (1, .int (qI p1))]) C dX2_readAxle_27 (by decide) rfl ?_
    refine z_aload_n C dX2_readAxle_28 2 rfl ?_
    refine gf_X2_37 C rfl dX2_readAxle_29 ?_
    refine z_iconst (x := (-1)) C dX2_readAxle_32 rfl ?_
    obtain ⟨h7, hm⟩ := qg_i hm
    refine z_icmp_eq (tgt := 38) C dX2_readAxle_33 (by decide) ⟨h7, (by decide)⟩ (fun c8 => ?_) (fun c8 => ?_)
    · have hm := qt_i hm c8
      refine z_aload_n C dX2_readAxle_38 2 rfl ?_
      refine gf_X2_31 C rfl dX2_readAxle_39 ?_
      obtain ⟨h9, hm⟩ := qg_i hm
      obtain ⟨j11, e14, hm⟩ := ql_i hm
      have hj11 : ∀ (S10 : qS), j11 S10 = some r → qZ g p l e rmX2_readAxle s m ([.ref (qad g 1), .int (qI p1)] : List Value).toArray below meth c (qQ g below qkI (.inr r.1) r.2 ([.ref (qad g 1), .int (qI p1)] : List Value).toArray s rmX2_readAxle) 4 S10 [(0, .ref (qad g 1)), (1, .int (qI p1))] 74 [] 0 0 := by
        intro S10 hm
        rw [e14] at hm
        refine z_aload_n C dX2_readAxle_74 0 rfl ?_
        refine z_dup C dX2_readAxle_75 rfl ?_
        refine gf_X2_31 C rfl dX2_readAxle_76 ?_
        refine z_iconst (x := 1) C dX2_readAxle_79 rfl ?_
        refine z_iadd C dX2_readAxle_80 ?_
        refine pf_X2_31 C rfl dX2_readAxle_81 ?_
        obtain ⟨S12, e13, hm⟩ := ql_i hm
        refine z_S e13 ?_
        refine z_iload_n C dX2_readAxle_84 1 rfl ?_
        refine z_iconst (x := 4) C dX2_readAxle_85 rfl ?_
        refine z_iadd C dX2_readAxle_86 ?_
        exact z_iret C hr (by decide) (by decide) (by cases hm; rfl) dX2_readAxle_87
      clear e14
      refine z_if_lt (tgt := 74) C dX2_readAxle_42 (by decide) h9 (fun c15 => ?_) (fun c15 => ?_)
      · have hm := qt_i hm c15
        refine z_sub (L' := [(0, .ref (qad g 1)), (1, .int (qI p1))]) [2, 3] rfl ?_
        exact hj11 a5.2 hm
      · have hm := qf_i hm c15
        refine z_aload_n C dX2_readAxle_45 2 rfl ?_
        refine gf_X2_31 C rfl dX2_readAxle_46 ?_
        refine z_bipush (x := 30) C dX2_readAxle_49 (by decide +kernel) ?_
        refine z_icmp_ge (tgt := 74) C dX2_readAxle_51 (by decide) ⟨h9, (by decide)⟩ (fun c16 => ?_) (fun c16 => ?_)
        · have hm := qt_i hm c16
          refine z_sub (L' := [(0, .ref (qad g 1)), (1, .int (qI p1))]) [2, 3] rfl ?_
          exact hj11 a5.2 hm
        · have hm := qf_i hm c16
          refine z_aload_n C dX2_readAxle_54 2 rfl ?_
          refine gf_X2_15 C rfl dX2_readAxle_55 ?_
          refine z_aload_n C dX2_readAxle_58 2 rfl ?_
          refine gf_X2_31 C rfl dX2_readAxle_59 ?_
          refine z_iload_n C dX2_readAxle_62 1 rfl ?_
          obtain ⟨h17, hm⟩ := qg_i hm
          refine z_iast (N := 30) C rfl h17 (by decide) dX2_readAxle_63 ?_
          obtain ⟨S18, e19, hm⟩ := ql_i hm
          refine z_S e19 ?_
          refine z_aload_n C dX2_readAxle_64 2 rfl ?_
          refine gf_X2_18 C rfl dX2_readAxle_65 ?_
          refine z_aload_n C dX2_readAxle_68 2 rfl ?_
          refine gf_X2_31 C rfl dX2_readAxle_69 ?_
          refine z_iload_n C dX2_readAxle_72 0 rfl ?_
          obtain ⟨h20, hm⟩ := qg_i hm
          refine z_iast (N := 30) C rfl h20 (by decide) dX2_readAxle_73 ?_
          obtain ⟨S21, e22, hm⟩ := ql_i hm
          refine z_S e22 ?_
          refine z_sub (L' := [(0, .ref (qad g 1)), (1, .int (qI p1))]) [2, 3] rfl ?_
          exact hj11 S21 hm
    · have hm := qf_i hm c8
      refine z_iload_n C dX2_readAxle_36 3 rfl ?_
      exact z_iret C hr (by decide) (by decide) (by cases hm; rfl) dX2_readAxle_37
  · have hm := qf_i hm c4
    refine z_iload_n C dX2_readAxle_16 2 rfl ?_
    exact z_iret C hr (by decide) (by decide) (by cases hm; rfl) dX2_readAxle_17

set_option maxHeartbeats 4000000 in
set_option maxRecDepth 100000 in
theorem met_X2_readPart (l : Launch) (g : qG) (hl : l.stackTraces = false) (hA : qAd g) (n9 : Nat) (S : qS) (p1 : Int) (r : Int × qS) (hm : MX2_readPart n9 S p1 = some r) : qM l g yX2_readPart (.code yX2_readPart cX2_readPart 4 (some .int)) rmX2_readPart qkI [.ref (qad g 1), .int (qI p1)] S (.inr r.1) r.2 := by
  rw [MX2_readPart] at hm
  refine qM_of (L := [(0, .ref (qad g 1)), (1, .int (qI p1))]) (by decide +kernel) rfl (Nat.le_of_ble_eq_true rfl) hl hA ?_
  intro p e s m below meth c C hr hT
  have C : qC g p l s m ([.ref (qad g 1), .int (qI p1)] : List Value).toArray meth c RX2 cX2_readPart 4 := C
  refine z_aload_n C dX2_readPart_0 0 rfl ?_
  refine z_iload_n C dX2_readPart_1 1 rfl ?_
  obtain ⟨a1, h2, hm⟩ := qb_i hm
  refine iv_X2_40 C (met_X2_characterAt l g hl hA n9 S p1 _ h2) rfl ⟨by decide, by decide⟩ ⟨by decide, by decide⟩ (Nat.le_of_ble_eq_true rfl) dX2_readPart_2 ?_
  refine z_istore_n (L' := [(2, .int (qI a1)), (0, .ref (qad g 1)), (1, .int (qI p1))]) C dX2_readPart_5 (by decide) rfl ?_
  refine z_iload_n C dX2_readPart_6 0 rfl ?_
  refine z_bipush (x := 41) C dX2_readPart_7 (by decide +kernel) ?_
  obtain ⟨h3, hm⟩ := qg_i hm
  refine z_icmp_ne (tgt := 18) C dX2_readPart_9 (by decide) ⟨h3, (by decide)⟩ (fun c4 => ?_) (fun c4 => ?_)
  · have hm := qt_i hm c4
    refine z_aload_n C dX2_readPart_12 1 rfl ?_
    refine z_iload_n C dX2_readPart_13 2 rfl ?_
    obtain ⟨a5, h6, hm⟩ := qb_i hm
    refine iv_X2_47 C (met_X2_closeRepeat l g hl hA n9 S p1 _ h6) rfl ⟨by decide, by decide⟩ ⟨by decide, by decide⟩ (Nat.le_of_ble_eq_true rfl) dX2_readPart_14 ?_
    exact z_iret C hr (by decide) (by decide) (by cases hm; rfl) dX2_readPart_17
  · have hm := qf_i hm c4
    refine z_iload_n C dX2_readPart_18 0 rfl ?_
    refine z_bipush (x := 50) C dX2_readPart_19 (by decide +kernel) ?_
    obtain ⟨j7, e30, hm⟩ := ql_i hm
    have hj7 : j7 = some r → qZ g p l e rmX2_readPart s m ([.ref (qad g 1), .int (qI p1)] : List Value).toArray below meth c (qQ g below qkI (.inr r.1) r.2 ([.ref (qad g 1), .int (qI p1)] : List Value).toArray s rmX2_readPart) 4 S [(0, .ref (qad g 1)), (1, .int (qI p1)), (2, .int (qI a1))] 90 [] 0 0 := by
      intro  hm
      rw [e30] at hm
      refine z_iload_n C dX2_readPart_90 2 rfl ?_
      refine z_bipush (x := 48) C dX2_readPart_91 (by decide +kernel) ?_
      obtain ⟨j8, e25, hm⟩ := ql_i hm
      have hj8 : j8 = some r → qZ g p l e rmX2_readPart s m ([.ref (qad g 1), .int (qI p1)] : List Value).toArray below meth c (qQ g below qkI (.inr r.1) r.2 ([.ref (qad g 1), .int (qI p1)] : List Value).toArray s rmX2_readPart) 4 S [(0, .ref (qad g 1)), (1, .int (qI p1)), (2, .int (qI a1))] 108 [] 0 0 := by
        intro  hm
        rw [e25] at hm
        refine z_iload_n C dX2_readPart_108 2 rfl ?_
        refine z_bipush (x := 55) C dX2_readPart_109 (by decide +kernel) ?_
        obtain ⟨j10, e18, hm⟩ := ql_i hm
        have hj10 : ∀ (v9 : Int), j10 v9 = some r → qZ g p l e rmX2_readPart s m ([.ref (qad g 1), .int (qI p1)] : List Value).toArray below meth c (qQ g below qkI (.inr r.1) r.2 ([.ref (qad g 1), .int (qI p1)] : List Value).toArray s rmX2_readPart) 4 S [(0, .ref (qad g 1)), (1, .int (qI p1))] 133 [.int (qI v9)] 0 0 := by
          intro v9 hm
          rw [e18] at hm
          refine z_istore_n (L' := [(3, .int (qI v9)), (0, .ref (qad g 1)), (1, .int (qI p1))]) C dX2_readPart_133 (by decide) rfl ?_
          refine z_aload_n C dX2_readPart_134 1 rfl ?_
          refine z_iload_n C dX2_readPart_135 0 rfl ?_
          obtain ⟨h11, hm⟩ := qg_i hm
          obtain ⟨j13, e16, hm⟩ := ql_i hm
          have hj13 : ∀ (v12 : Int), j13 v12 = some r → qZ g p l e rmX2_readPart s m ([.ref (qad g 1), .int (qI p1)] : List Value).toArray below meth c (qQ g below qkI (.inr r.1) r.2 ([.ref (qad g 1), .int (qI p1)] : List Value).toArray s rmX2_readPart) 4 S [(1, .int (qI p1))] 146 [.int (qI v12), .ref (qad g 1)] 0 0 := by
            intro v12 hm
            rw [e16] at hm
            refine pf_X2_37 C rfl dX2_readPart_146 ?_
            obtain ⟨S14, e15, hm⟩ := ql_i hm
            refine z_S e15 ?_
            refine z_iload_n C dX2_readPart_149 0 rfl ?_
            exact z_iret C hr (by decide) (by decide) (by cases hm; rfl) dX2_readPart_150
          clear e16
          refine z_if_eq (tgt := 145) C dX2_readPart_136 (by decide) h11 (fun c17 => ?_) (fun c17 => ?_)
          · have hm := qt_i hm c17
            refine z_iload_n C dX2_readPart_145 2 rfl ?_
            refine z_sub (L' := [(1, .int (qI p1))]) [2] rfl ?_
            exact hj13 p1 hm
          · have hm := qf_i hm c17
            refine z_iload_n C dX2_readPart_139 2 rfl ?_
            refine z_iconst (x := 1) C dX2_readPart_140 rfl ?_
            refine z_iadd C dX2_readPart_141 ?_
            refine z_goto (tgt := 146) C dX2_readPart_142 (by decide) ?_
            refine z_sub (L' := [(1, .int (qI p1))]) [2] rfl ?_
            exact hj13 (p1 + 1) hm
        clear e18
        obtain ⟨j19, e20, hm⟩ := ql_i hm
        have hj19 : j19 = some r → qZ g p l e rmX2_readPart s m ([.ref (qad g 1), .int (qI p1)] : List Value).toArray below meth c (qQ g below qkI (.inr r.1) r.2 ([.ref (qad g 1), .int (qI p1)] : List Value).toArray s rmX2_readPart) 4 S [(0, .ref (qad g 1)), (1, .int (qI p1))] 132 [] 0 0 := by
          intro  hm
          rw [e20] at hm
          refine z_iconst (x := 0) C dX2_readPart_132 rfl ?_
          exact hj10 0 hm
        clear e20
        refine z_icmp_lt (tgt := 132) C dX2_readPart_111 (by decide) ⟨h3, (by decide)⟩ (fun c21 => ?_) (fun c21 => ?_)
        · have hm := qt_i hm c21
          refine z_sub (L' := [(0, .ref (qad g 1)), (1, .int (qI p1))]) [0, 1] rfl ?_
          exact hj19  hm
        · have hm := qf_i hm c21
          refine z_iload_n C dX2_readPart_114 2 rfl ?_
          refine z_bipush (x := 57) C dX2_readPart_115 (by decide +kernel) ?_
          refine z_icmp_gt (tgt := 132) C dX2_readPart_117 (by decide) ⟨h3, (by decide)⟩ (fun c22 => ?_) (fun c22 => ?_)
          · have hm := qt_i hm c22
            refine z_sub (L' := [(0, .ref (qad g 1)), (1, .int (qI p1))]) [0, 1] rfl ?_
            exact hj19  hm
          · have hm := qf_i hm c22
            refine z_aload_n C dX2_readPart_120 0 rfl ?_
            refine gf_X2_34 C rfl dX2_readPart_121 ?_
            refine z_iconst (x := 3) C dX2_readPart_124 rfl ?_
            obtain ⟨h23, hm⟩ := qg_i hm
            refine z_icmp_ge (tgt := 132) C dX2_readPart_125 (by decide) ⟨h23, (by decide)⟩ (fun c24 => ?_) (fun c24 => ?_)
            · have hm := qt_i hm c24
              refine z_sub (L' := [(0, .ref (qad g 1)), (1, .int (qI p1))]) [0, 1] rfl ?_
              exact hj19  hm
            · have hm := qf_i hm c24
              refine z_iconst (x := 1) C dX2_readPart_128 rfl ?_
              refine z_goto (tgt := 133) C dX2_readPart_129 (by decide) ?_
              refine z_sub (L' := [(0, .ref (qad g 1)), (1, .int (qI p1))]) [0, 1] rfl ?_
              exact hj10 1 hm
      clear e25
      refine z_icmp_lt (tgt := 108) C dX2_readPart_93 (by decide) ⟨h3, (by decide)⟩ (fun c26 => ?_) (fun c26 => ?_)
      · have hm := qt_i hm c26
        exact hj8  hm
      · have hm := qf_i hm c26
        refine z_iload_n C dX2_readPart_96 2 rfl ?_
        refine z_bipush (x := 54) C dX2_readPart_97 (by decide +kernel) ?_
        refine z_icmp_gt (tgt := 108) C dX2_readPart_99 (by decide) ⟨h3, (by decide)⟩ (fun c27 => ?_) (fun c27 => ?_)
        · have hm := qt_i hm c27
          exact hj8  hm
        · have hm := qf_i hm c27
          refine z_aload_n C dX2_readPart_102 0 rfl ?_
          refine z_iload_n C dX2_readPart_103 1 rfl ?_
          obtain ⟨a28, h29, hm⟩ := qb_i hm
          refine iv_X2_50 C (met_X2_readAxle l g hl hA n9 S p1 _ h29) rfl ⟨by decide, by decide⟩ ⟨by decide, by decide⟩ (Nat.le_of_ble_eq_true rfl) dX2_readPart_104 ?_
          exact z_iret C hr (by decide) (by decide) (by cases hm; rfl) dX2_readPart_107
    clear e30
    refine z_icmp_lt (tgt := 90) C dX2_readPart_21 (by decide) ⟨h3, (by decide)⟩ (fun c31 => ?_) (fun c31 => ?_)
    · have hm := qt_i hm c31
      refine z_sub (L' := [(0, .ref (qad g 1)), (1, .int (qI p1)), (2, .int (qI a1))]) [1, 2, 0] rfl ?_
      exact hj7  hm
    · have hm := qf_i hm c31
      refine z_iload_n C dX2_readPart_24 0 rfl ?_
      refine z_bipush (x := 57) C dX2_readPart_25 (by decide +kernel) ?_
      refine z_icmp_gt (tgt := 90) C dX2_readPart_27 (by decide) ⟨h3, (by decide)⟩ (fun c32 => ?_) (fun c32 => ?_)
      · have hm := qt_i hm c32
        refine z_sub (L' := [(0, .ref (qad g 1)), (1, .int (qI p1)), (2, .int (qI a1))]) [1, 2, 0] rfl ?_
        exact hj7  hm
      · have hm := qf_i hm c32
        refine z_aload_n C dX2_readPart_30 1 rfl ?_
        refine gf_X2_34 C rfl dX2_readPart_31 ?_
        refine z_iconst (x := 3) C dX2_readPart_34 rfl ?_
        obtain ⟨h33, hm⟩ := qg_i hm
        refine z_icmp_ge (tgt := 90) C dX2_readPart_35 (by decide) ⟨h33, (by decide)⟩ (fun c34 => ?_) (fun c34 => ?_)
        · have hm := qt_i hm c34
          refine z_sub (L' := [(0, .ref (qad g 1)), (1, .int (qI p1)), (2, .int (qI a1))]) [1, 2, 0] rfl ?_
          exact hj7  hm
        · have hm := qf_i hm c34
          refine z_aload_n C dX2_readPart_38 1 rfl ?_
          refine z_iload_n C dX2_readPart_39 2 rfl ?_
          refine z_iconst (x := 1) C dX2_readPart_40 rfl ?_
          refine z_iadd C dX2_readPart_41 ?_
          obtain ⟨a35, h36, hm⟩ := qb_i hm
          refine iv_X2_40 C (met_X2_characterAt l g hl hA n9 S (p1 + 1) _ h36) rfl ⟨by decide, by decide⟩ ⟨by decide, by decide⟩ (Nat.le_of_ble_eq_true rfl) dX2_readPart_42 ?_
          refine z_bipush (x := 40) C dX2_readPart_45 (by decide +kernel) ?_
          obtain ⟨h37, hm⟩ := qg_i hm
          refine z_icmp_ne (tgt := 90) C dX2_readPart_47 (by decide) ⟨h37, (by decide)⟩ (fun c38 => ?_) (fun c38 => ?_)
          · have hm := qt_i hm c38
            refine z_aload_n C dX2_readPart_50 1 rfl ?_
            refine gf_X2_21 C rfl dX2_readPart_51 ?_
            refine z_aload_n C dX2_readPart_54 1 rfl ?_
            refine gf_X2_34 C rfl dX2_readPart_55 ?_
            refine z_iload_n C dX2_readPart_58 0 rfl ?_
            refine z_bipush (x := 48) C dX2_readPart_59 (by decide +kernel) ?_
            refine z_isub C dX2_readPart_61 ?_
            obtain ⟨h39, hm⟩ := qg_i hm
            refine z_iast (N := 3) C rfl h39 (by decide) dX2_readPart_62 ?_
            obtain ⟨S40, e41, hm⟩ := ql_i hm
            refine z_S e41 ?_
            refine z_aload_n C dX2_readPart_63 1 rfl ?_
            refine gf_X2_24 C rfl dX2_readPart_64 ?_
            refine z_aload_n C dX2_readPart_67 1 rfl ?_
            refine gf_X2_34 C rfl dX2_readPart_68 ?_
            refine z_aload_n C dX2_readPart_71 1 rfl ?_
            refine gf_X2_31 C rfl dX2_readPart_72 ?_
            obtain ⟨h42, hm⟩ := qg_i hm
            refine z_iast (N := 3) C rfl h42 (by decide) dX2_readPart_75 ?_
            obtain ⟨S43, e44, hm⟩ := ql_i hm
            refine z_S e44 ?_
            refine z_aload_n C dX2_readPart_76 1 rfl ?_
            refine z_dup C dX2_readPart_77 rfl ?_
            refine gf_X2_34 C rfl dX2_readPart_78 ?_
            refine z_iconst (x := 1) C dX2_readPart_81 rfl ?_
            refine z_iadd C dX2_readPart_82 ?_
            refine pf_X2_34 C rfl dX2_readPart_83 ?_
            obtain ⟨S45, e46, hm⟩ := ql_i hm
            refine z_S e46 ?_
            refine z_iload_n C dX2_readPart_86 2 rfl ?_
            refine z_iconst (x := 2) C dX2_readPart_87 rfl ?_
            refine z_iadd C dX2_readPart_88 ?_
            exact z_iret C hr (by decide) (by decide) (by cases hm; rfl) dX2_readPart_89
          · have hm := qf_i hm c38
            refine z_sub (L' := [(0, .ref (qad g 1)), (1, .int (qI p1)), (2, .int (qI a1))]) [1, 2, 0] rfl ?_
            exact hj7  hm

set_option maxHeartbeats 4000000 in
set_option maxRecDepth 100000 in
theorem met_X2_read_l35 {g : qG} {p : Program} {l : Launch} {e : Env} {s : State} {m : MethodId} {args : Array Value} {below : List Frame} {meth : Method} {c : Code} (C : qC g p l s m args meth c RX2 cX2_read 3) (hr : meth.sig.returnType = none) (hT : ∀ x ∈ c.exceptionTable.toList, False) (n9 : Nat) {r : qS} (k69 : qS → Option (qS)) (hk69 : ∀ (y1 : qS), k69 y1 = some r → qZ g p l e rmX2_read s m args below meth c (qQ g below qkV (.inr 0) r args s rmX2_read) 3 y1 [(0, .ref (qad g 1))] 69 [] 0 0) : ∀ (f : Nat) (S20 : qS) (x21 : Int) (x22 : Int), MX2_read_l35 n9 k69 f S20 x21 x22 = some r → qZ g p l e rmX2_read s m args below meth c (qQ g below qkV (.inr 0) r args s rmX2_read) 3 S20 [(0, .ref (qad g 1)), (1, .int (qI x21)), (2, .int (qI x22))] 35 [] 0 0 := by
  intro f
  induction f with
  | zero => intro S20 x21 x22 hm; rw [MX2_read_l35] at hm; cases hm
  | succ f ih =>
    intro S20 x21 x22 hm
    rw [MX2_read_l35] at hm
    have hl := C.2.2.2.2.2.2.2.2
    have hA := C.2.2.2.2.2.2.1
    refine z_iload_n C dX2_read_35 2 rfl ?_
    refine z_bipush (x := 120) C dX2_read_36 (by decide +kernel) ?_
    obtain ⟨h23, hm⟩ := qg_i hm
    refine z_icmp_ge (tgt := 69) C dX2_read_38 (by decide) ⟨h23, (by decide)⟩ (fun c24 => ?_) (fun c24 => ?_)
    · have hm := qt_i hm c24
      refine z_sub (L' := [(0, .ref (qad g 1))]) [0] rfl ?_
      exact hk69 S20 hm
    · have hm := qf_i hm c24
      refine z_iload_n C dX2_read_41 1 rfl ?_
      refine z_aload_n C dX2_read_42 0 rfl ?_
      refine gf_X2_27 C rfl dX2_read_43 ?_
      obtain ⟨h25, hm⟩ := qg_i hm
      obtain ⟨h26, hm⟩ := qg_i hm
      refine z_icmp_ge (tgt := 69) C dX2_read_46 (by decide) ⟨h25, h26⟩ (fun c27 => ?_) (fun c27 => ?_)
      · have hm := qt_i hm c27
        refine z_sub (L' := [(0, .ref (qad g 1))]) [0] rfl ?_
        exact hk69 S20 hm
      · have hm := qf_i hm c27
        refine z_aload_n C dX2_read_49 0 rfl ?_
        refine gf_X2_37 C rfl dX2_read_50 ?_
        refine z_iconst (x := (-1)) C dX2_read_53 rfl ?_
        obtain ⟨h28, hm⟩ := qg_i hm
        refine z_icmp_ne (tgt := 69) C dX2_read_54 (by decide) ⟨h28, (by decide)⟩ (fun c29 => ?_) (fun c29 => ?_)
        · have hm := qt_i hm c29
          refine z_aload_n C dX2_read_57 0 rfl ?_
          refine z_iload_n C dX2_read_58 1 rfl ?_
          obtain ⟨a30, h31, hm⟩ := qb_i hm
          refine iv_X2_44 C (met_X2_readPart l g hl hA n9 S20 x21 _ h31) rfl ⟨by decide, by decide⟩ ⟨by decide, by decide⟩ (Nat.le_of_ble_eq_true rfl) dX2_read_59 ?_
          refine z_istore_n (L' := [(1, .int (qI a30.1)), (0, .ref (qad g 1)), (2, .int (qI x22))]) C dX2_read_62 (by decide) rfl ?_
          refine z_iinc (L' := [(2, .int (qI (x22 + 1))), (1, .int (qI a30.1)), (0, .ref (qad g 1))]) C dX2_read_63 2 rfl (by decide) rfl ?_
          refine z_goto (tgt := 35) C dX2_read_66 (by decide) ?_
          refine z_sub (L' := [(0, .ref (qad g 1)), (1, .int (qI a30.1)), (2, .int (qI (x22 + 1)))]) [2, 1, 0] rfl ?_
          exact ih a30.2 a30.1 (x22 + 1) hm
        · have hm := qf_i hm c29
          refine z_sub (L' := [(0, .ref (qad g 1))]) [0] rfl ?_
          exact hk69 S20 hm

set_option maxHeartbeats 4000000 in
set_option maxRecDepth 100000 in
theorem met_X2_read (l : Launch) (g : qG) (hl : l.stackTraces = false) (hA : qAd g) (n9 : Nat) (S : qS) (r : qS) (hm : MX2_read n9 S  = some r) : qM l g yX2_read (.code yX2_read cX2_read 3 none) rmX2_read qkV [.ref (qad g 1)] S (.inr 0) r := by
  rw [MX2_read] at hm
  refine qM_of (L := [(0, .ref (qad g 1))]) (by decide +kernel) rfl (Nat.le_of_ble_eq_true rfl) hl hA ?_
  intro p e s m below meth c C hr hT
  have C : qC g p l s m ([.ref (qad g 1)] : List Value).toArray meth c RX2 cX2_read 3 := C
  refine z_aload_n C dX2_read_0 0 rfl ?_
  refine z_iconst (x := 0) C dX2_read_1 rfl ?_
  refine pf_X2_31 C rfl dX2_read_2 ?_
  obtain ⟨S1, e2, hm⟩ := ql_i hm
  refine z_S e2 ?_
  refine z_aload_n C dX2_read_5 0 rfl ?_
  refine z_iconst (x := 0) C dX2_read_6 rfl ?_
  refine pf_X2_34 C rfl dX2_read_7 ?_
  obtain ⟨S3, e4, hm⟩ := ql_i hm
  refine z_S e4 ?_
  refine z_aload_n C dX2_read_10 0 rfl ?_
  refine z_iconst (x := (-1)) C dX2_read_11 rfl ?_
  refine pf_X2_37 C rfl dX2_read_12 ?_
  obtain ⟨S5, e6, hm⟩ := ql_i hm
  refine z_S e6 ?_
  refine z_aload_n C dX2_read_15 0 rfl ?_
  refine z_iconst (x := 0) C dX2_read_16 rfl ?_
  obtain ⟨a7, h8, hm⟩ := qb_i hm
  refine iv_X2_40 C (met_X2_characterAt l g hl hA n9 S5 0 _ h8) rfl ⟨by decide, by decide⟩ ⟨by decide, by decide⟩ (Nat.le_of_ble_eq_true rfl) dX2_read_17 ?_
  refine z_bipush (x := 82) C dX2_read_20 (by decide +kernel) ?_
  obtain ⟨h9, hm⟩ := qg_i hm
  refine z_icmp_eq (tgt := 31) C dX2_read_22 (by decide) ⟨h9, (by decide)⟩ (fun c10 => ?_) (fun c10 => ?_)
  · have hm := qt_i hm c10
    refine z_iconst (x := 1) C dX2_read_31 rfl ?_
    refine z_istore_n (L' := [(1, .int (qI 1)), (0, .ref (qad g 1))]) C dX2_read_32 (by decide) rfl ?_
    refine z_iconst (x := 0) C dX2_read_33 rfl ?_
    refine z_istore_n (L' := [(2, .int (qI 0)), (1, .int (qI 1)), (0, .ref (qad g 1))]) C dX2_read_34 (by decide) rfl ?_
    obtain ⟨j12, e19, hm⟩ := ql_i hm
    have hj12 : ∀ (S11 : qS), j12 S11 = some r → qZ g p l e rmX2_read s m ([.ref (qad g 1)] : List Value).toArray below meth c (qQ g below qkV (.inr 0) r ([.ref (qad g 1)] : List Value).toArray s rmX2_read) 3 S11 [(0, .ref (qad g 1))] 69 [] 0 0 := by
      intro S11 hm
      rw [e19] at hm
      refine z_aload_n C dX2_read_69 0 rfl ?_
      refine gf_X2_37 C rfl dX2_read_70 ?_
      refine z_iconst (x := (-1)) C dX2_read_73 rfl ?_
      obtain ⟨h13, hm⟩ := qg_i hm
      refine z_icmp_ne (tgt := 92) C dX2_read_74 (by decide) ⟨h13, (by decide)⟩ (fun c14 => ?_) (fun c14 => ?_)
      · have hm := qt_i hm c14
        refine z_aload_n C dX2_read_77 0 rfl ?_
        refine gf_X2_34 C rfl dX2_read_78 ?_
        obtain ⟨h15, hm⟩ := qg_i hm
        refine z_if_le (tgt := 92) C dX2_read_81 (by decide) h15 (fun c16 => ?_) (fun c16 => ?_)
        · have hm := qt_i hm c16
          exact z_vret C hr (by decide) (by decide) (by cases hm; rfl) dX2_read_92
        · have hm := qf_i hm c16
          refine z_aload_n C dX2_read_84 0 rfl ?_
          refine z_aload_n C dX2_read_85 0 rfl ?_
          refine gf_X2_27 C rfl dX2_read_86 ?_
          refine pf_X2_37 C rfl dX2_read_89 ?_
          obtain ⟨S17, e18, hm⟩ := ql_i hm
          refine z_S e18 ?_
          exact z_vret C hr (by decide) (by decide) (by cases hm; rfl) dX2_read_92
      · have hm := qf_i hm c14
        exact z_vret C hr (by decide) (by decide) (by cases hm; rfl) dX2_read_92
    clear e19
    refine z_sub (L' := [(0, .ref (qad g 1)), (1, .int (qI 1)), (2, .int (qI 0))]) [2, 1, 0] rfl ?_
    exact met_X2_read_l35 C hr hT n9 j12 hj12 n9 S5 1 0 hm
  · have hm := qf_i hm c10
    refine z_aload_n C dX2_read_25 0 rfl ?_
    refine z_iconst (x := 0) C dX2_read_26 rfl ?_
    refine pf_X2_37 C rfl dX2_read_27 ?_
    obtain ⟨S32, e33, hm⟩ := ql_i hm
    refine z_S e33 ?_
    exact z_vret C hr (by decide) (by decide) (by cases hm; rfl) dX2_read_30
