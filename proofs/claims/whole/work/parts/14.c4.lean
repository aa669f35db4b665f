set_option maxHeartbeats 4000000 in
set_option maxRecDepth 100000 in
theorem met_X4_thrown (l : Launch) (g : qG) (hl : l.stackTraces = false) (hA : qAd g) (n9 : Nat) (S : qS) (r : Int) (hm : MX4_thrown n9 S  = some r) : qM l g yX4_thrown (.code yX4_thrown cX4_thrown 1 (some .int)) rmX4_thrown qkI [.ref (qad g 110)] S (.inr r) S := by
  rw [MX4_thrown] at hm
  refine qM_of (L := [(0, .ref (qad g 110))]) (by decide +kernel) rfl (Nat.le_of_ble_eq_true rfl) hl hA ?_
  intro p e s m below meth c C hr hT
  have C : qC g p l s m ([.ref (qad g 110)] : List Value).toArray meth c RX4 cX4_thrown 1 := C
  refine z_aload_n C dX4_thrown_0 0 rfl ?_
  refine gf_X4_59 C rfl dX4_thrown_1 ?_
  exact z_iret C hr (by decide) (by decide) (by cases hm; rfl) dX4_thrown_4

set_option maxHeartbeats 4000000 in
set_option maxRecDepth 100000 in
theorem met_X4_refused (l : Launch) (g : qG) (hl : l.stackTraces = false) (hA : qAd g) (n9 : Nat) (S : qS) (p1 : Int) (r : Int × qS) (hm : MX4_refused n9 S p1 = some r) : qM l g yX4_refused (.code yX4_refused cX4_refused 2 (some .boolean)) rmX4_refused qkI [.ref (qad g 110), .int (qI p1)] S (.inr r.1) r.2 := by
  rw [MX4_refused] at hm
  refine qM_of (L := [(0, .ref (qad g 110)), (1, .int (qI p1))]) (by decide +kernel) rfl (Nat.le_of_ble_eq_true rfl) hl hA ?_
  intro p e s m below meth c C hr hT
  have C : qC g p l s m ([.ref (qad g 110), .int (qI p1)] : List Value).toArray meth c RX4 cX4_refused 2 := C
  refine z_aload_n C dX4_refused_0 0 rfl ?_
  refine z_iload_n C dX4_refused_1 1 rfl ?_
  refine pf_X4_59 C rfl dX4_refused_2 ?_
  obtain ⟨S1, e2, hm⟩ := ql_i hm
  refine z_S e2 ?_
  refine z_iload_n C dX4_refused_5 1 rfl ?_
  obtain ⟨h3, hm⟩ := qg_i hm
  refine z_if_le (tgt := 13) C dX4_refused_6 (by decide) h3 (fun c4 => ?_) (fun c4 => ?_)
  · have hm := qt_i hm c4
    refine z_iconst (x := 0) C dX4_refused_13 rfl ?_
    exact z_zret C hr (by decide) (by decide) (by decide) (by cases hm; rfl) dX4_refused_14
  · have hm := qf_i hm c4
    refine z_iconst (x := 1) C dX4_refused_9 rfl ?_
    refine z_goto (tgt := 14) C dX4_refused_10 (by decide) ?_
    exact z_zret C hr (by decide) (by decide) (by decide) (by cases hm; rfl) dX4_refused_14

set_option maxHeartbeats 4000000 in
set_option maxRecDepth 100000 in
theorem met_X4_in (l : Launch) (g : qG) (hl : l.stackTraces = false) (hA : qAd g) (n9 : Nat) (S : qS) (p0 : Int) (p2 : Int) (p4 : Int) (r : Int) (hm : MX4_in n9 S p0 p2 p4 = some r) : qM l g yX4_in (.code yX4_in cX4_in 6 (some .boolean)) rmX4_in qkI [.long (qL p0), .long (qL p2), .long (qL p4)] S (.inr r) S := by
  rw [MX4_in] at hm
  refine qM_of (L := [(0, .long (qL p0)), (2, .long (qL p2)), (4, .long (qL p4))]) (by decide +kernel) rfl (Nat.le_of_ble_eq_true rfl) hl hA ?_
  intro p e s m below meth c C hr hT
  have C : qC g p l s m ([.long (qL p0), .long (qL p2), .long (qL p4)] : List Value).toArray meth c RX4 cX4_in 6 := C
  refine z_lload_n C dX4_in_0 0 rfl ?_
  refine z_lload_n C dX4_in_1 1 rfl ?_
  obtain ⟨h1, hm⟩ := qg_i hm
  obtain ⟨h2, hm⟩ := qg_i hm
  refine z_lcmp C dX4_in_2 ⟨h1, h2⟩ ?_
  refine z_if_lt (tgt := 17) C dX4_in_3 (by decide) (qcmp_R _ _) (fun c3 => ?_) (fun c3 => ?_)
  · have hm := qt_i hm c3
    refine z_iconst (x := 0) C dX4_in_17 rfl ?_
    exact z_zret C hr (by decide) (by decide) (by decide) (by cases hm; rfl) dX4_in_18
  · have hm := qf_i hm c3
    refine z_lload_n C dX4_in_6 0 rfl ?_
    refine z_lload C dX4_in_7 2 rfl ?_
    obtain ⟨h4, hm⟩ := qg_i hm
    refine z_lcmp C dX4_in_9 ⟨h1, h4⟩ ?_
    refine z_if_gt (tgt := 17) C dX4_in_10 (by decide) (qcmp_R _ _) (fun c5 => ?_) (fun c5 => ?_)
    · have hm := qt_i hm c5
      refine z_iconst (x := 0) C dX4_in_17 rfl ?_
      exact z_zret C hr (by decide) (by decide) (by decide) (by cases hm; rfl) dX4_in_18
    · have hm := qf_i hm c5
      refine z_iconst (x := 1) C dX4_in_13 rfl ?_
      refine z_goto (tgt := 18) C dX4_in_14 (by decide) ?_
      exact z_zret C hr (by decide) (by decide) (by decide) (by cases hm; rfl) dX4_in_18

set_option maxHeartbeats 4000000 in
set_option maxRecDepth 100000 in
theorem met_X4_size (l : Launch) (g : qG) (hl : l.stackTraces = false) (hA : qAd g) (n9 : Nat) (S : qS) (p0 : Int) (r : Int) (hm : MX4_size n9 S p0 = some r) : qM l g yX4_size (.code yX4_size cX4_size 1 (some .int)) rmX4_size qkI [.int (qI p0)] S (.inr r) S := by
  rw [MX4_size] at hm
  refine qM_of (L := [(0, .int (qI p0))]) (by decide +kernel) rfl (Nat.le_of_ble_eq_true rfl) hl hA ?_
  intro p e s m below meth c C hr hT
  have C : qC g p l s m ([.int (qI p0)] : List Value).toArray meth c RX4 cX4_size 1 := C
  refine z_iload_n C dX4_size_0 0 rfl ?_
  obtain ⟨h1, hm⟩ := qg_i hm
  refine z_if_ge (tgt := 9) C dX4_size_1 (by decide) h1 (fun c2 => ?_) (fun c2 => ?_)
  · have hm := qt_i hm c2
    refine z_iload_n C dX4_size_9 0 rfl ?_
    exact z_iret C hr (by decide) (by decide) (by cases hm; rfl) dX4_size_10
  · have hm := qf_i hm c2
    refine z_iload_n C dX4_size_4 0 rfl ?_
    refine z_ineg C dX4_size_5 ?_
    refine z_goto (tgt := 10) C dX4_size_6 (by decide) ?_
    exact z_iret C hr (by decide) (by decide) (by cases hm; rfl) dX4_size_10

set_option maxHeartbeats 4000000 in
set_option maxRecDepth 100000 in
theorem met_X4_copy_l3 {g : qG} {p : Program} {l : Launch} {e : Env} {s : State} {m : MethodId} {args : Array Value} {below : List Frame} {meth : Method} {c : Code} (C : qC g p l s m args meth c RX4 cX4_copy 6) (hr : meth.sig.returnType = none) (hT : ∀ x ∈ c.exceptionTable.toList, False) (u0 : Nat) (p1 : Int) (u2 : Nat) (p3 : Int) (p4 : Int) {r : qS}  (hq0 : 10 ≤ qk u0) (hq2 : 10 ≤ qk u2) : ∀ (f : Nat) (S1 : qS) (x2 : Int), MX4_copy_l3 u0 p1 u2 p3 p4 f S1 x2 = some r → qZ g p l e rmX4_copy s m args below meth c (qQ g below qkV (.inr 0) r args s rmX4_copy) 6 S1 [(0, .ref (qad g u0)), (1, .int (qI p1)), (2, .ref (qad g u2)), (3, .int (qI p3)), (4, .int (qI p4)), (5, .int (qI x2))] 3 [] 0 0 := by
  intro f
  induction f with
  | zero => intro S1 x2 hm; rw [MX4_copy_l3] at hm; cases hm
  | succ f ih =>
    intro S1 x2 hm
    rw [MX4_copy_l3] at hm
    have hl := C.2.2.2.2.2.2.2.2
    have hA := C.2.2.2.2.2.2.1
    refine z_iload C dX4_copy_3 5 rfl ?_
    refine z_iload C dX4_copy_5 4 rfl ?_
    obtain ⟨h3, hm⟩ := qg_i hm
    obtain ⟨h4, hm⟩ := qg_i hm
    refine z_icmp_ge (tgt := 28) C dX4_copy_7 (by decide) ⟨h3, h4⟩ (fun c5 => ?_) (fun c5 => ?_)
    · have hm := qt_i hm c5
      exact z_vret C hr (by decide) (by decide) (by cases hm; rfl) dX4_copy_28
    · have hm := qf_i hm c5
      refine z_aload_n C dX4_copy_10 2 rfl ?_
      refine z_iload_n C dX4_copy_11 3 rfl ?_
      refine z_iload C dX4_copy_12 5 rfl ?_
      refine z_iadd C dX4_copy_14 ?_
      refine z_aload_n C dX4_copy_15 0 rfl ?_
      refine z_iload_n C dX4_copy_16 1 rfl ?_
      refine z_iload C dX4_copy_17 5 rfl ?_
      refine z_iadd C dX4_copy_19 ?_
      obtain ⟨h6, hm⟩ := qg_i hm
      refine z_iald (N := (qlen u0)) C (qlen_eq hq0) h6 (qlen_le _) dX4_copy_20 ?_
      obtain ⟨h7, hm⟩ := qg_i hm
      refine z_iast (N := (qlen u2)) C (qlen_eq hq2) h7 (qlen_le _) dX4_copy_21 ?_
      obtain ⟨S8, e9, hm⟩ := ql_i hm
      refine z_S e9 ?_
      refine z_iinc (L' := [(5, .int (qI (x2 + 1))), (0, .ref (qad g u0)), (1, .int (qI p1)), (2, .ref (qad g u2)), (3, .int (qI p3)), (4, .int (qI p4))]) C dX4_copy_22 5 rfl (by decide) rfl ?_
      refine z_goto (tgt := 3) C dX4_copy_25 (by decide) ?_
      refine z_sub (L' := [(0, .ref (qad g u0)), (1, .int (qI p1)), (2, .ref (qad g u2)), (3, .int (qI p3)), (4, .int (qI p4)), (5, .int (qI (x2 + 1)))]) [1, 2, 3, 4, 5, 0] rfl ?_
      exact ih S8 (x2 + 1) hm

set_option maxHeartbeats 4000000 in
set_option maxRecDepth 100000 in
theorem met_X4_copy (l : Launch) (g : qG) (hl : l.stackTraces = false) (hA : qAd g) (n9 : Nat) (S : qS) (u0 : Nat) (p1 : Int) (u2 : Nat) (p3 : Int) (p4 : Int) (r : qS) (hm : MX4_copy n9 S u0 p1 u2 p3 p4 = some r) : qM l g yX4_copy (.code yX4_copy cX4_copy 6 none) rmX4_copy qkV [.ref (qad g u0), .int (qI p1), .ref (qad g u2), .int (qI p3), .int (qI p4)] S (.inr 0) r := by
  rw [MX4_copy] at hm
  obtain ⟨hq0, hm⟩ := qg_i hm
  obtain ⟨hq2, hm⟩ := qg_i hm
  refine qM_of (L := [(0, .ref (qad g u0)), (1, .int (qI p1)), (2, .ref (qad g u2)), (3, .int (qI p3)), (4, .int (qI p4))]) (by decide +kernel) rfl (Nat.le_of_ble_eq_true rfl) hl hA ?_
  intro p e s m below meth c C hr hT
  have C : qC g p l s m ([.ref (qad g u0), .int (qI p1), .ref (qad g u2), .int (qI p3), .int (qI p4)] : List Value).toArray meth c RX4 cX4_copy 6 := C
  refine z_iconst (x := 0) C dX4_copy_0 rfl ?_
  refine z_istore (L' := [(5, .int (qI 0)), (0, .ref (qad g u0)), (1, .int (qI p1)), (2, .ref (qad g u2)), (3, .int (qI p3)), (4, .int (qI p4))]) C dX4_copy_1 (by decide) rfl ?_
  refine z_sub (L' := [(0, .ref (qad g u0)), (1, .int (qI p1)), (2, .ref (qad g u2)), (3, .int (qI p3)), (4, .int (qI p4)), (5, .int (qI 0))]) [1, 2, 3, 4, 5, 0] rfl ?_
  exact met_X4_copy_l3 C hr hT u0 p1 u2 p3 p4  hq0 hq2 n9 S 0 hm

set_option maxHeartbeats 4000000 in
set_option maxRecDepth 100000 in
theorem met_X4_tenTo_l4 {g : qG} {p : Program} {l : Launch} {e : Env} {s : State} {m : MethodId} {args : Array Value} {below : List Frame} {meth : Method} {c : Code} (C : qC g p l s m args meth c RX4 cX4_tenTo 4) (hr : meth.sig.returnType = (some .long)) (hT : ∀ x ∈ c.exceptionTable.toList, False) (S : qS) (p0 : Int) {r : Int}  : ∀ (f : Nat) (x1 : Int) (x2 : Int), MX4_tenTo_l4 S p0 f x1 x2 = some r → qZ g p l e rmX4_tenTo s m args below meth c (qQ g below qkL (.inr r) S args s rmX4_tenTo) 4 S [(0, .int (qI p0)), (1, .long (qL x1)), (3, .int (qI x2))] 4 [] 0 0 := by
  intro f
  induction f with
  | zero => intro x1 x2 hm; rw [MX4_tenTo_l4] at hm; cases hm
  | succ f ih =>
    intro x1 x2 hm
    rw [MX4_tenTo_l4] at hm
    have hl := C.2.2.2.2.2.2.2.2
    have hA := C.2.2.2.2.2.2.1
    refine z_iload_n C dX4_tenTo_4 2 rfl ?_
    refine z_iload_n C dX4_tenTo_5 0 rfl ?_
    obtain ⟨h3, hm⟩ := qg_i hm
    obtain ⟨h4, hm⟩ := qg_i hm
    refine z_icmp_ge (tgt := 21) C dX4_tenTo_6 (by decide) ⟨h3, h4⟩ (fun c5 => ?_) (fun c5 => ?_)
    · have hm := qt_i hm c5
      refine z_lload_n C dX4_tenTo_21 1 rfl ?_
      exact z_lret C hr (by decide) (by decide) (by cases hm; rfl) dX4_tenTo_22
    · have hm := qf_i hm c5
      refine z_lload_n C dX4_tenTo_9 1 rfl ?_
      refine z_ldc2 (x := 10) C dX4_tenTo_10 qct_X4_63 (by decide +kernel) ?_
      refine z_lmul C dX4_tenTo_13 ?_
      obtain ⟨x6, e7, hm⟩ := ql_i hm
      refine z_topl e7 ?_
      refine z_lstore_n (L' := [(1, .long (qL x6)), (0, .int (qI p0)), (3, .int (qI x2))]) C dX4_tenTo_14 (by decide) rfl ?_
      refine z_iinc (L' := [(3, .int (qI (x2 + 1))), (1, .long (qL x6)), (0, .int (qI p0))]) C dX4_tenTo_15 2 rfl (by decide) rfl ?_
      refine z_goto (tgt := 4) C dX4_tenTo_18 (by decide) ?_
      refine z_sub (L' := [(0, .int (qI p0)), (1, .long (qL x6)), (3, .int (qI (x2 + 1)))]) [2, 1, 0] rfl ?_
      exact ih x6 (x2 + 1) hm

set_option maxHeartbeats 4000000 in
set_option maxRecDepth 100000 in
theorem met_X4_tenTo (l : Launch) (g : qG) (hl : l.stackTraces = false) (hA : qAd g) (n9 : Nat) (S : qS) (p0 : Int) (r : Int) (hm : MX4_tenTo n9 S p0 = some r) : qM l g yX4_tenTo (.code yX4_tenTo cX4_tenTo 4 (some .long)) rmX4_tenTo qkL [.int (qI p0)] S (.inr r) S := by
  rw [MX4_tenTo] at hm
  refine qM_of (L := [(0, .int (qI p0))]) (by decide +kernel) rfl (Nat.le_of_ble_eq_true rfl) hl hA ?_
  intro p e s m below meth c C hr hT
  have C : qC g p l s m ([.int (qI p0)] : List Value).toArray meth c RX4 cX4_tenTo 4 := C
  refine z_lconst (x := 1) C dX4_tenTo_0 (by decide +kernel) ?_
  refine z_lstore_n (L' := [(1, .long (qL 1)), (0, .int (qI p0))]) C dX4_tenTo_1 (by decide) rfl ?_
  refine z_iconst (x := 0) C dX4_tenTo_2 rfl ?_
  refine z_istore_n (L' := [(3, .int (qI 0)), (1, .long (qL 1)), (0, .int (qI p0))]) C dX4_tenTo_3 (by decide) rfl ?_
  refine z_sub (L' := [(0, .int (qI p0)), (1, .long (qL 1)), (3, .int (qI 0))]) [2, 1, 0] rfl ?_
  exact met_X4_tenTo_l4 C hr hT S p0  n9 1 0 hm

set_option maxHeartbeats 4000000 in
set_option maxRecDepth 100000 in
theorem met_X4_remember (l : Launch) (g : qG) (hl : l.stackTraces = false) (hA : qAd g) (n9 : Nat) (S : qS) (r : qS) (hm : MX4_remember n9 S  = some r) : qM l g yX4_remember (.code yX4_remember cX4_remember 1 none) rmX4_remember qkV [.ref (qad g 110)] S (.inr 0) r := by
  rw [MX4_remember] at hm
  refine qM_of (L := [(0, .ref (qad g 110))]) (by decide +kernel) rfl (Nat.le_of_ble_eq_true rfl) hl hA ?_
  intro p e s m below meth c C hr hT
  have C : qC g p l s m ([.ref (qad g 110)] : List Value).toArray meth c RX4 cX4_remember 1 := C
  refine z_aload_n C dX4_remember_0 0 rfl ?_
  refine gf_X4_65 C rfl dX4_remember_1 ?_
  refine z_bipush (x := 14) C dX4_remember_4 (by decide +kernel) ?_
  obtain ⟨h1, hm⟩ := qg_i hm
  obtain ⟨j3, e8, hm⟩ := ql_i hm
  have hj3 : ∀ (S2 : qS), j3 S2 = some r → qZ g p l e rmX4_remember s m ([.ref (qad g 110)] : List Value).toArray below meth c (qQ g below qkV (.inr 0) r ([.ref (qad g 110)] : List Value).toArray s rmX4_remember) 1 S2 [(0, .ref (qad g 110))] 36 [] 0 0 := by
    intro S2 hm
    rw [e8] at hm
    refine z_aload_n C dX4_remember_36 0 rfl ?_
    refine gf_X4_28 C rfl dX4_remember_37 ?_
    refine z_iconst (x := 0) C dX4_remember_40 rfl ?_
    refine z_aload_n C dX4_remember_41 0 rfl ?_
    refine gf_X4_34 C rfl dX4_remember_42 ?_
    refine z_bipush (x := 95) C dX4_remember_45 (by decide +kernel) ?_
    refine z_aload_n C dX4_remember_47 0 rfl ?_
    refine gf_X4_65 C rfl dX4_remember_48 ?_
    refine z_imul C dX4_remember_51 ?_
    refine z_bipush (x := 95) C dX4_remember_52 (by decide +kernel) ?_
    obtain ⟨a4, h5, hm⟩ := qb_i hm
    refine iv_X4_68 C (met_X4_copy l g hl hA n9 S2 117 0 119 (95 * (S2 110 15)) 95 _ h5) ⟨by decide, by decide⟩ ⟨by decide, by decide⟩ (Nat.le_of_ble_eq_true rfl) dX4_remember_54 ?_
    refine z_aload_n C dX4_remember_57 0 rfl ?_
    refine z_dup C dX4_remember_58 rfl ?_
    refine gf_X4_65 C rfl dX4_remember_59 ?_
    refine z_iconst (x := 1) C dX4_remember_62 rfl ?_
    refine z_iadd C dX4_remember_63 ?_
    refine pf_X4_65 C rfl dX4_remember_64 ?_
    obtain ⟨S6, e7, hm⟩ := ql_i hm
    refine z_S e7 ?_
    exact z_vret C hr (by decide) (by decide) (by cases hm; rfl) dX4_remember_67
  clear e8
  refine z_icmp_ne (tgt := 36) C dX4_remember_6 (by decide) ⟨h1, (by decide)⟩ (fun c9 => ?_) (fun c9 => ?_)
  · have hm := qt_i hm c9
    refine z_aload_n C dX4_remember_9 0 rfl ?_
    refine gf_X4_34 C rfl dX4_remember_10 ?_
    refine z_bipush (x := 95) C dX4_remember_13 (by decide +kernel) ?_
    refine z_aload_n C dX4_remember_15 0 rfl ?_
    refine gf_X4_34 C rfl dX4_remember_16 ?_
    refine z_iconst (x := 0) C dX4_remember_19 rfl ?_
    refine z_sipush (x := 1235) C dX4_remember_20 (by decide +kernel) ?_
    obtain ⟨a10, h11, hm⟩ := qb_i hm
    refine iv_X4_68 C (met_X4_copy l g hl hA n9 S 119 95 119 0 1235 _ h11) ⟨by decide, by decide⟩ ⟨by decide, by decide⟩ (Nat.le_of_ble_eq_true rfl) dX4_remember_23 ?_
    refine z_aload_n C dX4_remember_26 0 rfl ?_
    refine z_dup C dX4_remember_27 rfl ?_
    refine gf_X4_65 C rfl dX4_remember_28 ?_
    refine z_iconst (x := 1) C dX4_remember_31 rfl ?_
    refine z_isub C dX4_remember_32 ?_
    refine pf_X4_65 C rfl dX4_remember_33 ?_
    obtain ⟨S12, e13, hm⟩ := ql_i hm
    refine z_S e13 ?_
    exact hj3 S12 hm
  · have hm := qf_i hm c9
    exact hj3 S hm

set_option maxHeartbeats 4000000 in
set_option maxRecDepth 100000 in
theorem met_X4_tryIt (l : Launch) (g : qG) (hl : l.stackTraces = false) (hA : qAd g) (n9 : Nat) (S : qS) (r : qS) (hm : MX4_tryIt n9 S  = some r) : qM l g yX4_tryIt (.code yX4_tryIt cX4_tryIt 1 none) rmX4_tryIt qkV [.ref (qad g 110)] S (.inr 0) r := by
  rw [MX4_tryIt] at hm
  refine qM_of (L := [(0, .ref (qad g 110))]) (by decide +kernel) rfl (Nat.le_of_ble_eq_true rfl) hl hA ?_
  intro p e s m below meth c C hr hT
  have C : qC g p l s m ([.ref (qad g 110)] : List Value).toArray meth c RX4 cX4_tryIt 1 := C
  refine z_aload_n C dX4_tryIt_0 0 rfl ?_
  refine gf_X4_28 C rfl dX4_tryIt_1 ?_
  refine z_iconst (x := 0) C dX4_tryIt_4 rfl ?_
  refine z_aload_n C dX4_tryIt_5 0 rfl ?_
  refine gf_X4_31 C rfl dX4_tryIt_6 ?_
  refine z_iconst (x := 0) C dX4_tryIt_9 rfl ?_
  refine z_bipush (x := 95) C dX4_tryIt_10 (by decide +kernel) ?_
  obtain ⟨a1, h2, hm⟩ := qb_i hm
  refine iv_X4_68 C (met_X4_copy l g hl hA n9 S 117 0 118 0 95 _ h2) ⟨by decide, by decide⟩ ⟨by decide, by decide⟩ (Nat.le_of_ble_eq_true rfl) dX4_tryIt_12 ?_
  exact z_vret C hr (by decide) (by decide) (by cases hm; rfl) dX4_tryIt_15

set_option maxHeartbeats 4000000 in
set_option maxRecDepth 100000 in
theorem met_X4_carCost (l : Launch) (g : qG) (hl : l.stackTraces = false) (hA : qAd g) (n9 : Nat) (S : qS) (u0 : Nat) (p1 : Int) (r : Int) (hm : MX4_carCost n9 S u0 p1 = some r) : qM l g yX4_carCost (.code yX4_carCost cX4_carCost 2 (some .int)) rmX4_carCost qkI [.ref (qad g u0), .int (qI p1)] S (.inr r) S := by
  rw [MX4_carCost] at hm
  obtain ⟨hq0, hm⟩ := qg_i hm
  refine qM_of (L := [(0, .ref (qad g u0)), (1, .int (qI p1))]) (by decide +kernel) rfl (Nat.le_of_ble_eq_true rfl) hl hA ?_
  intro p e s m below meth c C hr hT
  have C : qC g p l s m ([.ref (qad g u0), .int (qI p1)] : List Value).toArray meth c RX4 cX4_carCost 2 := C
  refine z_iconst (x := 3) C dX4_carCost_0 rfl ?_
  refine z_aload_n C dX4_carCost_1 0 rfl ?_
  refine z_bipush (x := 35) C dX4_carCost_2 (by decide +kernel) ?_
  refine z_iload_n C dX4_carCost_4 1 rfl ?_
  refine z_iadd C dX4_carCost_5 ?_
  refine z_iconst (x := 1) C dX4_carCost_6 rfl ?_
  refine z_iadd C dX4_carCost_7 ?_
  obtain ⟨h1, hm⟩ := qg_i hm
  refine z_iald (N := (qlen u0)) C (qlen_eq hq0) h1 (qlen_le _) dX4_carCost_8 ?_
  refine z_aload_n C dX4_carCost_9 0 rfl ?_
  refine z_iconst (x := 1) C dX4_carCost_10 rfl ?_
  obtain ⟨h2, hm⟩ := qg_i hm
  refine z_iald (N := (qlen u0)) C (qlen_eq hq0) h2 (qlen_le _) dX4_carCost_11 ?_
  refine z_isub C dX4_carCost_12 ?_
  obtain ⟨a3, h4, hm⟩ := qb_i hm
  refine iv_X4_72 C (met_X4_size l g hl hA n9 S ((S u0 ((35 + p1) + 1).toNat) - (S u0 (1 : Int).toNat)) _ h4) ⟨by decide, by decide⟩ ⟨by decide, by decide⟩ (Nat.le_of_ble_eq_true rfl) dX4_carCost_13 ?_
  refine z_imul C dX4_carCost_16 ?_
  refine z_aload_n C dX4_carCost_17 0 rfl ?_
  refine z_bipush (x := 65) C dX4_carCost_18 (by decide +kernel) ?_
  refine z_iload_n C dX4_carCost_20 1 rfl ?_
  refine z_iadd C dX4_carCost_21 ?_
  obtain ⟨h5, hm⟩ := qg_i hm
  refine z_iald (N := (qlen u0)) C (qlen_eq hq0) h5 (qlen_le _) dX4_carCost_22 ?_
  refine z_aload_n C dX4_carCost_23 0 rfl ?_
  refine z_bipush (x := 65) C dX4_carCost_24 (by decide +kernel) ?_
  refine z_iload_n C dX4_carCost_26 1 rfl ?_
  refine z_iadd C dX4_carCost_27 ?_
  refine z_iconst (x := 1) C dX4_carCost_28 rfl ?_
  refine z_iadd C dX4_carCost_29 ?_
  obtain ⟨h6, hm⟩ := qg_i hm
  refine z_iald (N := (qlen u0)) C (qlen_eq hq0) h6 (qlen_le _) dX4_carCost_30 ?_
  refine z_isub C dX4_carCost_31 ?_
  obtain ⟨a7, h8, hm⟩ := qb_i hm
  refine iv_X4_72 C (met_X4_size l g hl hA n9 S ((S u0 (65 + p1).toNat) - (S u0 ((65 + p1) + 1).toNat)) _ h8) ⟨by decide, by decide⟩ ⟨by decide, by decide⟩ (Nat.le_of_ble_eq_true rfl) dX4_carCost_32 ?_
  refine z_iadd C dX4_carCost_35 ?_
  exact z_iret C hr (by decide) (by decide) (by cases hm; rfl) dX4_carCost_36

set_option maxHeartbeats 4000000 in
set_option maxRecDepth 100000 in
theorem met_X4_gapCost (l : Launch) (g : qG) (hl : l.stackTraces = false) (hA : qAd g) (n9 : Nat) (S : qS) (u1 : Nat) (p2 : Int) (p3 : Int) (r : Int) (hm : MX4_gapCost n9 S u1 p2 p3 = some r) : qM l g yX4_gapCost (.code yX4_gapCost cX4_gapCost 5 (some .int)) rmX4_gapCost qkI [.ref (qad g 110), .ref (qad g u1), .int (qI p2), .int (qI p3)] S (.inr r) S := by
  rw [MX4_gapCost] at hm
  obtain ⟨hq1, hm⟩ := qg_i hm
  refine qM_of (L := [(0, .ref (qad g 110)), (1, .ref (qad g u1)), (2, .int (qI p2)), (3, .int (qI p3))]) (by decide +kernel) rfl (Nat.le_of_ble_eq_true rfl) hl hA ?_
  intro p e s m below meth c C hr hT
  have C : qC g p l s m ([.ref (qad g 110), .ref (qad g u1), .int (qI p2), .int (qI p3)] : List Value).toArray meth c RX4 cX4_gapCost 5 := C
  refine z_aload_n C dX4_gapCost_0 0 rfl ?_
  refine gf_X4_47 C rfl dX4_gapCost_1 ?_
  refine z_iload_n C dX4_gapCost_4 3 rfl ?_
  obtain ⟨h1, hm⟩ := qg_i hm
  refine z_iald (N := 31) C rfl h1 (by decide) dX4_gapCost_5 ?_
  refine z_aload_n C dX4_gapCost_6 0 rfl ?_
  refine gf_X4_47 C rfl dX4_gapCost_7 ?_
  refine z_iload_n C dX4_gapCost_10 2 rfl ?_
  obtain ⟨h2, hm⟩ := qg_i hm
  refine z_iald (N := 31) C rfl h2 (by decide) dX4_gapCost_11 ?_
  refine z_isub C dX4_gapCost_12 ?_
  obtain ⟨x3, e4, hm⟩ := ql_i hm
  refine z_topi e4 ?_
  refine z_istore (L' := [(4, .int (qI x3)), (0, .ref (qad g 110)), (1, .ref (qad g u1)), (2, .int (qI p2)), (3, .int (qI p3))]) C dX4_gapCost_13 (by decide) rfl ?_
  refine z_iload C dX4_gapCost_15 0 rfl ?_
  refine z_aload_n C dX4_gapCost_17 2 rfl ?_
  refine z_iconst (x := 2) C dX4_gapCost_18 rfl ?_
  obtain ⟨h5, hm⟩ := qg_i hm
  refine z_iald (N := (qlen u1)) C (qlen_eq hq1) h5 (qlen_le _) dX4_gapCost_19 ?_
  obtain ⟨h6, hm⟩ := qg_i hm
  obtain ⟨h7, hm⟩ := qg_i hm
  refine z_icmp_ge (tgt := 34) C dX4_gapCost_20 (by decide) ⟨h6, h7⟩ (fun c8 => ?_) (fun c8 => ?_)
  · have hm := qt_i hm c8
    refine z_iconst (x := 0) C dX4_gapCost_34 rfl ?_
    exact z_iret C hr (by decide) (by decide) (by cases hm; rfl) dX4_gapCost_35
  · have hm := qf_i hm c8
    refine z_iconst (x := 2) C dX4_gapCost_23 rfl ?_
    refine z_aload_n C dX4_gapCost_24 2 rfl ?_
    refine z_iconst (x := 2) C dX4_gapCost_25 rfl ?_
    obtain ⟨h9, hm⟩ := qg_i hm
    refine z_iald (N := (qlen u1)) C (qlen_eq hq1) h9 (qlen_le _) dX4_gapCost_26 ?_
    refine z_iload C dX4_gapCost_27 0 rfl ?_
    refine z_isub C dX4_gapCost_29 ?_
    refine z_imul C dX4_gapCost_30 ?_
    refine z_goto (tgt := 35) C dX4_gapCost_31 (by decide) ?_
    exact z_iret C hr (by decide) (by decide) (by cases hm; rfl) dX4_gapCost_35

set_option maxHeartbeats 4000000 in
set_option maxRecDepth 100000 in
theorem met_X4_place (l : Launch) (g : qG) (hl : l.stackTraces = false) (hA : qAd g) (n9 : Nat) (S : qS) (p0 : Int) (p1 : Int) (p2 : Int) (r : Int) (hm : MX4_place n9 S p0 p1 p2 = some r) : qM l g yX4_place (.code yX4_place cX4_place 3 (some .int)) rmX4_place qkI [.int (qI p0), .int (qI p1), .int (qI p2)] S (.inr r) S := by
  rw [MX4_place] at hm
  refine qM_of (L := [(0, .int (qI p0)), (1, .int (qI p1)), (2, .int (qI p2))]) (by decide +kernel) rfl (Nat.le_of_ble_eq_true rfl) hl hA ?_
  intro p e s m below meth c C hr hT
  have C : qC g p l s m ([.int (qI p0), .int (qI p1), .int (qI p2)] : List Value).toArray meth c RX4 cX4_place 3 := C
  refine z_bipush (x := 32) C dX4_place_0 (by decide +kernel) ?_
  refine z_iload_n C dX4_place_2 1 rfl ?_
  refine z_iload_n C dX4_place_3 0 rfl ?_
  refine z_isub C dX4_place_4 ?_
  refine z_imul C dX4_place_5 ?_
  refine z_iload_n C dX4_place_6 2 rfl ?_
  refine z_iadd C dX4_place_7 ?_
  exact z_iret C hr (by decide) (by decide) (by cases hm; rfl) dX4_place_8

set_option maxHeartbeats 4000000 in
set_option maxRecDepth 100000 in
theorem met_X4_withCar (l : Launch) (g : qG) (hl : l.stackTraces = false) (hA : qAd g) (n9 : Nat) (S : qS) (u1 : Nat) (p2 : Int) (p3 : Int) (p4 : Int) (r : Int) (hm : MX4_withCar n9 S u1 p2 p3 p4 = some r) : qM l g yX4_withCar (.code yX4_withCar cX4_withCar 6 (some .int)) rmX4_withCar qkI [.ref (qad g 110), .ref (qad g u1), .int (qI p2), .int (qI p3), .int (qI p4)] S (.inr r) S := by
  rw [MX4_withCar] at hm
  obtain ⟨hq1, hm⟩ := qg_i hm
  refine qM_of (L := [(0, .ref (qad g 110)), (1, .ref (qad g u1)), (2, .int (qI p2)), (3, .int (qI p3)), (4, .int (qI p4))]) (by decide +kernel) rfl (Nat.le_of_ble_eq_true rfl) hl hA ?_
  intro p e s m below meth c C hr hT
  have C : qC g p l s m ([.ref (qad g 110), .ref (qad g u1), .int (qI p2), .int (qI p3), .int (qI p4)] : List Value).toArray meth c RX4 cX4_withCar 6 := C
  refine z_iload C dX4_withCar_0 4 rfl ?_
  obtain ⟨h1, hm⟩ := qg_i hm
  obtain ⟨j3, e9, hm⟩ := ql_i hm
  have hj3 : ∀ (v2 : Int), j3 v2 = some r → qZ g p l e rmX4_withCar s m ([.ref (qad g 110), .ref (qad g u1), .int (qI p2), .int (qI p3), .int (qI p4)] : List Value).toArray below meth c (qQ g below qkI (.inr r) S ([.ref (qad g 110), .ref (qad g u1), .int (qI p2), .int (qI p3), .int (qI p4)] : List Value).toArray s rmX4_withCar) 6 S [(0, .ref (qad g 110)), (1, .ref (qad g u1)), (2, .int (qI p2)), (3, .int (qI p3))] 21 [.int (qI v2)] 0 0 := by
    intro v2 hm
    rw [e9] at hm
    refine z_istore (L' := [(5, .int (qI v2)), (0, .ref (qad g 110)), (1, .ref (qad g u1)), (2, .int (qI p2)), (3, .int (qI p3))]) C dX4_withCar_21 (by decide) rfl ?_
    refine z_bipush (x := 100) C dX4_withCar_23 (by decide +kernel) ?_
    refine z_aload_n C dX4_withCar_25 2 rfl ?_
    refine z_iload_n C dX4_withCar_26 4 rfl ?_
    obtain ⟨a4, h5, hm⟩ := qb_i hm
    refine iv_X4_80 C (met_X4_carCost l g hl hA n9 S u1 p3 _ h5) ⟨by decide, by decide⟩ ⟨by decide, by decide⟩ (Nat.le_of_ble_eq_true rfl) dX4_withCar_27 ?_
    refine z_iload C dX4_withCar_30 0 rfl ?_
    refine z_iadd C dX4_withCar_32 ?_
    refine z_imul C dX4_withCar_33 ?_
    refine z_iconst (x := 1) C dX4_withCar_34 rfl ?_
    refine z_isub C dX4_withCar_35 ?_
    refine z_aload_n C dX4_withCar_36 1 rfl ?_
    refine gf_X4_44 C rfl dX4_withCar_37 ?_
    refine z_iload_n C dX4_withCar_40 3 rfl ?_
    refine z_iload_n C dX4_withCar_41 4 rfl ?_
    refine z_iconst (x := 2) C dX4_withCar_42 rfl ?_
    refine z_iadd C dX4_withCar_43 ?_
    refine z_iload_n C dX4_withCar_44 4 rfl ?_
    refine z_iconst (x := 2) C dX4_withCar_45 rfl ?_
    refine z_iadd C dX4_withCar_46 ?_
    refine z_iload_n C dX4_withCar_47 3 rfl ?_
    refine z_isub C dX4_withCar_48 ?_
    obtain ⟨a6, h7, hm⟩ := qb_i hm
    refine iv_X4_84 C (met_X4_place l g hl hA n9 S p2 (p3 + 2) ((p3 + 2) - p2) _ h7) ⟨by decide, by decide⟩ ⟨by decide, by decide⟩ (Nat.le_of_ble_eq_true rfl) dX4_withCar_49 ?_
    obtain ⟨h8, hm⟩ := qg_i hm
    refine z_iald (N := 1024) C rfl h8 (by decide) dX4_withCar_52 ?_
    refine z_iadd C dX4_withCar_53 ?_
    exact z_iret C hr (by decide) (by decide) (by cases hm; rfl) dX4_withCar_54
  clear e9
  refine z_if_ne (tgt := 9) C dX4_withCar_2 (by decide) h1 (fun c10 => ?_) (fun c10 => ?_)
  · have hm := qt_i hm c10
    refine z_iconst (x := 0) C dX4_withCar_5 rfl ?_
    refine z_goto (tgt := 21) C dX4_withCar_6 (by decide) ?_
    refine z_sub (L' := [(0, .ref (qad g 110)), (1, .ref (qad g u1)), (2, .int (qI p2)), (3, .int (qI p3))]) [0, 1, 2, 3] rfl ?_
    exact hj3 0 hm
  · have hm := qf_i hm c10
    refine z_aload_n C dX4_withCar_9 0 rfl ?_
    refine z_aload_n C dX4_withCar_10 1 rfl ?_
    refine z_iload_n C dX4_withCar_11 2 rfl ?_
    refine z_iload C dX4_withCar_12 4 rfl ?_
    refine z_iadd C dX4_withCar_14 ?_
    refine z_iconst (x := 1) C dX4_withCar_15 rfl ?_
    refine z_isub C dX4_withCar_16 ?_
    refine z_iload_n C dX4_withCar_17 3 rfl ?_
    obtain ⟨a11, h12, hm⟩ := qb_i hm
    refine iv_X4_76 C (met_X4_gapCost l g hl hA n9 S u1 ((p2 + p4) - 1) p3 _ h12) rfl ⟨by decide, by decide⟩ ⟨by decide, by decide⟩ (Nat.le_of_ble_eq_true rfl) dX4_withCar_18 ?_
    refine z_sub (L' := [(0, .ref (qad g 110)), (1, .ref (qad g u1)), (2, .int (qI p2)), (3, .int (qI p3))]) [0, 1, 2, 3] rfl ?_
    exact hj3 a11 hm

set_option maxHeartbeats 4000000 in
set_option maxRecDepth 100000 in
theorem met_X4_withStray (l : Launch) (g : qG) (hl : l.stackTraces = false) (hA : qAd g) (n9 : Nat) (S : qS) (u1 : Nat) (p2 : Int) (p3 : Int) (p4 : Int) (r : Int) (hm : MX4_withStray n9 S u1 p2 p3 p4 = some r) : qM l g yX4_withStray (.code yX4_withStray cX4_withStray 5 (some .int)) rmX4_withStray qkI [.ref (qad g 110), .ref (qad g u1), .int (qI p2), .int (qI p3), .int (qI p4)] S (.inr r) S := by
  rw [MX4_withStray] at hm
  obtain ⟨hq1, hm⟩ := qg_i hm
  refine qM_of (L := [(0, .ref (qad g 110)), (1, .ref (qad g u1)), (2, .int (qI p2)), (3, .int (qI p3)), (4, .int (qI p4))]) (by decide +kernel) rfl (Nat.le_of_ble_eq_true rfl) hl hA ?_
  intro p e s m below meth c C hr hT
  have C : qC g p l s m ([.ref (qad g 110), .ref (qad g u1), .int (qI p2), .int (qI p3), .int (qI p4)] : List Value).toArray meth c RX4 cX4_withStray 5 := C
  refine z_bipush (x := 100) C dX4_withStray_0 (by decide +kernel) ?_
  refine z_aload_n C dX4_withStray_2 1 rfl ?_
  refine z_iconst (x := 3) C dX4_withStray_3 rfl ?_
  obtain ⟨h1, hm⟩ := qg_i hm
  refine z_iald (N := (qlen u1)) C (qlen_eq hq1) h1 (qlen_le _) dX4_withStray_4 ?_
  refine z_imul C dX4_withStray_5 ?_
  refine z_aload_n C dX4_withStray_6 0 rfl ?_
  refine gf_X4_44 C rfl dX4_withStray_7 ?_
  refine z_iload_n C dX4_withStray_10 2 rfl ?_
  refine z_iload_n C dX4_withStray_11 3 rfl ?_
  refine z_iconst (x := 1) C dX4_withStray_12 rfl ?_
  refine z_iadd C dX4_withStray_13 ?_
  refine z_iload C dX4_withStray_14 4 rfl ?_
  obtain ⟨a2, h3, hm⟩ := qb_i hm
  refine iv_X4_84 C (met_X4_place l g hl hA n9 S p2 (p3 + 1) p4 _ h3) ⟨by decide, by decide⟩ ⟨by decide, by decide⟩ (Nat.le_of_ble_eq_true rfl) dX4_withStray_16 ?_
  obtain ⟨h4, hm⟩ := qg_i hm
  refine z_iald (N := 1024) C rfl h4 (by decide) dX4_withStray_19 ?_
  refine z_iadd C dX4_withStray_20 ?_
  exact z_iret C hr (by decide) (by decide) (by cases hm; rfl) dX4_withStray_21

set_option maxHeartbeats 4000000 in
set_option maxRecDepth 100000 in
theorem met_X4_canPair (l : Launch) (g : qG) (hl : l.stackTraces = false) (hA : qAd g) (n9 : Nat) (S : qS) (p0 : Int) (p1 : Int) (p2 : Int) (r : Int) (hm : MX4_canPair n9 S p0 p1 p2 = some r) : qM l g yX4_canPair (.code yX4_canPair cX4_canPair 3 (some .boolean)) rmX4_canPair qkI [.int (qI p0), .int (qI p1), .int (qI p2)] S (.inr r) S := by
  rw [MX4_canPair] at hm
  refine qM_of (L := [(0, .int (qI p0)), (1, .int (qI p1)), (2, .int (qI p2))]) (by decide +kernel) rfl (Nat.le_of_ble_eq_true rfl) hl hA ?_
  intro p e s m below meth c C hr hT
  have C : qC g p l s m ([.int (qI p0), .int (qI p1), .int (qI p2)] : List Value).toArray meth c RX4 cX4_canPair 3 := C
  refine z_iload_n C dX4_canPair_0 0 rfl ?_
  refine z_iconst (x := 1) C dX4_canPair_1 rfl ?_
  refine z_iadd C dX4_canPair_2 ?_
  refine z_iload_n C dX4_canPair_3 1 rfl ?_
  obtain ⟨h1, hm⟩ := qg_i hm
  obtain ⟨h2, hm⟩ := qg_i hm
  refine z_icmp_ge (tgt := 23) C dX4_canPair_4 (by decide) ⟨h1, h2⟩ (fun c3 => ?_) (fun c3 => ?_)
  · have hm := qt_i hm c3
    refine z_iconst (x := 0) C dX4_canPair_23 rfl ?_
    exact z_zret C hr (by decide) (by decide) (by decide) (by cases hm; rfl) dX4_canPair_24
  · have hm := qf_i hm c3
    refine z_iload_n C dX4_canPair_7 0 rfl ?_
    refine z_iload_n C dX4_canPair_8 2 rfl ?_
    obtain ⟨h4, hm⟩ := qg_i hm
    obtain ⟨h5, hm⟩ := qg_i hm
    refine z_icmp_eq (tgt := 23) C dX4_canPair_9 (by decide) ⟨h4, h5⟩ (fun c6 => ?_) (fun c6 => ?_)
    · have hm := qt_i hm c6
      refine z_iconst (x := 0) C dX4_canPair_23 rfl ?_
      exact z_zret C hr (by decide) (by decide) (by decide) (by cases hm; rfl) dX4_canPair_24
    · have hm := qf_i hm c6
      refine z_iload_n C dX4_canPair_12 0 rfl ?_
      refine z_iconst (x := 1) C dX4_canPair_13 rfl ?_
      refine z_iadd C dX4_canPair_14 ?_
      refine z_iload_n C dX4_canPair_15 2 rfl ?_
      refine z_icmp_eq (tgt := 23) C dX4_canPair_16 (by decide) ⟨h1, h5⟩ (fun c7 => ?_) (fun c7 => ?_)
      · have hm := qt_i hm c7
        refine z_iconst (x := 0) C dX4_canPair_23 rfl ?_
        exact z_zret C hr (by decide) (by decide) (by decide) (by cases hm; rfl) dX4_canPair_24
      · have hm := qf_i hm c7
        refine z_iconst (x := 1) C dX4_canPair_19 rfl ?_
        refine z_goto (tgt := 24) C dX4_canPair_20 (by decide) ?_
        exact z_zret C hr (by decide) (by decide) (by decide) (by cases hm; rfl) dX4_canPair_24

set_option maxHeartbeats 4000000 in
set_option maxRecDepth 100000 in
theorem met_X4_layRest_l44 {g : qG} {p : Program} {l : Launch} {e : Env} {s : State} {m : MethodId} {args : Array Value} {below : List Frame} {meth : Method} {c : Code} (C : qC g p l s m args meth c RX4 cX4_layRest 9) (hr : meth.sig.returnType = (some .int)) (hT : ∀ x ∈ c.exceptionTable.toList, False) (n9 : Nat) (u1 : Nat) (p2 : Int) (p3 : Int) (p4 : Int) (x13 : Int) {r : Int × qS} (k125 : qS → Option (Int × qS)) (hq1 : 10 ≤ qk u1) (hk125 : ∀ (y1 : qS), k125 y1 = some r → qZ g p l e rmX4_layRest s m args below meth c (qQ g below qkI (.inr r.1) r.2 args s rmX4_layRest) 9 y1 [(0, .ref (qad g 110)), (1, .ref (qad g u1)), (2, .int (qI p2)), (3, .int (qI p3)), (4, .int (qI p4)), (5, .int (qI x13))] 125 [] 0 0) : ∀ (f : Nat) (S20 : qS) (x21 : Int), MX4_layRest_l44 n9 u1 p2 p3 p4 x13 k125 f S20 x21 = some r → qZ g p l e rmX4_layRest s m args below meth c (qQ g below qkI (.inr r.1) r.2 args s rmX4_layRest) 9 S20 [(0, .ref (qad g 110)), (1, .ref (qad g u1)), (2, .int (qI p2)), (3, .int (qI p3)), (4, .int (qI p4)), (5, .int (qI x13)), (6, .int (qI x21))] 44 [] 0 0 := by
  intro f
  induction f with
  | zero => intro S20 x21 hm; rw [MX4_layRest_l44] at hm; cases hm
  | succ f ih =>
    intro S20 x21 hm
    rw [MX4_layRest_l44] at hm
    have hl := C.2.2.2.2.2.2.2.2
    have hA := C.2.2.2.2.2.2.1
    refine z_iload C dX4_layRest_44 6 rfl ?_
    refine z_iload C dX4_layRest_46 5 rfl ?_
    refine z_iload_n C dX4_layRest_48 2 rfl ?_
    refine z_isub C dX4_layRest_49 ?_
    obtain ⟨h22, hm⟩ := qg_i hm
    obtain ⟨h23, hm⟩ := qg_i hm
    refine z_icmp_gt (tgt := 125) C dX4_layRest_50 (by decide) ⟨h22, h23⟩ (fun c24 => ?_) (fun c24 => ?_)
    · have hm := qt_i hm c24
      refine z_sub (L' := [(0, .ref (qad g 110)), (1, .ref (qad g u1)), (2, .int (qI p2)), (3, .int (qI p3)), (4, .int (qI p4)), (5, .int (qI x13))]) [0, 1, 2, 3, 4, 5] rfl ?_
      exact hk125 S20 hm
    · have hm := qf_i hm c24
      refine z_aload_n C dX4_layRest_53 0 rfl ?_
      refine z_aload_n C dX4_layRest_54 1 rfl ?_
      refine z_iload_n C dX4_layRest_55 2 rfl ?_
      refine z_iload C dX4_layRest_56 5 rfl ?_
      refine z_iload C dX4_layRest_58 6 rfl ?_
      obtain ⟨a25, h26, hm⟩ := qb_i hm
      refine iv_X4_88 C (met_X4_withStray l g hl hA n9 S20 u1 p2 x13 x21 _ h26) rfl ⟨by decide, by decide⟩ ⟨by decide, by decide⟩ (Nat.le_of_ble_eq_true rfl) dX4_layRest_60 ?_
      refine z_istore (L' := [(7, .int (qI a25)), (0, .ref (qad g 110)), (1, .ref (qad g u1)), (2, .int (qI p2)), (3, .int (qI p3)), (4, .int (qI p4)), (5, .int (qI x13)), (6, .int (qI x21))]) C dX4_layRest_63 (by decide) rfl ?_
      refine z_iload C dX4_layRest_65 6 rfl ?_
      refine z_iload_n C dX4_layRest_67 4 rfl ?_
      refine z_iload C dX4_layRest_68 5 rfl ?_
      obtain ⟨a27, h28, hm⟩ := qb_i hm
      refine iv_X4_92 C (met_X4_canPair l g hl hA n9 S20 x13 p3 p4 _ h28) ⟨by decide, by decide⟩ ⟨by decide, by decide⟩ (Nat.le_of_ble_eq_true rfl) dX4_layRest_70 ?_
      obtain ⟨h29, hm⟩ := qg_i hm
      obtain ⟨j31, e37, hm⟩ := ql_i hm
      have hj31 : ∀ (x30 : Int), j31 x30 = some r → qZ g p l e rmX4_layRest s m args below meth c (qQ g below qkI (.inr r.1) r.2 args s rmX4_layRest) 9 S20 [(0, .ref (qad g 110)), (1, .ref (qad g u1)), (2, .int (qI p2)), (3, .int (qI p3)), (4, .int (qI p4)), (5, .int (qI x13)), (6, .int (qI x21)), (7, .int (qI x30))] 104 [] 0 0 := by
        intro x30 hm
        rw [e37] at hm
        refine z_aload_n C dX4_layRest_104 0 rfl ?_
        refine gf_X4_44 C rfl dX4_layRest_105 ?_
        refine z_iload_n C dX4_layRest_108 2 rfl ?_
        refine z_iload C dX4_layRest_109 5 rfl ?_
        refine z_iload C dX4_layRest_111 6 rfl ?_
        obtain ⟨a32, h33, hm⟩ := qb_i hm
        refine iv_X4_84 C (met_X4_place l g hl hA n9 S20 p2 x13 x21 _ h33) ⟨by decide, by decide⟩ ⟨by decide, by decide⟩ (Nat.le_of_ble_eq_true rfl) dX4_layRest_113 ?_
        refine z_iload C dX4_layRest_116 7 rfl ?_
        obtain ⟨h34, hm⟩ := qg_i hm
        refine z_iast (N := 1024) C rfl h34 (by decide) dX4_layRest_118 ?_
        obtain ⟨S35, e36, hm⟩ := ql_i hm
        refine z_S e36 ?_
        refine z_iinc (L' := [(6, .int (qI (x21 + 1))), (0, .ref (qad g 110)), (1, .ref (qad g u1)), (2, .int (qI p2)), (3, .int (qI p3)), (4, .int (qI p4)), (5, .int (qI x13)), (7, .int (qI x30))]) C dX4_layRest_119 6 rfl (by decide) rfl ?_
        refine z_goto (tgt := 44) C dX4_layRest_122 (by decide) ?_
        refine z_sub (L' := [(0, .ref (qad g 110)), (1, .ref (qad g u1)), (2, .int (qI p2)), (3, .int (qI p3)), (4, .int (qI p4)), (5, .int (qI x13)), (6, .int (qI (x21 + 1)))]) [1, 2, 3, 4, 5, 6, 0] rfl ?_
        exact ih S35 (x21 + 1) hm
      clear e37
      refine z_if_eq (tgt := 104) C dX4_layRest_73 (by decide) h29 (fun c38 => ?_) (fun c38 => ?_)
      · have hm := qt_i hm c38
        refine z_sub (L' := [(0, .ref (qad g 110)), (1, .ref (qad g u1)), (2, .int (qI p2)), (3, .int (qI p3)), (4, .int (qI p4)), (5, .int (qI x13)), (6, .int (qI x21)), (7, .int (qI a25))]) [1, 2, 3, 4, 5, 6, 7, 0] rfl ?_
        exact hj31 a25 hm
      · have hm := qf_i hm c38
        refine z_aload_n C dX4_layRest_76 1 rfl ?_
        refine z_aload_n C dX4_layRest_77 2 rfl ?_
        refine z_iload_n C dX4_layRest_78 3 rfl ?_
        refine z_iload C dX4_layRest_79 6 rfl ?_
        refine z_iload C dX4_layRest_81 7 rfl ?_
        obtain ⟨a39, h40, hm⟩ := qb_i hm
        refine iv_X4_96 C (met_X4_withCar l g hl hA n9 S20 u1 p2 x13 x21 _ h40) rfl ⟨by decide, by decide⟩ ⟨by decide, by decide⟩ (Nat.le_of_ble_eq_true rfl) dX4_layRest_83 ?_
        refine z_istore (L' := [(8, .int (qI a39)), (7, .int (qI a25)), (0, .ref (qad g 110)), (1, .ref (qad g u1)), (2, .int (qI p2)), (3, .int (qI p3)), (4, .int (qI p4)), (5, .int (qI x13)), (6, .int (qI x21))]) C dX4_layRest_86 (by decide) rfl ?_
        refine z_iload C dX4_layRest_88 0 rfl ?_
        refine z_iload C dX4_layRest_90 1 rfl ?_
        obtain ⟨h41, hm⟩ := qg_i hm
        obtain ⟨h42, hm⟩ := qg_i hm
        obtain ⟨j44, e45, hm⟩ := ql_i hm
        have hj44 : ∀ (v43 : Int), j44 v43 = some r → qZ g p l e rmX4_layRest s m args below meth c (qQ g below qkI (.inr r.1) r.2 args s rmX4_layRest) 9 S20 [(0, .ref (qad g 110)), (1, .ref (qad g u1)), (2, .int (qI p2)), (3, .int (qI p3)), (4, .int (qI p4)), (5, .int (qI x13)), (6, .int (qI x21))] 102 [.int (qI v43)] 0 0 := by
          intro v43 hm
          rw [e45] at hm
          refine z_istore (L' := [(7, .int (qI v43)), (0, .ref (qad g 110)), (1, .ref (qad g u1)), (2, .int (qI p2)), (3, .int (qI p3)), (4, .int (qI p4)), (5, .int (qI x13)), (6, .int (qI x21))]) C dX4_layRest_102 (by decide) rfl ?_
          refine z_sub (L' := [(0, .ref (qad g 110)), (1, .ref (qad g u1)), (2, .int (qI p2)), (3, .int (qI p3)), (4, .int (qI p4)), (5, .int (qI x13)), (6, .int (qI x21)), (7, .int (qI v43))]) [1, 2, 3, 4, 5, 6, 7, 0] rfl ?_
          exact hj31 v43 hm
        clear e45
        refine z_icmp_gt (tgt := 100) C dX4_layRest_92 (by decide) ⟨h41, h42⟩ (fun c46 => ?_) (fun c46 => ?_)
        · have hm := qt_i hm c46
          refine z_iload C dX4_layRest_100 1 rfl ?_
          refine z_sub (L' := [(0, .ref (qad g 110)), (1, .ref (qad g u1)), (2, .int (qI p2)), (3, .int (qI p3)), (4, .int (qI p4)), (5, .int (qI x13)), (6, .int (qI x21))]) [2, 3, 4, 5, 6, 7, 8] rfl ?_
          exact hj44 a25 hm
        · have hm := qf_i hm c46
          refine z_iload C dX4_layRest_95 0 rfl ?_
          refine z_goto (tgt := 102) C dX4_layRest_97 (by decide) ?_
          refine z_sub (L' := [(0, .ref (qad g 110)), (1, .ref (qad g u1)), (2, .int (qI p2)), (3, .int (qI p3)), (4, .int (qI p4)), (5, .int (qI x13)), (6, .int (qI x21))]) [2, 3, 4, 5, 6, 7, 8] rfl ?_
          exact hj44 a39 hm

set_option maxHeartbeats 4000000 in
set_option maxRecDepth 100000 in
theorem met_X4_layRest_l35 {g : qG} {p : Program} {l : Launch} {e : Env} {s : State} {m : MethodId} {args : Array Value} {below : List Frame} {meth : Method} {c : Code} (C : qC g p l s m args meth c RX4 cX4_layRest 9) (hr : meth.sig.returnType = (some .int)) (hT : ∀ x ∈ c.exceptionTable.toList, False) (n9 : Nat) (u1 : Nat) (p2 : Int) (p3 : Int) (p4 : Int) {r : Int × qS} (k131 : qS → Option (Int × qS)) (hq1 : 10 ≤ qk u1) (hk131 : ∀ (y1 : qS), k131 y1 = some r → qZ g p l e rmX4_layRest s m args below meth c (qQ g below qkI (.inr r.1) r.2 args s rmX4_layRest) 9 y1 [(0, .ref (qad g 110)), (2, .int (qI p2))] 131 [] 0 0) : ∀ (f : Nat) (S12 : qS) (x13 : Int), MX4_layRest_l35 n9 u1 p2 p3 p4 k131 f S12 x13 = some r → qZ g p l e rmX4_layRest s m args below meth c (qQ g below qkI (.inr r.1) r.2 args s rmX4_layRest) 9 S12 [(0, .ref (qad g 110)), (1, .ref (qad g u1)), (2, .int (qI p2)), (3, .int (qI p3)), (4, .int (qI p4)), (5, .int (qI x13))] 35 [] 0 0 := by
  intro f
  induction f with
  | zero => intro S12 x13 hm; rw [MX4_layRest_l35] at hm; cases hm
  | succ f ih =>
    intro S12 x13 hm
    rw [MX4_layRest_l35] at hm
    have hl := C.2.2.2.2.2.2.2.2
    have hA := C.2.2.2.2.2.2.1
    refine z_iload C dX4_layRest_35 5 rfl ?_
    refine z_iload_n C dX4_layRest_37 2 rfl ?_
    obtain ⟨h14, hm⟩ := qg_i hm
    obtain ⟨h15, hm⟩ := qg_i hm
    refine z_icmp_lt (tgt := 131) C dX4_layRest_38 (by decide) ⟨h14, h15⟩ (fun c16 => ?_) (fun c16 => ?_)
    · have hm := qt_i hm c16
      refine z_sub (L' := [(0, .ref (qad g 110)), (2, .int (qI p2))]) [0, 2] rfl ?_
      exact hk131 S12 hm
    · have hm := qf_i hm c16
      refine z_iconst (x := 0) C dX4_layRest_41 rfl ?_
      refine z_istore (L' := [(6, .int (qI 0)), (0, .ref (qad g 110)), (1, .ref (qad g u1)), (2, .int (qI p2)), (3, .int (qI p3)), (4, .int (qI p4)), (5, .int (qI x13))]) C dX4_layRest_42 (by decide) rfl ?_
      obtain ⟨j18, e19, hm⟩ := ql_i hm
      have hj18 : ∀ (S17 : qS), j18 S17 = some r → qZ g p l e rmX4_layRest s m args below meth c (qQ g below qkI (.inr r.1) r.2 args s rmX4_layRest) 9 S17 [(0, .ref (qad g 110)), (1, .ref (qad g u1)), (2, .int (qI p2)), (3, .int (qI p3)), (4, .int (qI p4)), (5, .int (qI x13))] 125 [] 0 0 := by
        intro S17 hm
        rw [e19] at hm
        refine z_iinc (L' := [(5, .int (qI (x13 + (-1)))), (0, .ref (qad g 110)), (1, .ref (qad g u1)), (2, .int (qI p2)), (3, .int (qI p3)), (4, .int (qI p4))]) C dX4_layRest_125 5 rfl (by decide) rfl ?_
        refine z_goto (tgt := 35) C dX4_layRest_128 (by decide) ?_
        refine z_sub (L' := [(0, .ref (qad g 110)), (1, .ref (qad g u1)), (2, .int (qI p2)), (3, .int (qI p3)), (4, .int (qI p4)), (5, .int (qI (x13 + (-1))))]) [1, 2, 3, 4, 5, 0] rfl ?_
        exact ih S17 (x13 + (-1)) hm
      clear e19
      refine z_sub (L' := [(0, .ref (qad g 110)), (1, .ref (qad g u1)), (2, .int (qI p2)), (3, .int (qI p3)), (4, .int (qI p4)), (5, .int (qI x13)), (6, .int (qI 0))]) [1, 2, 3, 4, 5, 6, 0] rfl ?_
      exact met_X4_layRest_l44 C hr hT n9 u1 p2 p3 p4 x13 j18 hq1 hj18 n9 S12 0 hm

set_option maxHeartbeats 4000000 in
set_option maxRecDepth 100000 in
theorem met_X4_layRest_l3 {g : qG} {p : Program} {l : Launch} {e : Env} {s : State} {m : MethodId} {args : Array Value} {below : List Frame} {meth : Method} {c : Code} (C : qC g p l s m args meth c RX4 cX4_layRest 9) (hr : meth.sig.returnType = (some .int)) (hT : ∀ x ∈ c.exceptionTable.toList, False) (n9 : Nat) (u1 : Nat) (p2 : Int) (p3 : Int) (p4 : Int) {r : Int × qS} (k30 : qS → Option (Int × qS)) (hq1 : 10 ≤ qk u1) (hk30 : ∀ (y1 : qS), k30 y1 = some r → qZ g p l e rmX4_layRest s m args below meth c (qQ g below qkI (.inr r.1) r.2 args s rmX4_layRest) 9 y1 [(0, .ref (qad g 110)), (1, .ref (qad g u1)), (2, .int (qI p2)), (3, .int (qI p3)), (4, .int (qI p4))] 30 [] 0 0) : ∀ (f : Nat) (S48 : qS) (x49 : Int), MX4_layRest_l3 n9 u1 p2 p3 p4 k30 f S48 x49 = some r → qZ g p l e rmX4_layRest s m args below meth c (qQ g below qkI (.inr r.1) r.2 args s rmX4_layRest) 9 S48 [(0, .ref (qad g 110)), (1, .ref (qad g u1)), (2, .int (qI p2)), (3, .int (qI p3)), (4, .int (qI p4)), (5, .int (qI x49))] 3 [] 0 0 := by
  intro f
  induction f with
  | zero => intro S48 x49 hm; rw [MX4_layRest_l3] at hm; cases hm
  | succ f ih =>
    intro S48 x49 hm
    rw [MX4_layRest_l3] at hm
    have hl := C.2.2.2.2.2.2.2.2
    have hA := C.2.2.2.2.2.2.1
    refine z_iload C dX4_layRest_3 5 rfl ?_
    refine z_iload_n C dX4_layRest_5 3 rfl ?_
    refine z_iload_n C dX4_layRest_6 2 rfl ?_
    refine z_isub C dX4_layRest_7 ?_
    obtain ⟨h50, hm⟩ := qg_i hm
    obtain ⟨h51, hm⟩ := qg_i hm
    refine z_icmp_gt (tgt := 30) C dX4_layRest_8 (by decide) ⟨h50, h51⟩ (fun c52 => ?_) (fun c52 => ?_)
    · have hm := qt_i hm c52
      refine z_sub (L' := [(0, .ref (qad g 110)), (1, .ref (qad g u1)), (2, .int (qI p2)), (3, .int (qI p3)), (4, .int (qI p4))]) [0, 1, 2, 3, 4] rfl ?_
      exact hk30 S48 hm
    · have hm := qf_i hm c52
      refine z_aload_n C dX4_layRest_11 0 rfl ?_
      refine gf_X4_44 C rfl dX4_layRest_12 ?_
      refine z_iload_n C dX4_layRest_15 2 rfl ?_
      refine z_iload_n C dX4_layRest_16 3 rfl ?_
      refine z_iload C dX4_layRest_17 5 rfl ?_
      obtain ⟨a53, h54, hm⟩ := qb_i hm
      refine iv_X4_84 C (met_X4_place l g hl hA n9 S48 p2 p3 x49 _ h54) ⟨by decide, by decide⟩ ⟨by decide, by decide⟩ (Nat.le_of_ble_eq_true rfl) dX4_layRest_19 ?_
      refine z_iconst (x := 0) C dX4_layRest_22 rfl ?_
      obtain ⟨h55, hm⟩ := qg_i hm
      refine z_iast (N := 1024) C rfl h55 (by decide) dX4_layRest_23 ?_
      obtain ⟨S56, e57, hm⟩ := ql_i hm
      refine z_S e57 ?_
      refine z_iinc (L' := [(5, .int (qI (x49 + 1))), (0, .ref (qad g 110)), (1, .ref (qad g u1)), (2, .int (qI p2)), (3, .int (qI p3)), (4, .int (qI p4))]) C dX4_layRest_24 5 rfl (by decide) rfl ?_
      refine z_goto (tgt := 3) C dX4_layRest_27 (by decide) ?_
      refine z_sub (L' := [(0, .ref (qad g 110)), (1, .ref (qad g u1)), (2, .int (qI p2)), (3, .int (qI p3)), (4, .int (qI p4)), (5, .int (qI (x49 + 1)))]) [1, 2, 3, 4, 5, 0] rfl ?_
      exact ih S56 (x49 + 1) hm

set_option maxHeartbeats 4000000 in
set_option maxRecDepth 100000 in
theorem met_X4_layRest (l : Launch) (g : qG) (hl : l.stackTraces = false) (hA : qAd g) (n9 : Nat) (S : qS) (u1 : Nat) (p2 : Int) (p3 : Int) (p4 : Int) (r : Int × qS) (hm : MX4_layRest n9 S u1 p2 p3 p4 = some r) : qM l g yX4_layRest (.code yX4_layRest cX4_layRest 9 (some .int)) rmX4_layRest qkI [.ref (qad g 110), .ref (qad g u1), .int (qI p2), .int (qI p3), .int (qI p4)] S (.inr r.1) r.2 := by
  rw [MX4_layRest] at hm
  obtain ⟨hq1, hm⟩ := qg_i hm
  refine qM_of (L := [(0, .ref (qad g 110)), (1, .ref (qad g u1)), (2, .int (qI p2)), (3, .int (qI p3)), (4, .int (qI p4))]) (by decide +kernel) rfl (Nat.le_of_ble_eq_true rfl) hl hA ?_
  intro p e s m below meth c C hr hT
  have C : qC g p l s m ([.ref (qad g 110), .ref (qad g u1), .int (qI p2), .int (qI p3), .int (qI p4)] : List Value).toArray meth c RX4 cX4_layRest 9 := C
  refine z_iconst (x := 0) C dX4_layRest_0 rfl ?_
  refine z_istore (L' := [(5, .int (qI 0)), (0, .ref (qad g 110)), (1, .ref (qad g u1)), (2, .int (qI p2)), (3, .int (qI p3)), (4, .int (qI p4))]) C dX4_layRest_1 (by decide) rfl ?_
  obtain ⟨j2, e47, hm⟩ := ql_i hm
  have hj2 : ∀ (S1 : qS), j2 S1 = some r → qZ g p l e rmX4_layRest s m ([.ref (qad g 110), .ref (qad g u1), .int (qI p2), .int (qI p3), .int (qI p4)] : List Value).toArray below meth c (qQ g below qkI (.inr r.1) r.2 ([.ref (qad g 110), .ref (qad g u1), .int (qI p2), .int (qI p3), .int (qI p4)] : List Value).toArray s rmX4_layRest) 9 S1 [(0, .ref (qad g 110)), (1, .ref (qad g u1)), (2, .int (qI p2)), (3, .int (qI p3)), (4, .int (qI p4))] 30 [] 0 0 := by
    intro S1 hm
    rw [e47] at hm
    refine z_iload_n C dX4_layRest_30 3 rfl ?_
    refine z_iconst (x := 1) C dX4_layRest_31 rfl ?_
    refine z_isub C dX4_layRest_32 ?_
    obtain ⟨x3, e4, hm⟩ := ql_i hm
    refine z_topi e4 ?_
    refine z_istore (L' := [(5, .int (qI x3)), (0, .ref (qad g 110)), (1, .ref (qad g u1)), (2, .int (qI p2)), (3, .int (qI p3)), (4, .int (qI p4))]) C dX4_layRest_33 (by decide) rfl ?_
    obtain ⟨j6, e11, hm⟩ := ql_i hm
    have hj6 : ∀ (S5 : qS), j6 S5 = some r → qZ g p l e rmX4_layRest s m ([.ref (qad g 110), .ref (qad g u1), .int (qI p2), .int (qI p3), .int (qI p4)] : List Value).toArray below meth c (qQ g below qkI (.inr r.1) r.2 ([.ref (qad g 110), .ref (qad g u1), .int (qI p2), .int (qI p3), .int (qI p4)] : List Value).toArray s rmX4_layRest) 9 S5 [(0, .ref (qad g 110)), (2, .int (qI p2))] 131 [] 0 0 := by
      intro S5 hm
      rw [e11] at hm
      refine z_aload_n C dX4_layRest_131 0 rfl ?_
      refine gf_X4_44 C rfl dX4_layRest_132 ?_
      refine z_iload_n C dX4_layRest_135 1 rfl ?_
      refine z_iload_n C dX4_layRest_136 1 rfl ?_
      refine z_iconst (x := 0) C dX4_layRest_137 rfl ?_
      obtain ⟨a7, h8, hm⟩ := qb_i hm
      refine iv_X4_84 C (met_X4_place l g hl hA n9 S5 p2 p2 0 _ h8) ⟨by decide, by decide⟩ ⟨by decide, by decide⟩ (Nat.le_of_ble_eq_true rfl) dX4_layRest_138 ?_
      obtain ⟨h9, hm⟩ := qg_i hm
      refine z_iald (N := 1024) C rfl h9 (by decide) dX4_layRest_141 ?_
      refine z_bipush (x := 99) C dX4_layRest_142 (by decide +kernel) ?_
      refine z_iadd C dX4_layRest_144 ?_
      refine z_bipush (x := 100) C dX4_layRest_145 (by decide +kernel) ?_
      obtain ⟨h10, hm⟩ := qg_i hm
      refine z_idiv C dX4_layRest_147 h10 ?_
      exact z_iret C hr (by decide) (by decide) (by cases hm; rfl) dX4_layRest_148
    clear e11
    refine z_sub (L' := [(0, .ref (qad g 110)), (1, .ref (qad g u1)), (2, .int (qI p2)), (3, .int (qI p3)), (4, .int (qI p4)), (5, .int (qI x3))]) [1, 2, 3, 4, 5, 0] rfl ?_
    exact met_X4_layRest_l35 C hr hT n9 u1 p2 p3 p4 j6 hq1 hj6 n9 S1 x3 hm
  clear e47
  refine z_sub (L' := [(0, .ref (qad g 110)), (1, .ref (qad g u1)), (2, .int (qI p2)), (3, .int (qI p3)), (4, .int (qI p4)), (5, .int (qI 0))]) [1, 2, 3, 4, 5, 0] rfl ?_
  exact met_X4_layRest_l3 C hr hT n9 u1 p2 p3 p4 j2 hq1 hj2 n9 S 0 hm

set_option maxHeartbeats 4000000 in
set_option maxRecDepth 100000 in
theorem met_X4_layCars_l6 {g : qG} {p : Program} {l : Launch} {e : Env} {s : State} {m : MethodId} {args : Array Value} {below : List Frame} {meth : Method} {c : Code} (C : qC g p l s m args meth c RX4 cX4_layCars 7) (hr : meth.sig.returnType = none) (hT : ∀ x ∈ c.exceptionTable.toList, False) (n9 : Nat) (u1 : Nat) (p2 : Int) (p3 : Int) {r : qS}  (hq1 : 10 ≤ qk u1) : ∀ (f : Nat) (S1 : qS) (x2 : Int) (x3 : Int), MX4_layCars_l6 n9 u1 p2 p3 f S1 x2 x3 = some r → qZ g p l e rmX4_layCars s m args below meth c (qQ g below qkV (.inr 0) r args s rmX4_layCars) 7 S1 [(0, .ref (qad g 110)), (1, .ref (qad g u1)), (2, .int (qI p2)), (3, .int (qI p3)), (4, .int (qI x2)), (5, .int (qI x3))] 6 [] 0 0 := by
  intro f
  induction f with
  | zero => intro S1 x2 x3 hm; rw [MX4_layCars_l6] at hm; cases hm
  | succ f ih =>
    intro S1 x2 x3 hm
    rw [MX4_layCars_l6] at hm
    have hl := C.2.2.2.2.2.2.2.2
    have hA := C.2.2.2.2.2.2.1
    refine z_iload C dX4_layCars_6 4 rfl ?_
    refine z_iload_n C dX4_layCars_8 3 rfl ?_
    obtain ⟨h4, hm⟩ := qg_i hm
    obtain ⟨h5, hm⟩ := qg_i hm
    refine z_icmp_ge (tgt := 107) C dX4_layCars_9 (by decide) ⟨h4, h5⟩ (fun c6 => ?_) (fun c6 => ?_)
    · have hm := qt_i hm c6
      exact z_vret C hr (by decide) (by decide) (by cases hm; rfl) dX4_layCars_107
    · have hm := qf_i hm c6
      refine z_iload C dX4_layCars_12 4 rfl ?_
      refine z_iload_n C dX4_layCars_14 3 rfl ?_
      refine z_iconst (x := (-1)) C dX4_layCars_15 rfl ?_
      obtain ⟨a7, h8, hm⟩ := qb_i hm
      refine iv_X4_92 C (met_X4_canPair l g hl hA n9 S1 x2 p3 (-1) _ h8) ⟨by decide, by decide⟩ ⟨by decide, by decide⟩ (Nat.le_of_ble_eq_true rfl) dX4_layCars_16 ?_
      obtain ⟨h9, hm⟩ := qg_i hm
      obtain ⟨j11, e31, hm⟩ := ql_i hm
      have hj11 : ∀ (v10 : Int), j11 v10 = some r → qZ g p l e rmX4_layCars s m args below meth c (qQ g below qkV (.inr 0) r args s rmX4_layCars) 7 S1 [(0, .ref (qad g 110)), (1, .ref (qad g u1)), (2, .int (qI p2)), (3, .int (qI p3)), (4, .int (qI x2)), (5, .int (qI x3))] 53 [.int (qI v10)] 0 0 := by
        intro v10 hm
        rw [e31] at hm
        refine z_istore (L' := [(6, .int (qI v10)), (0, .ref (qad g 110)), (1, .ref (qad g u1)), (2, .int (qI p2)), (3, .int (qI p3)), (4, .int (qI x2)), (5, .int (qI x3))]) C dX4_layCars_53 (by decide) rfl ?_
        refine z_iload C dX4_layCars_55 0 rfl ?_
        obtain ⟨h12, hm⟩ := qg_i hm
        obtain ⟨j15, e22, hm⟩ := ql_i hm
        have hj15 : ∀ (S13 : qS) (x14 : Int), j15 S13 x14 = some r → qZ g p l e rmX4_layCars s m args below meth c (qQ g below qkV (.inr 0) r args s rmX4_layCars) 7 S13 [(0, .ref (qad g 110)), (1, .ref (qad g u1)), (2, .int (qI p2)), (3, .int (qI p3)), (4, .int (qI x2)), (5, .int (qI x14)), (6, .int (qI v10))] 89 [] 0 0 := by
          intro S13 x14 hm
          rw [e22] at hm
          refine z_iload C dX4_layCars_89 4 rfl ?_
          refine z_iload C dX4_layCars_91 6 rfl ?_
          obtain ⟨j17, e20, hm⟩ := ql_i hm
          have hj17 : ∀ (v16 : Int), j17 v16 = some r → qZ g p l e rmX4_layCars s m args below meth c (qQ g below qkV (.inr 0) r args s rmX4_layCars) 7 S13 [(0, .ref (qad g 110)), (1, .ref (qad g u1)), (2, .int (qI p2)), (3, .int (qI p3)), (5, .int (qI x14))] 101 [.int (qI v16), .int (qI x2)] 0 0 := by
            intro v16 hm
            rw [e20] at hm
            refine z_iadd C dX4_layCars_101 ?_
            obtain ⟨x18, e19, hm⟩ := ql_i hm
            refine z_topi e19 ?_
            refine z_istore (L' := [(4, .int (qI x18)), (0, .ref (qad g 110)), (1, .ref (qad g u1)), (2, .int (qI p2)), (3, .int (qI p3)), (5, .int (qI x14))]) C dX4_layCars_102 (by decide) rfl ?_
            refine z_goto (tgt := 6) C dX4_layCars_104 (by decide) ?_
            refine z_sub (L' := [(0, .ref (qad g 110)), (1, .ref (qad g u1)), (2, .int (qI p2)), (3, .int (qI p3)), (4, .int (qI x18)), (5, .int (qI x14))]) [1, 2, 3, 4, 0, 5] rfl ?_
            exact ih S13 x18 x14 hm
          clear e20
          refine z_if_eq (tgt := 100) C dX4_layCars_93 (by decide) h12 (fun c21 => ?_) (fun c21 => ?_)
          · have hm := qt_i hm c21
            refine z_iconst (x := 1) C dX4_layCars_100 rfl ?_
            refine z_sub (L' := [(0, .ref (qad g 110)), (1, .ref (qad g u1)), (2, .int (qI p2)), (3, .int (qI p3)), (5, .int (qI x14))]) [0, 1, 2, 3, 5] rfl ?_
            exact hj17 1 hm
          · have hm := qf_i hm c21
            refine z_iconst (x := 2) C dX4_layCars_96 rfl ?_
            refine z_goto (tgt := 101) C dX4_layCars_97 (by decide) ?_
            refine z_sub (L' := [(0, .ref (qad g 110)), (1, .ref (qad g u1)), (2, .int (qI p2)), (3, .int (qI p3)), (5, .int (qI x14))]) [0, 1, 2, 3, 5] rfl ?_
            exact hj17 2 hm
        clear e22
        refine z_if_eq (tgt := 89) C dX4_layCars_57 (by decide) h12 (fun c23 => ?_) (fun c23 => ?_)
        · have hm := qt_i hm c23
          refine z_sub (L' := [(0, .ref (qad g 110)), (1, .ref (qad g u1)), (2, .int (qI p2)), (3, .int (qI p3)), (4, .int (qI x2)), (5, .int (qI x3)), (6, .int (qI v10))]) [1, 2, 3, 4, 5, 6, 0] rfl ?_
          exact hj15 S1 x3 hm
        · have hm := qf_i hm c23
          refine z_aload_n C dX4_layCars_60 1 rfl ?_
          refine gf_X4_56 C rfl dX4_layCars_61 ?_
          refine z_aload_n C dX4_layCars_64 1 rfl ?_
          refine gf_X4_99 C rfl dX4_layCars_65 ?_
          refine z_iload C dX4_layCars_68 5 rfl ?_
          obtain ⟨h24, hm⟩ := qg_i hm
          refine z_iast (N := 15) C rfl h24 (by decide) dX4_layCars_70 ?_
          obtain ⟨S25, e26, hm⟩ := ql_i hm
          refine z_S e26 ?_
          refine z_aload_n C dX4_layCars_71 1 rfl ?_
          refine z_dup C dX4_layCars_72 rfl ?_
          refine gf_X4_99 C rfl dX4_layCars_73 ?_
          refine z_iconst (x := 1) C dX4_layCars_76 rfl ?_
          refine z_iadd C dX4_layCars_77 ?_
          refine pf_X4_99 C rfl dX4_layCars_78 ?_
          obtain ⟨S27, e28, hm⟩ := ql_i hm
          refine z_S e28 ?_
          refine z_iload C dX4_layCars_81 5 rfl ?_
          refine z_iconst (x := 2) C dX4_layCars_83 rfl ?_
          refine z_iadd C dX4_layCars_84 ?_
          refine z_iload_n C dX4_layCars_85 3 rfl ?_
          refine z_isub C dX4_layCars_86 ?_
          obtain ⟨x29, e30, hm⟩ := ql_i hm
          refine z_topi e30 ?_
          refine z_istore (L' := [(5, .int (qI x29)), (6, .int (qI v10)), (0, .ref (qad g 110)), (1, .ref (qad g u1)), (2, .int (qI p2)), (3, .int (qI p3)), (4, .int (qI x2))]) C dX4_layCars_87 (by decide) rfl ?_
          refine z_sub (L' := [(0, .ref (qad g 110)), (1, .ref (qad g u1)), (2, .int (qI p2)), (3, .int (qI p3)), (4, .int (qI x2)), (5, .int (qI x29)), (6, .int (qI v10))]) [2, 3, 4, 5, 6, 0, 1] rfl ?_
          exact hj15 S27 x29 hm
      clear e31
      obtain ⟨j32, e33, hm⟩ := ql_i hm
      have hj32 : j32 = some r → qZ g p l e rmX4_layCars s m args below meth c (qQ g below qkV (.inr 0) r args s rmX4_layCars) 7 S1 [(0, .ref (qad g 110)), (1, .ref (qad g u1)), (2, .int (qI p2)), (3, .int (qI p3)), (4, .int (qI x2)), (5, .int (qI x3))] 52 [] 0 0 := by
        intro  hm
        rw [e33] at hm
        refine z_iconst (x := 0) C dX4_layCars_52 rfl ?_
        exact hj11 0 hm
      clear e33
      refine z_if_eq (tgt := 52) C dX4_layCars_19 (by decide) h9 (fun c34 => ?_) (fun c34 => ?_)
      · have hm := qt_i hm c34
        exact hj32  hm
      · have hm := qf_i hm c34
        refine z_aload_n C dX4_layCars_22 0 rfl ?_
        refine z_aload_n C dX4_layCars_23 1 rfl ?_
        refine z_iload_n C dX4_layCars_24 2 rfl ?_
        refine z_iload C dX4_layCars_25 4 rfl ?_
        refine z_iload C dX4_layCars_27 5 rfl ?_
        obtain ⟨a35, h36, hm⟩ := qb_i hm
        refine iv_X4_96 C (met_X4_withCar l g hl hA n9 S1 u1 p2 x2 x3 _ h36) rfl ⟨by decide, by decide⟩ ⟨by decide, by decide⟩ (Nat.le_of_ble_eq_true rfl) dX4_layCars_29 ?_
        refine z_aload_n C dX4_layCars_32 0 rfl ?_
        refine gf_X4_44 C rfl dX4_layCars_33 ?_
        refine z_iload_n C dX4_layCars_36 2 rfl ?_
        refine z_iload C dX4_layCars_37 4 rfl ?_
        refine z_iload C dX4_layCars_39 5 rfl ?_
        obtain ⟨a37, h38, hm⟩ := qb_i hm
        refine iv_X4_84 C (met_X4_place l g hl hA n9 S1 p2 x2 x3 _ h38) ⟨by decide, by decide⟩ ⟨by decide, by decide⟩ (Nat.le_of_ble_eq_true rfl) dX4_layCars_41 ?_
        obtain ⟨h39, hm⟩ := qg_i hm
        refine z_iald (N := 1024) C rfl h39 (by decide) dX4_layCars_44 ?_
        obtain ⟨h40, hm⟩ := qg_i hm
        obtain ⟨h41, hm⟩ := qg_i hm
        refine z_icmp_ne (tgt := 52) C dX4_layCars_45 (by decide) ⟨h40, h41⟩ (fun c42 => ?_) (fun c42 => ?_)
        · have hm := qt_i hm c42
          refine z_iconst (x := 1) C dX4_layCars_48 rfl ?_
          refine z_goto (tgt := 53) C dX4_layCars_49 (by decide) ?_
          exact hj11 1 hm
        · have hm := qf_i hm c42
          exact hj32  hm

set_option maxHeartbeats 4000000 in
set_option maxRecDepth 100000 in
theorem met_X4_layCars (l : Launch) (g : qG) (hl : l.stackTraces = false) (hA : qAd g) (n9 : Nat) (S : qS) (u1 : Nat) (p2 : Int) (p3 : Int) (r : qS) (hm : MX4_layCars n9 S u1 p2 p3 = some r) : qM l g yX4_layCars (.code yX4_layCars cX4_layCars 7 none) rmX4_layCars qkV [.ref (qad g 110), .ref (qad g u1), .int (qI p2), .int (qI p3)] S (.inr 0) r := by
  rw [MX4_layCars] at hm
  obtain ⟨hq1, hm⟩ := qg_i hm
  refine qM_of (L := [(0, .ref (qad g 110)), (1, .ref (qad g u1)), (2, .int (qI p2)), (3, .int (qI p3))]) (by decide +kernel) rfl (Nat.le_of_ble_eq_true rfl) hl hA ?_
  intro p e s m below meth c C hr hT
  have C : qC g p l s m ([.ref (qad g 110), .ref (qad g u1), .int (qI p2), .int (qI p3)] : List Value).toArray meth c RX4 cX4_layCars 7 := C
  refine z_iload_n C dX4_layCars_0 2 rfl ?_
  refine z_istore (L' := [(4, .int (qI p2)), (0, .ref (qad g 110)), (1, .ref (qad g u1)), (2, .int (qI p2)), (3, .int (qI p3))]) C dX4_layCars_1 (by decide) rfl ?_
  refine z_iconst (x := 0) C dX4_layCars_3 rfl ?_
  refine z_istore (L' := [(5, .int (qI 0)), (4, .int (qI p2)), (0, .ref (qad g 110)), (1, .ref (qad g u1)), (2, .int (qI p2)), (3, .int (qI p3))]) C dX4_layCars_4 (by decide) rfl ?_
  refine z_sub (L' := [(0, .ref (qad g 110)), (1, .ref (qad g u1)), (2, .int (qI p2)), (3, .int (qI p3)), (4, .int (qI p2)), (5, .int (qI 0))]) [2, 3, 4, 5, 1, 0] rfl ?_
  exact met_X4_layCars_l6 C hr hT n9 u1 p2 p3  hq1 n9 S p2 0 hm

set_option maxHeartbeats 4000000 in
set_option maxRecDepth 100000 in
theorem met_X4_lay_l109 {g : qG} {p : Program} {l : Launch} {e : Env} {s : State} {m : MethodId} {args : Array Value} {below : List Frame} {meth : Method} {c : Code} (C : qC g p l s m args meth c RX4 cX4_lay 4) (hr : meth.sig.returnType = none) (hT : ∀ x ∈ c.exceptionTable.toList, False) (n9 : Nat) (u1 : Nat) {r : qS}  (hq1 : 10 ≤ qk u1) : ∀ (f : Nat) (S15 : qS) (x16 : Int), MX4_lay_l109 n9 u1 f S15 x16 = some r → qZ g p l e rmX4_lay s m args below meth c (qQ g below qkV (.inr 0) r args s rmX4_lay) 4 S15 [(0, .ref (qad g 110)), (1, .ref (qad g u1)), (3, .int (qI x16))] 109 [] 0 0 := by
  intro f
  induction f with
  | zero => intro S15 x16 hm; rw [MX4_lay_l109] at hm; cases hm
  | succ f ih =>
    intro S15 x16 hm
    rw [MX4_lay_l109] at hm
    have hl := C.2.2.2.2.2.2.2.2
    have hA := C.2.2.2.2.2.2.1
    refine z_iload_n C dX4_lay_109 2 rfl ?_
    refine z_aload_n C dX4_lay_110 0 rfl ?_
    refine gf_X4_102 C rfl dX4_lay_111 ?_
    obtain ⟨h17, hm⟩ := qg_i hm
    obtain ⟨h18, hm⟩ := qg_i hm
    refine z_icmp_ge (tgt := 183) C dX4_lay_114 (by decide) ⟨h17, h18⟩ (fun c19 => ?_) (fun c19 => ?_)
    · have hm := qt_i hm c19
      exact z_vret C hr (by decide) (by decide) (by cases hm; rfl) dX4_lay_183
    · have hm := qf_i hm c19
      refine z_aload_n C dX4_lay_117 0 rfl ?_
      refine gf_X4_53 C rfl dX4_lay_118 ?_
      refine z_iload_n C dX4_lay_121 2 rfl ?_
      refine z_aload_n C dX4_lay_122 0 rfl ?_
      refine z_aload_n C dX4_lay_123 1 rfl ?_
      refine z_aload_n C dX4_lay_124 0 rfl ?_
      refine gf_X4_50 C rfl dX4_lay_125 ?_
      refine z_iload_n C dX4_lay_128 2 rfl ?_
      obtain ⟨h20, hm⟩ := qg_i hm
      refine z_iald (N := 31) C rfl h20 (by decide) dX4_lay_129 ?_
      refine z_aload_n C dX4_lay_130 0 rfl ?_
      refine gf_X4_50 C rfl dX4_lay_131 ?_
      refine z_iload_n C dX4_lay_134 2 rfl ?_
      refine z_iconst (x := 1) C dX4_lay_135 rfl ?_
      refine z_iadd C dX4_lay_136 ?_
      obtain ⟨h21, hm⟩ := qg_i hm
      refine z_iald (N := 31) C rfl h21 (by decide) dX4_lay_137 ?_
      refine z_iconst (x := (-1)) C dX4_lay_138 rfl ?_
      obtain ⟨a22, h23, hm⟩ := qb_i hm
      refine iv_X4_108 C (met_X4_layRest l g hl hA n9 S15 u1 (S15 124 x16.toNat) (S15 124 (x16 + 1).toNat) (-1) _ h23) rfl ⟨by decide, by decide⟩ ⟨by decide, by decide⟩ (Nat.le_of_ble_eq_true rfl) dX4_lay_139 ?_
      obtain ⟨h24, hm⟩ := qg_i hm
      refine z_iast (N := 30) C rfl h24 (by decide) dX4_lay_142 ?_
      obtain ⟨S25, e26, hm⟩ := ql_i hm
      refine z_S e26 ?_
      refine z_aload_n C dX4_lay_143 0 rfl ?_
      refine z_aload_n C dX4_lay_144 1 rfl ?_
      refine z_aload_n C dX4_lay_145 0 rfl ?_
      refine gf_X4_50 C rfl dX4_lay_146 ?_
      refine z_iload_n C dX4_lay_149 2 rfl ?_
      obtain ⟨h27, hm⟩ := qg_i hm
      refine z_iald (N := 31) C rfl h27 (by decide) dX4_lay_150 ?_
      refine z_aload_n C dX4_lay_151 0 rfl ?_
      refine gf_X4_50 C rfl dX4_lay_152 ?_
      refine z_iload_n C dX4_lay_155 2 rfl ?_
      refine z_iconst (x := 1) C dX4_lay_156 rfl ?_
      refine z_iadd C dX4_lay_157 ?_
      obtain ⟨h28, hm⟩ := qg_i hm
      refine z_iald (N := 31) C rfl h28 (by decide) dX4_lay_158 ?_
      obtain ⟨a29, h30, hm⟩ := qb_i hm
      refine iv_X4_111 C (met_X4_layCars l g hl hA n9 S25 u1 (S25 124 x16.toNat) (S25 124 (x16 + 1).toNat) _ h30) rfl ⟨by decide, by decide⟩ ⟨by decide, by decide⟩ (Nat.le_of_ble_eq_true rfl) dX4_lay_159 ?_
      refine z_aload_n C dX4_lay_162 0 rfl ?_
      refine z_dup C dX4_lay_163 rfl ?_
      refine gf_X4_105 C rfl dX4_lay_164 ?_
      refine z_aload_n C dX4_lay_167 0 rfl ?_
      refine gf_X4_53 C rfl dX4_lay_168 ?_
      refine z_iload_n C dX4_lay_171 2 rfl ?_
      obtain ⟨h31, hm⟩ := qg_i hm
      refine z_iald (N := 30) C rfl h31 (by decide) dX4_lay_172 ?_
      refine z_iadd C dX4_lay_173 ?_
      refine pf_X4_105 C rfl dX4_lay_174 ?_
      obtain ⟨S32, e33, hm⟩ := ql_i hm
      refine z_S e33 ?_
      refine z_iinc (L' := [(3, .int (qI (x16 + 1))), (0, .ref (qad g 110)), (1, .ref (qad g u1))]) C dX4_lay_177 2 rfl (by decide) rfl ?_
      refine z_goto (tgt := 109) C dX4_lay_180 (by decide) ?_
      refine z_sub (L' := [(0, .ref (qad g 110)), (1, .ref (qad g u1)), (3, .int (qI (x16 + 1)))]) [1, 2, 0] rfl ?_
      exact ih S32 (x16 + 1) hm

set_option maxHeartbeats 4000000 in
set_option maxRecDepth 100000 in
theorem met_X4_lay_l21 {g : qG} {p : Program} {l : Launch} {e : Env} {s : State} {m : MethodId} {args : Array Value} {below : List Frame} {meth : Method} {c : Code} (C : qC g p l s m args meth c RX4 cX4_lay 4) (hr : meth.sig.returnType = none) (hT : ∀ x ∈ c.exceptionTable.toList, False) (u1 : Nat) (x2 : Int) {r : qS} (k97 : qS → Option (qS)) (hq1 : 10 ≤ qk u1) (hk97 : ∀ (y1 : qS), k97 y1 = some r → qZ g p l e rmX4_lay s m args below meth c (qQ g below qkV (.inr 0) r args s rmX4_lay) 4 y1 [(0, .ref (qad g 110)), (1, .ref (qad g u1)), (2, .int (qI x2))] 97 [] 0 0) : ∀ (f : Nat) (S35 : qS) (x36 : Int), MX4_lay_l21 u1 x2 k97 f S35 x36 = some r → qZ g p l e rmX4_lay s m args below meth c (qQ g below qkV (.inr 0) r args s rmX4_lay) 4 S35 [(0, .ref (qad g 110)), (1, .ref (qad g u1)), (2, .int (qI x2)), (3, .int (qI x36))] 21 [] 0 0 := by
  intro f
  induction f with
  | zero => intro S35 x36 hm; rw [MX4_lay_l21] at hm; cases hm
  | succ f ih =>
    intro S35 x36 hm
    rw [MX4_lay_l21] at hm
    have hl := C.2.2.2.2.2.2.2.2
    have hA := C.2.2.2.2.2.2.1
    refine z_iload_n C dX4_lay_21 3 rfl ?_
    refine z_iload_n C dX4_lay_22 2 rfl ?_
    obtain ⟨h37, hm⟩ := qg_i hm
    obtain ⟨h38, hm⟩ := qg_i hm
    refine z_icmp_ge (tgt := 97) C dX4_lay_23 (by decide) ⟨h37, h38⟩ (fun c39 => ?_) (fun c39 => ?_)
    · have hm := qt_i hm c39
      refine z_sub (L' := [(0, .ref (qad g 110)), (1, .ref (qad g u1)), (2, .int (qI x2))]) [0, 1, 2] rfl ?_
      exact hk97 S35 hm
    · have hm := qf_i hm c39
      refine z_aload_n C dX4_lay_26 0 rfl ?_
      refine gf_X4_47 C rfl dX4_lay_27 ?_
      refine z_iload_n C dX4_lay_30 3 rfl ?_
      refine z_aload_n C dX4_lay_31 1 rfl ?_
      refine z_bipush (x := 35) C dX4_lay_32 (by decide +kernel) ?_
      refine z_iload_n C dX4_lay_34 3 rfl ?_
      refine z_iadd C dX4_lay_35 ?_
      obtain ⟨h40, hm⟩ := qg_i hm
      refine z_iald (N := (qlen u1)) C (qlen_eq hq1) h40 (qlen_le _) dX4_lay_36 ?_
      refine z_iload_n C dX4_lay_37 3 rfl ?_
      obtain ⟨j42, e62, hm⟩ := ql_i hm
      have hj42 : ∀ (v41 : Int), j42 v41 = some r → qZ g p l e rmX4_lay s m args below meth c (qQ g below qkV (.inr 0) r args s rmX4_lay) 4 S35 [(0, .ref (qad g 110)), (1, .ref (qad g u1)), (2, .int (qI x2)), (3, .int (qI x36))] 53 [.int (qI v41), .int (qI (S35 u1 (35 + x36).toNat)), .int (qI x36), .ref (qad g 123)] 0 0 := by
        intro v41 hm
        rw [e62] at hm
        refine z_iadd C dX4_lay_53 ?_
        obtain ⟨h43, hm⟩ := qg_i hm
        refine z_iast (N := 31) C rfl h43 (by decide) dX4_lay_54 ?_
        obtain ⟨S44, e45, hm⟩ := ql_i hm
        refine z_S e45 ?_
        refine z_iload_n C dX4_lay_55 3 rfl ?_
        obtain ⟨j47, e48, hm⟩ := ql_i hm
        have hj47 : ∀ (S46 : qS), j47 S46 = some r → qZ g p l e rmX4_lay s m args below meth c (qQ g below qkV (.inr 0) r args s rmX4_lay) 4 S46 [(0, .ref (qad g 110)), (1, .ref (qad g u1)), (2, .int (qI x2)), (3, .int (qI x36))] 91 [] 0 0 := by
          intro S46 hm
          rw [e48] at hm
          refine z_iinc (L' := [(3, .int (qI (x36 + 1))), (0, .ref (qad g 110)), (1, .ref (qad g u1)), (2, .int (qI x2))]) C dX4_lay_91 3 rfl (by decide) rfl ?_
          refine z_goto (tgt := 21) C dX4_lay_94 (by decide) ?_
          refine z_sub (L' := [(0, .ref (qad g 110)), (1, .ref (qad g u1)), (2, .int (qI x2)), (3, .int (qI (x36 + 1)))]) [1, 2, 3, 0] rfl ?_
          exact ih S46 (x36 + 1) hm
        clear e48
        obtain ⟨j49, e55, hm⟩ := ql_i hm
        have hj49 : j49 = some r → qZ g p l e rmX4_lay s m args below meth c (qQ g below qkV (.inr 0) r args s rmX4_lay) 4 S44 [(0, .ref (qad g 110)), (1, .ref (qad g u1)), (2, .int (qI x2)), (3, .int (qI x36))] 71 [] 0 0 := by
          intro  hm
          rw [e55] at hm
          refine z_aload_n C dX4_lay_71 0 rfl ?_
          refine gf_X4_50 C rfl dX4_lay_72 ?_
          refine z_aload_n C dX4_lay_75 0 rfl ?_
          refine gf_X4_102 C rfl dX4_lay_76 ?_
          refine z_iload_n C dX4_lay_79 3 rfl ?_
          obtain ⟨h50, hm⟩ := qg_i hm
          refine z_iast (N := 31) C rfl h50 (by decide) dX4_lay_80 ?_
          obtain ⟨S51, e52, hm⟩ := ql_i hm
          refine z_S e52 ?_
          refine z_aload_n C dX4_lay_81 0 rfl ?_
          refine z_dup C dX4_lay_82 rfl ?_
          refine gf_X4_102 C rfl dX4_lay_83 ?_
          refine z_iconst (x := 1) C dX4_lay_86 rfl ?_
          refine z_iadd C dX4_lay_87 ?_
          refine pf_X4_102 C rfl dX4_lay_88 ?_
          obtain ⟨S53, e54, hm⟩ := ql_i hm
          refine z_S e54 ?_
          exact hj47 S53 hm
        clear e55
        refine z_if_eq (tgt := 71) C dX4_lay_56 (by decide) h37 (fun c56 => ?_) (fun c56 => ?_)
        · have hm := qt_i hm c56
          exact hj49  hm
        · have hm := qf_i hm c56
          refine z_aload_n C dX4_lay_59 1 rfl ?_
          refine z_bipush (x := 35) C dX4_lay_60 (by decide +kernel) ?_
          refine z_iload_n C dX4_lay_62 3 rfl ?_
          refine z_iadd C dX4_lay_63 ?_
          obtain ⟨h57, hm⟩ := qg_i hm
          refine z_iald (N := (qlen u1)) C (qlen_eq hq1) h57 (qlen_le _) dX4_lay_64 ?_
          refine z_aload_n C dX4_lay_65 1 rfl ?_
          refine z_iconst (x := 4) C dX4_lay_66 rfl ?_
          obtain ⟨h58, hm⟩ := qg_i hm
          refine z_iald (N := (qlen u1)) C (qlen_eq hq1) h58 (qlen_le _) dX4_lay_67 ?_
          obtain ⟨h59, hm⟩ := qg_i hm
          obtain ⟨h60, hm⟩ := qg_i hm
          refine z_icmp_lt (tgt := 91) C dX4_lay_68 (by decide) ⟨h59, h60⟩ (fun c61 => ?_) (fun c61 => ?_)
          · have hm := qt_i hm c61
            exact hj47 S44 hm
          · have hm := qf_i hm c61
            exact hj49  hm
      clear e62
      refine z_if_ne (tgt := 45) C dX4_lay_38 (by decide) h37 (fun c63 => ?_) (fun c63 => ?_)
      · have hm := qt_i hm c63
        refine z_iconst (x := 0) C dX4_lay_41 rfl ?_
        refine z_goto (tgt := 53) C dX4_lay_42 (by decide) ?_
        exact hj42 0 hm
      · have hm := qf_i hm c63
        refine z_aload_n C dX4_lay_45 0 rfl ?_
        refine gf_X4_47 C rfl dX4_lay_46 ?_
        refine z_iload_n C dX4_lay_49 3 rfl ?_
        refine z_iconst (x := 1) C dX4_lay_50 rfl ?_
        refine z_isub C dX4_lay_51 ?_
        obtain ⟨h64, hm⟩ := qg_i hm
        refine z_iald (N := 31) C rfl h64 (by decide) dX4_lay_52 ?_
        exact hj42 (S35 123 (x36 - 1).toNat) hm

set_option maxHeartbeats 4000000 in
set_option maxRecDepth 100000 in
theorem met_X4_lay (l : Launch) (g : qG) (hl : l.stackTraces = false) (hA : qAd g) (n9 : Nat) (S : qS) (u1 : Nat) (r : qS) (hm : MX4_lay n9 S u1 = some r) : qM l g yX4_lay (.code yX4_lay cX4_lay 4 none) rmX4_lay qkV [.ref (qad g 110), .ref (qad g u1)] S (.inr 0) r := by
  rw [MX4_lay] at hm
  obtain ⟨hq1, hm⟩ := qg_i hm
  refine qM_of (L := [(0, .ref (qad g 110)), (1, .ref (qad g u1))]) (by decide +kernel) rfl (Nat.le_of_ble_eq_true rfl) hl hA ?_
  intro p e s m below meth c C hr hT
  have C : qC g p l s m ([.ref (qad g 110), .ref (qad g u1)] : List Value).toArray meth c RX4 cX4_lay 4 := C
  refine z_aload_n C dX4_lay_0 1 rfl ?_
  refine z_iconst (x := 0) C dX4_lay_1 rfl ?_
  obtain ⟨h1, hm⟩ := qg_i hm
  refine z_iald (N := (qlen u1)) C (qlen_eq hq1) h1 (qlen_le _) dX4_lay_2 ?_
  obtain ⟨x2, e3, hm⟩ := ql_i hm
  refine z_topi e3 ?_
  refine z_istore_n (L' := [(2, .int (qI x2)), (0, .ref (qad g 110)), (1, .ref (qad g u1))]) C dX4_lay_3 (by decide) rfl ?_
  refine z_aload_n C dX4_lay_4 1 rfl ?_
  refine z_iconst (x := 0) C dX4_lay_5 rfl ?_
  refine pf_X4_102 C rfl dX4_lay_6 ?_
  obtain ⟨S4, e5, hm⟩ := ql_i hm
  refine z_S e5 ?_
  refine z_aload_n C dX4_lay_9 1 rfl ?_
  refine z_iconst (x := 0) C dX4_lay_10 rfl ?_
  refine pf_X4_99 C rfl dX4_lay_11 ?_
  obtain ⟨S6, e7, hm⟩ := ql_i hm
  refine z_S e7 ?_
  refine z_aload_n C dX4_lay_14 1 rfl ?_
  refine z_iconst (x := 0) C dX4_lay_15 rfl ?_
  refine pf_X4_105 C rfl dX4_lay_16 ?_
  obtain ⟨S8, e9, hm⟩ := ql_i hm
  refine z_S e9 ?_
  refine z_iconst (x := 0) C dX4_lay_19 rfl ?_
  refine z_istore_n (L' := [(3, .int (qI 0)), (2, .int (qI x2)), (0, .ref (qad g 110)), (1, .ref (qad g u1))]) C dX4_lay_20 (by decide) rfl ?_
  obtain ⟨j11, e34, hm⟩ := ql_i hm
  have hj11 : ∀ (S10 : qS), j11 S10 = some r → qZ g p l e rmX4_lay s m ([.ref (qad g 110), .ref (qad g u1)] : List Value).toArray below meth c (qQ g below qkV (.inr 0) r ([.ref (qad g 110), .ref (qad g u1)] : List Value).toArray s rmX4_lay) 4 S10 [(0, .ref (qad g 110)), (1, .ref (qad g u1)), (2, .int (qI x2))] 97 [] 0 0 := by
    intro S10 hm
    rw [e34] at hm
    refine z_aload_n C dX4_lay_97 0 rfl ?_
    refine gf_X4_50 C rfl dX4_lay_98 ?_
    refine z_aload_n C dX4_lay_101 0 rfl ?_
    refine gf_X4_102 C rfl dX4_lay_102 ?_
    refine z_iload_n C dX4_lay_105 2 rfl ?_
    obtain ⟨h12, hm⟩ := qg_i hm
    refine z_iast (N := 31) C rfl h12 (by decide) dX4_lay_106 ?_
    obtain ⟨S13, e14, hm⟩ := ql_i hm
    refine z_S e14 ?_
    refine z_iconst (x := 0) C dX4_lay_107 rfl ?_
    refine z_istore_n (L' := [(3, .int (qI 0)), (0, .ref (qad g 110)), (1, .ref (qad g u1)), (2, .int (qI x2))]) C dX4_lay_108 (by decide) rfl ?_
    refine z_sub (L' := [(0, .ref (qad g 110)), (1, .ref (qad g u1)), (3, .int (qI 0))]) [1, 2, 0] rfl ?_
    exact met_X4_lay_l109 C hr hT n9 u1  hq1 n9 S13 0 hm
  clear e34
  refine z_sub (L' := [(0, .ref (qad g 110)), (1, .ref (qad g u1)), (2, .int (qI x2)), (3, .int (qI 0))]) [2, 3, 1, 0] rfl ?_
  exact met_X4_lay_l21 C hr hT u1 x2 j11 hq1 hj11 n9 S8 0 hm

set_option maxHeartbeats 4000000 in
set_option maxRecDepth 100000 in
theorem met_X4_carWeight (l : Launch) (g : qG) (hl : l.stackTraces = false) (hA : qAd g) (n9 : Nat) (S : qS) (u0 : Nat) (p1 : Int) (r : Int) (hm : MX4_carWeight n9 S u0 p1 = some r) : qM l g yX4_carWeight (.code yX4_carWeight cX4_carWeight 2 (some .int)) rmX4_carWeight qkI [.ref (qad g u0), .int (qI p1)] S (.inr r) S := by
  rw [MX4_carWeight] at hm
  obtain ⟨hq0, hm⟩ := qg_i hm
  refine qM_of (L := [(0, .ref (qad g u0)), (1, .int (qI p1))]) (by decide +kernel) rfl (Nat.le_of_ble_eq_true rfl) hl hA ?_
  intro p e s m below meth c C hr hT
  have C : qC g p l s m ([.ref (qad g u0), .int (qI p1)] : List Value).toArray meth c RX4 cX4_carWeight 2 := C
  refine z_aload_n C dX4_carWeight_0 0 rfl ?_
  refine z_bipush (x := 65) C dX4_carWeight_1 (by decide +kernel) ?_
  refine z_iload_n C dX4_carWeight_3 1 rfl ?_
  refine z_iadd C dX4_carWeight_4 ?_
  obtain ⟨h1, hm⟩ := qg_i hm
  refine z_iald (N := (qlen u0)) C (qlen_eq hq0) h1 (qlen_le _) dX4_carWeight_5 ?_
  refine z_aload_n C dX4_carWeight_6 0 rfl ?_
  refine z_bipush (x := 65) C dX4_carWeight_7 (by decide +kernel) ?_
  refine z_iload_n C dX4_carWeight_9 1 rfl ?_
  refine z_iadd C dX4_carWeight_10 ?_
  refine z_iconst (x := 1) C dX4_carWeight_11 rfl ?_
  refine z_iadd C dX4_carWeight_12 ?_
  obtain ⟨h2, hm⟩ := qg_i hm
  refine z_iald (N := (qlen u0)) C (qlen_eq hq0) h2 (qlen_le _) dX4_carWeight_13 ?_
  refine z_iadd C dX4_carWeight_14 ?_
  exact z_iret C hr (by decide) (by decide) (by cases hm; rfl) dX4_carWeight_15

set_option maxHeartbeats 4000000 in
set_option maxRecDepth 100000 in
theorem met_X4_allWeight_l4 {g : qG} {p : Program} {l : Launch} {e : Env} {s : State} {m : MethodId} {args : Array Value} {below : List Frame} {meth : Method} {c : Code} (C : qC g p l s m args meth c RX4 cX4_allWeight 4) (hr : meth.sig.returnType = (some .int)) (hT : ∀ x ∈ c.exceptionTable.toList, False) (n9 : Nat) (S : qS) (u1 : Nat) {r : Int}  (hq1 : 10 ≤ qk u1) : ∀ (f : Nat) (x1 : Int) (x2 : Int), MX4_allWeight_l4 n9 S u1 f x1 x2 = some r → qZ g p l e rmX4_allWeight s m args below meth c (qQ g below qkI (.inr r) S args s rmX4_allWeight) 4 S [(0, .ref (qad g 110)), (1, .ref (qad g u1)), (2, .int (qI x1)), (3, .int (qI x2))] 4 [] 0 0 := by
  intro f
  induction f with
  | zero => intro x1 x2 hm; rw [MX4_allWeight_l4] at hm; cases hm
  | succ f ih =>
    intro x1 x2 hm
    rw [MX4_allWeight_l4] at hm
    have hl := C.2.2.2.2.2.2.2.2
    have hA := C.2.2.2.2.2.2.1
    refine z_iload_n C dX4_allWeight_4 3 rfl ?_
    refine z_aload_n C dX4_allWeight_5 0 rfl ?_
    refine gf_X4_99 C rfl dX4_allWeight_6 ?_
    obtain ⟨h3, hm⟩ := qg_i hm
    obtain ⟨h4, hm⟩ := qg_i hm
    refine z_icmp_ge (tgt := 31) C dX4_allWeight_9 (by decide) ⟨h3, h4⟩ (fun c5 => ?_) (fun c5 => ?_)
    · have hm := qt_i hm c5
      refine z_iload_n C dX4_allWeight_31 2 rfl ?_
      exact z_iret C hr (by decide) (by decide) (by cases hm; rfl) dX4_allWeight_32
    · have hm := qf_i hm c5
      refine z_iload_n C dX4_allWeight_12 2 rfl ?_
      refine z_aload_n C dX4_allWeight_13 1 rfl ?_
      refine z_aload_n C dX4_allWeight_14 0 rfl ?_
      refine gf_X4_56 C rfl dX4_allWeight_15 ?_
      refine z_iload_n C dX4_allWeight_18 3 rfl ?_
      obtain ⟨h6, hm⟩ := qg_i hm
      refine z_iald (N := 15) C rfl h6 (by decide) dX4_allWeight_19 ?_
      obtain ⟨a7, h8, hm⟩ := qb_i hm
      refine iv_X4_115 C (met_X4_carWeight l g hl hA n9 S u1 (S 126 x2.toNat) _ h8) ⟨by decide, by decide⟩ ⟨by decide, by decide⟩ (Nat.le_of_ble_eq_true rfl) dX4_allWeight_20 ?_
      refine z_iadd C dX4_allWeight_23 ?_
      obtain ⟨x9, e10, hm⟩ := ql_i hm
      refine z_topi e10 ?_
      refine z_istore_n (L' := [(2, .int (qI x9)), (0, .ref (qad g 110)), (1, .ref (qad g u1)), (3, .int (qI x2))]) C dX4_allWeight_24 (by decide) rfl ?_
      refine z_iinc (L' := [(3, .int (qI (x2 + 1))), (2, .int (qI x9)), (0, .ref (qad g 110)), (1, .ref (qad g u1))]) C dX4_allWeight_25 3 rfl (by decide) rfl ?_
      refine z_goto (tgt := 4) C dX4_allWeight_28 (by decide) ?_
      refine z_sub (L' := [(0, .ref (qad g 110)), (1, .ref (qad g u1)), (2, .int (qI x9)), (3, .int (qI (x2 + 1)))]) [2, 3, 1, 0] rfl ?_
      exact ih x9 (x2 + 1) hm

set_option maxHeartbeats 4000000 in
set_option maxRecDepth 100000 in
theorem met_X4_allWeight (l : Launch) (g : qG) (hl : l.stackTraces = false) (hA : qAd g) (n9 : Nat) (S : qS) (u1 : Nat) (r : Int) (hm : MX4_allWeight n9 S u1 = some r) : qM l g yX4_allWeight (.code yX4_allWeight cX4_allWeight 4 (some .int)) rmX4_allWeight qkI [.ref (qad g 110), .ref (qad g u1)] S (.inr r) S := by
  rw [MX4_allWeight] at hm
  obtain ⟨hq1, hm⟩ := qg_i hm
  refine qM_of (L := [(0, .ref (qad g 110)), (1, .ref (qad g u1))]) (by decide +kernel) rfl (Nat.le_of_ble_eq_true rfl) hl hA ?_
  intro p e s m below meth c C hr hT
  have C : qC g p l s m ([.ref (qad g 110), .ref (qad g u1)] : List Value).toArray meth c RX4 cX4_allWeight 4 := C
  refine z_iconst (x := 0) C dX4_allWeight_0 rfl ?_
  refine z_istore_n (L' := [(2, .int (qI 0)), (0, .ref (qad g 110)), (1, .ref (qad g u1))]) C dX4_allWeight_1 (by decide) rfl ?_
  refine z_iconst (x := 0) C dX4_allWeight_2 rfl ?_
  refine z_istore_n (L' := [(3, .int (qI 0)), (2, .int (qI 0)), (0, .ref (qad g 110)), (1, .ref (qad g u1))]) C dX4_allWeight_3 (by decide) rfl ?_
  refine z_sub (L' := [(0, .ref (qad g 110)), (1, .ref (qad g u1)), (2, .int (qI 0)), (3, .int (qI 0))]) [2, 3, 1, 0] rfl ?_
  exact met_X4_allWeight_l4 C hr hT n9 S u1  hq1 n9 0 0 hm

set_option maxHeartbeats 4000000 in
set_option maxRecDepth 100000 in
theorem met_X4_trainOf_l2 {g : qG} {p : Program} {l : Launch} {e : Env} {s : State} {m : MethodId} {args : Array Value} {below : List Frame} {meth : Method} {c : Code} (C : qC g p l s m args meth c RX4 cX4_trainOf 3) (hr : meth.sig.returnType = (some .int)) (hT : ∀ x ∈ c.exceptionTable.toList, False) (S : qS) (p1 : Int) {r : Int}  : ∀ (f : Nat) (x1 : Int), MX4_trainOf_l2 S p1 f x1 = some r → qZ g p l e rmX4_trainOf s m args below meth c (qQ g below qkI (.inr r) S args s rmX4_trainOf) 3 S [(0, .ref (qad g 110)), (1, .int (qI p1)), (2, .int (qI x1))] 2 [] 0 0 := by
  intro f
  induction f with
  | zero => intro x1 hm; rw [MX4_trainOf_l2] at hm; cases hm
  | succ f ih =>
    intro x1 hm
    rw [MX4_trainOf_l2] at hm
    have hl := C.2.2.2.2.2.2.2.2
    have hA := C.2.2.2.2.2.2.1
    refine z_aload_n C dX4_trainOf_2 0 rfl ?_
    refine gf_X4_50 C rfl dX4_trainOf_3 ?_
    refine z_iload_n C dX4_trainOf_6 2 rfl ?_
    refine z_iconst (x := 1) C dX4_trainOf_7 rfl ?_
    refine z_iadd C dX4_trainOf_8 ?_
    obtain ⟨h2, hm⟩ := qg_i hm
    refine z_iald (N := 31) C rfl h2 (by decide) dX4_trainOf_9 ?_
    refine z_iload_n C dX4_trainOf_10 1 rfl ?_
    obtain ⟨h3, hm⟩ := qg_i hm
    obtain ⟨h4, hm⟩ := qg_i hm
    refine z_icmp_gt (tgt := 20) C dX4_trainOf_11 (by decide) ⟨h3, h4⟩ (fun c5 => ?_) (fun c5 => ?_)
    · have hm := qt_i hm c5
      refine z_iload_n C dX4_trainOf_20 2 rfl ?_
      exact z_iret C hr (by decide) (by decide) (by cases hm; rfl) dX4_trainOf_21
    · have hm := qf_i hm c5
      refine z_iinc (L' := [(2, .int (qI (x1 + 1))), (0, .ref (qad g 110)), (1, .int (qI p1))]) C dX4_trainOf_14 2 rfl (by decide) rfl ?_
      refine z_goto (tgt := 2) C dX4_trainOf_17 (by decide) ?_
      refine z_sub (L' := [(0, .ref (qad g 110)), (1, .int (qI p1)), (2, .int (qI (x1 + 1)))]) [1, 2, 0] rfl ?_
      exact ih (x1 + 1) hm

set_option maxHeartbeats 4000000 in
set_option maxRecDepth 100000 in
theorem met_X4_trainOf (l : Launch) (g : qG) (hl : l.stackTraces = false) (hA : qAd g) (n9 : Nat) (S : qS) (p1 : Int) (r : Int) (hm : MX4_trainOf n9 S p1 = some r) : qM l g yX4_trainOf (.code yX4_trainOf cX4_trainOf 3 (some .int)) rmX4_trainOf qkI [.ref (qad g 110), .int (qI p1)] S (.inr r) S := by
  rw [MX4_trainOf] at hm
  refine qM_of (L := [(0, .ref (qad g 110)), (1, .int (qI p1))]) (by decide +kernel) rfl (Nat.le_of_ble_eq_true rfl) hl hA ?_
  intro p e s m below meth c C hr hT
  have C : qC g p l s m ([.ref (qad g 110), .int (qI p1)] : List Value).toArray meth c RX4 cX4_trainOf 3 := C
  refine z_iconst (x := 0) C dX4_trainOf_0 rfl ?_
  refine z_istore_n (L' := [(2, .int (qI 0)), (0, .ref (qad g 110)), (1, .int (qI p1))]) C dX4_trainOf_1 (by decide) rfl ?_
  refine z_sub (L' := [(0, .ref (qad g 110)), (1, .int (qI p1)), (2, .int (qI 0))]) [1, 2, 0] rfl ?_
  exact met_X4_trainOf_l2 C hr hT S p1  n9 0 hm

set_option maxHeartbeats 4000000 in
set_option maxRecDepth 100000 in
theorem met_X4_carOf_l4 {g : qG} {p : Program} {l : Launch} {e : Env} {s : State} {m : MethodId} {args : Array Value} {below : List Frame} {meth : Method} {c : Code} (C : qC g p l s m args meth c RX4 cX4_carOf 4) (hr : meth.sig.returnType = (some .int)) (hT : ∀ x ∈ c.exceptionTable.toList, False) (n9 : Nat) (S : qS) (p1 : Int) {r : Int}  : ∀ (f : Nat) (x1 : Int) (x2 : Int), MX4_carOf_l4 n9 S p1 f x1 x2 = some r → qZ g p l e rmX4_carOf s m args below meth c (qQ g below qkI (.inr r) S args s rmX4_carOf) 4 S [(0, .ref (qad g 110)), (1, .int (qI p1)), (2, .int (qI x1)), (3, .int (qI x2))] 4 [] 0 0 := by
  intro f
  induction f with
  | zero => intro x1 x2 hm; rw [MX4_carOf_l4] at hm; cases hm
  | succ f ih =>
    intro x1 x2 hm
    rw [MX4_carOf_l4] at hm
    have hl := C.2.2.2.2.2.2.2.2
    have hA := C.2.2.2.2.2.2.1
    refine z_iload_n C dX4_carOf_4 3 rfl ?_
    refine z_aload_n C dX4_carOf_5 0 rfl ?_
    refine gf_X4_99 C rfl dX4_carOf_6 ?_
    obtain ⟨h3, hm⟩ := qg_i hm
    obtain ⟨h4, hm⟩ := qg_i hm
    refine z_icmp_ge (tgt := 41) C dX4_carOf_9 (by decide) ⟨h3, h4⟩ (fun c5 => ?_) (fun c5 => ?_)
    · have hm := qt_i hm c5
      refine z_iload_n C dX4_carOf_41 2 rfl ?_
      exact z_iret C hr (by decide) (by decide) (by cases hm; rfl) dX4_carOf_42
    · have hm := qf_i hm c5
      refine z_iload_n C dX4_carOf_12 1 rfl ?_
      refine z_aload_n C dX4_carOf_13 0 rfl ?_
      refine gf_X4_56 C rfl dX4_carOf_14 ?_
      refine z_iload_n C dX4_carOf_17 3 rfl ?_
      obtain ⟨h6, hm⟩ := qg_i hm
      refine z_iald (N := 15) C rfl h6 (by decide) dX4_carOf_18 ?_
      refine z_isub C dX4_carOf_19 ?_
      obtain ⟨h7, hm⟩ := qg_i hm
      refine z_i2l C dX4_carOf_20 h7 ?_
      refine z_lconst (x := 0) C dX4_carOf_21 (by decide +kernel) ?_
      refine z_lconst (x := 1) C dX4_carOf_22 (by decide +kernel) ?_
      obtain ⟨a8, h9, hm⟩ := qb_i hm
      refine iv_X4_118 C (met_X4_in l g hl hA n9 S (p1 - (S 126 x2.toNat)) 0 1 _ h9) ⟨by decide, by decide⟩ ⟨by decide, by decide⟩ (Nat.le_of_ble_eq_true rfl) dX4_carOf_23 ?_
      obtain ⟨h10, hm⟩ := qg_i hm
      obtain ⟨j12, e13, hm⟩ := ql_i hm
      have hj12 : ∀ (v11 : Int), j12 v11 = some r → qZ g p l e rmX4_carOf s m args below meth c (qQ g below qkI (.inr r) S args s rmX4_carOf) 4 S [(0, .ref (qad g 110)), (1, .int (qI p1)), (3, .int (qI x2))] 34 [.int (qI v11)] 0 0 := by
        intro v11 hm
        rw [e13] at hm
        refine z_istore_n (L' := [(2, .int (qI v11)), (0, .ref (qad g 110)), (1, .int (qI p1)), (3, .int (qI x2))]) C dX4_carOf_34 (by decide) rfl ?_
        refine z_iinc (L' := [(3, .int (qI (x2 + 1))), (2, .int (qI v11)), (0, .ref (qad g 110)), (1, .int (qI p1))]) C dX4_carOf_35 3 rfl (by decide) rfl ?_
        refine z_goto (tgt := 4) C dX4_carOf_38 (by decide) ?_
        refine z_sub (L' := [(0, .ref (qad g 110)), (1, .int (qI p1)), (2, .int (qI v11)), (3, .int (qI (x2 + 1)))]) [2, 3, 1, 0] rfl ?_
        exact ih v11 (x2 + 1) hm
      clear e13
      refine z_if_eq (tgt := 33) C dX4_carOf_26 (by decide) h10 (fun c14 => ?_) (fun c14 => ?_)
      · have hm := qt_i hm c14
        refine z_iload_n C dX4_carOf_33 2 rfl ?_
        refine z_sub (L' := [(0, .ref (qad g 110)), (1, .int (qI p1)), (3, .int (qI x2))]) [0, 1, 3] rfl ?_
        exact hj12 x1 hm
      · have hm := qf_i hm c14
        refine z_iload_n C dX4_carOf_29 3 rfl ?_
        refine z_goto (tgt := 34) C dX4_carOf_30 (by decide) ?_
        refine z_sub (L' := [(0, .ref (qad g 110)), (1, .int (qI p1)), (3, .int (qI x2))]) [0, 1, 3] rfl ?_
        exact hj12 x2 hm

set_option maxHeartbeats 4000000 in
set_option maxRecDepth 100000 in
theorem met_X4_carOf (l : Launch) (g : qG) (hl : l.stackTraces = false) (hA : qAd g) (n9 : Nat) (S : qS) (p1 : Int) (r : Int) (hm : MX4_carOf n9 S p1 = some r) : qM l g yX4_carOf (.code yX4_carOf cX4_carOf 4 (some .int)) rmX4_carOf qkI [.ref (qad g 110), .int (qI p1)] S (.inr r) S := by
  rw [MX4_carOf] at hm
  refine qM_of (L := [(0, .ref (qad g 110)), (1, .int (qI p1))]) (by decide +kernel) rfl (Nat.le_of_ble_eq_true rfl) hl hA ?_
  intro p e s m below meth c C hr hT
  have C : qC g p l s m ([.ref (qad g 110), .int (qI p1)] : List Value).toArray meth c RX4 cX4_carOf 4 := C
  refine z_iconst (x := (-1)) C dX4_carOf_0 rfl ?_
  refine z_istore_n (L' := [(2, .int (qI (-1))), (0, .ref (qad g 110)), (1, .int (qI p1))]) C dX4_carOf_1 (by decide) rfl ?_
  refine z_iconst (x := 0) C dX4_carOf_2 rfl ?_
  refine z_istore_n (L' := [(3, .int (qI 0)), (2, .int (qI (-1))), (0, .ref (qad g 110)), (1, .int (qI p1))]) C dX4_carOf_3 (by decide) rfl ?_
  refine z_sub (L' := [(0, .ref (qad g 110)), (1, .int (qI p1)), (2, .int (qI (-1))), (3, .int (qI 0))]) [2, 3, 1, 0] rfl ?_
  exact met_X4_carOf_l4 C hr hT n9 S p1  n9 (-1) 0 hm

set_option maxHeartbeats 4000000 in
set_option maxRecDepth 100000 in
theorem met_X4_rollIn (l : Launch) (g : qG) (hl : l.stackTraces = false) (hA : qAd g) (n9 : Nat) (S : qS) (u0 : Nat) (p1 : Int) (p2 : Int) (r : Int × qS) (hm : MX4_rollIn n9 S u0 p1 p2 = some r) : qM l g yX4_rollIn (.code yX4_rollIn cX4_rollIn 4 (some .int)) rmX4_rollIn qkI [.ref (qad g u0), .int (qI p1), .int (qI p2)] S (.inr r.1) r.2 := by
  rw [MX4_rollIn] at hm
  obtain ⟨hq0, hm⟩ := qg_i hm
  refine qM_of (L := [(0, .ref (qad g u0)), (1, .int (qI p1)), (2, .int (qI p2))]) (by decide +kernel) rfl (Nat.le_of_ble_eq_true rfl) hl hA ?_
  intro p e s m below meth c C hr hT
  have C : qC g p l s m ([.ref (qad g u0), .int (qI p1), .int (qI p2)] : List Value).toArray meth c RX4 cX4_rollIn 4 := C
  refine z_aload_n C dX4_rollIn_0 0 rfl ?_
  refine z_iconst (x := 0) C dX4_rollIn_1 rfl ?_
  obtain ⟨h1, hm⟩ := qg_i hm
  refine z_iald (N := (qlen u0)) C (qlen_eq hq0) h1 (qlen_le _) dX4_rollIn_2 ?_
  obtain ⟨x2, e3, hm⟩ := ql_i hm
  refine z_topi e3 ?_
  refine z_istore_n (L' := [(3, .int (qI x2)), (0, .ref (qad g u0)), (1, .int (qI p1)), (2, .int (qI p2))]) C dX4_rollIn_3 (by decide) rfl ?_
  refine z_aload_n C dX4_rollIn_4 1 rfl ?_
  refine z_bipush (x := 35) C dX4_rollIn_5 (by decide +kernel) ?_
  refine z_iload_n C dX4_rollIn_7 0 rfl ?_
  refine z_iadd C dX4_rollIn_8 ?_
  refine z_iload_n C dX4_rollIn_9 2 rfl ?_
  obtain ⟨h4, hm⟩ := qg_i hm
  refine z_iast (N := (qlen u0)) C (qlen_eq hq0) h4 (qlen_le _) dX4_rollIn_10 ?_
  obtain ⟨S5, e6, hm⟩ := ql_i hm
  refine z_S e6 ?_
  refine z_aload_n C dX4_rollIn_11 1 rfl ?_
  refine z_bipush (x := 65) C dX4_rollIn_12 (by decide +kernel) ?_
  refine z_iload_n C dX4_rollIn_14 0 rfl ?_
  refine z_iadd C dX4_rollIn_15 ?_
  refine z_iload_n C dX4_rollIn_16 3 rfl ?_
  obtain ⟨h7, hm⟩ := qg_i hm
  refine z_iast (N := (qlen u0)) C (qlen_eq hq0) h7 (qlen_le _) dX4_rollIn_17 ?_
  obtain ⟨S8, e9, hm⟩ := ql_i hm
  refine z_S e9 ?_
  refine z_aload_n C dX4_rollIn_18 1 rfl ?_
  refine z_iconst (x := 0) C dX4_rollIn_19 rfl ?_
  refine z_dup2 C dX4_rollIn_20 rfl rfl ?_
  obtain ⟨h10, hm⟩ := qg_i hm
  refine z_iald (N := (qlen u0)) C (qlen_eq hq0) h10 (qlen_le _) dX4_rollIn_21 ?_
  refine z_iconst (x := 1) C dX4_rollIn_22 rfl ?_
  refine z_iadd C dX4_rollIn_23 ?_
  obtain ⟨h11, hm⟩ := qg_i hm
  refine z_iast (N := (qlen u0)) C (qlen_eq hq0) h11 (qlen_le _) dX4_rollIn_24 ?_
  obtain ⟨S12, e13, hm⟩ := ql_i hm
  refine z_S e13 ?_
  refine z_iload_n C dX4_rollIn_25 0 rfl ?_
  exact z_iret C hr (by decide) (by decide) (by cases hm; rfl) dX4_rollIn_26

set_option maxHeartbeats 4000000 in
set_option maxRecDepth 100000 in
theorem met_X4_cutOut (l : Launch) (g : qG) (hl : l.stackTraces = false) (hA : qAd g) (n9 : Nat) (S : qS) (u0 : Nat) (p1 : Int) (p2 : Int) (r : qS) (hm : MX4_cutOut n9 S u0 p1 p2 = some r) : qM l g yX4_cutOut (.code yX4_cutOut cX4_cutOut 3 none) rmX4_cutOut qkV [.ref (qad g u0), .int (qI p1), .int (qI p2)] S (.inr 0) r := by
  rw [MX4_cutOut] at hm
  obtain ⟨hq0, hm⟩ := qg_i hm
  refine qM_of (L := [(0, .ref (qad g u0)), (1, .int (qI p1)), (2, .int (qI p2))]) (by decide +kernel) rfl (Nat.le_of_ble_eq_true rfl) hl hA ?_
  intro p e s m below meth c C hr hT
  have C : qC g p l s m ([.ref (qad g u0), .int (qI p1), .int (qI p2)] : List Value).toArray meth c RX4 cX4_cutOut 3 := C
  refine z_aload_n C dX4_cutOut_0 0 rfl ?_
  refine z_bipush (x := 35) C dX4_cutOut_1 (by decide +kernel) ?_
  refine z_iload_n C dX4_cutOut_3 1 rfl ?_
  refine z_iadd C dX4_cutOut_4 ?_
  refine z_iload_n C dX4_cutOut_5 2 rfl ?_
  refine z_iadd C dX4_cutOut_6 ?_
  refine z_aload_n C dX4_cutOut_7 0 rfl ?_
  refine z_bipush (x := 35) C dX4_cutOut_8 (by decide +kernel) ?_
  refine z_iload_n C dX4_cutOut_10 1 rfl ?_
  refine z_iadd C dX4_cutOut_11 ?_
  refine z_aload_n C dX4_cutOut_12 0 rfl ?_
  refine z_iconst (x := 0) C dX4_cutOut_13 rfl ?_
  obtain ⟨h1, hm⟩ := qg_i hm
  refine z_iald (N := (qlen u0)) C (qlen_eq hq0) h1 (qlen_le _) dX4_cutOut_14 ?_
  refine z_iload_n C dX4_cutOut_15 1 rfl ?_
  refine z_isub C dX4_cutOut_16 ?_
  refine z_iload_n C dX4_cutOut_17 2 rfl ?_
  refine z_isub C dX4_cutOut_18 ?_
  obtain ⟨a2, h3, hm⟩ := qb_i hm
  refine iv_X4_68 C (met_X4_copy l g hl hA n9 S u0 ((35 + p1) + p2) u0 (35 + p1) (((S u0 (0 : Int).toNat) - p1) - p2) _ h3) ⟨by decide, by decide⟩ ⟨by decide, by decide⟩ (Nat.le_of_ble_eq_true rfl) dX4_cutOut_19 ?_
  refine z_aload_n C dX4_cutOut_22 0 rfl ?_
  refine z_bipush (x := 65) C dX4_cutOut_23 (by decide +kernel) ?_
  refine z_iload_n C dX4_cutOut_25 1 rfl ?_
  refine z_iadd C dX4_cutOut_26 ?_
  refine z_iload_n C dX4_cutOut_27 2 rfl ?_
  refine z_iadd C dX4_cutOut_28 ?_
  refine z_aload_n C dX4_cutOut_29 0 rfl ?_
  refine z_bipush (x := 65) C dX4_cutOut_30 (by decide +kernel) ?_
  refine z_iload_n C dX4_cutOut_32 1 rfl ?_
  refine z_iadd C dX4_cutOut_33 ?_
  refine z_aload_n C dX4_cutOut_34 0 rfl ?_
  refine z_iconst (x := 0) C dX4_cutOut_35 rfl ?_
  obtain ⟨h4, hm⟩ := qg_i hm
  refine z_iald (N := (qlen u0)) C (qlen_eq hq0) h4 (qlen_le _) dX4_cutOut_36 ?_
  refine z_iload_n C dX4_cutOut_37 1 rfl ?_
  refine z_isub C dX4_cutOut_38 ?_
  refine z_iload_n C dX4_cutOut_39 2 rfl ?_
  refine z_isub C dX4_cutOut_40 ?_
  obtain ⟨a5, h6, hm⟩ := qb_i hm
  refine iv_X4_68 C (met_X4_copy l g hl hA n9 a2 u0 ((65 + p1) + p2) u0 (65 + p1) (((a2 u0 (0 : Int).toNat) - p1) - p2) _ h6) ⟨by decide, by decide⟩ ⟨by decide, by decide⟩ (Nat.le_of_ble_eq_true rfl) dX4_cutOut_41 ?_
  refine z_aload_n C dX4_cutOut_44 0 rfl ?_
  refine z_iconst (x := 0) C dX4_cutOut_45 rfl ?_
  refine z_dup2 C dX4_cutOut_46 rfl rfl ?_
  obtain ⟨h7, hm⟩ := qg_i hm
  refine z_iald (N := (qlen u0)) C (qlen_eq hq0) h7 (qlen_le _) dX4_cutOut_47 ?_
  refine z_iload_n C dX4_cutOut_48 2 rfl ?_
  refine z_isub C dX4_cutOut_49 ?_
  obtain ⟨h8, hm⟩ := qg_i hm
  refine z_iast (N := (qlen u0)) C (qlen_eq hq0) h8 (qlen_le _) dX4_cutOut_50 ?_
  obtain ⟨S9, e10, hm⟩ := ql_i hm
  refine z_S e10 ?_
  exact z_vret C hr (by decide) (by decide) (by cases hm; rfl) dX4_cutOut_51

set_option maxHeartbeats 4000000 in
set_option maxRecDepth 100000 in
theorem met_X4_strikeIn (l : Launch) (g : qG) (hl : l.stackTraces = false) (hA : qAd g) (n9 : Nat) (S : qS) (u0 : Nat) (p1 : Int) (r : Int × qS) (hm : MX4_strikeIn n9 S u0 p1 = some r) : qM l g yX4_strikeIn (.code yX4_strikeIn cX4_strikeIn 4 (some .int)) rmX4_strikeIn qkI [.ref (qad g u0), .int (qI p1)] S (.inr r.1) r.2 := by
  rw [MX4_strikeIn] at hm
  obtain ⟨hq0, hm⟩ := qg_i hm
  refine qM_of (L := [(0, .ref (qad g u0)), (1, .int (qI p1))]) (by decide +kernel) rfl (Nat.le_of_ble_eq_true rfl) hl hA ?_
  intro p e s m below meth c C hr hT
  have C : qC g p l s m ([.ref (qad g u0), .int (qI p1)] : List Value).toArray meth c RX4 cX4_strikeIn 4 := C
  refine z_aload_n C dX4_strikeIn_0 0 rfl ?_
  refine z_bipush (x := 35) C dX4_strikeIn_1 (by decide +kernel) ?_
  refine z_iload_n C dX4_strikeIn_3 1 rfl ?_
  refine z_iadd C dX4_strikeIn_4 ?_
  obtain ⟨h1, hm⟩ := qg_i hm
  refine z_iald (N := (qlen u0)) C (qlen_eq hq0) h1 (qlen_le _) dX4_strikeIn_5 ?_
  obtain ⟨x2, e3, hm⟩ := ql_i hm
  refine z_topi e3 ?_
  refine z_istore_n (L' := [(2, .int (qI x2)), (0, .ref (qad g u0)), (1, .int (qI p1))]) C dX4_strikeIn_6 (by decide) rfl ?_
  refine z_aload_n C dX4_strikeIn_7 1 rfl ?_
  refine z_iload_n C dX4_strikeIn_8 2 rfl ?_
  refine z_iconst (x := 1) C dX4_strikeIn_9 rfl ?_
  obtain ⟨a4, h5, hm⟩ := qb_i hm
  refine iv_X4_122 C (met_X4_cutOut l g hl hA n9 S u0 p1 1 _ h5) ⟨by decide, by decide⟩ ⟨by decide, by decide⟩ (Nat.le_of_ble_eq_true rfl) dX4_strikeIn_10 ?_
  refine z_iload_n C dX4_strikeIn_13 2 rfl ?_
  refine z_aload_n C dX4_strikeIn_14 1 rfl ?_
  refine z_iconst (x := 0) C dX4_strikeIn_15 rfl ?_
  obtain ⟨h6, hm⟩ := qg_i hm
  refine z_iald (N := (qlen u0)) C (qlen_eq hq0) h6 (qlen_le _) dX4_strikeIn_16 ?_
  obtain ⟨h7, hm⟩ := qg_i hm
  obtain ⟨h8, hm⟩ := qg_i hm
  obtain ⟨j10, e12, hm⟩ := ql_i hm
  have hj10 : ∀ (S9 : qS), j10 S9 = some r → qZ g p l e rmX4_strikeIn s m ([.ref (qad g u0), .int (qI p1)] : List Value).toArray below meth c (qQ g below qkI (.inr r.1) r.2 ([.ref (qad g u0), .int (qI p1)] : List Value).toArray s rmX4_strikeIn) 4 S9 [(0, .ref (qad g u0))] 47 [] 0 0 := by
    intro S9 hm
    rw [e12] at hm
    refine z_aload_n C dX4_strikeIn_47 0 rfl ?_
    refine z_iconst (x := 0) C dX4_strikeIn_48 rfl ?_
    obtain ⟨h11, hm⟩ := qg_i hm
    refine z_iald (N := (qlen u0)) C (qlen_eq hq0) h11 (qlen_le _) dX4_strikeIn_49 ?_
    exact z_iret C hr (by decide) (by decide) (by cases hm; rfl) dX4_strikeIn_50
  clear e12
  refine z_icmp_ge (tgt := 47) C dX4_strikeIn_17 (by decide) ⟨h7, h8⟩ (fun c13 => ?_) (fun c13 => ?_)
  · have hm := qt_i hm c13
    refine z_sub (L' := [(0, .ref (qad g u0))]) [1] rfl ?_
    exact hj10 a4 hm
  · have hm := qf_i hm c13
    refine z_aload_n C dX4_strikeIn_20 1 rfl ?_
    refine z_bipush (x := 35) C dX4_strikeIn_21 (by decide +kernel) ?_
    refine z_iload_n C dX4_strikeIn_23 2 rfl ?_
    refine z_iadd C dX4_strikeIn_24 ?_
    obtain ⟨h14, hm⟩ := qg_i hm
    refine z_iald (N := (qlen u0)) C (qlen_eq hq0) h14 (qlen_le _) dX4_strikeIn_25 ?_
    refine z_iload_n C dX4_strikeIn_26 0 rfl ?_
    refine z_iadd C dX4_strikeIn_27 ?_
    obtain ⟨x15, e16, hm⟩ := ql_i hm
    refine z_topi e16 ?_
    refine z_istore_n (L' := [(3, .int (qI x15)), (2, .int (qI x2)), (0, .ref (qad g u0)), (1, .int (qI p1))]) C dX4_strikeIn_28 (by decide) rfl ?_
    refine z_aload_n C dX4_strikeIn_29 2 rfl ?_
    refine z_bipush (x := 35) C dX4_strikeIn_30 (by decide +kernel) ?_
    refine z_iload_n C dX4_strikeIn_32 3 rfl ?_
    refine z_iadd C dX4_strikeIn_33 ?_
    refine z_iload_n C dX4_strikeIn_34 0 rfl ?_
    refine z_bipush (x := 60) C dX4_strikeIn_35 (by decide +kernel) ?_
    obtain ⟨h17, hm⟩ := qg_i hm
    obtain ⟨j19, e23, hm⟩ := ql_i hm
    have hj19 : ∀ (v18 : Int), j19 v18 = some r → qZ g p l e rmX4_strikeIn s m ([.ref (qad g u0), .int (qI p1)] : List Value).toArray below meth c (qQ g below qkI (.inr r.1) r.2 ([.ref (qad g u0), .int (qI p1)] : List Value).toArray s rmX4_strikeIn) 4 a4 [(0, .ref (qad g u0))] 46 [.int (qI v18), .int (qI (35 + p1)), .ref (qad g u0)] 0 0 := by
      intro v18 hm
      rw [e23] at hm
      obtain ⟨h20, hm⟩ := qg_i hm
      refine z_iast (N := (qlen u0)) C (qlen_eq hq0) h20 (qlen_le _) dX4_strikeIn_46 ?_
      obtain ⟨S21, e22, hm⟩ := ql_i hm
      refine z_S e22 ?_
      exact hj10 S21 hm
    clear e23
    refine z_icmp_le (tgt := 45) C dX4_strikeIn_37 (by decide) ⟨h17, (by decide)⟩ (fun c24 => ?_) (fun c24 => ?_)
    · have hm := qt_i hm c24
      refine z_iload_n C dX4_strikeIn_45 0 rfl ?_
      refine z_sub (L' := [(0, .ref (qad g u0))]) [2] rfl ?_
      exact hj19 x15 hm
    · have hm := qf_i hm c24
      refine z_bipush (x := 60) C dX4_strikeIn_40 (by decide +kernel) ?_
      refine z_goto (tgt := 46) C dX4_strikeIn_42 (by decide) ?_
      refine z_sub (L' := [(0, .ref (qad g u0))]) [2] rfl ?_
      exact hj19 60 hm

set_option maxHeartbeats 4000000 in
set_option maxRecDepth 100000 in
theorem met_X4_leaveIn_l17 {g : qG} {p : Program} {l : Launch} {e : Env} {s : State} {m : MethodId} {args : Array Value} {below : List Frame} {meth : Method} {c : Code} (C : qC g p l s m args meth c RX4 cX4_leaveIn 5) (hr : meth.sig.returnType = (some .int)) (hT : ∀ x ∈ c.exceptionTable.toList, False) (n9 : Nat) (u1 : Nat) (a1 : qS) (x4 : Int) {r : Int × qS} (k61 : Int → Option (Int × qS)) (hq1 : 10 ≤ qk u1) (hk61 : ∀ (y1 : Int), k61 y1 = some r → qZ g p l e rmX4_leaveIn s m args below meth c (qQ g below qkI (.inr r.1) r.2 args s rmX4_leaveIn) 5 a1 [(1, .ref (qad g u1)), (2, .int (qI x4)), (3, .int (qI y1))] 61 [] 0 0) : ∀ (f : Nat) (x16 : Int) (x17 : Int), MX4_leaveIn_l17 n9 u1 a1 x4 k61 f x16 x17 = some r → qZ g p l e rmX4_leaveIn s m args below meth c (qQ g below qkI (.inr r.1) r.2 args s rmX4_leaveIn) 5 a1 [(0, .ref (qad g 110)), (1, .ref (qad g u1)), (2, .int (qI x4)), (3, .int (qI x16)), (4, .int (qI x17))] 17 [] 0 0 := by
  intro f
  induction f with
  | zero => intro x16 x17 hm; rw [MX4_leaveIn_l17] at hm; cases hm
  | succ f ih =>
    intro x16 x17 hm
    rw [MX4_leaveIn_l17] at hm
    have hl := C.2.2.2.2.2.2.2.2
    have hA := C.2.2.2.2.2.2.1
    refine z_iload C dX4_leaveIn_17 4 rfl ?_
    refine z_aload_n C dX4_leaveIn_19 0 rfl ?_
    refine gf_X4_99 C rfl dX4_leaveIn_20 ?_
    obtain ⟨h18, hm⟩ := qg_i hm
    obtain ⟨h19, hm⟩ := qg_i hm
    refine z_icmp_ge (tgt := 61) C dX4_leaveIn_23 (by decide) ⟨h18, h19⟩ (fun c20 => ?_) (fun c20 => ?_)
    · have hm := qt_i hm c20
      refine z_sub (L' := [(1, .ref (qad g u1)), (2, .int (qI x4)), (3, .int (qI x16))]) [1, 2, 3] rfl ?_
      exact hk61 x16 hm
    · have hm := qf_i hm c20
      refine z_iload_n C dX4_leaveIn_26 3 rfl ?_
      refine z_aload_n C dX4_leaveIn_27 0 rfl ?_
      refine gf_X4_56 C rfl dX4_leaveIn_28 ?_
      refine z_iload C dX4_leaveIn_31 4 rfl ?_
      obtain ⟨h21, hm⟩ := qg_i hm
      refine z_iald (N := 15) C rfl h21 (by decide) dX4_leaveIn_33 ?_
      refine z_iload_n C dX4_leaveIn_34 2 rfl ?_
      obtain ⟨h22, hm⟩ := qg_i hm
      obtain ⟨h23, hm⟩ := qg_i hm
      obtain ⟨j25, e28, hm⟩ := ql_i hm
      have hj25 : ∀ (v24 : Int), j25 v24 = some r → qZ g p l e rmX4_leaveIn s m args below meth c (qQ g below qkI (.inr r.1) r.2 args s rmX4_leaveIn) 5 a1 [(0, .ref (qad g 110)), (1, .ref (qad g u1)), (2, .int (qI x4)), (4, .int (qI x17))] 53 [.int (qI v24), .int (qI x16)] 0 0 := by
        intro v24 hm
        rw [e28] at hm
        refine z_iadd C dX4_leaveIn_53 ?_
        obtain ⟨x26, e27, hm⟩ := ql_i hm
        refine z_topi e27 ?_
        refine z_istore_n (L' := [(3, .int (qI x26)), (0, .ref (qad g 110)), (1, .ref (qad g u1)), (2, .int (qI x4)), (4, .int (qI x17))]) C dX4_leaveIn_54 (by decide) rfl ?_
        refine z_iinc (L' := [(4, .int (qI (x17 + 1))), (3, .int (qI x26)), (0, .ref (qad g 110)), (1, .ref (qad g u1)), (2, .int (qI x4))]) C dX4_leaveIn_55 4 rfl (by decide) rfl ?_
        refine z_goto (tgt := 17) C dX4_leaveIn_58 (by decide) ?_
        refine z_sub (L' := [(0, .ref (qad g 110)), (1, .ref (qad g u1)), (2, .int (qI x4)), (3, .int (qI x26)), (4, .int (qI (x17 + 1)))]) [2, 3, 4, 1, 0] rfl ?_
        exact ih x26 (x17 + 1) hm
      clear e28
      refine z_icmp_ge (tgt := 52) C dX4_leaveIn_35 (by decide) ⟨h22, h23⟩ (fun c29 => ?_) (fun c29 => ?_)
      · have hm := qt_i hm c29
        refine z_iconst (x := 0) C dX4_leaveIn_52 rfl ?_
        refine z_sub (L' := [(0, .ref (qad g 110)), (1, .ref (qad g u1)), (2, .int (qI x4)), (4, .int (qI x17))]) [0, 1, 2, 4] rfl ?_
        exact hj25 0 hm
      · have hm := qf_i hm c29
        refine z_aload_n C dX4_leaveIn_38 1 rfl ?_
        refine z_aload_n C dX4_leaveIn_39 0 rfl ?_
        refine gf_X4_56 C rfl dX4_leaveIn_40 ?_
        refine z_iload C dX4_leaveIn_43 4 rfl ?_
        obtain ⟨h30, hm⟩ := qg_i hm
        refine z_iald (N := 15) C rfl h30 (by decide) dX4_leaveIn_45 ?_
        obtain ⟨a31, h32, hm⟩ := qb_i hm
        refine iv_X4_115 C (met_X4_carWeight l g hl hA n9 a1 u1 (a1 126 x17.toNat) _ h32) ⟨by decide, by decide⟩ ⟨by decide, by decide⟩ (Nat.le_of_ble_eq_true rfl) dX4_leaveIn_46 ?_
        refine z_goto (tgt := 53) C dX4_leaveIn_49 (by decide) ?_
        refine z_sub (L' := [(0, .ref (qad g 110)), (1, .ref (qad g u1)), (2, .int (qI x4)), (4, .int (qI x17))]) [0, 1, 2, 4] rfl ?_
        exact hj25 a31 hm

set_option maxHeartbeats 4000000 in
set_option maxRecDepth 100000 in
theorem met_X4_leaveIn (l : Launch) (g : qG) (hl : l.stackTraces = false) (hA : qAd g) (n9 : Nat) (S : qS) (u1 : Nat) (r : Int × qS) (hm : MX4_leaveIn n9 S u1 = some r) : qM l g yX4_leaveIn (.code yX4_leaveIn cX4_leaveIn 5 (some .int)) rmX4_leaveIn qkI [.ref (qad g 110), .ref (qad g u1)] S (.inr r.1) r.2 := by
  rw [MX4_leaveIn] at hm
  obtain ⟨hq1, hm⟩ := qg_i hm
  refine qM_of (L := [(0, .ref (qad g 110)), (1, .ref (qad g u1))]) (by decide +kernel) rfl (Nat.le_of_ble_eq_true rfl) hl hA ?_
  intro p e s m below meth c C hr hT
  have C : qC g p l s m ([.ref (qad g 110), .ref (qad g u1)] : List Value).toArray meth c RX4 cX4_leaveIn 5 := C
  refine z_aload_n C dX4_leaveIn_0 0 rfl ?_
  refine z_aload_n C dX4_leaveIn_1 1 rfl ?_
  obtain ⟨a1, h2, hm⟩ := qb_i hm
  refine iv_X4_125 C (met_X4_lay l g hl hA n9 S u1 _ h2) rfl ⟨by decide, by decide⟩ ⟨by decide, by decide⟩ (Nat.le_of_ble_eq_true rfl) dX4_leaveIn_2 ?_
  refine z_aload_n C dX4_leaveIn_5 0 rfl ?_
  refine gf_X4_50 C rfl dX4_leaveIn_6 ?_
  refine z_iconst (x := 1) C dX4_leaveIn_9 rfl ?_
  obtain ⟨h3, hm⟩ := qg_i hm
  refine z_iald (N := 31) C rfl h3 (by decide) dX4_leaveIn_10 ?_
  obtain ⟨x4, e5, hm⟩ := ql_i hm
  refine z_topi e5 ?_
  refine z_istore_n (L' := [(2, .int (qI x4)), (0, .ref (qad g 110)), (1, .ref (qad g u1))]) C dX4_leaveIn_11 (by decide) rfl ?_
  refine z_iconst (x := 0) C dX4_leaveIn_12 rfl ?_
  refine z_istore_n (L' := [(3, .int (qI 0)), (2, .int (qI x4)), (0, .ref (qad g 110)), (1, .ref (qad g u1))]) C dX4_leaveIn_13 (by decide) rfl ?_
  refine z_iconst (x := 0) C dX4_leaveIn_14 rfl ?_
  refine z_istore (L' := [(4, .int (qI 0)), (3, .int (qI 0)), (2, .int (qI x4)), (0, .ref (qad g 110)), (1, .ref (qad g u1))]) C dX4_leaveIn_15 (by decide) rfl ?_
  obtain ⟨j7, e15, hm⟩ := ql_i hm
  have hj7 : ∀ (x6 : Int), j7 x6 = some r → qZ g p l e rmX4_leaveIn s m ([.ref (qad g 110), .ref (qad g u1)] : List Value).toArray below meth c (qQ g below qkI (.inr r.1) r.2 ([.ref (qad g 110), .ref (qad g u1)] : List Value).toArray s rmX4_leaveIn) 5 a1 [(1, .ref (qad g u1)), (2, .int (qI x4)), (3, .int (qI x6))] 61 [] 0 0 := by
    intro x6 hm
    rw [e15] at hm
    refine z_aload_n C dX4_leaveIn_61 0 rfl ?_
    refine z_iconst (x := 0) C dX4_leaveIn_62 rfl ?_
    refine z_iload_n C dX4_leaveIn_63 1 rfl ?_
    obtain ⟨a8, h9, hm⟩ := qb_i hm
    refine iv_X4_122 C (met_X4_cutOut l g hl hA n9 a1 u1 0 x4 _ h9) ⟨by decide, by decide⟩ ⟨by decide, by decide⟩ (Nat.le_of_ble_eq_true rfl) dX4_leaveIn_64 ?_
    refine z_aload_n C dX4_leaveIn_67 0 rfl ?_
    refine z_bipush (x := 6) C dX4_leaveIn_68 (by decide +kernel) ?_
    refine z_aload_n C dX4_leaveIn_70 0 rfl ?_
    refine z_iconst (x := 5) C dX4_leaveIn_71 rfl ?_
    refine z_bipush (x := 29) C dX4_leaveIn_72 (by decide +kernel) ?_
    obtain ⟨a10, h11, hm⟩ := qb_i hm
    refine iv_X4_68 C (met_X4_copy l g hl hA n9 a8 u1 6 u1 5 29 _ h11) ⟨by decide, by decide⟩ ⟨by decide, by decide⟩ (Nat.le_of_ble_eq_true rfl) dX4_leaveIn_74 ?_
    refine z_aload_n C dX4_leaveIn_77 0 rfl ?_
    refine z_bipush (x := 34) C dX4_leaveIn_78 (by decide +kernel) ?_
    refine z_iconst (x := 0) C dX4_leaveIn_80 rfl ?_
    obtain ⟨h12, hm⟩ := qg_i hm
    refine z_iast (N := (qlen u1)) C (qlen_eq hq1) h12 (qlen_le _) dX4_leaveIn_81 ?_
    obtain ⟨S13, e14, hm⟩ := ql_i hm
    refine z_S e14 ?_
    refine z_iload_n C dX4_leaveIn_82 2 rfl ?_
    exact z_iret C hr (by decide) (by decide) (by cases hm; rfl) dX4_leaveIn_83
  clear e15
  refine z_sub (L' := [(0, .ref (qad g 110)), (1, .ref (qad g u1)), (2, .int (qI x4)), (3, .int (qI 0)), (4, .int (qI 0))]) [3, 4, 2, 1, 0] rfl ?_
  exact met_X4_leaveIn_l17 C hr hT n9 u1 a1 x4 j7 hq1 hj7 n9 0 0 hm

set_option maxHeartbeats 4000000 in
set_option maxRecDepth 100000 in
theorem met_X4_append (l : Launch) (g : qG) (hl : l.stackTraces = false) (hA : qAd g) (n9 : Nat) (S : qS) (p1 : Int) (r : Int × qS) (hm : MX4_append n9 S p1 = some r) : qM l g yX4_append (.code yX4_append cX4_append 2 (some .int)) rmX4_append qkI [.ref (qad g 110), .int (qI p1)] S (.inr r.1) r.2 := by
  rw [MX4_append] at hm
  refine qM_of (L := [(0, .ref (qad g 110)), (1, .int (qI p1))]) (by decide +kernel) rfl (Nat.le_of_ble_eq_true rfl) hl hA ?_
  intro p e s m below meth c C hr hT
  have C : qC g p l s m ([.ref (qad g 110), .int (qI p1)] : List Value).toArray meth c RX4 cX4_append 2 := C
  refine z_aload_n C dX4_append_0 0 rfl ?_
  refine z_iload_n C dX4_append_1 1 rfl ?_
  obtain ⟨h1, hm⟩ := qg_i hm
  refine z_i2l C dX4_append_2 h1 ?_
  refine z_lconst (x := 0) C dX4_append_3 (by decide +kernel) ?_
  refine z_ldc2 (x := 255) C dX4_append_4 qct_X4_129 (by decide +kernel) ?_
  obtain ⟨a2, h3, hm⟩ := qb_i hm
  refine iv_X4_118 C (met_X4_in l g hl hA n9 S p1 0 255 _ h3) ⟨by decide, by decide⟩ ⟨by decide, by decide⟩ (Nat.le_of_ble_eq_true rfl) dX4_append_7 ?_
  obtain ⟨h4, hm⟩ := qg_i hm
  obtain ⟨j6, e16, hm⟩ := ql_i hm
  have hj6 : ∀ (v5 : Int), j6 v5 = some r → qZ g p l e rmX4_append s m ([.ref (qad g 110), .int (qI p1)] : List Value).toArray below meth c (qQ g below qkI (.inr r.1) r.2 ([.ref (qad g 110), .int (qI p1)] : List Value).toArray s rmX4_append) 2 S [(0, .ref (qad g 110)), (1, .int (qI p1))] 31 [.int (qI v5), .ref (qad g 110)] 0 0 := by
    intro v5 hm
    rw [e16] at hm
    obtain ⟨a7, h8, hm⟩ := qb_i hm
    refine iv_X4_134 C (met_X4_refused l g hl hA n9 S v5 _ h8) rfl ⟨by decide, by decide⟩ ⟨by decide, by decide⟩ (Nat.le_of_ble_eq_true rfl) dX4_append_31 ?_
    obtain ⟨h9, hm⟩ := qg_i hm
    refine z_if_eq (tgt := 39) C dX4_append_34 (by decide) h9 (fun c10 => ?_) (fun c10 => ?_)
    · have hm := qt_i hm c10
      refine z_aload_n C dX4_append_39 0 rfl ?_
      refine gf_X4_7 C rfl dX4_append_40 ?_
      refine z_aload_n C dX4_append_43 0 rfl ?_
      refine gf_X4_131 C rfl dX4_append_44 ?_
      refine z_iload_n C dX4_append_47 1 rfl ?_
      obtain ⟨h11, hm⟩ := qg_i hm
      refine z_iast (N := 120) C rfl h11 (by decide) dX4_append_48 ?_
      obtain ⟨S12, e13, hm⟩ := ql_i hm
      refine z_S e13 ?_
      refine z_aload_n C dX4_append_49 0 rfl ?_
      refine z_dup C dX4_append_50 rfl ?_
      refine gf_X4_131 C rfl dX4_append_51 ?_
      refine z_iconst (x := 1) C dX4_append_54 rfl ?_
      refine z_iadd C dX4_append_55 ?_
      refine pf_X4_131 C rfl dX4_append_56 ?_
      obtain ⟨S14, e15, hm⟩ := ql_i hm
      refine z_S e15 ?_
      refine z_aload_n C dX4_append_59 0 rfl ?_
      refine gf_X4_131 C rfl dX4_append_60 ?_
      exact z_iret C hr (by decide) (by decide) (by cases hm; rfl) dX4_append_63
    · have hm := qf_i hm c10
      refine z_iconst (x := 0) C dX4_append_37 rfl ?_
      exact z_iret C hr (by decide) (by decide) (by cases hm; rfl) dX4_append_38
  clear e16
  refine z_if_ne (tgt := 17) C dX4_append_10 (by decide) h4 (fun c17 => ?_) (fun c17 => ?_)
  · have hm := qt_i hm c17
    refine z_iconst (x := 1) C dX4_append_13 rfl ?_
    refine z_goto (tgt := 31) C dX4_append_14 (by decide) ?_
    exact hj6 1 hm
  · have hm := qf_i hm c17
    refine z_aload_n C dX4_append_17 0 rfl ?_
    refine gf_X4_131 C rfl dX4_append_18 ?_
    refine z_bipush (x := 120) C dX4_append_21 (by decide +kernel) ?_
    obtain ⟨h18, hm⟩ := qg_i hm
    refine z_icmp_ne (tgt := 30) C dX4_append_23 (by decide) ⟨h18, (by decide)⟩ (fun c19 => ?_) (fun c19 => ?_)
    · have hm := qt_i hm c19
      refine z_iconst (x := 2) C dX4_append_26 rfl ?_
      refine z_goto (tgt := 31) C dX4_append_27 (by decide) ?_
      exact hj6 2 hm
    · have hm := qf_i hm c19
      refine z_iconst (x := 0) C dX4_append_30 rfl ?_
      exact hj6 0 hm

set_option maxHeartbeats 4000000 in
set_option maxRecDepth 100000 in
theorem met_X4_clearText (l : Launch) (g : qG) (hl : l.stackTraces = false) (hA : qAd g) (n9 : Nat) (S : qS) (r : Int × qS) (hm : MX4_clearText n9 S  = some r) : qM l g yX4_clearText (.code yX4_clearText cX4_clearText 2 (some .int)) rmX4_clearText qkI [.ref (qad g 110)] S (.inr r.1) r.2 := by
  rw [MX4_clearText] at hm
  refine qM_of (L := [(0, .ref (qad g 110))]) (by decide +kernel) rfl (Nat.le_of_ble_eq_true rfl) hl hA ?_
  intro p e s m below meth c C hr hT
  have C : qC g p l s m ([.ref (qad g 110)] : List Value).toArray meth c RX4 cX4_clearText 2 := C
  refine z_aload_n C dX4_clearText_0 0 rfl ?_
  refine z_iconst (x := 0) C dX4_clearText_1 rfl ?_
  refine pf_X4_59 C rfl dX4_clearText_2 ?_
  obtain ⟨S1, e2, hm⟩ := ql_i hm
  refine z_S e2 ?_
  refine z_aload_n C dX4_clearText_5 0 rfl ?_
  refine gf_X4_131 C rfl dX4_clearText_6 ?_
  obtain ⟨x3, e4, hm⟩ := ql_i hm
  refine z_topi e4 ?_
  refine z_istore_n (L' := [(1, .int (qI x3)), (0, .ref (qad g 110))]) C dX4_clearText_9 (by decide) rfl ?_
  refine z_aload_n C dX4_clearText_10 1 rfl ?_
  refine z_iconst (x := 0) C dX4_clearText_11 rfl ?_
  refine pf_X4_131 C rfl dX4_clearText_12 ?_
  obtain ⟨S5, e6, hm⟩ := ql_i hm
  refine z_S e6 ?_
  refine z_iload_n C dX4_clearText_15 0 rfl ?_
  exact z_iret C hr (by decide) (by decide) (by cases hm; rfl) dX4_clearText_16

set_option maxHeartbeats 4000000 in
set_option maxRecDepth 100000 in
theorem met_X4_isNext (l : Launch) (g : qG) (hl : l.stackTraces = false) (hA : qAd g) (n9 : Nat) (S : qS) (p1 : Int) (r : Int) (hm : MX4_isNext n9 S p1 = some r) : qM l g yX4_isNext (.code yX4_isNext cX4_isNext 2 (some .boolean)) rmX4_isNext qkI [.ref (qad g 110), .int (qI p1)] S (.inr r) S := by
  rw [MX4_isNext] at hm
  refine qM_of (L := [(0, .ref (qad g 110)), (1, .int (qI p1))]) (by decide +kernel) rfl (Nat.le_of_ble_eq_true rfl) hl hA ?_
  intro p e s m below meth c C hr hT
  have C : qC g p l s m ([.ref (qad g 110), .int (qI p1)] : List Value).toArray meth c RX4 cX4_isNext 2 := C
  refine z_aload_n C dX4_isNext_0 0 rfl ?_
  refine gf_X4_138 C rfl dX4_isNext_1 ?_
  refine z_aload_n C dX4_isNext_4 0 rfl ?_
  refine gf_X4_131 C rfl dX4_isNext_5 ?_
  obtain ⟨h1, hm⟩ := qg_i hm
  obtain ⟨h2, hm⟩ := qg_i hm
  refine z_icmp_ge (tgt := 28) C dX4_isNext_8 (by decide) ⟨h1, h2⟩ (fun c3 => ?_) (fun c3 => ?_)
  · have hm := qt_i hm c3
    refine z_iconst (x := 0) C dX4_isNext_28 rfl ?_
    exact z_zret C hr (by decide) (by decide) (by decide) (by cases hm; rfl) dX4_isNext_29
  · have hm := qf_i hm c3
    refine z_aload_n C dX4_isNext_11 0 rfl ?_
    refine gf_X4_7 C rfl dX4_isNext_12 ?_
    refine z_aload_n C dX4_isNext_15 0 rfl ?_
    refine gf_X4_138 C rfl dX4_isNext_16 ?_
    obtain ⟨h4, hm⟩ := qg_i hm
    refine z_iald (N := 120) C rfl h4 (by decide) dX4_isNext_19 ?_
    refine z_iload_n C dX4_isNext_20 1 rfl ?_
    obtain ⟨h5, hm⟩ := qg_i hm
    obtain ⟨h6, hm⟩ := qg_i hm
    refine z_icmp_ne (tgt := 28) C dX4_isNext_21 (by decide) ⟨h5, h6⟩ (fun c7 => ?_) (fun c7 => ?_)
    · have hm := qt_i hm c7
      refine z_iconst (x := 1) C dX4_isNext_24 rfl ?_
      refine z_goto (tgt := 29) C dX4_isNext_25 (by decide) ?_
      exact z_zret C hr (by decide) (by decide) (by decide) (by cases hm; rfl) dX4_isNext_29
    · have hm := qf_i hm c7
      refine z_iconst (x := 0) C dX4_isNext_28 rfl ?_
      exact z_zret C hr (by decide) (by decide) (by decide) (by cases hm; rfl) dX4_isNext_29

set_option maxHeartbeats 4000000 in
set_option maxRecDepth 100000 in
theorem met_X4_digitAt (l : Launch) (g : qG) (hl : l.stackTraces = false) (hA : qAd g) (n9 : Nat) (S : qS) (p1 : Int) (r : Int) (hm : MX4_digitAt n9 S p1 = some r) : qM l g yX4_digitAt (.code yX4_digitAt cX4_digitAt 2 (some .int)) rmX4_digitAt qkI [.ref (qad g 110), .int (qI p1)] S (.inr r) S := by
  rw [MX4_digitAt] at hm
  refine qM_of (L := [(0, .ref (qad g 110)), (1, .int (qI p1))]) (by decide +kernel) rfl (Nat.le_of_ble_eq_true rfl) hl hA ?_
  intro p e s m below meth c C hr hT
  have C : qC g p l s m ([.ref (qad g 110), .int (qI p1)] : List Value).toArray meth c RX4 cX4_digitAt 2 := C
  refine z_iload_n C dX4_digitAt_0 1 rfl ?_
  refine z_aload_n C dX4_digitAt_1 0 rfl ?_
  refine gf_X4_131 C rfl dX4_digitAt_2 ?_
  obtain ⟨h1, hm⟩ := qg_i hm
  obtain ⟨h2, hm⟩ := qg_i hm
  refine z_icmp_ge (tgt := 39) C dX4_digitAt_5 (by decide) ⟨h1, h2⟩ (fun c3 => ?_) (fun c3 => ?_)
  · have hm := qt_i hm c3
    refine z_iconst (x := (-1)) C dX4_digitAt_39 rfl ?_
    exact z_iret C hr (by decide) (by decide) (by cases hm; rfl) dX4_digitAt_40
  · have hm := qf_i hm c3
    refine z_aload_n C dX4_digitAt_8 0 rfl ?_
    refine gf_X4_7 C rfl dX4_digitAt_9 ?_
    refine z_iload_n C dX4_digitAt_12 1 rfl ?_
    obtain ⟨h4, hm⟩ := qg_i hm
    refine z_iald (N := 120) C rfl h4 (by decide) dX4_digitAt_13 ?_
    obtain ⟨h5, hm⟩ := qg_i hm
    refine z_i2l C dX4_digitAt_14 h5 ?_
    refine z_ldc2 (x := 48) C dX4_digitAt_15 qct_X4_141 (by decide +kernel) ?_
    refine z_ldc2 (x := 57) C dX4_digitAt_18 qct_X4_143 (by decide +kernel) ?_
    obtain ⟨a6, h7, hm⟩ := qb_i hm
    refine iv_X4_118 C (met_X4_in l g hl hA n9 S (S 111 p1.toNat) 48 57 _ h7) ⟨by decide, by decide⟩ ⟨by decide, by decide⟩ (Nat.le_of_ble_eq_true rfl) dX4_digitAt_21 ?_
    obtain ⟨h8, hm⟩ := qg_i hm
    refine z_if_eq (tgt := 39) C dX4_digitAt_24 (by decide) h8 (fun c9 => ?_) (fun c9 => ?_)
    · have hm := qt_i hm c9
      refine z_iconst (x := (-1)) C dX4_digitAt_39 rfl ?_
      exact z_iret C hr (by decide) (by decide) (by cases hm; rfl) dX4_digitAt_40
    · have hm := qf_i hm c9
      refine z_aload_n C dX4_digitAt_27 0 rfl ?_
      refine gf_X4_7 C rfl dX4_digitAt_28 ?_
      refine z_iload_n C dX4_digitAt_31 1 rfl ?_
      obtain ⟨h10, hm⟩ := qg_i hm
      refine z_iald (N := 120) C rfl h10 (by decide) dX4_digitAt_32 ?_
      refine z_bipush (x := 48) C dX4_digitAt_33 (by decide +kernel) ?_
      refine z_isub C dX4_digitAt_35 ?_
      refine z_goto (tgt := 40) C dX4_digitAt_36 (by decide) ?_
      exact z_iret C hr (by decide) (by decide) (by cases hm; rfl) dX4_digitAt_40

set_option maxHeartbeats 4000000 in
set_option maxRecDepth 100000 in
theorem met_X4_accept (l : Launch) (g : qG) (hl : l.stackTraces = false) (hA : qAd g) (n9 : Nat) (S : qS) (p1 : Int) (r : qS) (hm : MX4_accept n9 S p1 = some r) : qM l g yX4_accept (.code yX4_accept cX4_accept 2 none) rmX4_accept qkV [.ref (qad g 110), .int (qI p1)] S (.inr 0) r := by
  rw [MX4_accept] at hm
  refine qM_of (L := [(0, .ref (qad g 110)), (1, .int (qI p1))]) (by decide +kernel) rfl (Nat.le_of_ble_eq_true rfl) hl hA ?_
  intro p e s m below meth c C hr hT
  have C : qC g p l s m ([.ref (qad g 110), .int (qI p1)] : List Value).toArray meth c RX4 cX4_accept 2 := C
  refine z_aload_n C dX4_accept_0 0 rfl ?_
  refine z_aload_n C dX4_accept_1 0 rfl ?_
  refine gf_X4_145 C rfl dX4_accept_2 ?_
  obtain ⟨h1, hm⟩ := qg_i hm
  obtain ⟨j3, e14, hm⟩ := ql_i hm
  have hj3 : ∀ (v2 : Int), j3 v2 = some r → qZ g p l e rmX4_accept s m ([.ref (qad g 110), .int (qI p1)] : List Value).toArray below meth c (qQ g below qkV (.inr 0) r ([.ref (qad g 110), .int (qI p1)] : List Value).toArray s rmX4_accept) 2 S [(0, .ref (qad g 110))] 17 [.int (qI v2), .ref (qad g 110)] 0 0 := by
    intro v2 hm
    rw [e14] at hm
    obtain ⟨h4, hm⟩ := qg_i hm
    refine pf_X4_145 C rfl h4 dX4_accept_17 ?_
    obtain ⟨S5, e6, hm⟩ := ql_i hm
    refine z_S e6 ?_
    refine z_aload_n C dX4_accept_20 0 rfl ?_
    refine z_dup C dX4_accept_21 rfl ?_
    refine gf_X4_138 C rfl dX4_accept_22 ?_
    refine z_aload_n C dX4_accept_25 0 rfl ?_
    refine gf_X4_145 C rfl dX4_accept_26 ?_
    obtain ⟨h7, hm⟩ := qg_i hm
    obtain ⟨j9, e12, hm⟩ := ql_i hm
    have hj9 : ∀ (v8 : Int), j9 v8 = some r → qZ g p l e rmX4_accept s m ([.ref (qad g 110), .int (qI p1)] : List Value).toArray below meth c (qQ g below qkV (.inr 0) r ([.ref (qad g 110), .int (qI p1)] : List Value).toArray s rmX4_accept) 2 S5 [] 37 [.int (qI v8), .int (qI (S5 110 3)), .ref (qad g 110)] 0 0 := by
      intro v8 hm
      rw [e12] at hm
      refine z_iadd C dX4_accept_37 ?_
      refine pf_X4_138 C rfl dX4_accept_38 ?_
      obtain ⟨S10, e11, hm⟩ := ql_i hm
      refine z_S e11 ?_
      exact z_vret C hr (by decide) (by decide) (by cases hm; rfl) dX4_accept_41
    clear e12
    refine z_if_eq (tgt := 36) C dX4_accept_29 (by decide) h7 (fun c13 => ?_) (fun c13 => ?_)
    · have hm := qt_i hm c13
      refine z_iconst (x := 0) C dX4_accept_36 rfl ?_
      refine z_sub (L' := []) [] rfl ?_
      exact hj9 0 hm
    · have hm := qf_i hm c13
      refine z_iconst (x := 1) C dX4_accept_32 rfl ?_
      refine z_goto (tgt := 37) C dX4_accept_33 (by decide) ?_
      refine z_sub (L' := []) [] rfl ?_
      exact hj9 1 hm
  clear e14
  obtain ⟨j15, e16, hm⟩ := ql_i hm
  have hj15 : j15 = some r → qZ g p l e rmX4_accept s m ([.ref (qad g 110), .int (qI p1)] : List Value).toArray below meth c (qQ g below qkV (.inr 0) r ([.ref (qad g 110), .int (qI p1)] : List Value).toArray s rmX4_accept) 2 S [(0, .ref (qad g 110))] 16 [.ref (qad g 110)] 0 0 := by
    intro  hm
    rw [e16] at hm
    refine z_iconst (x := 0) C dX4_accept_16 rfl ?_
    exact hj3 0 hm
  clear e16
  refine z_if_eq (tgt := 16) C dX4_accept_5 (by decide) h1 (fun c17 => ?_) (fun c17 => ?_)
  · have hm := qt_i hm c17
    refine z_sub (L' := [(0, .ref (qad g 110))]) [0] rfl ?_
    exact hj15  hm
  · have hm := qf_i hm c17
    refine z_iload_n C dX4_accept_8 1 rfl ?_
    obtain ⟨h18, hm⟩ := qg_i hm
    refine z_if_eq (tgt := 16) C dX4_accept_9 (by decide) h18 (fun c19 => ?_) (fun c19 => ?_)
    · have hm := qt_i hm c19
      refine z_sub (L' := [(0, .ref (qad g 110))]) [0] rfl ?_
      exact hj15  hm
    · have hm := qf_i hm c19
      refine z_iconst (x := 1) C dX4_accept_12 rfl ?_
      refine z_goto (tgt := 17) C dX4_accept_13 (by decide) ?_
      refine z_sub (L' := [(0, .ref (qad g 110))]) [0] rfl ?_
      exact hj3 1 hm

set_option maxHeartbeats 4000000 in
set_option maxRecDepth 100000 in
theorem met_X4_digit (l : Launch) (g : qG) (hl : l.stackTraces = false) (hA : qAd g) (n9 : Nat) (S : qS) (p1 : Int) (p2 : Int) (r : Int × qS) (hm : MX4_digit n9 S p1 p2 = some r) : qM l g yX4_digit (.code yX4_digit cX4_digit 4 (some .int)) rmX4_digit qkI [.ref (qad g 110), .int (qI p1), .int (qI p2)] S (.inr r.1) r.2 := by
  rw [MX4_digit] at hm
  refine qM_of (L := [(0, .ref (qad g 110)), (1, .int (qI p1)), (2, .int (qI p2))]) (by decide +kernel) rfl (Nat.le_of_ble_eq_true rfl) hl hA ?_
  intro p e s m below meth c C hr hT
  have C : qC g p l s m ([.ref (qad g 110), .int (qI p1), .int (qI p2)] : List Value).toArray meth c RX4 cX4_digit 4 := C
  refine z_aload_n C dX4_digit_0 0 rfl ?_
  refine z_aload_n C dX4_digit_1 0 rfl ?_
  refine gf_X4_138 C rfl dX4_digit_2 ?_
  obtain ⟨a1, h2, hm⟩ := qb_i hm
  refine iv_X4_149 C (met_X4_digitAt l g hl hA n9 S (S 110 3) _ h2) rfl ⟨by decide, by decide⟩ ⟨by decide, by decide⟩ (Nat.le_of_ble_eq_true rfl) dX4_digit_5 ?_
  refine z_istore_n (L' := [(3, .int (qI a1)), (0, .ref (qad g 110)), (1, .int (qI p1)), (2, .int (qI p2))]) C dX4_digit_8 (by decide) rfl ?_
  refine z_aload_n C dX4_digit_9 1 rfl ?_
  refine z_iload_n C dX4_digit_10 0 rfl ?_
  refine z_iconst (x := (-1)) C dX4_digit_11 rfl ?_
  obtain ⟨h3, hm⟩ := qg_i hm
  obtain ⟨j5, e10, hm⟩ := ql_i hm
  have hj5 : ∀ (v4 : Int), j5 v4 = some r → qZ g p l e rmX4_digit s m ([.ref (qad g 110), .int (qI p1), .int (qI p2)] : List Value).toArray below meth c (qQ g below qkI (.inr r.1) r.2 ([.ref (qad g 110), .int (qI p1), .int (qI p2)] : List Value).toArray s rmX4_digit) 4 S [(0, .ref (qad g 110)), (1, .int (qI p1)), (3, .int (qI a1))] 32 [.int (qI v4), .ref (qad g 110)] 0 0 := by
    intro v4 hm
    rw [e10] at hm
    obtain ⟨a6, h7, hm⟩ := qb_i hm
    refine iv_X4_152 C (met_X4_accept l g hl hA n9 S v4 _ h7) rfl ⟨by decide, by decide⟩ ⟨by decide, by decide⟩ (Nat.le_of_ble_eq_true rfl) dX4_digit_32 ?_
    refine z_aload_n C dX4_digit_35 0 rfl ?_
    refine gf_X4_145 C rfl dX4_digit_36 ?_
    obtain ⟨h8, hm⟩ := qg_i hm
    refine z_if_eq (tgt := 46) C dX4_digit_39 (by decide) h8 (fun c9 => ?_) (fun c9 => ?_)
    · have hm := qt_i hm c9
      refine z_iload_n C dX4_digit_46 1 rfl ?_
      exact z_iret C hr (by decide) (by decide) (by cases hm; rfl) dX4_digit_47
    · have hm := qf_i hm c9
      refine z_iload_n C dX4_digit_42 2 rfl ?_
      refine z_goto (tgt := 47) C dX4_digit_43 (by decide) ?_
      exact z_iret C hr (by decide) (by decide) (by cases hm; rfl) dX4_digit_47
  clear e10
  obtain ⟨j11, e12, hm⟩ := ql_i hm
  have hj11 : j11 = some r → qZ g p l e rmX4_digit s m ([.ref (qad g 110), .int (qI p1), .int (qI p2)] : List Value).toArray below meth c (qQ g below qkI (.inr r.1) r.2 ([.ref (qad g 110), .int (qI p1), .int (qI p2)] : List Value).toArray s rmX4_digit) 4 S [(0, .ref (qad g 110)), (1, .int (qI p1)), (3, .int (qI a1))] 31 [.ref (qad g 110)] 0 0 := by
    intro  hm
    rw [e12] at hm
    refine z_iconst (x := 0) C dX4_digit_31 rfl ?_
    exact hj5 0 hm
  clear e12
  refine z_icmp_eq (tgt := 31) C dX4_digit_12 (by decide) ⟨h3, (by decide)⟩ (fun c13 => ?_) (fun c13 => ?_)
  · have hm := qt_i hm c13
    refine z_sub (L' := [(0, .ref (qad g 110)), (1, .int (qI p1)), (3, .int (qI a1))]) [1, 2, 0] rfl ?_
    exact hj11  hm
  · have hm := qf_i hm c13
    refine z_iload_n C dX4_digit_15 0 rfl ?_
    refine z_i2l C dX4_digit_16 h3 ?_
    refine z_iload_n C dX4_digit_17 2 rfl ?_
    obtain ⟨h14, hm⟩ := qg_i hm
    refine z_i2l C dX4_digit_18 h14 ?_
    refine z_iload_n C dX4_digit_19 3 rfl ?_
    obtain ⟨h15, hm⟩ := qg_i hm
    refine z_i2l C dX4_digit_20 h15 ?_
    obtain ⟨a16, h17, hm⟩ := qb_i hm
    refine iv_X4_118 C (met_X4_in l g hl hA n9 S a1 p1 p2 _ h17) ⟨by decide, by decide⟩ ⟨by decide, by decide⟩ (Nat.le_of_ble_eq_true rfl) dX4_digit_21 ?_
    obtain ⟨h18, hm⟩ := qg_i hm
    refine z_if_eq (tgt := 31) C dX4_digit_24 (by decide) h18 (fun c19 => ?_) (fun c19 => ?_)
    · have hm := qt_i hm c19
      refine z_sub (L' := [(0, .ref (qad g 110)), (1, .int (qI p1)), (3, .int (qI a1))]) [1, 2, 0] rfl ?_
      exact hj11  hm
    · have hm := qf_i hm c19
      refine z_iconst (x := 1) C dX4_digit_27 rfl ?_
      refine z_goto (tgt := 32) C dX4_digit_28 (by decide) ?_
      refine z_sub (L' := [(0, .ref (qad g 110)), (1, .int (qI p1)), (3, .int (qI a1))]) [1, 2, 0] rfl ?_
      exact hj5 1 hm

set_option maxHeartbeats 4000000 in
set_option maxRecDepth 100000 in
theorem met_X4_take (l : Launch) (g : qG) (hl : l.stackTraces = false) (hA : qAd g) (n9 : Nat) (S : qS) (p1 : Int) (p2 : Int) (r : qS) (hm : MX4_take n9 S p1 p2 = some r) : qM l g yX4_take (.code yX4_take cX4_take 3 none) rmX4_take qkV [.ref (qad g 110), .int (qI p1), .int (qI p2)] S (.inr 0) r := by
  rw [MX4_take] at hm
  refine qM_of (L := [(0, .ref (qad g 110)), (1, .int (qI p1)), (2, .int (qI p2))]) (by decide +kernel) rfl (Nat.le_of_ble_eq_true rfl) hl hA ?_
  intro p e s m below meth c C hr hT
  have C : qC g p l s m ([.ref (qad g 110), .int (qI p1), .int (qI p2)] : List Value).toArray meth c RX4 cX4_take 3 := C
  refine z_aload_n C dX4_take_0 0 rfl ?_
  refine gf_X4_156 C rfl dX4_take_1 ?_
  refine z_bipush (x := 30) C dX4_take_4 (by decide +kernel) ?_
  obtain ⟨h1, hm⟩ := qg_i hm
  obtain ⟨j3, e6, hm⟩ := ql_i hm
  have hj3 : ∀ (S2 : qS), j3 S2 = some r → qZ g p l e rmX4_take s m ([.ref (qad g 110), .int (qI p1), .int (qI p2)] : List Value).toArray below meth c (qQ g below qkV (.inr 0) r ([.ref (qad g 110), .int (qI p1), .int (qI p2)] : List Value).toArray s rmX4_take) 3 S2 [(0, .ref (qad g 110))] 29 [] 0 0 := by
    intro S2 hm
    rw [e6] at hm
    refine z_aload_n C dX4_take_29 0 rfl ?_
    refine z_dup C dX4_take_30 rfl ?_
    refine gf_X4_156 C rfl dX4_take_31 ?_
    refine z_iconst (x := 1) C dX4_take_34 rfl ?_
    refine z_iadd C dX4_take_35 ?_
    refine pf_X4_156 C rfl dX4_take_36 ?_
    obtain ⟨S4, e5, hm⟩ := ql_i hm
    refine z_S e5 ?_
    exact z_vret C hr (by decide) (by decide) (by cases hm; rfl) dX4_take_39
  clear e6
  refine z_icmp_ge (tgt := 29) C dX4_take_6 (by decide) ⟨h1, (by decide)⟩ (fun c7 => ?_) (fun c7 => ?_)
  · have hm := qt_i hm c7
    refine z_sub (L' := [(0, .ref (qad g 110))]) [0] rfl ?_
    exact hj3 S hm
  · have hm := qf_i hm c7
    refine z_aload_n C dX4_take_9 0 rfl ?_
    refine gf_X4_13 C rfl dX4_take_10 ?_
    refine z_aload_n C dX4_take_13 0 rfl ?_
    refine gf_X4_156 C rfl dX4_take_14 ?_
    refine z_iload_n C dX4_take_17 1 rfl ?_
    obtain ⟨h8, hm⟩ := qg_i hm
    refine z_iast (N := 30) C rfl h8 (by decide) dX4_take_18 ?_
    obtain ⟨S9, e10, hm⟩ := ql_i hm
    refine z_S e10 ?_
    refine z_aload_n C dX4_take_19 0 rfl ?_
    refine gf_X4_16 C rfl dX4_take_20 ?_
    refine z_aload_n C dX4_take_23 0 rfl ?_
    refine gf_X4_156 C rfl dX4_take_24 ?_
    refine z_iload_n C dX4_take_27 2 rfl ?_
    obtain ⟨h11, hm⟩ := qg_i hm
    refine z_iast (N := 30) C rfl h11 (by decide) dX4_take_28 ?_
    obtain ⟨S12, e13, hm⟩ := ql_i hm
    refine z_S e13 ?_
    refine z_sub (L' := [(0, .ref (qad g 110))]) [0] rfl ?_
    exact hj3 S12 hm

set_option maxHeartbeats 4000000 in
set_option maxRecDepth 100000 in
theorem met_X4_readAxle (l : Launch) (g : qG) (hl : l.stackTraces = false) (hA : qAd g) (n9 : Nat) (S : qS) (r : qS) (hm : MX4_readAxle n9 S  = some r) : qM l g yX4_readAxle (.code yX4_readAxle cX4_readAxle 5 none) rmX4_readAxle qkV [.ref (qad g 110)] S (.inr 0) r := by
  rw [MX4_readAxle] at hm
  refine qM_of (L := [(0, .ref (qad g 110))]) (by decide +kernel) rfl (Nat.le_of_ble_eq_true rfl) hl hA ?_
  intro p e s m below meth c C hr hT
  have C : qC g p l s m ([.ref (qad g 110)] : List Value).toArray meth c RX4 cX4_readAxle 5 := C
  refine z_aload_n C dX4_readAxle_0 0 rfl ?_
  refine z_iconst (x := 0) C dX4_readAxle_1 rfl ?_
  refine z_bipush (x := 6) C dX4_readAxle_2 (by decide +kernel) ?_
  obtain ⟨a1, h2, hm⟩ := qb_i hm
  refine iv_X4_159 C (met_X4_digit l g hl hA n9 S 0 6 _ h2) rfl ⟨by decide, by decide⟩ ⟨by decide, by decide⟩ (Nat.le_of_ble_eq_true rfl) dX4_readAxle_4 ?_
  refine z_istore_n (L' := [(1, .int (qI a1.1)), (0, .ref (qad g 110))]) C dX4_readAxle_7 (by decide) rfl ?_
  refine z_bipush (x := 10) C dX4_readAxle_8 (by decide +kernel) ?_
  refine z_iload_n C dX4_readAxle_10 0 rfl ?_
  refine z_imul C dX4_readAxle_11 ?_
  refine z_aload_n C dX4_readAxle_12 1 rfl ?_
  refine z_iload_n C dX4_readAxle_13 0 rfl ?_
  obtain ⟨h3, hm⟩ := qg_i hm
  obtain ⟨j5, e33, hm⟩ := ql_i hm
  have hj5 : ∀ (v4 : Int), j5 v4 = some r → qZ g p l e rmX4_readAxle s m ([.ref (qad g 110)] : List Value).toArray below meth c (qQ g below qkV (.inr 0) r ([.ref (qad g 110)] : List Value).toArray s rmX4_readAxle) 5 a1.2 [(0, .ref (qad g 110)), (1, .int (qI a1.1))] 22 [.int (qI v4), .ref (qad g 110), .int (qI (10 * a1.1))] 0 0 := by
    intro v4 hm
    rw [e33] at hm
    refine z_iload_n C dX4_readAxle_22 1 rfl ?_
    refine z_bipush (x := 6) C dX4_readAxle_23 (by decide +kernel) ?_
    obtain ⟨j7, e31, hm⟩ := ql_i hm
    have hj7 : ∀ (v6 : Int), j7 v6 = some r → qZ g p l e rmX4_readAxle s m ([.ref (qad g 110)] : List Value).toArray below meth c (qQ g below qkV (.inr 0) r ([.ref (qad g 110)] : List Value).toArray s rmX4_readAxle) 5 a1.2 [(0, .ref (qad g 110))] 34 [.int (qI v6), .int (qI v4), .ref (qad g 110), .int (qI (10 * a1.1))] 0 0 := by
      intro v6 hm
      rw [e31] at hm
      obtain ⟨a8, h9, hm⟩ := qb_i hm
      refine iv_X4_159 C (met_X4_digit l g hl hA n9 a1.2 v4 v6 _ h9) rfl ⟨by decide, by decide⟩ ⟨by decide, by decide⟩ (Nat.le_of_ble_eq_true rfl) dX4_readAxle_34 ?_
      refine z_iadd C dX4_readAxle_37 ?_
      obtain ⟨x10, e11, hm⟩ := ql_i hm
      refine z_topi e11 ?_
      refine z_istore_n (L' := [(2, .int (qI x10)), (0, .ref (qad g 110))]) C dX4_readAxle_38 (by decide) rfl ?_
      refine z_aload_n C dX4_readAxle_39 1 rfl ?_
      refine z_iconst (x := 0) C dX4_readAxle_40 rfl ?_
      refine z_bipush (x := 9) C dX4_readAxle_41 (by decide +kernel) ?_
      obtain ⟨a12, h13, hm⟩ := qb_i hm
      refine iv_X4_159 C (met_X4_digit l g hl hA n9 a8.2 0 9 _ h13) rfl ⟨by decide, by decide⟩ ⟨by decide, by decide⟩ (Nat.le_of_ble_eq_true rfl) dX4_readAxle_43 ?_
      refine z_istore_n (L' := [(3, .int (qI a12.1)), (2, .int (qI x10)), (0, .ref (qad g 110))]) C dX4_readAxle_46 (by decide) rfl ?_
      refine z_bipush (x := 10) C dX4_readAxle_47 (by decide +kernel) ?_
      refine z_iload_n C dX4_readAxle_49 0 rfl ?_
      refine z_imul C dX4_readAxle_50 ?_
      refine z_aload_n C dX4_readAxle_51 2 rfl ?_
      refine z_iload_n C dX4_readAxle_52 0 rfl ?_
      obtain ⟨h14, hm⟩ := qg_i hm
      obtain ⟨j16, e29, hm⟩ := ql_i hm
      have hj16 : ∀ (v15 : Int), j16 v15 = some r → qZ g p l e rmX4_readAxle s m ([.ref (qad g 110)] : List Value).toArray below meth c (qQ g below qkV (.inr 0) r ([.ref (qad g 110)] : List Value).toArray s rmX4_readAxle) 5 a12.2 [(0, .ref (qad g 110)), (2, .int (qI x10))] 61 [.int (qI v15), .ref (qad g 110), .int (qI (10 * a12.1))] 0 0 := by
        intro v15 hm
        rw [e29] at hm
        refine z_bipush (x := 9) C dX4_readAxle_61 (by decide +kernel) ?_
        obtain ⟨a17, h18, hm⟩ := qb_i hm
        refine iv_X4_159 C (met_X4_digit l g hl hA n9 a12.2 v15 9 _ h18) rfl ⟨by decide, by decide⟩ ⟨by decide, by decide⟩ (Nat.le_of_ble_eq_true rfl) dX4_readAxle_63 ?_
        refine z_iadd C dX4_readAxle_66 ?_
        obtain ⟨x19, e20, hm⟩ := ql_i hm
        refine z_topi e20 ?_
        refine z_istore (L' := [(4, .int (qI x19)), (0, .ref (qad g 110)), (2, .int (qI x10))]) C dX4_readAxle_67 (by decide) rfl ?_
        refine z_aload_n C dX4_readAxle_69 1 rfl ?_
        refine gf_X4_145 C rfl dX4_readAxle_70 ?_
        obtain ⟨h21, hm⟩ := qg_i hm
        refine z_if_eq (tgt := 96) C dX4_readAxle_73 (by decide) h21 (fun c22 => ?_) (fun c22 => ?_)
        · have hm := qt_i hm c22
          exact z_vret C hr (by decide) (by decide) (by cases hm; rfl) dX4_readAxle_96
        · have hm := qf_i hm c22
          refine z_aload_n C dX4_readAxle_76 1 rfl ?_
          refine z_iload_n C dX4_readAxle_77 2 rfl ?_
          refine z_iload C dX4_readAxle_78 0 rfl ?_
          obtain ⟨a23, h24, hm⟩ := qb_i hm
          refine iv_X4_163 C (met_X4_take l g hl hA n9 a17.2 x10 x19 _ h24) rfl ⟨by decide, by decide⟩ ⟨by decide, by decide⟩ (Nat.le_of_ble_eq_true rfl) dX4_readAxle_80 ?_
          refine z_aload_n C dX4_readAxle_83 1 rfl ?_
          refine gf_X4_25 C rfl dX4_readAxle_84 ?_
          refine z_aload_n C dX4_readAxle_87 1 rfl ?_
          refine gf_X4_167 C rfl dX4_readAxle_88 ?_
          refine z_dup2 C dX4_readAxle_91 rfl rfl ?_
          obtain ⟨h25, hm⟩ := qg_i hm
          refine z_iald (N := 4) C rfl h25 (by decide) dX4_readAxle_92 ?_
          refine z_iconst (x := 1) C dX4_readAxle_93 rfl ?_
          refine z_iadd C dX4_readAxle_94 ?_
          obtain ⟨h26, hm⟩ := qg_i hm
          refine z_iast (N := 4) C rfl h26 (by decide) dX4_readAxle_95 ?_
          obtain ⟨S27, e28, hm⟩ := ql_i hm
          refine z_S e28 ?_
          exact z_vret C hr (by decide) (by decide) (by cases hm; rfl) dX4_readAxle_96
      clear e29
      refine z_if_ne (tgt := 60) C dX4_readAxle_53 (by decide) h14 (fun c30 => ?_) (fun c30 => ?_)
      · have hm := qt_i hm c30
        refine z_iconst (x := 1) C dX4_readAxle_56 rfl ?_
        refine z_goto (tgt := 61) C dX4_readAxle_57 (by decide) ?_
        refine z_sub (L' := [(0, .ref (qad g 110)), (2, .int (qI x10))]) [2, 1] rfl ?_
        exact hj16 1 hm
      · have hm := qf_i hm c30
        refine z_iconst (x := 0) C dX4_readAxle_60 rfl ?_
        refine z_sub (L' := [(0, .ref (qad g 110)), (2, .int (qI x10))]) [2, 1] rfl ?_
        exact hj16 0 hm
    clear e31
    refine z_icmp_ne (tgt := 32) C dX4_readAxle_25 (by decide) ⟨h3, (by decide)⟩ (fun c32 => ?_) (fun c32 => ?_)
    · have hm := qt_i hm c32
      refine z_iconst (x := 0) C dX4_readAxle_28 rfl ?_
      refine z_goto (tgt := 34) C dX4_readAxle_29 (by decide) ?_
      refine z_sub (L' := [(0, .ref (qad g 110))]) [0] rfl ?_
      exact hj7 0 hm
    · have hm := qf_i hm c32
      refine z_bipush (x := 9) C dX4_readAxle_32 (by decide +kernel) ?_
      refine z_sub (L' := [(0, .ref (qad g 110))]) [0] rfl ?_
      exact hj7 9 hm
  clear e33
  refine z_if_ne (tgt := 21) C dX4_readAxle_14 (by decide) h3 (fun c34 => ?_) (fun c34 => ?_)
  · have hm := qt_i hm c34
    refine z_iconst (x := 1) C dX4_readAxle_17 rfl ?_
    refine z_goto (tgt := 22) C dX4_readAxle_18 (by decide) ?_
    refine z_sub (L' := [(0, .ref (qad g 110)), (1, .int (qI a1.1))]) [1, 0] rfl ?_
    exact hj5 1 hm
  · have hm := qf_i hm c34
    refine z_iconst (x := 0) C dX4_readAxle_21 rfl ?_
    refine z_sub (L' := [(0, .ref (qad g 110)), (1, .int (qI a1.1))]) [1, 0] rfl ?_
    exact hj5 0 hm

set_option maxHeartbeats 4000000 in
set_option maxRecDepth 100000 in
theorem met_X4_openRow (l : Launch) (g : qG) (hl : l.stackTraces = false) (hA : qAd g) (n9 : Nat) (S : qS) (r : qS) (hm : MX4_openRow n9 S  = some r) : qM l g yX4_openRow (.code yX4_openRow cX4_openRow 2 none) rmX4_openRow qkV [.ref (qad g 110)] S (.inr 0) r := by
  rw [MX4_openRow] at hm
  refine qM_of (L := [(0, .ref (qad g 110))]) (by decide +kernel) rfl (Nat.le_of_ble_eq_true rfl) hl hA ?_
  intro p e s m below meth c C hr hT
  have C : qC g p l s m ([.ref (qad g 110)] : List Value).toArray meth c RX4 cX4_openRow 2 := C
  refine z_aload_n C dX4_openRow_0 0 rfl ?_
  refine z_iconst (x := 2) C dX4_openRow_1 rfl ?_
  refine z_bipush (x := 9) C dX4_openRow_2 (by decide +kernel) ?_
  obtain ⟨a1, h2, hm⟩ := qb_i hm
  refine iv_X4_159 C (met_X4_digit l g hl hA n9 S 2 9 _ h2) rfl ⟨by decide, by decide⟩ ⟨by decide, by decide⟩ (Nat.le_of_ble_eq_true rfl) dX4_openRow_4 ?_
  refine z_istore_n (L' := [(1, .int (qI a1.1)), (0, .ref (qad g 110))]) C dX4_openRow_7 (by decide) rfl ?_
  refine z_aload_n C dX4_openRow_8 1 rfl ?_
  refine z_aload_n C dX4_openRow_9 1 rfl ?_
  refine gf_X4_167 C rfl dX4_openRow_10 ?_
  refine z_iconst (x := 3) C dX4_openRow_13 rfl ?_
  obtain ⟨h3, hm⟩ := qg_i hm
  obtain ⟨j5, e21, hm⟩ := ql_i hm
  have hj5 : ∀ (v4 : Int), j5 v4 = some r → qZ g p l e rmX4_openRow s m ([.ref (qad g 110)] : List Value).toArray below meth c (qQ g below qkV (.inr 0) r ([.ref (qad g 110)] : List Value).toArray s rmX4_openRow) 2 a1.2 [(0, .ref (qad g 110)), (1, .int (qI a1.1))] 31 [.int (qI v4), .ref (qad g 110)] 0 0 := by
    intro v4 hm
    rw [e21] at hm
    obtain ⟨a6, h7, hm⟩ := qb_i hm
    refine iv_X4_152 C (met_X4_accept l g hl hA n9 a1.2 v4 _ h7) rfl ⟨by decide, by decide⟩ ⟨by decide, by decide⟩ (Nat.le_of_ble_eq_true rfl) dX4_openRow_31 ?_
    refine z_aload_n C dX4_openRow_34 0 rfl ?_
    refine gf_X4_145 C rfl dX4_openRow_35 ?_
    obtain ⟨h8, hm⟩ := qg_i hm
    refine z_if_eq (tgt := 84) C dX4_openRow_38 (by decide) h8 (fun c9 => ?_) (fun c9 => ?_)
    · have hm := qt_i hm c9
      exact z_vret C hr (by decide) (by decide) (by cases hm; rfl) dX4_openRow_84
    · have hm := qf_i hm c9
      refine z_aload_n C dX4_openRow_41 0 rfl ?_
      refine z_dup C dX4_openRow_42 rfl ?_
      refine gf_X4_167 C rfl dX4_openRow_43 ?_
      refine z_iconst (x := 1) C dX4_openRow_46 rfl ?_
      refine z_iadd C dX4_openRow_47 ?_
      refine pf_X4_167 C rfl dX4_openRow_48 ?_
      obtain ⟨S10, e11, hm⟩ := ql_i hm
      refine z_S e11 ?_
      refine z_aload_n C dX4_openRow_51 0 rfl ?_
      refine gf_X4_19 C rfl dX4_openRow_52 ?_
      refine z_aload_n C dX4_openRow_55 0 rfl ?_
      refine gf_X4_167 C rfl dX4_openRow_56 ?_
      refine z_aload_n C dX4_openRow_59 0 rfl ?_
      refine gf_X4_156 C rfl dX4_openRow_60 ?_
      obtain ⟨h12, hm⟩ := qg_i hm
      refine z_iast (N := 4) C rfl h12 (by decide) dX4_openRow_63 ?_
      obtain ⟨S13, e14, hm⟩ := ql_i hm
      refine z_S e14 ?_
      refine z_aload_n C dX4_openRow_64 0 rfl ?_
      refine gf_X4_22 C rfl dX4_openRow_65 ?_
      refine z_aload_n C dX4_openRow_68 0 rfl ?_
      refine gf_X4_167 C rfl dX4_openRow_69 ?_
      refine z_iload_n C dX4_openRow_72 1 rfl ?_
      obtain ⟨h15, hm⟩ := qg_i hm
      refine z_iast (N := 4) C rfl h15 (by decide) dX4_openRow_73 ?_
      obtain ⟨S16, e17, hm⟩ := ql_i hm
      refine z_S e17 ?_
      refine z_aload_n C dX4_openRow_74 0 rfl ?_
      refine gf_X4_25 C rfl dX4_openRow_75 ?_
      refine z_aload_n C dX4_openRow_78 0 rfl ?_
      refine gf_X4_167 C rfl dX4_openRow_79 ?_
      refine z_iconst (x := 0) C dX4_openRow_82 rfl ?_
      obtain ⟨h18, hm⟩ := qg_i hm
      refine z_iast (N := 4) C rfl h18 (by decide) dX4_openRow_83 ?_
      obtain ⟨S19, e20, hm⟩ := ql_i hm
      refine z_S e20 ?_
      exact z_vret C hr (by decide) (by decide) (by cases hm; rfl) dX4_openRow_84
  clear e21
  obtain ⟨j22, e23, hm⟩ := ql_i hm
  have hj22 : j22 = some r → qZ g p l e rmX4_openRow s m ([.ref (qad g 110)] : List Value).toArray below meth c (qQ g below qkV (.inr 0) r ([.ref (qad g 110)] : List Value).toArray s rmX4_openRow) 2 a1.2 [(0, .ref (qad g 110)), (1, .int (qI a1.1))] 30 [.ref (qad g 110)] 0 0 := by
    intro  hm
    rw [e23] at hm
    refine z_iconst (x := 0) C dX4_openRow_30 rfl ?_
    exact hj5 0 hm
  clear e23
  refine z_icmp_ge (tgt := 30) C dX4_openRow_14 (by decide) ⟨h3, (by decide)⟩ (fun c24 => ?_) (fun c24 => ?_)
  · have hm := qt_i hm c24
    refine z_sub (L' := [(0, .ref (qad g 110)), (1, .int (qI a1.1))]) [1, 0] rfl ?_
    exact hj22  hm
  · have hm := qf_i hm c24
    refine z_aload_n C dX4_openRow_17 1 rfl ?_
    refine z_bipush (x := 40) C dX4_openRow_18 (by decide +kernel) ?_
    obtain ⟨a25, h26, hm⟩ := qb_i hm
    refine iv_X4_170 C (met_X4_isNext l g hl hA n9 a1.2 40 _ h26) rfl ⟨by decide, by decide⟩ ⟨by decide, by decide⟩ (Nat.le_of_ble_eq_true rfl) dX4_openRow_20 ?_
    obtain ⟨h27, hm⟩ := qg_i hm
    refine z_if_eq (tgt := 30) C dX4_openRow_23 (by decide) h27 (fun c28 => ?_) (fun c28 => ?_)
    · have hm := qt_i hm c28
      refine z_sub (L' := [(0, .ref (qad g 110)), (1, .int (qI a1.1))]) [1, 0] rfl ?_
      exact hj22  hm
    · have hm := qf_i hm c28
      refine z_iconst (x := 1) C dX4_openRow_26 rfl ?_
      refine z_goto (tgt := 31) C dX4_openRow_27 (by decide) ?_
      refine z_sub (L' := [(0, .ref (qad g 110)), (1, .int (qI a1.1))]) [1, 0] rfl ?_
      exact hj5 1 hm

set_option maxHeartbeats 4000000 in
set_option maxRecDepth 100000 in
theorem met_X4_closeRow_l61 {g : qG} {p : Program} {l : Launch} {e : Env} {s : State} {m : MethodId} {args : Array Value} {below : List Frame} {meth : Method} {c : Code} (C : qC g p l s m args meth c RX4 cX4_closeRow 5) (hr : meth.sig.returnType = none) (hT : ∀ x ∈ c.exceptionTable.toList, False) (x10 : Int) (x12 : Int) (x15 : Int) {r : qS} (k122 : qS → Option (qS)) (hk122 : ∀ (y1 : qS), k122 y1 = some r → qZ g p l e rmX4_closeRow s m args below meth c (qQ g below qkV (.inr 0) r args s rmX4_closeRow) 5 y1 [(0, .ref (qad g 110)), (1, .int (qI x10)), (3, .int (qI x15))] 122 [] 0 0) : ∀ (f : Nat) (S28 : qS) (x29 : Int), MX4_closeRow_l61 x10 x12 x15 k122 f S28 x29 = some r → qZ g p l e rmX4_closeRow s m args below meth c (qQ g below qkV (.inr 0) r args s rmX4_closeRow) 5 S28 [(0, .ref (qad g 110)), (1, .int (qI x10)), (2, .int (qI x12)), (3, .int (qI x15)), (4, .int (qI x29))] 61 [] 0 0 := by
  intro f
  induction f with
  | zero => intro S28 x29 hm; rw [MX4_closeRow_l61] at hm; cases hm
  | succ f ih =>
    intro S28 x29 hm
    rw [MX4_closeRow_l61] at hm
    have hl := C.2.2.2.2.2.2.2.2
    have hA := C.2.2.2.2.2.2.1
    refine z_iload C dX4_closeRow_61 4 rfl ?_
    refine z_iload_n C dX4_closeRow_63 3 rfl ?_
    obtain ⟨h30, hm⟩ := qg_i hm
    obtain ⟨h31, hm⟩ := qg_i hm
    refine z_icmp_ge (tgt := 122) C dX4_closeRow_64 (by decide) ⟨h30, h31⟩ (fun c32 => ?_) (fun c32 => ?_)
    · have hm := qt_i hm c32
      refine z_sub (L' := [(0, .ref (qad g 110)), (1, .int (qI x10)), (3, .int (qI x15))]) [0, 1, 3] rfl ?_
      exact hk122 S28 hm
    · have hm := qf_i hm c32
      refine z_iload_n C dX4_closeRow_67 1 rfl ?_
      refine z_iload C dX4_closeRow_68 4 rfl ?_
      refine z_iadd C dX4_closeRow_70 ?_
      refine z_bipush (x := 30) C dX4_closeRow_71 (by decide +kernel) ?_
      obtain ⟨h33, hm⟩ := qg_i hm
      refine z_icmp_ge (tgt := 122) C dX4_closeRow_73 (by decide) ⟨h33, (by decide)⟩ (fun c34 => ?_) (fun c34 => ?_)
      · have hm := qt_i hm c34
        refine z_sub (L' := [(0, .ref (qad g 110)), (1, .int (qI x10)), (3, .int (qI x15))]) [0, 1, 3] rfl ?_
        exact hk122 S28 hm
      · have hm := qf_i hm c34
        refine z_aload_n C dX4_closeRow_76 0 rfl ?_
        refine gf_X4_13 C rfl dX4_closeRow_77 ?_
        refine z_iload_n C dX4_closeRow_80 1 rfl ?_
        refine z_iload C dX4_closeRow_81 4 rfl ?_
        refine z_iadd C dX4_closeRow_83 ?_
        refine z_aload_n C dX4_closeRow_84 0 rfl ?_
        refine gf_X4_13 C rfl dX4_closeRow_85 ?_
        refine z_iload_n C dX4_closeRow_88 1 rfl ?_
        refine z_iload C dX4_closeRow_89 4 rfl ?_
        refine z_iadd C dX4_closeRow_91 ?_
        refine z_iload_n C dX4_closeRow_92 2 rfl ?_
        refine z_isub C dX4_closeRow_93 ?_
        obtain ⟨h35, hm⟩ := qg_i hm
        refine z_iald (N := 30) C rfl h35 (by decide) dX4_closeRow_94 ?_
        obtain ⟨h36, hm⟩ := qg_i hm
        refine z_iast (N := 30) C rfl h36 (by decide) dX4_closeRow_95 ?_
        obtain ⟨S37, e38, hm⟩ := ql_i hm
        refine z_S e38 ?_
        refine z_aload_n C dX4_closeRow_96 0 rfl ?_
        refine gf_X4_16 C rfl dX4_closeRow_97 ?_
        refine z_iload_n C dX4_closeRow_100 1 rfl ?_
        refine z_iload C dX4_closeRow_101 4 rfl ?_
        refine z_iadd C dX4_closeRow_103 ?_
        refine z_aload_n C dX4_closeRow_104 0 rfl ?_
        refine gf_X4_16 C rfl dX4_closeRow_105 ?_
        refine z_iload_n C dX4_closeRow_108 1 rfl ?_
        refine z_iload C dX4_closeRow_109 4 rfl ?_
        refine z_iadd C dX4_closeRow_111 ?_
        refine z_iload_n C dX4_closeRow_112 2 rfl ?_
        refine z_isub C dX4_closeRow_113 ?_
        obtain ⟨h39, hm⟩ := qg_i hm
        refine z_iald (N := 30) C rfl h39 (by decide) dX4_closeRow_114 ?_
        obtain ⟨h40, hm⟩ := qg_i hm
        refine z_iast (N := 30) C rfl h40 (by decide) dX4_closeRow_115 ?_
        obtain ⟨S41, e42, hm⟩ := ql_i hm
        refine z_S e42 ?_
        refine z_iinc (L' := [(4, .int (qI (x29 + 1))), (0, .ref (qad g 110)), (1, .int (qI x10)), (2, .int (qI x12)), (3, .int (qI x15))]) C dX4_closeRow_116 4 rfl (by decide) rfl ?_
        refine z_goto (tgt := 61) C dX4_closeRow_119 (by decide) ?_
        refine z_sub (L' := [(0, .ref (qad g 110)), (1, .int (qI x10)), (2, .int (qI x12)), (3, .int (qI x15)), (4, .int (qI (x29 + 1)))]) [1, 2, 3, 4, 0] rfl ?_
        exact ih S41 (x29 + 1) hm

set_option maxHeartbeats 4000000 in
set_option maxRecDepth 100000 in
theorem met_X4_closeRow (l : Launch) (g : qG) (hl : l.stackTraces = false) (hA : qAd g) (n9 : Nat) (S : qS) (r : qS) (hm : MX4_closeRow n9 S  = some r) : qM l g yX4_closeRow (.code yX4_closeRow cX4_closeRow 5 none) rmX4_closeRow qkV [.ref (qad g 110)] S (.inr 0) r := by
  rw [MX4_closeRow] at hm
  refine qM_of (L := [(0, .ref (qad g 110))]) (by decide +kernel) rfl (Nat.le_of_ble_eq_true rfl) hl hA ?_
  intro p e s m below meth c C hr hT
  have C : qC g p l s m ([.ref (qad g 110)] : List Value).toArray meth c RX4 cX4_closeRow 5 := C
  refine z_aload_n C dX4_closeRow_0 0 rfl ?_
  refine z_aload_n C dX4_closeRow_1 0 rfl ?_
  refine gf_X4_25 C rfl dX4_closeRow_2 ?_
  refine z_aload_n C dX4_closeRow_5 0 rfl ?_
  refine gf_X4_167 C rfl dX4_closeRow_6 ?_
  obtain ⟨h1, hm⟩ := qg_i hm
  refine z_iald (N := 4) C rfl h1 (by decide) dX4_closeRow_9 ?_
  obtain ⟨h2, hm⟩ := qg_i hm
  obtain ⟨j4, e43, hm⟩ := ql_i hm
  have hj4 : ∀ (v3 : Int), j4 v3 = some r → qZ g p l e rmX4_closeRow s m ([.ref (qad g 110)] : List Value).toArray below meth c (qQ g below qkV (.inr 0) r ([.ref (qad g 110)] : List Value).toArray s rmX4_closeRow) 5 S [(0, .ref (qad g 110))] 18 [.int (qI v3), .ref (qad g 110)] 0 0 := by
    intro v3 hm
    rw [e43] at hm
    obtain ⟨a5, h6, hm⟩ := qb_i hm
    refine iv_X4_152 C (met_X4_accept l g hl hA n9 S v3 _ h6) rfl ⟨by decide, by decide⟩ ⟨by decide, by decide⟩ (Nat.le_of_ble_eq_true rfl) dX4_closeRow_18 ?_
    refine z_aload_n C dX4_closeRow_21 0 rfl ?_
    refine gf_X4_145 C rfl dX4_closeRow_22 ?_
    obtain ⟨h7, hm⟩ := qg_i hm
    refine z_if_ne (tgt := 29) C dX4_closeRow_25 (by decide) h7 (fun c8 => ?_) (fun c8 => ?_)
    · have hm := qt_i hm c8
      exact z_vret C hr (by decide) (by decide) (by cases hm; rfl) dX4_closeRow_28
    · have hm := qf_i hm c8
      refine z_aload_n C dX4_closeRow_29 0 rfl ?_
      refine gf_X4_19 C rfl dX4_closeRow_30 ?_
      refine z_aload_n C dX4_closeRow_33 0 rfl ?_
      refine gf_X4_167 C rfl dX4_closeRow_34 ?_
      obtain ⟨h9, hm⟩ := qg_i hm
      refine z_iald (N := 4) C rfl h9 (by decide) dX4_closeRow_37 ?_
      obtain ⟨x10, e11, hm⟩ := ql_i hm
      refine z_topi e11 ?_
      refine z_istore_n (L' := [(1, .int (qI x10)), (0, .ref (qad g 110))]) C dX4_closeRow_38 (by decide) rfl ?_
      refine z_aload_n C dX4_closeRow_39 1 rfl ?_
      refine gf_X4_156 C rfl dX4_closeRow_40 ?_
      refine z_iload_n C dX4_closeRow_43 0 rfl ?_
      refine z_isub C dX4_closeRow_44 ?_
      obtain ⟨x12, e13, hm⟩ := ql_i hm
      refine z_topi e13 ?_
      refine z_istore_n (L' := [(2, .int (qI x12)), (1, .int (qI x10)), (0, .ref (qad g 110))]) C dX4_closeRow_45 (by decide) rfl ?_
      refine z_iload_n C dX4_closeRow_46 0 rfl ?_
      refine z_aload_n C dX4_closeRow_47 2 rfl ?_
      refine gf_X4_22 C rfl dX4_closeRow_48 ?_
      refine z_aload_n C dX4_closeRow_51 2 rfl ?_
      refine gf_X4_167 C rfl dX4_closeRow_52 ?_
      obtain ⟨h14, hm⟩ := qg_i hm
      refine z_iald (N := 4) C rfl h14 (by decide) dX4_closeRow_55 ?_
      refine z_imul C dX4_closeRow_56 ?_
      obtain ⟨x15, e16, hm⟩ := ql_i hm
      refine z_topi e16 ?_
      refine z_istore_n (L' := [(3, .int (qI x15)), (2, .int (qI x12)), (1, .int (qI x10)), (0, .ref (qad g 110))]) C dX4_closeRow_57 (by decide) rfl ?_
      refine z_iload_n C dX4_closeRow_58 1 rfl ?_
      refine z_istore (L' := [(4, .int (qI x12)), (3, .int (qI x15)), (2, .int (qI x12)), (1, .int (qI x10)), (0, .ref (qad g 110))]) C dX4_closeRow_59 (by decide) rfl ?_
      obtain ⟨j18, e27, hm⟩ := ql_i hm
      have hj18 : ∀ (S17 : qS), j18 S17 = some r → qZ g p l e rmX4_closeRow s m ([.ref (qad g 110)] : List Value).toArray below meth c (qQ g below qkV (.inr 0) r ([.ref (qad g 110)] : List Value).toArray s rmX4_closeRow) 5 S17 [(0, .ref (qad g 110)), (1, .int (qI x10)), (3, .int (qI x15))] 122 [] 0 0 := by
        intro S17 hm
        rw [e27] at hm
        refine z_aload_n C dX4_closeRow_122 0 rfl ?_
        refine z_iload_n C dX4_closeRow_123 1 rfl ?_
        refine z_iload_n C dX4_closeRow_124 2 rfl ?_
        refine z_iadd C dX4_closeRow_125 ?_
        refine pf_X4_156 C rfl dX4_closeRow_126 ?_
        obtain ⟨S19, e20, hm⟩ := ql_i hm
        refine z_S e20 ?_
        refine z_aload_n C dX4_closeRow_129 0 rfl ?_
        refine z_dup C dX4_closeRow_130 rfl ?_
        refine gf_X4_167 C rfl dX4_closeRow_131 ?_
        refine z_iconst (x := 1) C dX4_closeRow_134 rfl ?_
        refine z_isub C dX4_closeRow_135 ?_
        refine pf_X4_167 C rfl dX4_closeRow_136 ?_
        obtain ⟨S21, e22, hm⟩ := ql_i hm
        refine z_S e22 ?_
        refine z_aload_n C dX4_closeRow_139 0 rfl ?_
        refine gf_X4_25 C rfl dX4_closeRow_140 ?_
        refine z_aload_n C dX4_closeRow_143 0 rfl ?_
        refine gf_X4_167 C rfl dX4_closeRow_144 ?_
        refine z_dup2 C dX4_closeRow_147 rfl rfl ?_
        obtain ⟨h23, hm⟩ := qg_i hm
        refine z_iald (N := 4) C rfl h23 (by decide) dX4_closeRow_148 ?_
        refine z_iconst (x := 1) C dX4_closeRow_149 rfl ?_
        refine z_iadd C dX4_closeRow_150 ?_
        obtain ⟨h24, hm⟩ := qg_i hm
        refine z_iast (N := 4) C rfl h24 (by decide) dX4_closeRow_151 ?_
        obtain ⟨S25, e26, hm⟩ := ql_i hm
        refine z_S e26 ?_
        exact z_vret C hr (by decide) (by decide) (by cases hm; rfl) dX4_closeRow_152
      clear e27
      refine z_sub (L' := [(0, .ref (qad g 110)), (1, .int (qI x10)), (2, .int (qI x12)), (3, .int (qI x15)), (4, .int (qI x12))]) [4, 3, 2, 1, 0] rfl ?_
      exact met_X4_closeRow_l61 C hr hT x10 x12 x15 j18 hj18 n9 a5 x12 hm
  clear e43
  refine z_if_le (tgt := 17) C dX4_closeRow_10 (by decide) h2 (fun c44 => ?_) (fun c44 => ?_)
  · have hm := qt_i hm c44
    refine z_iconst (x := 0) C dX4_closeRow_17 rfl ?_
    exact hj4 0 hm
  · have hm := qf_i hm c44
    refine z_iconst (x := 1) C dX4_closeRow_13 rfl ?_
    refine z_goto (tgt := 18) C dX4_closeRow_14 (by decide) ?_
    exact hj4 1 hm

set_option maxHeartbeats 4000000 in
set_option maxRecDepth 100000 in
theorem met_X4_readPart (l : Launch) (g : qG) (hl : l.stackTraces = false) (hA : qAd g) (n9 : Nat) (S : qS) (r : qS) (hm : MX4_readPart n9 S  = some r) : qM l g yX4_readPart (.code yX4_readPart cX4_readPart 3 none) rmX4_readPart qkV [.ref (qad g 110)] S (.inr 0) r := by
  rw [MX4_readPart] at hm
  refine qM_of (L := [(0, .ref (qad g 110))]) (by decide +kernel) rfl (Nat.le_of_ble_eq_true rfl) hl hA ?_
  intro p e s m below meth c C hr hT
  have C : qC g p l s m ([.ref (qad g 110)] : List Value).toArray meth c RX4 cX4_readPart 3 := C
  refine z_aload_n C dX4_readPart_0 0 rfl ?_
  refine z_aload_n C dX4_readPart_1 0 rfl ?_
  refine gf_X4_138 C rfl dX4_readPart_2 ?_
  obtain ⟨a1, h2, hm⟩ := qb_i hm
  refine iv_X4_149 C (met_X4_digitAt l g hl hA n9 S (S 110 3) _ h2) rfl ⟨by decide, by decide⟩ ⟨by decide, by decide⟩ (Nat.le_of_ble_eq_true rfl) dX4_readPart_5 ?_
  refine z_istore_n (L' := [(1, .int (qI a1)), (0, .ref (qad g 110))]) C dX4_readPart_8 (by decide) rfl ?_
  refine z_iload_n C dX4_readPart_9 0 rfl ?_
  obtain ⟨h3, hm⟩ := qg_i hm
  refine z_i2l C dX4_readPart_10 h3 ?_
  refine z_ldc2 (x := 7) C dX4_readPart_11 qct_X4_173 (by decide +kernel) ?_
  refine z_ldc2 (x := 9) C dX4_readPart_14 qct_X4_175 (by decide +kernel) ?_
  obtain ⟨a4, h5, hm⟩ := qb_i hm
  refine iv_X4_118 C (met_X4_in l g hl hA n9 S a1 7 9 _ h5) ⟨by decide, by decide⟩ ⟨by decide, by decide⟩ (Nat.le_of_ble_eq_true rfl) dX4_readPart_17 ?_
  obtain ⟨h6, hm⟩ := qg_i hm
  obtain ⟨j8, e25, hm⟩ := ql_i hm
  have hj8 : ∀ (v7 : Int), j8 v7 = some r → qZ g p l e rmX4_readPart s m ([.ref (qad g 110)] : List Value).toArray below meth c (qQ g below qkV (.inr 0) r ([.ref (qad g 110)] : List Value).toArray s rmX4_readPart) 3 S [(0, .ref (qad g 110))] 79 [.int (qI v7)] 0 0 := by
    intro v7 hm
    rw [e25] at hm
    refine z_istore_n (L' := [(2, .int (qI v7)), (0, .ref (qad g 110))]) C dX4_readPart_79 (by decide) rfl ?_
    refine z_aload_n C dX4_readPart_80 1 rfl ?_
    refine gf_X4_167 C rfl dX4_readPart_81 ?_
    obtain ⟨h9, hm⟩ := qg_i hm
    obtain ⟨j10, e17, hm⟩ := ql_i hm
    have hj10 : j10 = some r → qZ g p l e rmX4_readPart s m ([.ref (qad g 110)] : List Value).toArray below meth c (qQ g below qkV (.inr 0) r ([.ref (qad g 110)] : List Value).toArray s rmX4_readPart) 3 S [(0, .ref (qad g 110)), (2, .int (qI v7))] 103 [] 0 0 := by
      intro  hm
      rw [e17] at hm
      refine z_iload_n C dX4_readPart_103 1 rfl ?_
      obtain ⟨h11, hm⟩ := qg_i hm
      refine z_if_eq (tgt := 114) C dX4_readPart_104 (by decide) h11 (fun c12 => ?_) (fun c12 => ?_)
      · have hm := qt_i hm c12
        refine z_aload_n C dX4_readPart_114 0 rfl ?_
        obtain ⟨a13, h14, hm⟩ := qb_i hm
        refine iv_X4_187 C (met_X4_readAxle l g hl hA n9 S  _ h14) rfl ⟨by decide, by decide⟩ ⟨by decide, by decide⟩ (Nat.le_of_ble_eq_true rfl) dX4_readPart_115 ?_
        exact z_vret C hr (by decide) (by decide) (by cases hm; rfl) dX4_readPart_118
      · have hm := qf_i hm c12
        refine z_aload_n C dX4_readPart_107 0 rfl ?_
        obtain ⟨a15, h16, hm⟩ := qb_i hm
        refine iv_X4_184 C (met_X4_openRow l g hl hA n9 S  _ h16) rfl ⟨by decide, by decide⟩ ⟨by decide, by decide⟩ (Nat.le_of_ble_eq_true rfl) dX4_readPart_108 ?_
        refine z_goto (tgt := 118) C dX4_readPart_111 (by decide) ?_
        exact z_vret C hr (by decide) (by decide) (by cases hm; rfl) dX4_readPart_118
    clear e17
    refine z_if_le (tgt := 103) C dX4_readPart_84 (by decide) h9 (fun c18 => ?_) (fun c18 => ?_)
    · have hm := qt_i hm c18
      refine z_sub (L' := [(0, .ref (qad g 110)), (2, .int (qI v7))]) [1, 0] rfl ?_
      exact hj10  hm
    · have hm := qf_i hm c18
      refine z_aload_n C dX4_readPart_87 1 rfl ?_
      refine z_bipush (x := 41) C dX4_readPart_88 (by decide +kernel) ?_
      obtain ⟨a19, h20, hm⟩ := qb_i hm
      refine iv_X4_170 C (met_X4_isNext l g hl hA n9 S 41 _ h20) rfl ⟨by decide, by decide⟩ ⟨by decide, by decide⟩ (Nat.le_of_ble_eq_true rfl) dX4_readPart_90 ?_
      obtain ⟨h21, hm⟩ := qg_i hm
      refine z_if_eq (tgt := 103) C dX4_readPart_93 (by decide) h21 (fun c22 => ?_) (fun c22 => ?_)
      · have hm := qt_i hm c22
        refine z_sub (L' := [(0, .ref (qad g 110)), (2, .int (qI v7))]) [1, 0] rfl ?_
        exact hj10  hm
      · have hm := qf_i hm c22
        refine z_aload_n C dX4_readPart_96 1 rfl ?_
        obtain ⟨a23, h24, hm⟩ := qb_i hm
        refine iv_X4_181 C (met_X4_closeRow l g hl hA n9 S  _ h24) rfl ⟨by decide, by decide⟩ ⟨by decide, by decide⟩ (Nat.le_of_ble_eq_true rfl) dX4_readPart_97 ?_
        refine z_goto (tgt := 118) C dX4_readPart_100 (by decide) ?_
        exact z_vret C hr (by decide) (by decide) (by cases hm; rfl) dX4_readPart_118
  clear e25
  obtain ⟨j26, e27, hm⟩ := ql_i hm
  have hj26 : j26 = some r → qZ g p l e rmX4_readPart s m ([.ref (qad g 110)] : List Value).toArray below meth c (qQ g below qkV (.inr 0) r ([.ref (qad g 110)] : List Value).toArray s rmX4_readPart) 3 S [(0, .ref (qad g 110))] 74 [] 0 0 := by
    intro  hm
    rw [e27] at hm
    refine z_iconst (x := 1) C dX4_readPart_74 rfl ?_
    refine z_goto (tgt := 79) C dX4_readPart_75 (by decide) ?_
    exact hj8 1 hm
  clear e27
  obtain ⟨j28, e41, hm⟩ := ql_i hm
  have hj28 : j28 = some r → qZ g p l e rmX4_readPart s m ([.ref (qad g 110)] : List Value).toArray below meth c (qQ g below qkV (.inr 0) r ([.ref (qad g 110)] : List Value).toArray s rmX4_readPart) 3 S [(0, .ref (qad g 110)), (1, .int (qI a1))] 31 [] 0 0 := by
    intro  hm
    rw [e41] at hm
    refine z_iload_n C dX4_readPart_31 1 rfl ?_
    refine z_i2l C dX4_readPart_32 h3 ?_
    refine z_ldc2 (x := 2) C dX4_readPart_33 qct_X4_177 (by decide +kernel) ?_
    refine z_ldc2 (x := 6) C dX4_readPart_36 qct_X4_179 (by decide +kernel) ?_
    obtain ⟨a29, h30, hm⟩ := qb_i hm
    refine iv_X4_118 C (met_X4_in l g hl hA n9 S a1 2 6 _ h30) ⟨by decide, by decide⟩ ⟨by decide, by decide⟩ (Nat.le_of_ble_eq_true rfl) dX4_readPart_39 ?_
    obtain ⟨h31, hm⟩ := qg_i hm
    obtain ⟨j32, e33, hm⟩ := ql_i hm
    have hj32 : j32 = some r → qZ g p l e rmX4_readPart s m ([.ref (qad g 110)] : List Value).toArray below meth c (qQ g below qkV (.inr 0) r ([.ref (qad g 110)] : List Value).toArray s rmX4_readPart) 3 S [(0, .ref (qad g 110))] 78 [] 0 0 := by
      intro  hm
      rw [e33] at hm
      refine z_iconst (x := 0) C dX4_readPart_78 rfl ?_
      exact hj8 0 hm
    clear e33
    refine z_if_eq (tgt := 78) C dX4_readPart_42 (by decide) h31 (fun c34 => ?_) (fun c34 => ?_)
    · have hm := qt_i hm c34
      refine z_sub (L' := [(0, .ref (qad g 110))]) [0] rfl ?_
      exact hj32  hm
    · have hm := qf_i hm c34
      refine z_aload_n C dX4_readPart_45 0 rfl ?_
      refine gf_X4_138 C rfl dX4_readPart_46 ?_
      refine z_iconst (x := 1) C dX4_readPart_49 rfl ?_
      refine z_iadd C dX4_readPart_50 ?_
      refine z_aload_n C dX4_readPart_51 0 rfl ?_
      refine gf_X4_131 C rfl dX4_readPart_52 ?_
      obtain ⟨h35, hm⟩ := qg_i hm
      obtain ⟨h36, hm⟩ := qg_i hm
      refine z_icmp_ge (tgt := 78) C dX4_readPart_55 (by decide) ⟨h35, h36⟩ (fun c37 => ?_) (fun c37 => ?_)
      · have hm := qt_i hm c37
        refine z_sub (L' := [(0, .ref (qad g 110))]) [0] rfl ?_
        exact hj32  hm
      · have hm := qf_i hm c37
        refine z_aload_n C dX4_readPart_58 0 rfl ?_
        refine gf_X4_7 C rfl dX4_readPart_59 ?_
        refine z_aload_n C dX4_readPart_62 0 rfl ?_
        refine gf_X4_138 C rfl dX4_readPart_63 ?_
        refine z_iconst (x := 1) C dX4_readPart_66 rfl ?_
        refine z_iadd C dX4_readPart_67 ?_
        obtain ⟨h38, hm⟩ := qg_i hm
        refine z_iald (N := 120) C rfl h38 (by decide) dX4_readPart_68 ?_
        refine z_bipush (x := 40) C dX4_readPart_69 (by decide +kernel) ?_
        obtain ⟨h39, hm⟩ := qg_i hm
        refine z_icmp_ne (tgt := 78) C dX4_readPart_71 (by decide) ⟨h39, (by decide)⟩ (fun c40 => ?_) (fun c40 => ?_)
        · have hm := qt_i hm c40
          refine z_sub (L' := [(0, .ref (qad g 110))]) [0] rfl ?_
          exact hj26  hm
        · have hm := qf_i hm c40
          refine z_sub (L' := [(0, .ref (qad g 110))]) [0] rfl ?_
          exact hj32  hm
  clear e41
  refine z_if_eq (tgt := 31) C dX4_readPart_20 (by decide) h6 (fun c42 => ?_) (fun c42 => ?_)
  · have hm := qt_i hm c42
    refine z_sub (L' := [(0, .ref (qad g 110)), (1, .int (qI a1))]) [1, 0] rfl ?_
    exact hj28  hm
  · have hm := qf_i hm c42
    refine z_aload_n C dX4_readPart_23 1 rfl ?_
    refine gf_X4_167 C rfl dX4_readPart_24 ?_
    refine z_iconst (x := 3) C dX4_readPart_27 rfl ?_
    obtain ⟨h43, hm⟩ := qg_i hm
    refine z_icmp_lt (tgt := 74) C dX4_readPart_28 (by decide) ⟨h43, (by decide)⟩ (fun c44 => ?_) (fun c44 => ?_)
    · have hm := qt_i hm c44
      refine z_sub (L' := [(0, .ref (qad g 110))]) [1] rfl ?_
      exact hj26  hm
    · have hm := qf_i hm c44
      refine z_sub (L' := [(0, .ref (qad g 110)), (1, .int (qI a1))]) [1, 0] rfl ?_
      exact hj28  hm

set_option maxHeartbeats 4000000 in
set_option maxRecDepth 100000 in
theorem met_X4_readText_l30 {g : qG} {p : Program} {l : Launch} {e : Env} {s : State} {m : MethodId} {args : Array Value} {below : List Frame} {meth : Method} {c : Code} (C : qC g p l s m args meth c RX4 cX4_readText 1) (hr : meth.sig.returnType = (some .int)) (hT : ∀ x ∈ c.exceptionTable.toList, False) (n9 : Nat) {r : Int × qS} (k55 : qS → Option (Int × qS)) (hk55 : ∀ (y1 : qS), k55 y1 = some r → qZ g p l e rmX4_readText s m args below meth c (qQ g below qkI (.inr r.1) r.2 args s rmX4_readText) 1 y1 [(0, .ref (qad g 110))] 55 [] 0 0) : ∀ (f : Nat) (S22 : qS), MX4_readText_l30 n9 k55 f S22 = some r → qZ g p l e rmX4_readText s m args below meth c (qQ g below qkI (.inr r.1) r.2 args s rmX4_readText) 1 S22 [(0, .ref (qad g 110))] 30 [] 0 0 := by
  intro f
  induction f with
  | zero => intro S22 hm; rw [MX4_readText_l30] at hm; cases hm
  | succ f ih =>
    intro S22 hm
    rw [MX4_readText_l30] at hm
    have hl := C.2.2.2.2.2.2.2.2
    have hA := C.2.2.2.2.2.2.1
    refine z_aload_n C dX4_readText_30 0 rfl ?_
    refine gf_X4_145 C rfl dX4_readText_31 ?_
    obtain ⟨h23, hm⟩ := qg_i hm
    refine z_if_eq (tgt := 55) C dX4_readText_34 (by decide) h23 (fun c24 => ?_) (fun c24 => ?_)
    · have hm := qt_i hm c24
      exact hk55 S22 hm
    · have hm := qf_i hm c24
      refine z_aload_n C dX4_readText_37 0 rfl ?_
      refine gf_X4_138 C rfl dX4_readText_38 ?_
      refine z_aload_n C dX4_readText_41 0 rfl ?_
      refine gf_X4_131 C rfl dX4_readText_42 ?_
      obtain ⟨h25, hm⟩ := qg_i hm
      obtain ⟨h26, hm⟩ := qg_i hm
      refine z_icmp_ge (tgt := 55) C dX4_readText_45 (by decide) ⟨h25, h26⟩ (fun c27 => ?_) (fun c27 => ?_)
      · have hm := qt_i hm c27
        exact hk55 S22 hm
      · have hm := qf_i hm c27
        refine z_aload_n C dX4_readText_48 0 rfl ?_
        obtain ⟨a28, h29, hm⟩ := qb_i hm
        refine iv_X4_190 C (met_X4_readPart l g hl hA n9 S22  _ h29) rfl ⟨by decide, by decide⟩ ⟨by decide, by decide⟩ (Nat.le_of_ble_eq_true rfl) dX4_readText_49 ?_
        refine z_goto (tgt := 30) C dX4_readText_52 (by decide) ?_
        exact ih a28 hm

set_option maxHeartbeats 4000000 in
set_option maxRecDepth 100000 in
theorem met_X4_readText (l : Launch) (g : qG) (hl : l.stackTraces = false) (hA : qAd g) (n9 : Nat) (S : qS) (r : Int × qS) (hm : MX4_readText n9 S  = some r) : qM l g yX4_readText (.code yX4_readText cX4_readText 1 (some .int)) rmX4_readText qkI [.ref (qad g 110)] S (.inr r.1) r.2 := by
  rw [MX4_readText] at hm
  refine qM_of (L := [(0, .ref (qad g 110))]) (by decide +kernel) rfl (Nat.le_of_ble_eq_true rfl) hl hA ?_
  intro p e s m below meth c C hr hT
  have C : qC g p l s m ([.ref (qad g 110)] : List Value).toArray meth c RX4 cX4_readText 1 := C
  refine z_aload_n C dX4_readText_0 0 rfl ?_
  refine z_iconst (x := 0) C dX4_readText_1 rfl ?_
  refine pf_X4_138 C rfl dX4_readText_2 ?_
  obtain ⟨S1, e2, hm⟩ := ql_i hm
  refine z_S e2 ?_
  refine z_aload_n C dX4_readText_5 0 rfl ?_
  refine z_iconst (x := 1) C dX4_readText_6 rfl ?_
  refine pf_X4_145 C rfl (by decide) dX4_readText_7 ?_
  obtain ⟨S3, e4, hm⟩ := ql_i hm
  refine z_S e4 ?_
  refine z_aload_n C dX4_readText_10 0 rfl ?_
  refine z_iconst (x := 0) C dX4_readText_11 rfl ?_
  refine pf_X4_156 C rfl dX4_readText_12 ?_
  obtain ⟨S5, e6, hm⟩ := ql_i hm
  refine z_S e6 ?_
  refine z_aload_n C dX4_readText_15 0 rfl ?_
  refine z_iconst (x := 0) C dX4_readText_16 rfl ?_
  refine pf_X4_167 C rfl dX4_readText_17 ?_
  obtain ⟨S7, e8, hm⟩ := ql_i hm
  refine z_S e8 ?_
  refine z_aload_n C dX4_readText_20 0 rfl ?_
  refine z_aload_n C dX4_readText_21 0 rfl ?_
  refine z_bipush (x := 82) C dX4_readText_22 (by decide +kernel) ?_
  obtain ⟨a9, h10, hm⟩ := qb_i hm
  refine iv_X4_170 C (met_X4_isNext l g hl hA n9 S7 82 _ h10) rfl ⟨by decide, by decide⟩ ⟨by decide, by decide⟩ (Nat.le_of_ble_eq_true rfl) dX4_readText_24 ?_
  obtain ⟨a11, h12, hm⟩ := qb_i hm
  refine iv_X4_152 C (met_X4_accept l g hl hA n9 S7 a9 _ h12) rfl ⟨by decide, by decide⟩ ⟨by decide, by decide⟩ (Nat.le_of_ble_eq_true rfl) dX4_readText_27 ?_
  obtain ⟨j14, e21, hm⟩ := ql_i hm
  have hj14 : ∀ (S13 : qS), j14 S13 = some r → qZ g p l e rmX4_readText s m ([.ref (qad g 110)] : List Value).toArray below meth c (qQ g below qkI (.inr r.1) r.2 ([.ref (qad g 110)] : List Value).toArray s rmX4_readText) 1 S13 [(0, .ref (qad g 110))] 55 [] 0 0 := by
    intro S13 hm
    rw [e21] at hm
    refine z_aload_n C dX4_readText_55 0 rfl ?_
    refine gf_X4_145 C rfl dX4_readText_56 ?_
    obtain ⟨h15, hm⟩ := qg_i hm
    obtain ⟨j16, e17, hm⟩ := ql_i hm
    have hj16 : j16 = some r → qZ g p l e rmX4_readText s m ([.ref (qad g 110)] : List Value).toArray below meth c (qQ g below qkI (.inr r.1) r.2 ([.ref (qad g 110)] : List Value).toArray s rmX4_readText) 1 S13 [(0, .ref (qad g 110))] 73 [] 0 0 := by
      intro  hm
      rw [e17] at hm
      refine z_aload_n C dX4_readText_73 0 rfl ?_
      refine gf_X4_138 C rfl dX4_readText_74 ?_
      exact z_iret C hr (by decide) (by decide) (by cases hm; rfl) dX4_readText_77
    clear e17
    refine z_if_eq (tgt := 73) C dX4_readText_59 (by decide) h15 (fun c18 => ?_) (fun c18 => ?_)
    · have hm := qt_i hm c18
      exact hj16  hm
    · have hm := qf_i hm c18
      refine z_aload_n C dX4_readText_62 0 rfl ?_
      refine gf_X4_167 C rfl dX4_readText_63 ?_
      obtain ⟨h19, hm⟩ := qg_i hm
      refine z_if_ne (tgt := 73) C dX4_readText_66 (by decide) h19 (fun c20 => ?_) (fun c20 => ?_)
      · have hm := qt_i hm c20
        refine z_iconst (x := (-1)) C dX4_readText_69 rfl ?_
        refine z_goto (tgt := 77) C dX4_readText_70 (by decide) ?_
        exact z_iret C hr (by decide) (by decide) (by cases hm; rfl) dX4_readText_77
      · have hm := qf_i hm c20
        exact hj16  hm
  clear e21
  exact met_X4_readText_l30 C hr hT n9 j14 hj14 n9 a11 hm

set_option maxHeartbeats 4000000 in
set_option maxRecDepth 100000 in
theorem met_X4_errorPosition (l : Launch) (g : qG) (hl : l.stackTraces = false) (hA : qAd g) (n9 : Nat) (S : qS) (r : Int × qS) (hm : MX4_errorPosition n9 S  = some r) : qM l g yX4_errorPosition (.code yX4_errorPosition cX4_errorPosition 1 (some .int)) rmX4_errorPosition qkI [.ref (qad g 110)] S (.inr r.1) r.2 := by
  rw [MX4_errorPosition] at hm
  refine qM_of (L := [(0, .ref (qad g 110))]) (by decide +kernel) rfl (Nat.le_of_ble_eq_true rfl) hl hA ?_
  intro p e s m below meth c C hr hT
  have C : qC g p l s m ([.ref (qad g 110)] : List Value).toArray meth c RX4 cX4_errorPosition 1 := C
  refine z_aload_n C dX4_errorPosition_0 0 rfl ?_
  refine z_iconst (x := 0) C dX4_errorPosition_1 rfl ?_
  refine pf_X4_59 C rfl dX4_errorPosition_2 ?_
  obtain ⟨S1, e2, hm⟩ := ql_i hm
  refine z_S e2 ?_
  refine z_aload_n C dX4_errorPosition_5 0 rfl ?_
  obtain ⟨a3, h4, hm⟩ := qb_i hm
  refine iv_X4_193 C (met_X4_readText l g hl hA n9 S1  _ h4) rfl ⟨by decide, by decide⟩ ⟨by decide, by decide⟩ (Nat.le_of_ble_eq_true rfl) dX4_errorPosition_6 ?_
  exact z_iret C hr (by decide) (by decide) (by cases hm; rfl) dX4_errorPosition_9

set_option maxHeartbeats 4000000 in
set_option maxRecDepth 100000 in
theorem met_X4_axlesTold (l : Launch) (g : qG) (hl : l.stackTraces = false) (hA : qAd g) (n9 : Nat) (S : qS) (r : Int × qS) (hm : MX4_axlesTold n9 S  = some r) : qM l g yX4_axlesTold (.code yX4_axlesTold cX4_axlesTold 1 (some .int)) rmX4_axlesTold qkI [.ref (qad g 110)] S (.inr r.1) r.2 := by
  rw [MX4_axlesTold] at hm
  refine qM_of (L := [(0, .ref (qad g 110))]) (by decide +kernel) rfl (Nat.le_of_ble_eq_true rfl) hl hA ?_
  intro p e s m below meth c C hr hT
  have C : qC g p l s m ([.ref (qad g 110)] : List Value).toArray meth c RX4 cX4_axlesTold 1 := C
  refine z_aload_n C dX4_axlesTold_0 0 rfl ?_
  refine z_iconst (x := 0) C dX4_axlesTold_1 rfl ?_
  refine pf_X4_59 C rfl dX4_axlesTold_2 ?_
  obtain ⟨S1, e2, hm⟩ := ql_i hm
  refine z_S e2 ?_
  refine z_aload_n C dX4_axlesTold_5 0 rfl ?_
  obtain ⟨a3, h4, hm⟩ := qb_i hm
  refine iv_X4_193 C (met_X4_readText l g hl hA n9 S1  _ h4) rfl ⟨by decide, by decide⟩ ⟨by decide, by decide⟩ (Nat.le_of_ble_eq_true rfl) dX4_axlesTold_6 ?_
  refine z_iconst (x := (-1)) C dX4_axlesTold_9 rfl ?_
  obtain ⟨h5, hm⟩ := qg_i hm
  refine z_icmp_ne (tgt := 20) C dX4_axlesTold_10 (by decide) ⟨h5, (by decide)⟩ (fun c6 => ?_) (fun c6 => ?_)
  · have hm := qt_i hm c6
    refine z_aload_n C dX4_axlesTold_13 0 rfl ?_
    refine gf_X4_156 C rfl dX4_axlesTold_14 ?_
    refine z_goto (tgt := 21) C dX4_axlesTold_17 (by decide) ?_
    exact z_iret C hr (by decide) (by decide) (by cases hm; rfl) dX4_axlesTold_21
  · have hm := qf_i hm c6
    refine z_iconst (x := (-1)) C dX4_axlesTold_20 rfl ?_
    exact z_iret C hr (by decide) (by decide) (by cases hm; rfl) dX4_axlesTold_21

set_option maxHeartbeats 4000000 in
set_option maxRecDepth 100000 in
theorem met_X4_trainWeight_l4 {g : qG} {p : Program} {l : Launch} {e : Env} {s : State} {m : MethodId} {args : Array Value} {below : List Frame} {meth : Method} {c : Code} (C : qC g p l s m args meth c RX4 cX4_trainWeight 4) (hr : meth.sig.returnType = (some .int)) (hT : ∀ x ∈ c.exceptionTable.toList, False) (n9 : Nat) (S : qS) (p1 : Int) {r : Int}  : ∀ (f : Nat) (x1 : Int) (x2 : Int), MX4_trainWeight_l4 n9 S p1 f x1 x2 = some r → qZ g p l e rmX4_trainWeight s m args below meth c (qQ g below qkI (.inr r) S args s rmX4_trainWeight) 4 S [(0, .ref (qad g 110)), (1, .int (qI p1)), (2, .int (qI x1)), (3, .int (qI x2))] 4 [] 0 0 := by
  intro f
  induction f with
  | zero => intro x1 x2 hm; rw [MX4_trainWeight_l4] at hm; cases hm
  | succ f ih =>
    intro x1 x2 hm
    rw [MX4_trainWeight_l4] at hm
    have hl := C.2.2.2.2.2.2.2.2
    have hA := C.2.2.2.2.2.2.1
    refine z_iload_n C dX4_trainWeight_4 3 rfl ?_
    refine z_aload_n C dX4_trainWeight_5 0 rfl ?_
    refine gf_X4_99 C rfl dX4_trainWeight_6 ?_
    obtain ⟨h3, hm⟩ := qg_i hm
    obtain ⟨h4, hm⟩ := qg_i hm
    refine z_icmp_ge (tgt := 52) C dX4_trainWeight_9 (by decide) ⟨h3, h4⟩ (fun c5 => ?_) (fun c5 => ?_)
    · have hm := qt_i hm c5
      refine z_iload_n C dX4_trainWeight_52 2 rfl ?_
      exact z_iret C hr (by decide) (by decide) (by cases hm; rfl) dX4_trainWeight_53
    · have hm := qf_i hm c5
      refine z_iload_n C dX4_trainWeight_12 2 rfl ?_
      refine z_aload_n C dX4_trainWeight_13 0 rfl ?_
      refine z_aload_n C dX4_trainWeight_14 0 rfl ?_
      refine gf_X4_56 C rfl dX4_trainWeight_15 ?_
      refine z_iload_n C dX4_trainWeight_18 3 rfl ?_
      obtain ⟨h6, hm⟩ := qg_i hm
      refine z_iald (N := 15) C rfl h6 (by decide) dX4_trainWeight_19 ?_
      obtain ⟨a7, h8, hm⟩ := qb_i hm
      refine iv_X4_200 C (met_X4_trainOf l g hl hA n9 S (S 126 x2.toNat) _ h8) rfl ⟨by decide, by decide⟩ ⟨by decide, by decide⟩ (Nat.le_of_ble_eq_true rfl) dX4_trainWeight_20 ?_
      refine z_iload_n C dX4_trainWeight_23 1 rfl ?_
      obtain ⟨h9, hm⟩ := qg_i hm
      obtain ⟨h10, hm⟩ := qg_i hm
      obtain ⟨j12, e15, hm⟩ := ql_i hm
      have hj12 : ∀ (v11 : Int), j12 v11 = some r → qZ g p l e rmX4_trainWeight s m args below meth c (qQ g below qkI (.inr r) S args s rmX4_trainWeight) 4 S [(0, .ref (qad g 110)), (1, .int (qI p1)), (3, .int (qI x2))] 44 [.int (qI v11), .int (qI x1)] 0 0 := by
        intro v11 hm
        rw [e15] at hm
        refine z_iadd C dX4_trainWeight_44 ?_
        obtain ⟨x13, e14, hm⟩ := ql_i hm
        refine z_topi e14 ?_
        refine z_istore_n (L' := [(2, .int (qI x13)), (0, .ref (qad g 110)), (1, .int (qI p1)), (3, .int (qI x2))]) C dX4_trainWeight_45 (by decide) rfl ?_
        refine z_iinc (L' := [(3, .int (qI (x2 + 1))), (2, .int (qI x13)), (0, .ref (qad g 110)), (1, .int (qI p1))]) C dX4_trainWeight_46 3 rfl (by decide) rfl ?_
        refine z_goto (tgt := 4) C dX4_trainWeight_49 (by decide) ?_
        refine z_sub (L' := [(0, .ref (qad g 110)), (1, .int (qI p1)), (2, .int (qI x13)), (3, .int (qI (x2 + 1)))]) [2, 3, 1, 0] rfl ?_
        exact ih x13 (x2 + 1) hm
      clear e15
      refine z_icmp_ne (tgt := 43) C dX4_trainWeight_24 (by decide) ⟨h9, h10⟩ (fun c16 => ?_) (fun c16 => ?_)
      · have hm := qt_i hm c16
        refine z_aload_n C dX4_trainWeight_27 0 rfl ?_
        refine gf_X4_28 C rfl dX4_trainWeight_28 ?_
        refine z_aload_n C dX4_trainWeight_31 0 rfl ?_
        refine gf_X4_56 C rfl dX4_trainWeight_32 ?_
        refine z_iload_n C dX4_trainWeight_35 3 rfl ?_
        obtain ⟨h17, hm⟩ := qg_i hm
        refine z_iald (N := 15) C rfl h17 (by decide) dX4_trainWeight_36 ?_
        obtain ⟨a18, h19, hm⟩ := qb_i hm
        refine iv_X4_115 C (met_X4_carWeight l g hl hA n9 S 117 (S 126 x2.toNat) _ h19) ⟨by decide, by decide⟩ ⟨by decide, by decide⟩ (Nat.le_of_ble_eq_true rfl) dX4_trainWeight_37 ?_
        refine z_goto (tgt := 44) C dX4_trainWeight_40 (by decide) ?_
        refine z_sub (L' := [(0, .ref (qad g 110)), (1, .int (qI p1)), (3, .int (qI x2))]) [0, 1, 3] rfl ?_
        exact hj12 a18 hm
      · have hm := qf_i hm c16
        refine z_iconst (x := 0) C dX4_trainWeight_43 rfl ?_
        refine z_sub (L' := [(0, .ref (qad g 110)), (1, .int (qI p1)), (3, .int (qI x2))]) [0, 1, 3] rfl ?_
        exact hj12 0 hm

set_option maxHeartbeats 4000000 in
set_option maxRecDepth 100000 in
theorem met_X4_trainWeight (l : Launch) (g : qG) (hl : l.stackTraces = false) (hA : qAd g) (n9 : Nat) (S : qS) (p1 : Int) (r : Int) (hm : MX4_trainWeight n9 S p1 = some r) : qM l g yX4_trainWeight (.code yX4_trainWeight cX4_trainWeight 4 (some .int)) rmX4_trainWeight qkI [.ref (qad g 110), .int (qI p1)] S (.inr r) S := by
  rw [MX4_trainWeight] at hm
  refine qM_of (L := [(0, .ref (qad g 110)), (1, .int (qI p1))]) (by decide +kernel) rfl (Nat.le_of_ble_eq_true rfl) hl hA ?_
  intro p e s m below meth c C hr hT
  have C : qC g p l s m ([.ref (qad g 110), .int (qI p1)] : List Value).toArray meth c RX4 cX4_trainWeight 4 := C
  refine z_iconst (x := 0) C dX4_trainWeight_0 rfl ?_
  refine z_istore_n (L' := [(2, .int (qI 0)), (0, .ref (qad g 110)), (1, .int (qI p1))]) C dX4_trainWeight_1 (by decide) rfl ?_
  refine z_iconst (x := 0) C dX4_trainWeight_2 rfl ?_
  refine z_istore_n (L' := [(3, .int (qI 0)), (2, .int (qI 0)), (0, .ref (qad g 110)), (1, .int (qI p1))]) C dX4_trainWeight_3 (by decide) rfl ?_
  refine z_sub (L' := [(0, .ref (qad g 110)), (1, .int (qI p1)), (2, .int (qI 0)), (3, .int (qI 0))]) [2, 3, 1, 0] rfl ?_
  exact met_X4_trainWeight_l4 C hr hT n9 S p1  n9 0 0 hm

set_option maxHeartbeats 4000000 in
set_option maxRecDepth 100000 in
theorem met_X4_badBills_l4 {g : qG} {p : Program} {l : Launch} {e : Env} {s : State} {m : MethodId} {args : Array Value} {below : List Frame} {meth : Method} {c : Code} (C : qC g p l s m args meth c RX4 cX4_badBills 4) (hr : meth.sig.returnType = (some .int)) (hT : ∀ x ∈ c.exceptionTable.toList, False) (n9 : Nat) (S : qS) (p1 : Int) {r : Int}  : ∀ (f : Nat) (x1 : Int) (x2 : Int), MX4_badBills_l4 n9 S p1 f x1 x2 = some r → qZ g p l e rmX4_badBills s m args below meth c (qQ g below qkI (.inr r) S args s rmX4_badBills) 4 S [(0, .ref (qad g 110)), (1, .int (qI p1)), (2, .int (qI x1)), (3, .int (qI x2))] 4 [] 0 0 := by
  intro f
  induction f with
  | zero => intro x1 x2 hm; rw [MX4_badBills_l4] at hm; cases hm
  | succ f ih =>
    intro x1 x2 hm
    rw [MX4_badBills_l4] at hm
    have hl := C.2.2.2.2.2.2.2.2
    have hA := C.2.2.2.2.2.2.1
    refine z_iload_n C dX4_badBills_4 3 rfl ?_
    refine z_aload_n C dX4_badBills_5 0 rfl ?_
    refine gf_X4_102 C rfl dX4_badBills_6 ?_
    obtain ⟨h3, hm⟩ := qg_i hm
    obtain ⟨h4, hm⟩ := qg_i hm
    refine z_icmp_ge (tgt := 57) C dX4_badBills_9 (by decide) ⟨h3, h4⟩ (fun c5 => ?_) (fun c5 => ?_)
    · have hm := qt_i hm c5
      refine z_iload_n C dX4_badBills_57 2 rfl ?_
      exact z_iret C hr (by decide) (by decide) (by cases hm; rfl) dX4_badBills_58
    · have hm := qf_i hm c5
      refine z_iload_n C dX4_badBills_12 2 rfl ?_
      refine z_aload_n C dX4_badBills_13 0 rfl ?_
      refine gf_X4_28 C rfl dX4_badBills_14 ?_
      refine z_iconst (x := 5) C dX4_badBills_17 rfl ?_
      refine z_iload_n C dX4_badBills_18 3 rfl ?_
      refine z_iadd C dX4_badBills_19 ?_
      obtain ⟨h6, hm⟩ := qg_i hm
      refine z_iald (N := 95) C rfl h6 (by decide) dX4_badBills_20 ?_
      obtain ⟨h7, hm⟩ := qg_i hm
      obtain ⟨j9, e12, hm⟩ := ql_i hm
      have hj9 : ∀ (v8 : Int), j9 v8 = some r → qZ g p l e rmX4_badBills s m args below meth c (qQ g below qkI (.inr r) S args s rmX4_badBills) 4 S [(0, .ref (qad g 110)), (1, .int (qI p1)), (3, .int (qI x2))] 49 [.int (qI v8), .int (qI x1)] 0 0 := by
        intro v8 hm
        rw [e12] at hm
        refine z_iadd C dX4_badBills_49 ?_
        obtain ⟨x10, e11, hm⟩ := ql_i hm
        refine z_topi e11 ?_
        refine z_istore_n (L' := [(2, .int (qI x10)), (0, .ref (qad g 110)), (1, .int (qI p1)), (3, .int (qI x2))]) C dX4_badBills_50 (by decide) rfl ?_
        refine z_iinc (L' := [(3, .int (qI (x2 + 1))), (2, .int (qI x10)), (0, .ref (qad g 110)), (1, .int (qI p1))]) C dX4_badBills_51 3 rfl (by decide) rfl ?_
        refine z_goto (tgt := 4) C dX4_badBills_54 (by decide) ?_
        refine z_sub (L' := [(0, .ref (qad g 110)), (1, .int (qI p1)), (2, .int (qI x10)), (3, .int (qI (x2 + 1)))]) [2, 3, 1, 0] rfl ?_
        exact ih x10 (x2 + 1) hm
      clear e12
      obtain ⟨j13, e14, hm⟩ := ql_i hm
      have hj13 : j13 = some r → qZ g p l e rmX4_badBills s m args below meth c (qQ g below qkI (.inr r) S args s rmX4_badBills) 4 S [(0, .ref (qad g 110)), (1, .int (qI p1)), (3, .int (qI x2))] 48 [.int (qI x1)] 0 0 := by
        intro  hm
        rw [e14] at hm
        refine z_iconst (x := 0) C dX4_badBills_48 rfl ?_
        exact hj9 0 hm
      clear e14
      refine z_if_le (tgt := 48) C dX4_badBills_21 (by decide) h7 (fun c15 => ?_) (fun c15 => ?_)
      · have hm := qt_i hm c15
        refine z_sub (L' := [(0, .ref (qad g 110)), (1, .int (qI p1)), (3, .int (qI x2))]) [0, 1, 3] rfl ?_
        exact hj13  hm
      · have hm := qf_i hm c15
        refine z_iload_n C dX4_badBills_24 1 rfl ?_
        obtain ⟨h16, hm⟩ := qg_i hm
        obtain ⟨j17, e18, hm⟩ := ql_i hm
        have hj17 : j17 = some r → qZ g p l e rmX4_badBills s m args below meth c (qQ g below qkI (.inr r) S args s rmX4_badBills) 4 S [(0, .ref (qad g 110)), (1, .int (qI p1)), (3, .int (qI x2))] 44 [.int (qI x1)] 0 0 := by
          intro  hm
          rw [e18] at hm
          refine z_iconst (x := 1) C dX4_badBills_44 rfl ?_
          refine z_goto (tgt := 49) C dX4_badBills_45 (by decide) ?_
          exact hj9 1 hm
        clear e18
        refine z_if_ne (tgt := 44) C dX4_badBills_25 (by decide) h16 (fun c19 => ?_) (fun c19 => ?_)
        · have hm := qt_i hm c19
          refine z_aload_n C dX4_badBills_28 0 rfl ?_
          refine gf_X4_28 C rfl dX4_badBills_29 ?_
          refine z_iconst (x := 5) C dX4_badBills_32 rfl ?_
          refine z_iload_n C dX4_badBills_33 3 rfl ?_
          refine z_iadd C dX4_badBills_34 ?_
          obtain ⟨h20, hm⟩ := qg_i hm
          refine z_iald (N := 95) C rfl h20 (by decide) dX4_badBills_35 ?_
          refine z_aload_n C dX4_badBills_36 0 rfl ?_
          refine z_iload_n C dX4_badBills_37 3 rfl ?_
          obtain ⟨a21, h22, hm⟩ := qb_i hm
          refine iv_X4_197 C (met_X4_trainWeight l g hl hA n9 S x2 _ h22) rfl ⟨by decide, by decide⟩ ⟨by decide, by decide⟩ (Nat.le_of_ble_eq_true rfl) dX4_badBills_38 ?_
          obtain ⟨h23, hm⟩ := qg_i hm
          refine z_icmp_eq (tgt := 48) C dX4_badBills_41 (by decide) ⟨h7, h23⟩ (fun c24 => ?_) (fun c24 => ?_)
          · have hm := qt_i hm c24
            refine z_sub (L' := [(0, .ref (qad g 110)), (1, .int (qI p1)), (3, .int (qI x2))]) [0, 1, 3] rfl ?_
            exact hj13  hm
          · have hm := qf_i hm c24
            refine z_sub (L' := [(0, .ref (qad g 110)), (1, .int (qI p1)), (3, .int (qI x2))]) [0, 1, 3] rfl ?_
            exact hj17  hm
        · have hm := qf_i hm c19
          refine z_sub (L' := [(0, .ref (qad g 110)), (1, .int (qI p1)), (3, .int (qI x2))]) [0, 1, 3] rfl ?_
          exact hj17  hm

set_option maxHeartbeats 4000000 in
set_option maxRecDepth 100000 in
theorem met_X4_badBills (l : Launch) (g : qG) (hl : l.stackTraces = false) (hA : qAd g) (n9 : Nat) (S : qS) (p1 : Int) (r : Int) (hm : MX4_badBills n9 S p1 = some r) : qM l g yX4_badBills (.code yX4_badBills cX4_badBills 4 (some .int)) rmX4_badBills qkI [.ref (qad g 110), .int (qI p1)] S (.inr r) S := by
  rw [MX4_badBills] at hm
  refine qM_of (L := [(0, .ref (qad g 110)), (1, .int (qI p1))]) (by decide +kernel) rfl (Nat.le_of_ble_eq_true rfl) hl hA ?_
  intro p e s m below meth c C hr hT
  have C : qC g p l s m ([.ref (qad g 110), .int (qI p1)] : List Value).toArray meth c RX4 cX4_badBills 4 := C
  refine z_iconst (x := 0) C dX4_badBills_0 rfl ?_
  refine z_istore_n (L' := [(2, .int (qI 0)), (0, .ref (qad g 110)), (1, .int (qI p1))]) C dX4_badBills_1 (by decide) rfl ?_
  refine z_iconst (x := 0) C dX4_badBills_2 rfl ?_
  refine z_istore_n (L' := [(3, .int (qI 0)), (2, .int (qI 0)), (0, .ref (qad g 110)), (1, .int (qI p1))]) C dX4_badBills_3 (by decide) rfl ?_
  refine z_sub (L' := [(0, .ref (qad g 110)), (1, .int (qI p1)), (2, .int (qI 0)), (3, .int (qI 0))]) [2, 3, 1, 0] rfl ?_
  exact met_X4_badBills_l4 C hr hT n9 S p1  n9 0 0 hm

set_option maxHeartbeats 4000000 in
set_option maxRecDepth 100000 in
theorem met_X4_about (l : Launch) (g : qG) (hl : l.stackTraces = false) (hA : qAd g) (n9 : Nat) (S : qS) (p1 : Int) (r : Int × qS) (hm : MX4_about n9 S p1 = some r) : qM l g yX4_about (.code yX4_about cX4_about 2 (some .int)) rmX4_about qkI [.ref (qad g 110), .int (qI p1)] S (.inr r.1) r.2 := by
  rw [MX4_about] at hm
  refine qM_of (L := [(0, .ref (qad g 110)), (1, .int (qI p1))]) (by decide +kernel) rfl (Nat.le_of_ble_eq_true rfl) hl hA ?_
  intro p e s m below meth c C hr hT
  have C : qC g p l s m ([.ref (qad g 110), .int (qI p1)] : List Value).toArray meth c RX4 cX4_about 2 := C
  refine z_aload_n C dX4_about_0 0 rfl ?_
  refine z_iload_n C dX4_about_1 1 rfl ?_
  obtain ⟨h1, hm⟩ := qg_i hm
  refine z_i2l C dX4_about_2 h1 ?_
  refine z_lconst (x := 0) C dX4_about_3 (by decide +kernel) ?_
  refine z_ldc2 (x := 7) C dX4_about_4 qct_X4_173 (by decide +kernel) ?_
  obtain ⟨a2, h3, hm⟩ := qb_i hm
  refine iv_X4_118 C (met_X4_in l g hl hA n9 S p1 0 7 _ h3) ⟨by decide, by decide⟩ ⟨by decide, by decide⟩ (Nat.le_of_ble_eq_true rfl) dX4_about_7 ?_
  obtain ⟨h4, hm⟩ := qg_i hm
  obtain ⟨j6, e28, hm⟩ := ql_i hm
  have hj6 : ∀ (v5 : Int), j6 v5 = some r → qZ g p l e rmX4_about s m ([.ref (qad g 110), .int (qI p1)] : List Value).toArray below meth c (qQ g below qkI (.inr r.1) r.2 ([.ref (qad g 110), .int (qI p1)] : List Value).toArray s rmX4_about) 2 S [(0, .ref (qad g 110)), (1, .int (qI p1))] 18 [.int (qI v5), .ref (qad g 110)] 0 0 := by
    intro v5 hm
    rw [e28] at hm
    obtain ⟨a7, h8, hm⟩ := qb_i hm
    refine iv_X4_134 C (met_X4_refused l g hl hA n9 S v5 _ h8) rfl ⟨by decide, by decide⟩ ⟨by decide, by decide⟩ (Nat.le_of_ble_eq_true rfl) dX4_about_18 ?_
    obtain ⟨h9, hm⟩ := qg_i hm
    refine z_if_eq (tgt := 26) C dX4_about_21 (by decide) h9 (fun c10 => ?_) (fun c10 => ?_)
    · have hm := qt_i hm c10
      refine z_aload_n C dX4_about_26 0 rfl ?_
      refine z_aload_n C dX4_about_27 0 rfl ?_
      refine gf_X4_28 C rfl dX4_about_28 ?_
      obtain ⟨a11, h12, hm⟩ := qb_i hm
      refine iv_X4_125 C (met_X4_lay l g hl hA n9 a7.2 117 _ h12) rfl ⟨by decide, by decide⟩ ⟨by decide, by decide⟩ (Nat.le_of_ble_eq_true rfl) dX4_about_31 ?_
      refine z_iload_n C dX4_about_34 1 rfl ?_
      rcases Classical.em (p1 = 0) with c13 | c13
      · have hm := qt_i hm c13
        refine z_tableIn (tgt := 76) C dX4_about_35 h1 (by omega) (by omega) (by rw [c13]; rfl) (by decide) ?_
        refine z_aload_n C dX4_about_76 0 rfl ?_
        refine gf_X4_28 C rfl dX4_about_77 ?_
        refine z_iconst (x := 0) C dX4_about_80 rfl ?_
        obtain ⟨h14, hm⟩ := qg_i hm
        refine z_iald (N := 95) C rfl h14 (by decide) dX4_about_81 ?_
        exact z_iret C hr (by decide) (by decide) (by cases hm; rfl) dX4_about_82
      have hm := qf_i hm c13
      rcases Classical.em (p1 = 1) with c15 | c15
      · have hm := qt_i hm c15
        refine z_tableIn (tgt := 83) C dX4_about_35 h1 (by omega) (by omega) (by rw [c15]; rfl) (by decide) ?_
        refine z_aload_n C dX4_about_83 0 rfl ?_
        refine gf_X4_102 C rfl dX4_about_84 ?_
        exact z_iret C hr (by decide) (by decide) (by cases hm; rfl) dX4_about_87
      have hm := qf_i hm c15
      rcases Classical.em (p1 = 2) with c16 | c16
      · have hm := qt_i hm c16
        refine z_tableIn (tgt := 88) C dX4_about_35 h1 (by omega) (by omega) (by rw [c16]; rfl) (by decide) ?_
        refine z_aload_n C dX4_about_88 0 rfl ?_
        refine gf_X4_99 C rfl dX4_about_89 ?_
        exact z_iret C hr (by decide) (by decide) (by cases hm; rfl) dX4_about_92
      have hm := qf_i hm c16
      rcases Classical.em (p1 = 3) with c17 | c17
      · have hm := qt_i hm c17
        refine z_tableIn (tgt := 93) C dX4_about_35 h1 (by omega) (by omega) (by rw [c17]; rfl) (by decide) ?_
        refine z_aload_n C dX4_about_93 0 rfl ?_
        refine gf_X4_28 C rfl dX4_about_94 ?_
        refine z_iconst (x := 0) C dX4_about_97 rfl ?_
        obtain ⟨h18, hm⟩ := qg_i hm
        refine z_iald (N := 95) C rfl h18 (by decide) dX4_about_98 ?_
        refine z_iconst (x := 2) C dX4_about_99 rfl ?_
        refine z_aload_n C dX4_about_100 0 rfl ?_
        refine gf_X4_99 C rfl dX4_about_101 ?_
        refine z_imul C dX4_about_104 ?_
        refine z_isub C dX4_about_105 ?_
        exact z_iret C hr (by decide) (by decide) (by cases hm; rfl) dX4_about_106
      have hm := qf_i hm c17
      rcases Classical.em (p1 = 4) with c19 | c19
      · have hm := qt_i hm c19
        refine z_tableIn (tgt := 107) C dX4_about_35 h1 (by omega) (by omega) (by rw [c19]; rfl) (by decide) ?_
        refine z_aload_n C dX4_about_107 0 rfl ?_
        refine z_aload_n C dX4_about_108 0 rfl ?_
        refine gf_X4_28 C rfl dX4_about_109 ?_
        obtain ⟨a20, h21, hm⟩ := qb_i hm
        refine iv_X4_203 C (met_X4_allWeight l g hl hA n9 a11 117 _ h21) rfl ⟨by decide, by decide⟩ ⟨by decide, by decide⟩ (Nat.le_of_ble_eq_true rfl) dX4_about_112 ?_
        exact z_iret C hr (by decide) (by decide) (by cases hm; rfl) dX4_about_115
      have hm := qf_i hm c19
      rcases Classical.em (p1 = 5) with c22 | c22
      · have hm := qt_i hm c22
        refine z_tableIn (tgt := 116) C dX4_about_35 h1 (by omega) (by omega) (by rw [c22]; rfl) (by decide) ?_
        refine z_aload_n C dX4_about_116 0 rfl ?_
        refine gf_X4_105 C rfl dX4_about_117 ?_
        exact z_iret C hr (by decide) (by decide) (by cases hm; rfl) dX4_about_120
      have hm := qf_i hm c22
      rcases Classical.em (p1 = 6) with c23 | c23
      · have hm := qt_i hm c23
        refine z_tableIn (tgt := 121) C dX4_about_35 h1 (by omega) (by omega) (by rw [c23]; rfl) (by decide) ?_
        refine z_aload_n C dX4_about_121 0 rfl ?_
        refine z_iconst (x := 1) C dX4_about_122 rfl ?_
        obtain ⟨a24, h25, hm⟩ := qb_i hm
        refine iv_X4_207 C (met_X4_badBills l g hl hA n9 a11 1 _ h25) rfl ⟨by decide, by decide⟩ ⟨by decide, by decide⟩ (Nat.le_of_ble_eq_true rfl) dX4_about_123 ?_
        exact z_iret C hr (by decide) (by decide) (by cases hm; rfl) dX4_about_126
      have hm := qf_i hm c23
      refine z_tableOut (tgt := 127) C dX4_about_35 h1 (by omega) (by decide) ?_
      refine z_aload_n C dX4_about_127 0 rfl ?_
      refine z_iconst (x := 0) C dX4_about_128 rfl ?_
      obtain ⟨a26, h27, hm⟩ := qb_i hm
      refine iv_X4_207 C (met_X4_badBills l g hl hA n9 a11 0 _ h27) rfl ⟨by decide, by decide⟩ ⟨by decide, by decide⟩ (Nat.le_of_ble_eq_true rfl) dX4_about_129 ?_
      exact z_iret C hr (by decide) (by decide) (by cases hm; rfl) dX4_about_132
    · have hm := qf_i hm c10
      refine z_iconst (x := 0) C dX4_about_24 rfl ?_
      exact z_iret C hr (by decide) (by decide) (by cases hm; rfl) dX4_about_25
  clear e28
  refine z_if_eq (tgt := 17) C dX4_about_10 (by decide) h4 (fun c29 => ?_) (fun c29 => ?_)
  · have hm := qt_i hm c29
    refine z_iconst (x := 1) C dX4_about_17 rfl ?_
    exact hj6 1 hm
  · have hm := qf_i hm c29
    refine z_iconst (x := 0) C dX4_about_13 rfl ?_
    refine z_goto (tgt := 18) C dX4_about_14 (by decide) ?_
    exact hj6 0 hm

set_option maxHeartbeats 4000000 in
set_option maxRecDepth 100000 in
theorem met_X4_isAxle (l : Launch) (g : qG) (hl : l.stackTraces = false) (hA : qAd g) (n9 : Nat) (S : qS) (p1 : Int) (r : Int) (hm : MX4_isAxle n9 S p1 = some r) : qM l g yX4_isAxle (.code yX4_isAxle cX4_isAxle 2 (some .boolean)) rmX4_isAxle qkI [.ref (qad g 110), .int (qI p1)] S (.inr r) S := by
  rw [MX4_isAxle] at hm
  refine qM_of (L := [(0, .ref (qad g 110)), (1, .int (qI p1))]) (by decide +kernel) rfl (Nat.le_of_ble_eq_true rfl) hl hA ?_
  intro p e s m below meth c C hr hT
  have C : qC g p l s m ([.ref (qad g 110), .int (qI p1)] : List Value).toArray meth c RX4 cX4_isAxle 2 := C
  refine z_iload_n C dX4_isAxle_0 1 rfl ?_
  obtain ⟨h1, hm⟩ := qg_i hm
  refine z_i2l C dX4_isAxle_1 h1 ?_
  refine z_lconst (x := 0) C dX4_isAxle_2 (by decide +kernel) ?_
  refine z_aload_n C dX4_isAxle_3 0 rfl ?_
  refine gf_X4_28 C rfl dX4_isAxle_4 ?_
  refine z_iconst (x := 0) C dX4_isAxle_7 rfl ?_
  obtain ⟨h2, hm⟩ := qg_i hm
  refine z_iald (N := 95) C rfl h2 (by decide) dX4_isAxle_8 ?_
  refine z_iconst (x := 1) C dX4_isAxle_9 rfl ?_
  refine z_isub C dX4_isAxle_10 ?_
  obtain ⟨h3, hm⟩ := qg_i hm
  refine z_i2l C dX4_isAxle_11 h3 ?_
  obtain ⟨a4, h5, hm⟩ := qb_i hm
  refine iv_X4_118 C (met_X4_in l g hl hA n9 S p1 0 ((S 117 (0 : Int).toNat) - 1) _ h5) ⟨by decide, by decide⟩ ⟨by decide, by decide⟩ (Nat.le_of_ble_eq_true rfl) dX4_isAxle_12 ?_
  obtain ⟨h6, hm⟩ := qg_i hm
  exact z_zret C hr h6 (by decide) (by decide) (by cases hm; rfl) dX4_isAxle_15

set_option maxHeartbeats 4000000 in
set_option maxRecDepth 100000 in
theorem met_X4_axle (l : Launch) (g : qG) (hl : l.stackTraces = false) (hA : qAd g) (n9 : Nat) (S : qS) (p1 : Int) (p2 : Int) (r : Int × qS) (hm : MX4_axle n9 S p1 p2 = some r) : qM l g yX4_axle (.code yX4_axle cX4_axle 3 (some .int)) rmX4_axle qkI [.ref (qad g 110), .int (qI p1), .int (qI p2)] S (.inr r.1) r.2 := by
  rw [MX4_axle] at hm
  refine qM_of (L := [(0, .ref (qad g 110)), (1, .int (qI p1)), (2, .int (qI p2))]) (by decide +kernel) rfl (Nat.le_of_ble_eq_true rfl) hl hA ?_
  intro p e s m below meth c C hr hT
  have C : qC g p l s m ([.ref (qad g 110), .int (qI p1), .int (qI p2)] : List Value).toArray meth c RX4 cX4_axle 3 := C
  refine z_aload_n C dX4_axle_0 0 rfl ?_
  refine z_aload_n C dX4_axle_1 0 rfl ?_
  refine z_iload_n C dX4_axle_2 1 rfl ?_
  obtain ⟨a1, h2, hm⟩ := qb_i hm
  refine iv_X4_211 C (met_X4_isAxle l g hl hA n9 S p1 _ h2) rfl ⟨by decide, by decide⟩ ⟨by decide, by decide⟩ (Nat.le_of_ble_eq_true rfl) dX4_axle_3 ?_
  obtain ⟨h3, hm⟩ := qg_i hm
  obtain ⟨j5, e22, hm⟩ := ql_i hm
  have hj5 : ∀ (v4 : Int), j5 v4 = some r → qZ g p l e rmX4_axle s m ([.ref (qad g 110), .int (qI p1), .int (qI p2)] : List Value).toArray below meth c (qQ g below qkI (.inr r.1) r.2 ([.ref (qad g 110), .int (qI p1), .int (qI p2)] : List Value).toArray s rmX4_axle) 3 S [(0, .ref (qad g 110)), (1, .int (qI p1)), (2, .int (qI p2))] 30 [.int (qI v4), .ref (qad g 110)] 0 0 := by
    intro v4 hm
    rw [e22] at hm
    obtain ⟨a6, h7, hm⟩ := qb_i hm
    refine iv_X4_134 C (met_X4_refused l g hl hA n9 S v4 _ h7) rfl ⟨by decide, by decide⟩ ⟨by decide, by decide⟩ (Nat.le_of_ble_eq_true rfl) dX4_axle_30 ?_
    obtain ⟨h8, hm⟩ := qg_i hm
    refine z_if_eq (tgt := 38) C dX4_axle_33 (by decide) h8 (fun c9 => ?_) (fun c9 => ?_)
    · have hm := qt_i hm c9
      refine z_aload_n C dX4_axle_38 0 rfl ?_
      refine z_aload_n C dX4_axle_39 0 rfl ?_
      refine gf_X4_28 C rfl dX4_axle_40 ?_
      obtain ⟨a10, h11, hm⟩ := qb_i hm
      refine iv_X4_125 C (met_X4_lay l g hl hA n9 a6.2 117 _ h11) rfl ⟨by decide, by decide⟩ ⟨by decide, by decide⟩ (Nat.le_of_ble_eq_true rfl) dX4_axle_43 ?_
      refine z_iload_n C dX4_axle_46 2 rfl ?_
      obtain ⟨h12, hm⟩ := qg_i hm
      refine z_if_ne (tgt := 62) C dX4_axle_47 (by decide) h12 (fun c13 => ?_) (fun c13 => ?_)
      · have hm := qt_i hm c13
        refine z_aload_n C dX4_axle_50 0 rfl ?_
        refine gf_X4_28 C rfl dX4_axle_51 ?_
        refine z_bipush (x := 35) C dX4_axle_54 (by decide +kernel) ?_
        refine z_iload_n C dX4_axle_56 1 rfl ?_
        refine z_iadd C dX4_axle_57 ?_
        obtain ⟨h14, hm⟩ := qg_i hm
        refine z_iald (N := 95) C rfl h14 (by decide) dX4_axle_58 ?_
        refine z_goto (tgt := 97) C dX4_axle_59 (by decide) ?_
        exact z_iret C hr (by decide) (by decide) (by cases hm; rfl) dX4_axle_97
      · have hm := qf_i hm c13
        refine z_iload_n C dX4_axle_62 2 rfl ?_
        refine z_iconst (x := 1) C dX4_axle_63 rfl ?_
        refine z_icmp_ne (tgt := 79) C dX4_axle_64 (by decide) ⟨h12, (by decide)⟩ (fun c15 => ?_) (fun c15 => ?_)
        · have hm := qt_i hm c15
          refine z_aload_n C dX4_axle_67 0 rfl ?_
          refine gf_X4_28 C rfl dX4_axle_68 ?_
          refine z_bipush (x := 65) C dX4_axle_71 (by decide +kernel) ?_
          refine z_iload_n C dX4_axle_73 1 rfl ?_
          refine z_iadd C dX4_axle_74 ?_
          obtain ⟨h16, hm⟩ := qg_i hm
          refine z_iald (N := 95) C rfl h16 (by decide) dX4_axle_75 ?_
          refine z_goto (tgt := 97) C dX4_axle_76 (by decide) ?_
          exact z_iret C hr (by decide) (by decide) (by cases hm; rfl) dX4_axle_97
        · have hm := qf_i hm c15
          refine z_iload_n C dX4_axle_79 2 rfl ?_
          refine z_iconst (x := 2) C dX4_axle_80 rfl ?_
          refine z_icmp_ne (tgt := 92) C dX4_axle_81 (by decide) ⟨h12, (by decide)⟩ (fun c17 => ?_) (fun c17 => ?_)
          · have hm := qt_i hm c17
            refine z_aload_n C dX4_axle_84 0 rfl ?_
            refine z_iload_n C dX4_axle_85 1 rfl ?_
            obtain ⟨a18, h19, hm⟩ := qb_i hm
            refine iv_X4_200 C (met_X4_trainOf l g hl hA n9 a10 p1 _ h19) rfl ⟨by decide, by decide⟩ ⟨by decide, by decide⟩ (Nat.le_of_ble_eq_true rfl) dX4_axle_86 ?_
            refine z_goto (tgt := 97) C dX4_axle_89 (by decide) ?_
            exact z_iret C hr (by decide) (by decide) (by cases hm; rfl) dX4_axle_97
          · have hm := qf_i hm c17
            refine z_aload_n C dX4_axle_92 0 rfl ?_
            refine z_iload_n C dX4_axle_93 1 rfl ?_
            obtain ⟨a20, h21, hm⟩ := qb_i hm
            refine iv_X4_216 C (met_X4_carOf l g hl hA n9 a10 p1 _ h21) rfl ⟨by decide, by decide⟩ ⟨by decide, by decide⟩ (Nat.le_of_ble_eq_true rfl) dX4_axle_94 ?_
            exact z_iret C hr (by decide) (by decide) (by cases hm; rfl) dX4_axle_97
    · have hm := qf_i hm c9
      refine z_iconst (x := 0) C dX4_axle_36 rfl ?_
      exact z_iret C hr (by decide) (by decide) (by cases hm; rfl) dX4_axle_37
  clear e22
  refine z_if_ne (tgt := 13) C dX4_axle_6 (by decide) h3 (fun c23 => ?_) (fun c23 => ?_)
  · have hm := qt_i hm c23
    refine z_iconst (x := 1) C dX4_axle_9 rfl ?_
    refine z_goto (tgt := 30) C dX4_axle_10 (by decide) ?_
    exact hj5 1 hm
  · have hm := qf_i hm c23
    refine z_iload_n C dX4_axle_13 2 rfl ?_
    obtain ⟨h24, hm⟩ := qg_i hm
    refine z_i2l C dX4_axle_14 h24 ?_
    refine z_lconst (x := 0) C dX4_axle_15 (by decide +kernel) ?_
    refine z_ldc2 (x := 3) C dX4_axle_16 qct_X4_214 (by decide +kernel) ?_
    obtain ⟨a25, h26, hm⟩ := qb_i hm
    refine iv_X4_118 C (met_X4_in l g hl hA n9 S p2 0 3 _ h26) ⟨by decide, by decide⟩ ⟨by decide, by decide⟩ (Nat.le_of_ble_eq_true rfl) dX4_axle_19 ?_
    obtain ⟨h27, hm⟩ := qg_i hm
    refine z_if_eq (tgt := 29) C dX4_axle_22 (by decide) h27 (fun c28 => ?_) (fun c28 => ?_)
    · have hm := qt_i hm c28
      refine z_iconst (x := 2) C dX4_axle_29 rfl ?_
      exact hj5 2 hm
    · have hm := qf_i hm c28
      refine z_iconst (x := 0) C dX4_axle_25 rfl ?_
      refine z_goto (tgt := 30) C dX4_axle_26 (by decide) ?_
      exact hj5 0 hm

set_option maxHeartbeats 4000000 in
set_option maxRecDepth 100000 in
theorem met_X4_speed (l : Launch) (g : qG) (hl : l.stackTraces = false) (hA : qAd g) (n9 : Nat) (S : qS) (p1 : Int) (r : Int) (hm : MX4_speed n9 S p1 = some r) : qM l g yX4_speed (.code yX4_speed cX4_speed 2 (some .int)) rmX4_speed qkI [.ref (qad g 110), .int (qI p1)] S (.inr r) S := by
  rw [MX4_speed] at hm
  refine qM_of (L := [(0, .ref (qad g 110)), (1, .int (qI p1))]) (by decide +kernel) rfl (Nat.le_of_ble_eq_true rfl) hl hA ?_
  intro p e s m below meth c C hr hT
  have C : qC g p l s m ([.ref (qad g 110), .int (qI p1)] : List Value).toArray meth c RX4 cX4_speed 2 := C
  refine z_sipush (x := 600) C dX4_speed_0 (by decide +kernel) ?_
  refine z_aload_n C dX4_speed_3 0 rfl ?_
  refine gf_X4_28 C rfl dX4_speed_4 ?_
  refine z_bipush (x := 35) C dX4_speed_7 (by decide +kernel) ?_
  refine z_aload_n C dX4_speed_9 0 rfl ?_
  refine gf_X4_56 C rfl dX4_speed_10 ?_
  refine z_iload_n C dX4_speed_13 1 rfl ?_
  obtain ⟨h1, hm⟩ := qg_i hm
  refine z_iald (N := 15) C rfl h1 (by decide) dX4_speed_14 ?_
  refine z_iadd C dX4_speed_15 ?_
  refine z_iconst (x := 1) C dX4_speed_16 rfl ?_
  refine z_iadd C dX4_speed_17 ?_
  obtain ⟨h2, hm⟩ := qg_i hm
  refine z_iald (N := 95) C rfl h2 (by decide) dX4_speed_18 ?_
  obtain ⟨h3, hm⟩ := qg_i hm
  refine z_idiv C dX4_speed_19 h3 ?_
  exact z_iret C hr (by decide) (by decide) (by cases hm; rfl) dX4_speed_20

set_option maxHeartbeats 4000000 in
set_option maxRecDepth 100000 in
theorem met_X4_between (l : Launch) (g : qG) (hl : l.stackTraces = false) (hA : qAd g) (n9 : Nat) (S : qS) (p1 : Int) (r : Int) (hm : MX4_between n9 S p1 = some r) : qM l g yX4_between (.code yX4_between cX4_between 3 (some .int)) rmX4_between qkI [.ref (qad g 110), .int (qI p1)] S (.inr r) S := by
  rw [MX4_between] at hm
  refine qM_of (L := [(0, .ref (qad g 110)), (1, .int (qI p1))]) (by decide +kernel) rfl (Nat.le_of_ble_eq_true rfl) hl hA ?_
  intro p e s m below meth c C hr hT
  have C : qC g p l s m ([.ref (qad g 110), .int (qI p1)] : List Value).toArray meth c RX4 cX4_between 3 := C
  refine z_iload_n C dX4_between_0 1 rfl ?_
  obtain ⟨h1, hm⟩ := qg_i hm
  obtain ⟨j3, e10, hm⟩ := ql_i hm
  have hj3 : ∀ (v2 : Int), j3 v2 = some r → qZ g p l e rmX4_between s m ([.ref (qad g 110), .int (qI p1)] : List Value).toArray below meth c (qQ g below qkI (.inr r) S ([.ref (qad g 110), .int (qI p1)] : List Value).toArray s rmX4_between) 3 S [(0, .ref (qad g 110)), (1, .int (qI p1))] 34 [.int (qI v2)] 0 0 := by
    intro v2 hm
    rw [e10] at hm
    refine z_istore_n (L' := [(2, .int (qI v2)), (0, .ref (qad g 110)), (1, .int (qI p1))]) C dX4_between_34 (by decide) rfl ?_
    refine z_iload_n C dX4_between_35 0 rfl ?_
    obtain ⟨h4, hm⟩ := qg_i hm
    refine z_if_eq (tgt := 43) C dX4_between_36 (by decide) h4 (fun c5 => ?_) (fun c5 => ?_)
    · have hm := qt_i hm c5
      refine z_aload_n C dX4_between_43 1 rfl ?_
      refine gf_X4_47 C rfl dX4_between_44 ?_
      refine z_aload_n C dX4_between_47 1 rfl ?_
      refine gf_X4_56 C rfl dX4_between_48 ?_
      refine z_iload_n C dX4_between_51 2 rfl ?_
      obtain ⟨h6, hm⟩ := qg_i hm
      refine z_iald (N := 15) C rfl h6 (by decide) dX4_between_52 ?_
      obtain ⟨h7, hm⟩ := qg_i hm
      refine z_iald (N := 31) C rfl h7 (by decide) dX4_between_53 ?_
      refine z_aload_n C dX4_between_54 1 rfl ?_
      refine gf_X4_47 C rfl dX4_between_55 ?_
      refine z_aload_n C dX4_between_58 1 rfl ?_
      refine gf_X4_56 C rfl dX4_between_59 ?_
      refine z_iload_n C dX4_between_62 2 rfl ?_
      refine z_iconst (x := 1) C dX4_between_63 rfl ?_
      refine z_isub C dX4_between_64 ?_
      obtain ⟨h8, hm⟩ := qg_i hm
      refine z_iald (N := 15) C rfl h8 (by decide) dX4_between_65 ?_
      refine z_iconst (x := 1) C dX4_between_66 rfl ?_
      refine z_iadd C dX4_between_67 ?_
      obtain ⟨h9, hm⟩ := qg_i hm
      refine z_iald (N := 31) C rfl h9 (by decide) dX4_between_68 ?_
      refine z_isub C dX4_between_69 ?_
      exact z_iret C hr (by decide) (by decide) (by cases hm; rfl) dX4_between_70
    · have hm := qf_i hm c5
      refine z_iconst (x := (-1)) C dX4_between_39 rfl ?_
      refine z_goto (tgt := 70) C dX4_between_40 (by decide) ?_
      exact z_iret C hr (by decide) (by decide) (by cases hm; rfl) dX4_between_70
  clear e10
  obtain ⟨j11, e12, hm⟩ := ql_i hm
  have hj11 : j11 = some r → qZ g p l e rmX4_between s m ([.ref (qad g 110), .int (qI p1)] : List Value).toArray below meth c (qQ g below qkI (.inr r) S ([.ref (qad g 110), .int (qI p1)] : List Value).toArray s rmX4_between) 3 S [(0, .ref (qad g 110)), (1, .int (qI p1))] 29 [] 0 0 := by
    intro  hm
    rw [e12] at hm
    refine z_iconst (x := 1) C dX4_between_29 rfl ?_
    refine z_goto (tgt := 34) C dX4_between_30 (by decide) ?_
    exact hj3 1 hm
  clear e12
  refine z_if_eq (tgt := 29) C dX4_between_1 (by decide) h1 (fun c13 => ?_) (fun c13 => ?_)
  · have hm := qt_i hm c13
    exact hj11  hm
  · have hm := qf_i hm c13
    refine z_aload_n C dX4_between_4 0 rfl ?_
    refine z_aload_n C dX4_between_5 0 rfl ?_
    refine gf_X4_56 C rfl dX4_between_6 ?_
    refine z_iload_n C dX4_between_9 1 rfl ?_
    refine z_iconst (x := 1) C dX4_between_10 rfl ?_
    refine z_isub C dX4_between_11 ?_
    obtain ⟨h14, hm⟩ := qg_i hm
    refine z_iald (N := 15) C rfl h14 (by decide) dX4_between_12 ?_
    obtain ⟨a15, h16, hm⟩ := qb_i hm
    refine iv_X4_200 C (met_X4_trainOf l g hl hA n9 S (S 126 (p1 - 1).toNat) _ h16) rfl ⟨by decide, by decide⟩ ⟨by decide, by decide⟩ (Nat.le_of_ble_eq_true rfl) dX4_between_13 ?_
    refine z_aload_n C dX4_between_16 0 rfl ?_
    refine z_aload_n C dX4_between_17 0 rfl ?_
    refine gf_X4_56 C rfl dX4_between_18 ?_
    refine z_iload_n C dX4_between_21 1 rfl ?_
    obtain ⟨h17, hm⟩ := qg_i hm
    refine z_iald (N := 15) C rfl h17 (by decide) dX4_between_22 ?_
    obtain ⟨a18, h19, hm⟩ := qb_i hm
    refine iv_X4_200 C (met_X4_trainOf l g hl hA n9 S (S 126 p1.toNat) _ h19) rfl ⟨by decide, by decide⟩ ⟨by decide, by decide⟩ (Nat.le_of_ble_eq_true rfl) dX4_between_23 ?_
    obtain ⟨h20, hm⟩ := qg_i hm
    obtain ⟨h21, hm⟩ := qg_i hm
    refine z_icmp_eq (tgt := 33) C dX4_between_26 (by decide) ⟨h20, h21⟩ (fun c22 => ?_) (fun c22 => ?_)
    · have hm := qt_i hm c22
      refine z_iconst (x := 0) C dX4_between_33 rfl ?_
      exact hj3 0 hm
    · have hm := qf_i hm c22
      exact hj11  hm

set_option maxHeartbeats 4000000 in
set_option maxRecDepth 100000 in
theorem met_X4_car (l : Launch) (g : qG) (hl : l.stackTraces = false) (hA : qAd g) (n9 : Nat) (S : qS) (p1 : Int) (p2 : Int) (r : Int × qS) (hm : MX4_car n9 S p1 p2 = some r) : qM l g yX4_car (.code yX4_car cX4_car 3 (some .int)) rmX4_car qkI [.ref (qad g 110), .int (qI p1), .int (qI p2)] S (.inr r.1) r.2 := by
  rw [MX4_car] at hm
  refine qM_of (L := [(0, .ref (qad g 110)), (1, .int (qI p1)), (2, .int (qI p2))]) (by decide +kernel) rfl (Nat.le_of_ble_eq_true rfl) hl hA ?_
  intro p e s m below meth c C hr hT
  have C : qC g p l s m ([.ref (qad g 110), .int (qI p1), .int (qI p2)] : List Value).toArray meth c RX4 cX4_car 3 := C
  refine z_aload_n C dX4_car_0 0 rfl ?_
  refine z_aload_n C dX4_car_1 0 rfl ?_
  refine gf_X4_28 C rfl dX4_car_2 ?_
  obtain ⟨a1, h2, hm⟩ := qb_i hm
  refine iv_X4_125 C (met_X4_lay l g hl hA n9 S 117 _ h2) rfl ⟨by decide, by decide⟩ ⟨by decide, by decide⟩ (Nat.le_of_ble_eq_true rfl) dX4_car_5 ?_
  refine z_aload_n C dX4_car_8 0 rfl ?_
  refine z_iload_n C dX4_car_9 1 rfl ?_
  obtain ⟨h3, hm⟩ := qg_i hm
  refine z_i2l C dX4_car_10 h3 ?_
  refine z_lconst (x := 0) C dX4_car_11 (by decide +kernel) ?_
  refine z_aload_n C dX4_car_12 0 rfl ?_
  refine gf_X4_99 C rfl dX4_car_13 ?_
  refine z_iconst (x := 1) C dX4_car_16 rfl ?_
  refine z_isub C dX4_car_17 ?_
  obtain ⟨h4, hm⟩ := qg_i hm
  refine z_i2l C dX4_car_18 h4 ?_
  obtain ⟨a5, h6, hm⟩ := qb_i hm
  refine iv_X4_118 C (met_X4_in l g hl hA n9 a1 p1 0 ((a1 110 24) - 1) _ h6) ⟨by decide, by decide⟩ ⟨by decide, by decide⟩ (Nat.le_of_ble_eq_true rfl) dX4_car_19 ?_
  obtain ⟨h7, hm⟩ := qg_i hm
  obtain ⟨j9, e33, hm⟩ := ql_i hm
  have hj9 : ∀ (v8 : Int), j9 v8 = some r → qZ g p l e rmX4_car s m ([.ref (qad g 110), .int (qI p1), .int (qI p2)] : List Value).toArray below meth c (qQ g below qkI (.inr r.1) r.2 ([.ref (qad g 110), .int (qI p1), .int (qI p2)] : List Value).toArray s rmX4_car) 3 a1 [(0, .ref (qad g 110)), (1, .int (qI p1)), (2, .int (qI p2))] 46 [.int (qI v8), .ref (qad g 110)] 0 0 := by
    intro v8 hm
    rw [e33] at hm
    obtain ⟨a10, h11, hm⟩ := qb_i hm
    refine iv_X4_134 C (met_X4_refused l g hl hA n9 a1 v8 _ h11) rfl ⟨by decide, by decide⟩ ⟨by decide, by decide⟩ (Nat.le_of_ble_eq_true rfl) dX4_car_46 ?_
    obtain ⟨h12, hm⟩ := qg_i hm
    refine z_if_eq (tgt := 54) C dX4_car_49 (by decide) h12 (fun c13 => ?_) (fun c13 => ?_)
    · have hm := qt_i hm c13
      refine z_iload_n C dX4_car_54 2 rfl ?_
      obtain ⟨h14, hm⟩ := qg_i hm
      rcases Classical.em (p2 = 0) with c15 | c15
      · have hm := qt_i hm c15
        refine z_tableIn (tgt := 88) C dX4_car_55 h14 (by omega) (by omega) (by rw [c15]; rfl) (by decide) ?_
        refine z_aload_n C dX4_car_88 0 rfl ?_
        refine gf_X4_56 C rfl dX4_car_89 ?_
        refine z_iload_n C dX4_car_92 1 rfl ?_
        obtain ⟨h16, hm⟩ := qg_i hm
        refine z_iald (N := 15) C rfl h16 (by decide) dX4_car_93 ?_
        exact z_iret C hr (by decide) (by decide) (by cases hm; rfl) dX4_car_94
      have hm := qf_i hm c15
      rcases Classical.em (p2 = 1) with c17 | c17
      · have hm := qt_i hm c17
        refine z_tableIn (tgt := 95) C dX4_car_55 h14 (by omega) (by omega) (by rw [c17]; rfl) (by decide) ?_
        refine z_aload_n C dX4_car_95 0 rfl ?_
        refine gf_X4_28 C rfl dX4_car_96 ?_
        refine z_aload_n C dX4_car_99 0 rfl ?_
        refine gf_X4_56 C rfl dX4_car_100 ?_
        refine z_iload_n C dX4_car_103 1 rfl ?_
        obtain ⟨h18, hm⟩ := qg_i hm
        refine z_iald (N := 15) C rfl h18 (by decide) dX4_car_104 ?_
        obtain ⟨a19, h20, hm⟩ := qb_i hm
        refine iv_X4_115 C (met_X4_carWeight l g hl hA n9 a10.2 117 (a10.2 126 p1.toNat) _ h20) ⟨by decide, by decide⟩ ⟨by decide, by decide⟩ (Nat.le_of_ble_eq_true rfl) dX4_car_105 ?_
        exact z_iret C hr (by decide) (by decide) (by cases hm; rfl) dX4_car_108
      have hm := qf_i hm c17
      rcases Classical.em (p2 = 2) with c21 | c21
      · have hm := qt_i hm c21
        refine z_tableIn (tgt := 109) C dX4_car_55 h14 (by omega) (by omega) (by rw [c21]; rfl) (by decide) ?_
        refine z_aload_n C dX4_car_109 0 rfl ?_
        refine gf_X4_28 C rfl dX4_car_110 ?_
        refine z_bipush (x := 35) C dX4_car_113 (by decide +kernel) ?_
        refine z_aload_n C dX4_car_115 0 rfl ?_
        refine gf_X4_56 C rfl dX4_car_116 ?_
        refine z_iload_n C dX4_car_119 1 rfl ?_
        obtain ⟨h22, hm⟩ := qg_i hm
        refine z_iald (N := 15) C rfl h22 (by decide) dX4_car_120 ?_
        refine z_iadd C dX4_car_121 ?_
        refine z_iconst (x := 1) C dX4_car_122 rfl ?_
        refine z_iadd C dX4_car_123 ?_
        obtain ⟨h23, hm⟩ := qg_i hm
        refine z_iald (N := 95) C rfl h23 (by decide) dX4_car_124 ?_
        exact z_iret C hr (by decide) (by decide) (by cases hm; rfl) dX4_car_125
      have hm := qf_i hm c21
      rcases Classical.em (p2 = 3) with c24 | c24
      · have hm := qt_i hm c24
        refine z_tableIn (tgt := 126) C dX4_car_55 h14 (by omega) (by omega) (by rw [c24]; rfl) (by decide) ?_
        refine z_aload_n C dX4_car_126 0 rfl ?_
        refine z_iload_n C dX4_car_127 1 rfl ?_
        obtain ⟨a25, h26, hm⟩ := qb_i hm
        refine iv_X4_221 C (met_X4_speed l g hl hA n9 a10.2 p1 _ h26) rfl ⟨by decide, by decide⟩ ⟨by decide, by decide⟩ (Nat.le_of_ble_eq_true rfl) dX4_car_128 ?_
        exact z_iret C hr (by decide) (by decide) (by cases hm; rfl) dX4_car_131
      have hm := qf_i hm c24
      rcases Classical.em (p2 = 4) with c27 | c27
      · have hm := qt_i hm c27
        refine z_tableIn (tgt := 132) C dX4_car_55 h14 (by omega) (by omega) (by rw [c27]; rfl) (by decide) ?_
        refine z_aload_n C dX4_car_132 0 rfl ?_
        refine z_aload_n C dX4_car_133 0 rfl ?_
        refine gf_X4_56 C rfl dX4_car_134 ?_
        refine z_iload_n C dX4_car_137 1 rfl ?_
        obtain ⟨h28, hm⟩ := qg_i hm
        refine z_iald (N := 15) C rfl h28 (by decide) dX4_car_138 ?_
        obtain ⟨a29, h30, hm⟩ := qb_i hm
        refine iv_X4_200 C (met_X4_trainOf l g hl hA n9 a10.2 (a10.2 126 p1.toNat) _ h30) rfl ⟨by decide, by decide⟩ ⟨by decide, by decide⟩ (Nat.le_of_ble_eq_true rfl) dX4_car_139 ?_
        exact z_iret C hr (by decide) (by decide) (by cases hm; rfl) dX4_car_142
      have hm := qf_i hm c27
      refine z_tableOut (tgt := 143) C dX4_car_55 h14 (by omega) (by decide) ?_
      refine z_aload_n C dX4_car_143 0 rfl ?_
      refine z_iload_n C dX4_car_144 1 rfl ?_
      obtain ⟨a31, h32, hm⟩ := qb_i hm
      refine iv_X4_224 C (met_X4_between l g hl hA n9 a10.2 p1 _ h32) rfl ⟨by decide, by decide⟩ ⟨by decide, by decide⟩ (Nat.le_of_ble_eq_true rfl) dX4_car_145 ?_
      exact z_iret C hr (by decide) (by decide) (by cases hm; rfl) dX4_car_148
    · have hm := qf_i hm c13
      refine z_iconst (x := 0) C dX4_car_52 rfl ?_
      exact z_iret C hr (by decide) (by decide) (by cases hm; rfl) dX4_car_53
  clear e33
  refine z_if_ne (tgt := 29) C dX4_car_22 (by decide) h7 (fun c34 => ?_) (fun c34 => ?_)
  · have hm := qt_i hm c34
    refine z_iconst (x := 1) C dX4_car_25 rfl ?_
    refine z_goto (tgt := 46) C dX4_car_26 (by decide) ?_
    exact hj9 1 hm
  · have hm := qf_i hm c34
    refine z_iload_n C dX4_car_29 2 rfl ?_
    obtain ⟨h35, hm⟩ := qg_i hm
    refine z_i2l C dX4_car_30 h35 ?_
    refine z_lconst (x := 0) C dX4_car_31 (by decide +kernel) ?_
    refine z_ldc2 (x := 5) C dX4_car_32 qct_X4_219 (by decide +kernel) ?_
    obtain ⟨a36, h37, hm⟩ := qb_i hm
    refine iv_X4_118 C (met_X4_in l g hl hA n9 a1 p2 0 5 _ h37) ⟨by decide, by decide⟩ ⟨by decide, by decide⟩ (Nat.le_of_ble_eq_true rfl) dX4_car_35 ?_
    obtain ⟨h38, hm⟩ := qg_i hm
    refine z_if_eq (tgt := 45) C dX4_car_38 (by decide) h38 (fun c39 => ?_) (fun c39 => ?_)
    · have hm := qt_i hm c39
      refine z_iconst (x := 2) C dX4_car_45 rfl ?_
      exact hj9 2 hm
    · have hm := qf_i hm c39
      refine z_iconst (x := 0) C dX4_car_41 rfl ?_
      refine z_goto (tgt := 46) C dX4_car_42 (by decide) ?_
      exact hj9 0 hm

set_option maxHeartbeats 4000000 in
set_option maxRecDepth 100000 in
theorem met_X4_carsOf_l4 {g : qG} {p : Program} {l : Launch} {e : Env} {s : State} {m : MethodId} {args : Array Value} {below : List Frame} {meth : Method} {c : Code} (C : qC g p l s m args meth c RX4 cX4_carsOf 4) (hr : meth.sig.returnType = (some .int)) (hT : ∀ x ∈ c.exceptionTable.toList, False) (n9 : Nat) (S : qS) (p1 : Int) {r : Int}  : ∀ (f : Nat) (x1 : Int) (x2 : Int), MX4_carsOf_l4 n9 S p1 f x1 x2 = some r → qZ g p l e rmX4_carsOf s m args below meth c (qQ g below qkI (.inr r) S args s rmX4_carsOf) 4 S [(0, .ref (qad g 110)), (1, .int (qI p1)), (2, .int (qI x1)), (3, .int (qI x2))] 4 [] 0 0 := by
  intro f
  induction f with
  | zero => intro x1 x2 hm; rw [MX4_carsOf_l4] at hm; cases hm
  | succ f ih =>
    intro x1 x2 hm
    rw [MX4_carsOf_l4] at hm
    have hl := C.2.2.2.2.2.2.2.2
    have hA := C.2.2.2.2.2.2.1
    refine z_iload_n C dX4_carsOf_4 3 rfl ?_
    refine z_aload_n C dX4_carsOf_5 0 rfl ?_
    refine gf_X4_99 C rfl dX4_carsOf_6 ?_
    obtain ⟨h3, hm⟩ := qg_i hm
    obtain ⟨h4, hm⟩ := qg_i hm
    refine z_icmp_ge (tgt := 40) C dX4_carsOf_9 (by decide) ⟨h3, h4⟩ (fun c5 => ?_) (fun c5 => ?_)
    · have hm := qt_i hm c5
      refine z_iload_n C dX4_carsOf_40 2 rfl ?_
      exact z_iret C hr (by decide) (by decide) (by cases hm; rfl) dX4_carsOf_41
    · have hm := qf_i hm c5
      refine z_iload_n C dX4_carsOf_12 2 rfl ?_
      refine z_aload_n C dX4_carsOf_13 0 rfl ?_
      refine z_aload_n C dX4_carsOf_14 0 rfl ?_
      refine gf_X4_56 C rfl dX4_carsOf_15 ?_
      refine z_iload_n C dX4_carsOf_18 3 rfl ?_
      obtain ⟨h6, hm⟩ := qg_i hm
      refine z_iald (N := 15) C rfl h6 (by decide) dX4_carsOf_19 ?_
      obtain ⟨a7, h8, hm⟩ := qb_i hm
      refine iv_X4_200 C (met_X4_trainOf l g hl hA n9 S (S 126 x2.toNat) _ h8) rfl ⟨by decide, by decide⟩ ⟨by decide, by decide⟩ (Nat.le_of_ble_eq_true rfl) dX4_carsOf_20 ?_
      refine z_iload_n C dX4_carsOf_23 1 rfl ?_
      obtain ⟨h9, hm⟩ := qg_i hm
      obtain ⟨h10, hm⟩ := qg_i hm
      obtain ⟨j12, e15, hm⟩ := ql_i hm
      have hj12 : ∀ (v11 : Int), j12 v11 = some r → qZ g p l e rmX4_carsOf s m args below meth c (qQ g below qkI (.inr r) S args s rmX4_carsOf) 4 S [(0, .ref (qad g 110)), (1, .int (qI p1)), (3, .int (qI x2))] 32 [.int (qI v11), .int (qI x1)] 0 0 := by
        intro v11 hm
        rw [e15] at hm
        refine z_iadd C dX4_carsOf_32 ?_
        obtain ⟨x13, e14, hm⟩ := ql_i hm
        refine z_topi e14 ?_
        refine z_istore_n (L' := [(2, .int (qI x13)), (0, .ref (qad g 110)), (1, .int (qI p1)), (3, .int (qI x2))]) C dX4_carsOf_33 (by decide) rfl ?_
        refine z_iinc (L' := [(3, .int (qI (x2 + 1))), (2, .int (qI x13)), (0, .ref (qad g 110)), (1, .int (qI p1))]) C dX4_carsOf_34 3 rfl (by decide) rfl ?_
        refine z_goto (tgt := 4) C dX4_carsOf_37 (by decide) ?_
        refine z_sub (L' := [(0, .ref (qad g 110)), (1, .int (qI p1)), (2, .int (qI x13)), (3, .int (qI (x2 + 1)))]) [2, 3, 1, 0] rfl ?_
        exact ih x13 (x2 + 1) hm
      clear e15
      refine z_icmp_ne (tgt := 31) C dX4_carsOf_24 (by decide) ⟨h9, h10⟩ (fun c16 => ?_) (fun c16 => ?_)
      · have hm := qt_i hm c16
        refine z_iconst (x := 1) C dX4_carsOf_27 rfl ?_
        refine z_goto (tgt := 32) C dX4_carsOf_28 (by decide) ?_
        refine z_sub (L' := [(0, .ref (qad g 110)), (1, .int (qI p1)), (3, .int (qI x2))]) [0, 1, 3] rfl ?_
        exact hj12 1 hm
      · have hm := qf_i hm c16
        refine z_iconst (x := 0) C dX4_carsOf_31 rfl ?_
        refine z_sub (L' := [(0, .ref (qad g 110)), (1, .int (qI p1)), (3, .int (qI x2))]) [0, 1, 3] rfl ?_
        exact hj12 0 hm

set_option maxHeartbeats 4000000 in
set_option maxRecDepth 100000 in
theorem met_X4_carsOf (l : Launch) (g : qG) (hl : l.stackTraces = false) (hA : qAd g) (n9 : Nat) (S : qS) (p1 : Int) (r : Int) (hm : MX4_carsOf n9 S p1 = some r) : qM l g yX4_carsOf (.code yX4_carsOf cX4_carsOf 4 (some .int)) rmX4_carsOf qkI [.ref (qad g 110), .int (qI p1)] S (.inr r) S := by
  rw [MX4_carsOf] at hm
  refine qM_of (L := [(0, .ref (qad g 110)), (1, .int (qI p1))]) (by decide +kernel) rfl (Nat.le_of_ble_eq_true rfl) hl hA ?_
  intro p e s m below meth c C hr hT
  have C : qC g p l s m ([.ref (qad g 110), .int (qI p1)] : List Value).toArray meth c RX4 cX4_carsOf 4 := C
  refine z_iconst (x := 0) C dX4_carsOf_0 rfl ?_
  refine z_istore_n (L' := [(2, .int (qI 0)), (0, .ref (qad g 110)), (1, .int (qI p1))]) C dX4_carsOf_1 (by decide) rfl ?_
  refine z_iconst (x := 0) C dX4_carsOf_2 rfl ?_
  refine z_istore_n (L' := [(3, .int (qI 0)), (2, .int (qI 0)), (0, .ref (qad g 110)), (1, .int (qI p1))]) C dX4_carsOf_3 (by decide) rfl ?_
  refine z_sub (L' := [(0, .ref (qad g 110)), (1, .int (qI p1)), (2, .int (qI 0)), (3, .int (qI 0))]) [2, 3, 1, 0] rfl ?_
  exact met_X4_carsOf_l4 C hr hT n9 S p1  n9 0 0 hm

set_option maxHeartbeats 4000000 in
set_option maxRecDepth 100000 in
theorem met_X4_heaviest_l4 {g : qG} {p : Program} {l : Launch} {e : Env} {s : State} {m : MethodId} {args : Array Value} {below : List Frame} {meth : Method} {c : Code} (C : qC g p l s m args meth c RX4 cX4_heaviest 5) (hr : meth.sig.returnType = (some .int)) (hT : ∀ x ∈ c.exceptionTable.toList, False) (n9 : Nat) (S : qS) (p1 : Int) {r : Int}  : ∀ (f : Nat) (x1 : Int) (x2 : Int), MX4_heaviest_l4 n9 S p1 f x1 x2 = some r → qZ g p l e rmX4_heaviest s m args below meth c (qQ g below qkI (.inr r) S args s rmX4_heaviest) 5 S [(0, .ref (qad g 110)), (1, .int (qI p1)), (2, .int (qI x1)), (3, .int (qI x2))] 4 [] 0 0 := by
  intro f
  induction f with
  | zero => intro x1 x2 hm; rw [MX4_heaviest_l4] at hm; cases hm
  | succ f ih =>
    intro x1 x2 hm
    rw [MX4_heaviest_l4] at hm
    have hl := C.2.2.2.2.2.2.2.2
    have hA := C.2.2.2.2.2.2.1
    refine z_iload_n C dX4_heaviest_4 3 rfl ?_
    refine z_aload_n C dX4_heaviest_5 0 rfl ?_
    refine gf_X4_99 C rfl dX4_heaviest_6 ?_
    obtain ⟨h3, hm⟩ := qg_i hm
    obtain ⟨h4, hm⟩ := qg_i hm
    refine z_icmp_ge (tgt := 60) C dX4_heaviest_9 (by decide) ⟨h3, h4⟩ (fun c5 => ?_) (fun c5 => ?_)
    · have hm := qt_i hm c5
      refine z_iload_n C dX4_heaviest_60 2 rfl ?_
      exact z_iret C hr (by decide) (by decide) (by cases hm; rfl) dX4_heaviest_61
    · have hm := qf_i hm c5
      refine z_aload_n C dX4_heaviest_12 0 rfl ?_
      refine gf_X4_28 C rfl dX4_heaviest_13 ?_
      refine z_aload_n C dX4_heaviest_16 0 rfl ?_
      refine gf_X4_56 C rfl dX4_heaviest_17 ?_
      refine z_iload_n C dX4_heaviest_20 3 rfl ?_
      obtain ⟨h6, hm⟩ := qg_i hm
      refine z_iald (N := 15) C rfl h6 (by decide) dX4_heaviest_21 ?_
      obtain ⟨a7, h8, hm⟩ := qb_i hm
      refine iv_X4_115 C (met_X4_carWeight l g hl hA n9 S 117 (S 126 x2.toNat) _ h8) ⟨by decide, by decide⟩ ⟨by decide, by decide⟩ (Nat.le_of_ble_eq_true rfl) dX4_heaviest_22 ?_
      refine z_istore (L' := [(4, .int (qI a7)), (0, .ref (qad g 110)), (1, .int (qI p1)), (2, .int (qI x1)), (3, .int (qI x2))]) C dX4_heaviest_25 (by decide) rfl ?_
      refine z_aload_n C dX4_heaviest_27 1 rfl ?_
      refine z_aload_n C dX4_heaviest_28 1 rfl ?_
      refine gf_X4_56 C rfl dX4_heaviest_29 ?_
      refine z_iload_n C dX4_heaviest_32 4 rfl ?_
      obtain ⟨h9, hm⟩ := qg_i hm
      refine z_iald (N := 15) C rfl h9 (by decide) dX4_heaviest_33 ?_
      obtain ⟨a10, h11, hm⟩ := qb_i hm
      refine iv_X4_200 C (met_X4_trainOf l g hl hA n9 S (S 126 x2.toNat) _ h11) rfl ⟨by decide, by decide⟩ ⟨by decide, by decide⟩ (Nat.le_of_ble_eq_true rfl) dX4_heaviest_34 ?_
      refine z_iload_n C dX4_heaviest_37 2 rfl ?_
      obtain ⟨h12, hm⟩ := qg_i hm
      obtain ⟨h13, hm⟩ := qg_i hm
      obtain ⟨j15, e16, hm⟩ := ql_i hm
      have hj15 : ∀ (v14 : Int), j15 v14 = some r → qZ g p l e rmX4_heaviest s m args below meth c (qQ g below qkI (.inr r) S args s rmX4_heaviest) 5 S [(0, .ref (qad g 110)), (1, .int (qI p1)), (3, .int (qI x2))] 53 [.int (qI v14)] 0 0 := by
        intro v14 hm
        rw [e16] at hm
        refine z_istore_n (L' := [(2, .int (qI v14)), (0, .ref (qad g 110)), (1, .int (qI p1)), (3, .int (qI x2))]) C dX4_heaviest_53 (by decide) rfl ?_
        refine z_iinc (L' := [(3, .int (qI (x2 + 1))), (2, .int (qI v14)), (0, .ref (qad g 110)), (1, .int (qI p1))]) C dX4_heaviest_54 3 rfl (by decide) rfl ?_
        refine z_goto (tgt := 4) C dX4_heaviest_57 (by decide) ?_
        refine z_sub (L' := [(0, .ref (qad g 110)), (1, .int (qI p1)), (2, .int (qI v14)), (3, .int (qI (x2 + 1)))]) [2, 3, 1, 0] rfl ?_
        exact ih v14 (x2 + 1) hm
      clear e16
      obtain ⟨j17, e18, hm⟩ := ql_i hm
      have hj17 : j17 = some r → qZ g p l e rmX4_heaviest s m args below meth c (qQ g below qkI (.inr r) S args s rmX4_heaviest) 5 S [(0, .ref (qad g 110)), (1, .int (qI p1)), (2, .int (qI x1)), (3, .int (qI x2))] 52 [] 0 0 := by
        intro  hm
        rw [e18] at hm
        refine z_iload_n C dX4_heaviest_52 2 rfl ?_
        refine z_sub (L' := [(0, .ref (qad g 110)), (1, .int (qI p1)), (3, .int (qI x2))]) [0, 1, 3] rfl ?_
        exact hj15 x1 hm
      clear e18
      refine z_icmp_ne (tgt := 52) C dX4_heaviest_38 (by decide) ⟨h12, h13⟩ (fun c19 => ?_) (fun c19 => ?_)
      · have hm := qt_i hm c19
        refine z_iload C dX4_heaviest_41 0 rfl ?_
        refine z_iload_n C dX4_heaviest_43 3 rfl ?_
        obtain ⟨h20, hm⟩ := qg_i hm
        obtain ⟨h21, hm⟩ := qg_i hm
        refine z_icmp_le (tgt := 52) C dX4_heaviest_44 (by decide) ⟨h20, h21⟩ (fun c22 => ?_) (fun c22 => ?_)
        · have hm := qt_i hm c22
          refine z_sub (L' := [(0, .ref (qad g 110)), (1, .int (qI p1)), (2, .int (qI x1)), (3, .int (qI x2))]) [1, 2, 3, 4] rfl ?_
          exact hj17  hm
        · have hm := qf_i hm c22
          refine z_iload C dX4_heaviest_47 0 rfl ?_
          refine z_goto (tgt := 53) C dX4_heaviest_49 (by decide) ?_
          refine z_sub (L' := [(0, .ref (qad g 110)), (1, .int (qI p1)), (3, .int (qI x2))]) [1, 2, 4] rfl ?_
          exact hj15 a7 hm
      · have hm := qf_i hm c19
        refine z_sub (L' := [(0, .ref (qad g 110)), (1, .int (qI p1)), (2, .int (qI x1)), (3, .int (qI x2))]) [1, 2, 3, 4] rfl ?_
        exact hj17  hm

set_option maxHeartbeats 4000000 in
set_option maxRecDepth 100000 in
theorem met_X4_heaviest (l : Launch) (g : qG) (hl : l.stackTraces = false) (hA : qAd g) (n9 : Nat) (S : qS) (p1 : Int) (r : Int) (hm : MX4_heaviest n9 S p1 = some r) : qM l g yX4_heaviest (.code yX4_heaviest cX4_heaviest 5 (some .int)) rmX4_heaviest qkI [.ref (qad g 110), .int (qI p1)] S (.inr r) S := by
  rw [MX4_heaviest] at hm
  refine qM_of (L := [(0, .ref (qad g 110)), (1, .int (qI p1))]) (by decide +kernel) rfl (Nat.le_of_ble_eq_true rfl) hl hA ?_
  intro p e s m below meth c C hr hT
  have C : qC g p l s m ([.ref (qad g 110), .int (qI p1)] : List Value).toArray meth c RX4 cX4_heaviest 5 := C
  refine z_iconst (x := (-1)) C dX4_heaviest_0 rfl ?_
  refine z_istore_n (L' := [(2, .int (qI (-1))), (0, .ref (qad g 110)), (1, .int (qI p1))]) C dX4_heaviest_1 (by decide) rfl ?_
  refine z_iconst (x := 0) C dX4_heaviest_2 rfl ?_
  refine z_istore_n (L' := [(3, .int (qI 0)), (2, .int (qI (-1))), (0, .ref (qad g 110)), (1, .int (qI p1))]) C dX4_heaviest_3 (by decide) rfl ?_
  refine z_sub (L' := [(0, .ref (qad g 110)), (1, .int (qI p1)), (2, .int (qI (-1))), (3, .int (qI 0))]) [2, 3, 1, 0] rfl ?_
  exact met_X4_heaviest_l4 C hr hT n9 S p1  n9 (-1) 0 hm

set_option maxHeartbeats 4000000 in
set_option maxRecDepth 100000 in
theorem met_X4_speeds_l9 {g : qG} {p : Program} {l : Launch} {e : Env} {s : State} {m : MethodId} {args : Array Value} {below : List Frame} {meth : Method} {c : Code} (C : qC g p l s m args meth c RX4 cX4_speeds 5) (hr : meth.sig.returnType = (some .int)) (hT : ∀ x ∈ c.exceptionTable.toList, False) (n9 : Nat) (S : qS) (p1 : Int) {r : Int} (k81 : Int → Int → Option (Int)) (hk81 : ∀ (y1 : Int) (y2 : Int), k81 y1 y2 = some r → qZ g p l e rmX4_speeds s m args below meth c (qQ g below qkI (.inr r) S args s rmX4_speeds) 5 S [(2, .int (qI y1)), (3, .int (qI y2))] 81 [] 0 0) : ∀ (f : Nat) (x7 : Int) (x8 : Int) (x9 : Int), MX4_speeds_l9 n9 S p1 k81 f x7 x8 x9 = some r → qZ g p l e rmX4_speeds s m args below meth c (qQ g below qkI (.inr r) S args s rmX4_speeds) 5 S [(0, .ref (qad g 110)), (1, .int (qI p1)), (2, .int (qI x7)), (3, .int (qI x8)), (4, .int (qI x9))] 9 [] 0 0 := by
  intro f
  induction f with
  | zero => intro x7 x8 x9 hm; rw [MX4_speeds_l9] at hm; cases hm
  | succ f ih =>
    intro x7 x8 x9 hm
    rw [MX4_speeds_l9] at hm
    have hl := C.2.2.2.2.2.2.2.2
    have hA := C.2.2.2.2.2.2.1
    refine z_iload C dX4_speeds_9 4 rfl ?_
    refine z_aload_n C dX4_speeds_11 0 rfl ?_
    refine gf_X4_99 C rfl dX4_speeds_12 ?_
    obtain ⟨h10, hm⟩ := qg_i hm
    obtain ⟨h11, hm⟩ := qg_i hm
    refine z_icmp_ge (tgt := 81) C dX4_speeds_15 (by decide) ⟨h10, h11⟩ (fun c12 => ?_) (fun c12 => ?_)
    · have hm := qt_i hm c12
      refine z_sub (L' := [(2, .int (qI x7)), (3, .int (qI x8))]) [2, 3] rfl ?_
      exact hk81 x7 x8 hm
    · have hm := qf_i hm c12
      refine z_aload_n C dX4_speeds_18 0 rfl ?_
      refine z_aload_n C dX4_speeds_19 0 rfl ?_
      refine gf_X4_56 C rfl dX4_speeds_20 ?_
      refine z_iload C dX4_speeds_23 4 rfl ?_
      obtain ⟨h13, hm⟩ := qg_i hm
      refine z_iald (N := 15) C rfl h13 (by decide) dX4_speeds_25 ?_
      obtain ⟨a14, h15, hm⟩ := qb_i hm
      refine iv_X4_200 C (met_X4_trainOf l g hl hA n9 S (S 126 x9.toNat) _ h15) rfl ⟨by decide, by decide⟩ ⟨by decide, by decide⟩ (Nat.le_of_ble_eq_true rfl) dX4_speeds_26 ?_
      refine z_iload_n C dX4_speeds_29 1 rfl ?_
      obtain ⟨h16, hm⟩ := qg_i hm
      obtain ⟨h17, hm⟩ := qg_i hm
      obtain ⟨j20, e21, hm⟩ := ql_i hm
      have hj20 : ∀ (x18 : Int) (x19 : Int), j20 x18 x19 = some r → qZ g p l e rmX4_speeds s m args below meth c (qQ g below qkI (.inr r) S args s rmX4_speeds) 5 S [(0, .ref (qad g 110)), (1, .int (qI p1)), (2, .int (qI x18)), (3, .int (qI x19)), (4, .int (qI x9))] 75 [] 0 0 := by
        intro x18 x19 hm
        rw [e21] at hm
        refine z_iinc (L' := [(4, .int (qI (x9 + 1))), (0, .ref (qad g 110)), (1, .int (qI p1)), (2, .int (qI x18)), (3, .int (qI x19))]) C dX4_speeds_75 4 rfl (by decide) rfl ?_
        refine z_goto (tgt := 9) C dX4_speeds_78 (by decide) ?_
        refine z_sub (L' := [(0, .ref (qad g 110)), (1, .int (qI p1)), (2, .int (qI x18)), (3, .int (qI x19)), (4, .int (qI (x9 + 1)))]) [1, 2, 3, 4, 0] rfl ?_
        exact ih x18 x19 (x9 + 1) hm
      clear e21
      refine z_icmp_ne (tgt := 75) C dX4_speeds_30 (by decide) ⟨h16, h17⟩ (fun c22 => ?_) (fun c22 => ?_)
      · have hm := qt_i hm c22
        refine z_aload_n C dX4_speeds_33 0 rfl ?_
        refine z_iload C dX4_speeds_34 4 rfl ?_
        obtain ⟨a23, h24, hm⟩ := qb_i hm
        refine iv_X4_221 C (met_X4_speed l g hl hA n9 S x9 _ h24) rfl ⟨by decide, by decide⟩ ⟨by decide, by decide⟩ (Nat.le_of_ble_eq_true rfl) dX4_speeds_36 ?_
        refine z_iload_n C dX4_speeds_39 2 rfl ?_
        obtain ⟨h25, hm⟩ := qg_i hm
        obtain ⟨h26, hm⟩ := qg_i hm
        obtain ⟨j28, e39, hm⟩ := ql_i hm
        have hj28 : ∀ (v27 : Int), j28 v27 = some r → qZ g p l e rmX4_speeds s m args below meth c (qQ g below qkI (.inr r) S args s rmX4_speeds) 5 S [(0, .ref (qad g 110)), (1, .int (qI p1)), (3, .int (qI x8)), (4, .int (qI x9))] 53 [.int (qI v27)] 0 0 := by
          intro v27 hm
          rw [e39] at hm
          refine z_istore_n (L' := [(2, .int (qI v27)), (0, .ref (qad g 110)), (1, .int (qI p1)), (3, .int (qI x8)), (4, .int (qI x9))]) C dX4_speeds_53 (by decide) rfl ?_
          refine z_aload_n C dX4_speeds_54 1 rfl ?_
          refine z_iload C dX4_speeds_55 4 rfl ?_
          obtain ⟨a29, h30, hm⟩ := qb_i hm
          refine iv_X4_221 C (met_X4_speed l g hl hA n9 S x9 _ h30) rfl ⟨by decide, by decide⟩ ⟨by decide, by decide⟩ (Nat.le_of_ble_eq_true rfl) dX4_speeds_57 ?_
          refine z_iload_n C dX4_speeds_60 3 rfl ?_
          obtain ⟨h31, hm⟩ := qg_i hm
          obtain ⟨h32, hm⟩ := qg_i hm
          obtain ⟨j34, e35, hm⟩ := ql_i hm
          have hj34 : ∀ (v33 : Int), j34 v33 = some r → qZ g p l e rmX4_speeds s m args below meth c (qQ g below qkI (.inr r) S args s rmX4_speeds) 5 S [(0, .ref (qad g 110)), (1, .int (qI p1)), (2, .int (qI v27)), (4, .int (qI x9))] 74 [.int (qI v33)] 0 0 := by
            intro v33 hm
            rw [e35] at hm
            refine z_istore_n (L' := [(3, .int (qI v33)), (0, .ref (qad g 110)), (1, .int (qI p1)), (2, .int (qI v27)), (4, .int (qI x9))]) C dX4_speeds_74 (by decide) rfl ?_
            refine z_sub (L' := [(0, .ref (qad g 110)), (1, .int (qI p1)), (2, .int (qI v27)), (3, .int (qI v33)), (4, .int (qI x9))]) [1, 2, 3, 0, 4] rfl ?_
            exact hj20 v27 v33 hm
          clear e35
          refine z_icmp_ge (tgt := 73) C dX4_speeds_61 (by decide) ⟨h31, h32⟩ (fun c36 => ?_) (fun c36 => ?_)
          · have hm := qt_i hm c36
            refine z_iload_n C dX4_speeds_73 3 rfl ?_
            refine z_sub (L' := [(0, .ref (qad g 110)), (1, .int (qI p1)), (2, .int (qI v27)), (4, .int (qI x9))]) [1, 2, 0, 4] rfl ?_
            exact hj34 x8 hm
          · have hm := qf_i hm c36
            refine z_aload_n C dX4_speeds_64 1 rfl ?_
            refine z_iload C dX4_speeds_65 4 rfl ?_
            obtain ⟨a37, h38, hm⟩ := qb_i hm
            refine iv_X4_221 C (met_X4_speed l g hl hA n9 S x9 _ h38) rfl ⟨by decide, by decide⟩ ⟨by decide, by decide⟩ (Nat.le_of_ble_eq_true rfl) dX4_speeds_67 ?_
            refine z_goto (tgt := 74) C dX4_speeds_70 (by decide) ?_
            refine z_sub (L' := [(0, .ref (qad g 110)), (1, .int (qI p1)), (2, .int (qI v27)), (4, .int (qI x9))]) [1, 2, 0, 4] rfl ?_
            exact hj34 a37 hm
        clear e39
        refine z_icmp_le (tgt := 52) C dX4_speeds_40 (by decide) ⟨h25, h26⟩ (fun c40 => ?_) (fun c40 => ?_)
        · have hm := qt_i hm c40
          refine z_iload_n C dX4_speeds_52 2 rfl ?_
          refine z_sub (L' := [(0, .ref (qad g 110)), (1, .int (qI p1)), (3, .int (qI x8)), (4, .int (qI x9))]) [0, 1, 3, 4] rfl ?_
          exact hj28 x7 hm
        · have hm := qf_i hm c40
          refine z_aload_n C dX4_speeds_43 0 rfl ?_
          refine z_iload C dX4_speeds_44 4 rfl ?_
          obtain ⟨a41, h42, hm⟩ := qb_i hm
          refine iv_X4_221 C (met_X4_speed l g hl hA n9 S x9 _ h42) rfl ⟨by decide, by decide⟩ ⟨by decide, by decide⟩ (Nat.le_of_ble_eq_true rfl) dX4_speeds_46 ?_
          refine z_goto (tgt := 53) C dX4_speeds_49 (by decide) ?_
          refine z_sub (L' := [(0, .ref (qad g 110)), (1, .int (qI p1)), (3, .int (qI x8)), (4, .int (qI x9))]) [0, 1, 3, 4] rfl ?_
          exact hj28 a41 hm
      · have hm := qf_i hm c22
        exact hj20 x7 x8 hm

set_option maxHeartbeats 4000000 in
set_option maxRecDepth 100000 in
theorem met_X4_speeds (l : Launch) (g : qG) (hl : l.stackTraces = false) (hA : qAd g) (n9 : Nat) (S : qS) (p1 : Int) (r : Int) (hm : MX4_speeds n9 S p1 = some r) : qM l g yX4_speeds (.code yX4_speeds cX4_speeds 5 (some .int)) rmX4_speeds qkI [.ref (qad g 110), .int (qI p1)] S (.inr r) S := by
  rw [MX4_speeds] at hm
  refine qM_of (L := [(0, .ref (qad g 110)), (1, .int (qI p1))]) (by decide +kernel) rfl (Nat.le_of_ble_eq_true rfl) hl hA ?_
  intro p e s m below meth c C hr hT
  have C : qC g p l s m ([.ref (qad g 110), .int (qI p1)] : List Value).toArray meth c RX4 cX4_speeds 5 := C
  refine z_iconst (x := (-1)) C dX4_speeds_0 rfl ?_
  refine z_istore_n (L' := [(2, .int (qI (-1))), (0, .ref (qad g 110)), (1, .int (qI p1))]) C dX4_speeds_1 (by decide) rfl ?_
  refine z_sipush (x := 601) C dX4_speeds_2 (by decide +kernel) ?_
  refine z_istore_n (L' := [(3, .int (qI 601)), (2, .int (qI (-1))), (0, .ref (qad g 110)), (1, .int (qI p1))]) C dX4_speeds_5 (by decide) rfl ?_
  refine z_iconst (x := 0) C dX4_speeds_6 rfl ?_
  refine z_istore (L' := [(4, .int (qI 0)), (3, .int (qI 601)), (2, .int (qI (-1))), (0, .ref (qad g 110)), (1, .int (qI p1))]) C dX4_speeds_7 (by decide) rfl ?_
  obtain ⟨j3, e6, hm⟩ := ql_i hm
  have hj3 : ∀ (x1 : Int) (x2 : Int), j3 x1 x2 = some r → qZ g p l e rmX4_speeds s m ([.ref (qad g 110), .int (qI p1)] : List Value).toArray below meth c (qQ g below qkI (.inr r) S ([.ref (qad g 110), .int (qI p1)] : List Value).toArray s rmX4_speeds) 5 S [(2, .int (qI x1)), (3, .int (qI x2))] 81 [] 0 0 := by
    intro x1 x2 hm
    rw [e6] at hm
    refine z_iload_n C dX4_speeds_81 0 rfl ?_
    refine z_iconst (x := (-1)) C dX4_speeds_82 rfl ?_
    obtain ⟨h4, hm⟩ := qg_i hm
    refine z_icmp_ne (tgt := 90) C dX4_speeds_83 (by decide) ⟨h4, (by decide)⟩ (fun c5 => ?_) (fun c5 => ?_)
    · have hm := qt_i hm c5
      refine z_iconst (x := (-1)) C dX4_speeds_86 rfl ?_
      refine z_goto (tgt := 93) C dX4_speeds_87 (by decide) ?_
      exact z_iret C hr (by decide) (by decide) (by cases hm; rfl) dX4_speeds_93
    · have hm := qf_i hm c5
      refine z_iload_n C dX4_speeds_90 0 rfl ?_
      refine z_iload_n C dX4_speeds_91 1 rfl ?_
      refine z_isub C dX4_speeds_92 ?_
      exact z_iret C hr (by decide) (by decide) (by cases hm; rfl) dX4_speeds_93
  clear e6
  refine z_sub (L' := [(0, .ref (qad g 110)), (1, .int (qI p1)), (2, .int (qI (-1))), (3, .int (qI 601)), (4, .int (qI 0))]) [3, 4, 2, 1, 0] rfl ?_
  exact met_X4_speeds_l9 C hr hT n9 S p1 j3 hj3 n9 (-1) 601 0 hm

set_option maxHeartbeats 4000000 in
set_option maxRecDepth 100000 in
theorem met_X4_train (l : Launch) (g : qG) (hl : l.stackTraces = false) (hA : qAd g) (n9 : Nat) (S : qS) (p1 : Int) (p2 : Int) (r : Int × qS) (hm : MX4_train n9 S p1 p2 = some r) : qM l g yX4_train (.code yX4_train cX4_train 3 (some .int)) rmX4_train qkI [.ref (qad g 110), .int (qI p1), .int (qI p2)] S (.inr r.1) r.2 := by
  rw [MX4_train] at hm
  refine qM_of (L := [(0, .ref (qad g 110)), (1, .int (qI p1)), (2, .int (qI p2))]) (by decide +kernel) rfl (Nat.le_of_ble_eq_true rfl) hl hA ?_
  intro p e s m below meth c C hr hT
  have C : qC g p l s m ([.ref (qad g 110), .int (qI p1), .int (qI p2)] : List Value).toArray meth c RX4 cX4_train 3 := C
  refine z_aload_n C dX4_train_0 0 rfl ?_
  refine z_aload_n C dX4_train_1 0 rfl ?_
  refine gf_X4_28 C rfl dX4_train_2 ?_
  obtain ⟨a1, h2, hm⟩ := qb_i hm
  refine iv_X4_125 C (met_X4_lay l g hl hA n9 S 117 _ h2) rfl ⟨by decide, by decide⟩ ⟨by decide, by decide⟩ (Nat.le_of_ble_eq_true rfl) dX4_train_5 ?_
  refine z_aload_n C dX4_train_8 0 rfl ?_
  refine z_iload_n C dX4_train_9 1 rfl ?_
  obtain ⟨h3, hm⟩ := qg_i hm
  refine z_i2l C dX4_train_10 h3 ?_
  refine z_lconst (x := 0) C dX4_train_11 (by decide +kernel) ?_
  refine z_aload_n C dX4_train_12 0 rfl ?_
  refine gf_X4_102 C rfl dX4_train_13 ?_
  refine z_iconst (x := 1) C dX4_train_16 rfl ?_
  refine z_isub C dX4_train_17 ?_
  obtain ⟨h4, hm⟩ := qg_i hm
  refine z_i2l C dX4_train_18 h4 ?_
  obtain ⟨a5, h6, hm⟩ := qb_i hm
  refine iv_X4_118 C (met_X4_in l g hl hA n9 a1 p1 0 ((a1 110 22) - 1) _ h6) ⟨by decide, by decide⟩ ⟨by decide, by decide⟩ (Nat.le_of_ble_eq_true rfl) dX4_train_19 ?_
  obtain ⟨h7, hm⟩ := qg_i hm
  obtain ⟨j9, e38, hm⟩ := ql_i hm
  have hj9 : ∀ (v8 : Int), j9 v8 = some r → qZ g p l e rmX4_train s m ([.ref (qad g 110), .int (qI p1), .int (qI p2)] : List Value).toArray below meth c (qQ g below qkI (.inr r.1) r.2 ([.ref (qad g 110), .int (qI p1), .int (qI p2)] : List Value).toArray s rmX4_train) 3 a1 [(0, .ref (qad g 110)), (1, .int (qI p1)), (2, .int (qI p2))] 46 [.int (qI v8), .ref (qad g 110)] 0 0 := by
    intro v8 hm
    rw [e38] at hm
    obtain ⟨a10, h11, hm⟩ := qb_i hm
    refine iv_X4_134 C (met_X4_refused l g hl hA n9 a1 v8 _ h11) rfl ⟨by decide, by decide⟩ ⟨by decide, by decide⟩ (Nat.le_of_ble_eq_true rfl) dX4_train_46 ?_
    obtain ⟨h12, hm⟩ := qg_i hm
    refine z_if_eq (tgt := 54) C dX4_train_49 (by decide) h12 (fun c13 => ?_) (fun c13 => ?_)
    · have hm := qt_i hm c13
      refine z_iload_n C dX4_train_54 2 rfl ?_
      obtain ⟨h14, hm⟩ := qg_i hm
      rcases Classical.em (p2 = 0) with c15 | c15
      · have hm := qt_i hm c15
        refine z_tableIn (tgt := 96) C dX4_train_55 h14 (by omega) (by omega) (by rw [c15]; rfl) (by decide) ?_
        refine z_aload_n C dX4_train_96 0 rfl ?_
        refine gf_X4_50 C rfl dX4_train_97 ?_
        refine z_iload_n C dX4_train_100 1 rfl ?_
        obtain ⟨h16, hm⟩ := qg_i hm
        refine z_iald (N := 31) C rfl h16 (by decide) dX4_train_101 ?_
        exact z_iret C hr (by decide) (by decide) (by cases hm; rfl) dX4_train_102
      have hm := qf_i hm c15
      rcases Classical.em (p2 = 1) with c17 | c17
      · have hm := qt_i hm c17
        refine z_tableIn (tgt := 103) C dX4_train_55 h14 (by omega) (by omega) (by rw [c17]; rfl) (by decide) ?_
        refine z_aload_n C dX4_train_103 0 rfl ?_
        refine gf_X4_50 C rfl dX4_train_104 ?_
        refine z_iload_n C dX4_train_107 1 rfl ?_
        refine z_iconst (x := 1) C dX4_train_108 rfl ?_
        refine z_iadd C dX4_train_109 ?_
        obtain ⟨h18, hm⟩ := qg_i hm
        refine z_iald (N := 31) C rfl h18 (by decide) dX4_train_110 ?_
        refine z_aload_n C dX4_train_111 0 rfl ?_
        refine gf_X4_50 C rfl dX4_train_112 ?_
        refine z_iload_n C dX4_train_115 1 rfl ?_
        obtain ⟨h19, hm⟩ := qg_i hm
        refine z_iald (N := 31) C rfl h19 (by decide) dX4_train_116 ?_
        refine z_isub C dX4_train_117 ?_
        exact z_iret C hr (by decide) (by decide) (by cases hm; rfl) dX4_train_118
      have hm := qf_i hm c17
      rcases Classical.em (p2 = 2) with c20 | c20
      · have hm := qt_i hm c20
        refine z_tableIn (tgt := 119) C dX4_train_55 h14 (by omega) (by omega) (by rw [c20]; rfl) (by decide) ?_
        refine z_aload_n C dX4_train_119 0 rfl ?_
        refine z_iload_n C dX4_train_120 1 rfl ?_
        obtain ⟨a21, h22, hm⟩ := qb_i hm
        refine iv_X4_227 C (met_X4_carsOf l g hl hA n9 a10.2 p1 _ h22) rfl ⟨by decide, by decide⟩ ⟨by decide, by decide⟩ (Nat.le_of_ble_eq_true rfl) dX4_train_121 ?_
        exact z_iret C hr (by decide) (by decide) (by cases hm; rfl) dX4_train_124
      have hm := qf_i hm c20
      rcases Classical.em (p2 = 3) with c23 | c23
      · have hm := qt_i hm c23
        refine z_tableIn (tgt := 125) C dX4_train_55 h14 (by omega) (by omega) (by rw [c23]; rfl) (by decide) ?_
        refine z_aload_n C dX4_train_125 0 rfl ?_
        refine z_iload_n C dX4_train_126 1 rfl ?_
        obtain ⟨a24, h25, hm⟩ := qb_i hm
        refine iv_X4_197 C (met_X4_trainWeight l g hl hA n9 a10.2 p1 _ h25) rfl ⟨by decide, by decide⟩ ⟨by decide, by decide⟩ (Nat.le_of_ble_eq_true rfl) dX4_train_127 ?_
        exact z_iret C hr (by decide) (by decide) (by cases hm; rfl) dX4_train_130
      have hm := qf_i hm c23
      rcases Classical.em (p2 = 4) with c26 | c26
      · have hm := qt_i hm c26
        refine z_tableIn (tgt := 131) C dX4_train_55 h14 (by omega) (by omega) (by rw [c26]; rfl) (by decide) ?_
        refine z_aload_n C dX4_train_131 0 rfl ?_
        refine gf_X4_53 C rfl dX4_train_132 ?_
        refine z_iload_n C dX4_train_135 1 rfl ?_
        obtain ⟨h27, hm⟩ := qg_i hm
        refine z_iald (N := 30) C rfl h27 (by decide) dX4_train_136 ?_
        exact z_iret C hr (by decide) (by decide) (by cases hm; rfl) dX4_train_137
      have hm := qf_i hm c26
      rcases Classical.em (p2 = 5) with c28 | c28
      · have hm := qt_i hm c28
        refine z_tableIn (tgt := 138) C dX4_train_55 h14 (by omega) (by omega) (by rw [c28]; rfl) (by decide) ?_
        refine z_aload_n C dX4_train_138 0 rfl ?_
        refine z_iload_n C dX4_train_139 1 rfl ?_
        obtain ⟨a29, h30, hm⟩ := qb_i hm
        refine iv_X4_230 C (met_X4_heaviest l g hl hA n9 a10.2 p1 _ h30) rfl ⟨by decide, by decide⟩ ⟨by decide, by decide⟩ (Nat.le_of_ble_eq_true rfl) dX4_train_140 ?_
        exact z_iret C hr (by decide) (by decide) (by cases hm; rfl) dX4_train_143
      have hm := qf_i hm c28
      rcases Classical.em (p2 = 6) with c31 | c31
      · have hm := qt_i hm c31
        refine z_tableIn (tgt := 144) C dX4_train_55 h14 (by omega) (by omega) (by rw [c31]; rfl) (by decide) ?_
        refine z_aload_n C dX4_train_144 0 rfl ?_
        refine z_iload_n C dX4_train_145 1 rfl ?_
        obtain ⟨a32, h33, hm⟩ := qb_i hm
        refine iv_X4_233 C (met_X4_speeds l g hl hA n9 a10.2 p1 _ h33) rfl ⟨by decide, by decide⟩ ⟨by decide, by decide⟩ (Nat.le_of_ble_eq_true rfl) dX4_train_146 ?_
        exact z_iret C hr (by decide) (by decide) (by cases hm; rfl) dX4_train_149
      have hm := qf_i hm c31
      refine z_tableOut (tgt := 150) C dX4_train_55 h14 (by omega) (by decide) ?_
      refine z_aload_n C dX4_train_150 0 rfl ?_
      refine gf_X4_28 C rfl dX4_train_151 ?_
      refine z_iconst (x := 5) C dX4_train_154 rfl ?_
      refine z_iload_n C dX4_train_155 1 rfl ?_
      refine z_iadd C dX4_train_156 ?_
      obtain ⟨h34, hm⟩ := qg_i hm
      refine z_iald (N := 95) C rfl h34 (by decide) dX4_train_157 ?_
      obtain ⟨h35, hm⟩ := qg_i hm
      refine z_if_le (tgt := 172) C dX4_train_158 (by decide) h35 (fun c36 => ?_) (fun c36 => ?_)
      · have hm := qt_i hm c36
        refine z_iconst (x := (-1)) C dX4_train_172 rfl ?_
        exact z_iret C hr (by decide) (by decide) (by cases hm; rfl) dX4_train_173
      · have hm := qf_i hm c36
        refine z_aload_n C dX4_train_161 0 rfl ?_
        refine gf_X4_28 C rfl dX4_train_162 ?_
        refine z_iconst (x := 5) C dX4_train_165 rfl ?_
        refine z_iload_n C dX4_train_166 1 rfl ?_
        refine z_iadd C dX4_train_167 ?_
        obtain ⟨h37, hm⟩ := qg_i hm
        refine z_iald (N := 95) C rfl h37 (by decide) dX4_train_168 ?_
        refine z_goto (tgt := 173) C dX4_train_169 (by decide) ?_
        exact z_iret C hr (by decide) (by decide) (by cases hm; rfl) dX4_train_173
    · have hm := qf_i hm c13
      refine z_iconst (x := 0) C dX4_train_52 rfl ?_
      exact z_iret C hr (by decide) (by decide) (by cases hm; rfl) dX4_train_53
  clear e38
  refine z_if_ne (tgt := 29) C dX4_train_22 (by decide) h7 (fun c39 => ?_) (fun c39 => ?_)
  · have hm := qt_i hm c39
    refine z_iconst (x := 1) C dX4_train_25 rfl ?_
    refine z_goto (tgt := 46) C dX4_train_26 (by decide) ?_
    exact hj9 1 hm
  · have hm := qf_i hm c39
    refine z_iload_n C dX4_train_29 2 rfl ?_
    obtain ⟨h40, hm⟩ := qg_i hm
    refine z_i2l C dX4_train_30 h40 ?_
    refine z_lconst (x := 0) C dX4_train_31 (by decide +kernel) ?_
    refine z_ldc2 (x := 7) C dX4_train_32 qct_X4_173 (by decide +kernel) ?_
    obtain ⟨a41, h42, hm⟩ := qb_i hm
    refine iv_X4_118 C (met_X4_in l g hl hA n9 a1 p2 0 7 _ h42) ⟨by decide, by decide⟩ ⟨by decide, by decide⟩ (Nat.le_of_ble_eq_true rfl) dX4_train_35 ?_
    obtain ⟨h43, hm⟩ := qg_i hm
    refine z_if_eq (tgt := 45) C dX4_train_38 (by decide) h43 (fun c44 => ?_) (fun c44 => ?_)
    · have hm := qt_i hm c44
      refine z_iconst (x := 2) C dX4_train_45 rfl ?_
      exact hj9 2 hm
    · have hm := qf_i hm c44
      refine z_iconst (x := 0) C dX4_train_41 rfl ?_
      refine z_goto (tgt := 46) C dX4_train_42 (by decide) ?_
      exact hj9 0 hm

set_option maxHeartbeats 4000000 in
set_option maxRecDepth 100000 in
theorem met_X4_setting (l : Launch) (g : qG) (hl : l.stackTraces = false) (hA : qAd g) (n9 : Nat) (S : qS) (p1 : Int) (r : Int × qS) (hm : MX4_setting n9 S p1 = some r) : qM l g yX4_setting (.code yX4_setting cX4_setting 2 (some .int)) rmX4_setting qkI [.ref (qad g 110), .int (qI p1)] S (.inr r.1) r.2 := by
  rw [MX4_setting] at hm
  refine qM_of (L := [(0, .ref (qad g 110)), (1, .int (qI p1))]) (by decide +kernel) rfl (Nat.le_of_ble_eq_true rfl) hl hA ?_
  intro p e s m below meth c C hr hT
  have C : qC g p l s m ([.ref (qad g 110), .int (qI p1)] : List Value).toArray meth c RX4 cX4_setting 2 := C
  refine z_aload_n C dX4_setting_0 0 rfl ?_
  refine z_iload_n C dX4_setting_1 1 rfl ?_
  obtain ⟨h1, hm⟩ := qg_i hm
  refine z_i2l C dX4_setting_2 h1 ?_
  refine z_lconst (x := 0) C dX4_setting_3 (by decide +kernel) ?_
  refine z_ldc2 (x := 3) C dX4_setting_4 qct_X4_214 (by decide +kernel) ?_
  obtain ⟨a2, h3, hm⟩ := qb_i hm
  refine iv_X4_118 C (met_X4_in l g hl hA n9 S p1 0 3 _ h3) ⟨by decide, by decide⟩ ⟨by decide, by decide⟩ (Nat.le_of_ble_eq_true rfl) dX4_setting_7 ?_
  obtain ⟨h4, hm⟩ := qg_i hm
  obtain ⟨j6, e12, hm⟩ := ql_i hm
  have hj6 : ∀ (v5 : Int), j6 v5 = some r → qZ g p l e rmX4_setting s m ([.ref (qad g 110), .int (qI p1)] : List Value).toArray below meth c (qQ g below qkI (.inr r.1) r.2 ([.ref (qad g 110), .int (qI p1)] : List Value).toArray s rmX4_setting) 2 S [(0, .ref (qad g 110)), (1, .int (qI p1))] 18 [.int (qI v5), .ref (qad g 110)] 0 0 := by
    intro v5 hm
    rw [e12] at hm
    obtain ⟨a7, h8, hm⟩ := qb_i hm
    refine iv_X4_134 C (met_X4_refused l g hl hA n9 S v5 _ h8) rfl ⟨by decide, by decide⟩ ⟨by decide, by decide⟩ (Nat.le_of_ble_eq_true rfl) dX4_setting_18 ?_
    obtain ⟨h9, hm⟩ := qg_i hm
    refine z_if_eq (tgt := 28) C dX4_setting_21 (by decide) h9 (fun c10 => ?_) (fun c10 => ?_)
    · have hm := qt_i hm c10
      refine z_aload_n C dX4_setting_28 0 rfl ?_
      refine gf_X4_28 C rfl dX4_setting_29 ?_
      refine z_iconst (x := 1) C dX4_setting_32 rfl ?_
      refine z_iload_n C dX4_setting_33 1 rfl ?_
      refine z_iadd C dX4_setting_34 ?_
      obtain ⟨h11, hm⟩ := qg_i hm
      refine z_iald (N := 95) C rfl h11 (by decide) dX4_setting_35 ?_
      exact z_iret C hr (by decide) (by decide) (by cases hm; rfl) dX4_setting_36
    · have hm := qf_i hm c10
      refine z_iconst (x := 0) C dX4_setting_24 rfl ?_
      refine z_goto (tgt := 36) C dX4_setting_25 (by decide) ?_
      exact z_iret C hr (by decide) (by decide) (by cases hm; rfl) dX4_setting_36
  clear e12
  refine z_if_eq (tgt := 17) C dX4_setting_10 (by decide) h4 (fun c13 => ?_) (fun c13 => ?_)
  · have hm := qt_i hm c13
    refine z_iconst (x := 1) C dX4_setting_17 rfl ?_
    exact hj6 1 hm
  · have hm := qf_i hm c13
    refine z_iconst (x := 0) C dX4_setting_13 rfl ?_
    refine z_goto (tgt := 18) C dX4_setting_14 (by decide) ?_
    exact hj6 0 hm

set_option maxHeartbeats 4000000 in
set_option maxRecDepth 100000 in
theorem met_X4_isPause (l : Launch) (g : qG) (hl : l.stackTraces = false) (hA : qAd g) (n9 : Nat) (S : qS) (p0 : Int) (r : Int) (hm : MX4_isPause n9 S p0 = some r) : qM l g yX4_isPause (.code yX4_isPause cX4_isPause 1 (some .boolean)) rmX4_isPause qkI [.int (qI p0)] S (.inr r) S := by
  rw [MX4_isPause] at hm
  refine qM_of (L := [(0, .int (qI p0))]) (by decide +kernel) rfl (Nat.le_of_ble_eq_true rfl) hl hA ?_
  intro p e s m below meth c C hr hT
  have C : qC g p l s m ([.int (qI p0)] : List Value).toArray meth c RX4 cX4_isPause 1 := C
  refine z_iload_n C dX4_isPause_0 0 rfl ?_
  obtain ⟨h1, hm⟩ := qg_i hm
  refine z_i2l C dX4_isPause_1 h1 ?_
  refine z_lconst (x := 1) C dX4_isPause_2 (by decide +kernel) ?_
  refine z_ldc2 (x := 60) C dX4_isPause_3 qct_X4_236 (by decide +kernel) ?_
  obtain ⟨a2, h3, hm⟩ := qb_i hm
  refine iv_X4_118 C (met_X4_in l g hl hA n9 S p0 1 60 _ h3) ⟨by decide, by decide⟩ ⟨by decide, by decide⟩ (Nat.le_of_ble_eq_true rfl) dX4_isPause_6 ?_
  obtain ⟨h4, hm⟩ := qg_i hm
  exact z_zret C hr h4 (by decide) (by decide) (by cases hm; rfl) dX4_isPause_9

set_option maxHeartbeats 4000000 in
set_option maxRecDepth 100000 in
theorem met_X4_isWeight (l : Launch) (g : qG) (hl : l.stackTraces = false) (hA : qAd g) (n9 : Nat) (S : qS) (p0 : Int) (r : Int) (hm : MX4_isWeight n9 S p0 = some r) : qM l g yX4_isWeight (.code yX4_isWeight cX4_isWeight 1 (some .boolean)) rmX4_isWeight qkI [.int (qI p0)] S (.inr r) S := by
  rw [MX4_isWeight] at hm
  refine qM_of (L := [(0, .int (qI p0))]) (by decide +kernel) rfl (Nat.le_of_ble_eq_true rfl) hl hA ?_
  intro p e s m below meth c C hr hT
  have C : qC g p l s m ([.int (qI p0)] : List Value).toArray meth c RX4 cX4_isWeight 1 := C
  refine z_iload_n C dX4_isWeight_0 0 rfl ?_
  obtain ⟨h1, hm⟩ := qg_i hm
  refine z_i2l C dX4_isWeight_1 h1 ?_
  refine z_lconst (x := 1) C dX4_isWeight_2 (by decide +kernel) ?_
  refine z_ldc2 (x := 99) C dX4_isWeight_3 qct_X4_238 (by decide +kernel) ?_
  obtain ⟨a2, h3, hm⟩ := qb_i hm
  refine iv_X4_118 C (met_X4_in l g hl hA n9 S p0 1 99 _ h3) ⟨by decide, by decide⟩ ⟨by decide, by decide⟩ (Nat.le_of_ble_eq_true rfl) dX4_isWeight_6 ?_
  obtain ⟨h4, hm⟩ := qg_i hm
  exact z_zret C hr h4 (by decide) (by decide) (by cases hm; rfl) dX4_isWeight_9

set_option maxHeartbeats 4000000 in
set_option maxRecDepth 100000 in
theorem met_X4_roll (l : Launch) (g : qG) (hl : l.stackTraces = false) (hA : qAd g) (n9 : Nat) (S : qS) (p1 : Int) (p2 : Int) (r : Int × qS) (hm : MX4_roll n9 S p1 p2 = some r) : qM l g yX4_roll (.code yX4_roll cX4_roll 4 (some .int)) rmX4_roll qkI [.ref (qad g 110), .int (qI p1), .int (qI p2)] S (.inr r.1) r.2 := by
  rw [MX4_roll] at hm
  refine qM_of (L := [(0, .ref (qad g 110)), (1, .int (qI p1)), (2, .int (qI p2))]) (by decide +kernel) rfl (Nat.le_of_ble_eq_true rfl) hl hA ?_
  intro p e s m below meth c C hr hT
  have C : qC g p l s m ([.ref (qad g 110), .int (qI p1), .int (qI p2)] : List Value).toArray meth c RX4 cX4_roll 4 := C
  refine z_iload_n C dX4_roll_0 1 rfl ?_
  obtain ⟨a1, h2, hm⟩ := qb_i hm
  refine iv_X4_240 C (met_X4_isPause l g hl hA n9 S p1 _ h2) ⟨by decide, by decide⟩ ⟨by decide, by decide⟩ (Nat.le_of_ble_eq_true rfl) dX4_roll_1 ?_
  obtain ⟨h3, hm⟩ := qg_i hm
  obtain ⟨j5, e22, hm⟩ := ql_i hm
  have hj5 : ∀ (v4 : Int), j5 v4 = some r → qZ g p l e rmX4_roll s m ([.ref (qad g 110), .int (qI p1), .int (qI p2)] : List Value).toArray below meth c (qQ g below qkI (.inr r.1) r.2 ([.ref (qad g 110), .int (qI p1), .int (qI p2)] : List Value).toArray s rmX4_roll) 4 S [(0, .ref (qad g 110)), (1, .int (qI p1)), (2, .int (qI p2))] 19 [.int (qI v4)] 0 0 := by
    intro v4 hm
    rw [e22] at hm
    refine z_istore_n (L' := [(3, .int (qI v4)), (0, .ref (qad g 110)), (1, .int (qI p1)), (2, .int (qI p2))]) C dX4_roll_19 (by decide) rfl ?_
    refine z_aload_n C dX4_roll_20 1 rfl ?_
    refine z_iload_n C dX4_roll_21 0 rfl ?_
    obtain ⟨h6, hm⟩ := qg_i hm
    obtain ⟨j8, e17, hm⟩ := ql_i hm
    have hj8 : ∀ (v7 : Int), j8 v7 = some r → qZ g p l e rmX4_roll s m ([.ref (qad g 110), .int (qI p1), .int (qI p2)] : List Value).toArray below meth c (qQ g below qkI (.inr r.1) r.2 ([.ref (qad g 110), .int (qI p1), .int (qI p2)] : List Value).toArray s rmX4_roll) 4 S [(0, .ref (qad g 110)), (1, .int (qI p1)), (2, .int (qI p2))] 45 [.int (qI v7), .ref (qad g 110)] 0 0 := by
      intro v7 hm
      rw [e17] at hm
      obtain ⟨a9, h10, hm⟩ := qb_i hm
      refine iv_X4_134 C (met_X4_refused l g hl hA n9 S v7 _ h10) rfl ⟨by decide, by decide⟩ ⟨by decide, by decide⟩ (Nat.le_of_ble_eq_true rfl) dX4_roll_45 ?_
      obtain ⟨h11, hm⟩ := qg_i hm
      refine z_if_eq (tgt := 53) C dX4_roll_48 (by decide) h11 (fun c12 => ?_) (fun c12 => ?_)
      · have hm := qt_i hm c12
        refine z_aload_n C dX4_roll_53 0 rfl ?_
        obtain ⟨a13, h14, hm⟩ := qb_i hm
        refine iv_X4_246 C (met_X4_remember l g hl hA n9 a9.2  _ h14) rfl ⟨by decide, by decide⟩ ⟨by decide, by decide⟩ (Nat.le_of_ble_eq_true rfl) dX4_roll_54 ?_
        refine z_aload_n C dX4_roll_57 0 rfl ?_
        refine gf_X4_28 C rfl dX4_roll_58 ?_
        refine z_iload_n C dX4_roll_61 1 rfl ?_
        refine z_iload_n C dX4_roll_62 2 rfl ?_
        obtain ⟨a15, h16, hm⟩ := qb_i hm
        refine iv_X4_249 C (met_X4_rollIn l g hl hA n9 a13 117 p1 p2 _ h16) ⟨by decide, by decide⟩ ⟨by decide, by decide⟩ (Nat.le_of_ble_eq_true rfl) dX4_roll_63 ?_
        exact z_iret C hr (by decide) (by decide) (by cases hm; rfl) dX4_roll_66
      · have hm := qf_i hm c12
        refine z_iconst (x := 0) C dX4_roll_51 rfl ?_
        exact z_iret C hr (by decide) (by decide) (by cases hm; rfl) dX4_roll_52
    clear e17
    refine z_if_ne (tgt := 29) C dX4_roll_22 (by decide) h6 (fun c18 => ?_) (fun c18 => ?_)
    · have hm := qt_i hm c18
      refine z_iconst (x := 1) C dX4_roll_25 rfl ?_
      refine z_goto (tgt := 45) C dX4_roll_26 (by decide) ?_
      refine z_sub (L' := [(0, .ref (qad g 110)), (1, .int (qI p1)), (2, .int (qI p2))]) [1, 2, 3] rfl ?_
      exact hj8 1 hm
    · have hm := qf_i hm c18
      refine z_aload_n C dX4_roll_29 1 rfl ?_
      refine gf_X4_28 C rfl dX4_roll_30 ?_
      refine z_iconst (x := 0) C dX4_roll_33 rfl ?_
      obtain ⟨h19, hm⟩ := qg_i hm
      refine z_iald (N := 95) C rfl h19 (by decide) dX4_roll_34 ?_
      refine z_bipush (x := 30) C dX4_roll_35 (by decide +kernel) ?_
      obtain ⟨h20, hm⟩ := qg_i hm
      refine z_icmp_ne (tgt := 44) C dX4_roll_37 (by decide) ⟨h20, (by decide)⟩ (fun c21 => ?_) (fun c21 => ?_)
      · have hm := qt_i hm c21
        refine z_iconst (x := 2) C dX4_roll_40 rfl ?_
        refine z_goto (tgt := 45) C dX4_roll_41 (by decide) ?_
        refine z_sub (L' := [(0, .ref (qad g 110)), (1, .int (qI p1)), (2, .int (qI p2))]) [1, 2, 3] rfl ?_
        exact hj8 2 hm
      · have hm := qf_i hm c21
        refine z_iconst (x := 0) C dX4_roll_44 rfl ?_
        refine z_sub (L' := [(0, .ref (qad g 110)), (1, .int (qI p1)), (2, .int (qI p2))]) [1, 2, 3] rfl ?_
        exact hj8 0 hm
  clear e22
  obtain ⟨j23, e24, hm⟩ := ql_i hm
  have hj23 : j23 = some r → qZ g p l e rmX4_roll s m ([.ref (qad g 110), .int (qI p1), .int (qI p2)] : List Value).toArray below meth c (qQ g below qkI (.inr r.1) r.2 ([.ref (qad g 110), .int (qI p1), .int (qI p2)] : List Value).toArray s rmX4_roll) 4 S [(0, .ref (qad g 110)), (1, .int (qI p1)), (2, .int (qI p2))] 18 [] 0 0 := by
    intro  hm
    rw [e24] at hm
    refine z_iconst (x := 0) C dX4_roll_18 rfl ?_
    exact hj5 0 hm
  clear e24
  refine z_if_eq (tgt := 18) C dX4_roll_4 (by decide) h3 (fun c25 => ?_) (fun c25 => ?_)
  · have hm := qt_i hm c25
    exact hj23  hm
  · have hm := qf_i hm c25
    refine z_iload_n C dX4_roll_7 2 rfl ?_
    obtain ⟨a26, h27, hm⟩ := qb_i hm
    refine iv_X4_243 C (met_X4_isWeight l g hl hA n9 S p2 _ h27) ⟨by decide, by decide⟩ ⟨by decide, by decide⟩ (Nat.le_of_ble_eq_true rfl) dX4_roll_8 ?_
    obtain ⟨h28, hm⟩ := qg_i hm
    refine z_if_eq (tgt := 18) C dX4_roll_11 (by decide) h28 (fun c29 => ?_) (fun c29 => ?_)
    · have hm := qt_i hm c29
      exact hj23  hm
    · have hm := qf_i hm c29
      refine z_iconst (x := 1) C dX4_roll_14 rfl ?_
      refine z_goto (tgt := 19) C dX4_roll_15 (by decide) ?_
      exact hj5 1 hm

set_option maxHeartbeats 4000000 in
set_option maxRecDepth 100000 in
theorem met_X4_record_l54 {g : qG} {p : Program} {l : Launch} {e : Env} {s : State} {m : MethodId} {args : Array Value} {below : List Frame} {meth : Method} {c : Code} (C : qC g p l s m args meth c RX4 cX4_record 3) (hr : meth.sig.returnType = (some .int)) (hT : ∀ x ∈ c.exceptionTable.toList, False) (n9 : Nat) {r : Int × qS} (k88 : qS → Option (Int × qS)) (hk88 : ∀ (y1 : qS), k88 y1 = some r → qZ g p l e rmX4_record s m args below meth c (qQ g below qkI (.inr r.1) r.2 args s rmX4_record) 3 y1 [(0, .ref (qad g 110))] 88 [] 0 0) : ∀ (f : Nat) (S19 : qS) (x20 : Int), MX4_record_l54 n9 k88 f S19 x20 = some r → qZ g p l e rmX4_record s m args below meth c (qQ g below qkI (.inr r.1) r.2 args s rmX4_record) 3 S19 [(0, .ref (qad g 110)), (2, .int (qI x20))] 54 [] 0 0 := by
  intro f
  induction f with
  | zero => intro S19 x20 hm; rw [MX4_record_l54] at hm; cases hm
  | succ f ih =>
    intro S19 x20 hm
    rw [MX4_record_l54] at hm
    have hl := C.2.2.2.2.2.2.2.2
    have hA := C.2.2.2.2.2.2.1
    refine z_iload_n C dX4_record_54 1 rfl ?_
    refine z_aload_n C dX4_record_55 0 rfl ?_
    refine gf_X4_156 C rfl dX4_record_56 ?_
    obtain ⟨h21, hm⟩ := qg_i hm
    obtain ⟨h22, hm⟩ := qg_i hm
    refine z_icmp_ge (tgt := 88) C dX4_record_59 (by decide) ⟨h21, h22⟩ (fun c23 => ?_) (fun c23 => ?_)
    · have hm := qt_i hm c23
      refine z_sub (L' := [(0, .ref (qad g 110))]) [0] rfl ?_
      exact hk88 S19 hm
    · have hm := qf_i hm c23
      refine z_aload_n C dX4_record_62 0 rfl ?_
      refine gf_X4_28 C rfl dX4_record_63 ?_
      refine z_aload_n C dX4_record_66 0 rfl ?_
      refine gf_X4_13 C rfl dX4_record_67 ?_
      refine z_iload_n C dX4_record_70 1 rfl ?_
      obtain ⟨h24, hm⟩ := qg_i hm
      refine z_iald (N := 30) C rfl h24 (by decide) dX4_record_71 ?_
      refine z_aload_n C dX4_record_72 0 rfl ?_
      refine gf_X4_16 C rfl dX4_record_73 ?_
      refine z_iload_n C dX4_record_76 1 rfl ?_
      obtain ⟨h25, hm⟩ := qg_i hm
      refine z_iald (N := 30) C rfl h25 (by decide) dX4_record_77 ?_
      obtain ⟨a26, h27, hm⟩ := qb_i hm
      refine iv_X4_249 C (met_X4_rollIn l g hl hA n9 S19 117 (S19 112 x20.toNat) (S19 113 x20.toNat) _ h27) ⟨by decide, by decide⟩ ⟨by decide, by decide⟩ (Nat.le_of_ble_eq_true rfl) dX4_record_78 ?_
      refine z_pop C dX4_record_81 rfl ?_
      refine z_iinc (L' := [(2, .int (qI (x20 + 1))), (0, .ref (qad g 110))]) C dX4_record_82 1 rfl (by decide) rfl ?_
      refine z_goto (tgt := 54) C dX4_record_85 (by decide) ?_
      refine z_sub (L' := [(0, .ref (qad g 110)), (2, .int (qI (x20 + 1)))]) [1, 0] rfl ?_
      exact ih a26.2 (x20 + 1) hm

set_option maxHeartbeats 4000000 in
set_option maxRecDepth 100000 in
theorem met_X4_record (l : Launch) (g : qG) (hl : l.stackTraces = false) (hA : qAd g) (n9 : Nat) (S : qS) (r : Int × qS) (hm : MX4_record n9 S  = some r) : qM l g yX4_record (.code yX4_record cX4_record 3 (some .int)) rmX4_record qkI [.ref (qad g 110)] S (.inr r.1) r.2 := by
  rw [MX4_record] at hm
  refine qM_of (L := [(0, .ref (qad g 110))]) (by decide +kernel) rfl (Nat.le_of_ble_eq_true rfl) hl hA ?_
  intro p e s m below meth c C hr hT
  have C : qC g p l s m ([.ref (qad g 110)] : List Value).toArray meth c RX4 cX4_record 3 := C
  refine z_aload_n C dX4_record_0 0 rfl ?_
  obtain ⟨a1, h2, hm⟩ := qb_i hm
  refine iv_X4_193 C (met_X4_readText l g hl hA n9 S  _ h2) rfl ⟨by decide, by decide⟩ ⟨by decide, by decide⟩ (Nat.le_of_ble_eq_true rfl) dX4_record_1 ?_
  refine z_iconst (x := (-1)) C dX4_record_4 rfl ?_
  obtain ⟨h3, hm⟩ := qg_i hm
  obtain ⟨j5, e30, hm⟩ := ql_i hm
  have hj5 : ∀ (v4 : Int), j5 v4 = some r → qZ g p l e rmX4_record s m ([.ref (qad g 110)] : List Value).toArray below meth c (qQ g below qkI (.inr r.1) r.2 ([.ref (qad g 110)] : List Value).toArray s rmX4_record) 3 a1.2 [(0, .ref (qad g 110))] 29 [.int (qI v4)] 0 0 := by
    intro v4 hm
    rw [e30] at hm
    refine z_istore_n (L' := [(1, .int (qI v4)), (0, .ref (qad g 110))]) C dX4_record_29 (by decide) rfl ?_
    refine z_aload_n C dX4_record_30 1 rfl ?_
    refine z_iload_n C dX4_record_31 0 rfl ?_
    obtain ⟨h6, hm⟩ := qg_i hm
    obtain ⟨j8, e28, hm⟩ := ql_i hm
    have hj8 : ∀ (v7 : Int), j8 v7 = some r → qZ g p l e rmX4_record s m ([.ref (qad g 110)] : List Value).toArray below meth c (qQ g below qkI (.inr r.1) r.2 ([.ref (qad g 110)] : List Value).toArray s rmX4_record) 3 a1.2 [(0, .ref (qad g 110))] 40 [.int (qI v7), .ref (qad g 110)] 0 0 := by
      intro v7 hm
      rw [e28] at hm
      obtain ⟨a9, h10, hm⟩ := qb_i hm
      refine iv_X4_134 C (met_X4_refused l g hl hA n9 a1.2 v7 _ h10) rfl ⟨by decide, by decide⟩ ⟨by decide, by decide⟩ (Nat.le_of_ble_eq_true rfl) dX4_record_40 ?_
      obtain ⟨h11, hm⟩ := qg_i hm
      refine z_if_eq (tgt := 48) C dX4_record_43 (by decide) h11 (fun c12 => ?_) (fun c12 => ?_)
      · have hm := qt_i hm c12
        refine z_aload_n C dX4_record_48 0 rfl ?_
        obtain ⟨a13, h14, hm⟩ := qb_i hm
        refine iv_X4_246 C (met_X4_remember l g hl hA n9 a9.2  _ h14) rfl ⟨by decide, by decide⟩ ⟨by decide, by decide⟩ (Nat.le_of_ble_eq_true rfl) dX4_record_49 ?_
        refine z_iconst (x := 0) C dX4_record_52 rfl ?_
        refine z_istore_n (L' := [(2, .int (qI 0)), (0, .ref (qad g 110))]) C dX4_record_53 (by decide) rfl ?_
        obtain ⟨j16, e18, hm⟩ := ql_i hm
        have hj16 : ∀ (S15 : qS), j16 S15 = some r → qZ g p l e rmX4_record s m ([.ref (qad g 110)] : List Value).toArray below meth c (qQ g below qkI (.inr r.1) r.2 ([.ref (qad g 110)] : List Value).toArray s rmX4_record) 3 S15 [(0, .ref (qad g 110))] 88 [] 0 0 := by
          intro S15 hm
          rw [e18] at hm
          refine z_aload_n C dX4_record_88 0 rfl ?_
          refine gf_X4_28 C rfl dX4_record_89 ?_
          refine z_iconst (x := 0) C dX4_record_92 rfl ?_
          obtain ⟨h17, hm⟩ := qg_i hm
          refine z_iald (N := 95) C rfl h17 (by decide) dX4_record_93 ?_
          exact z_iret C hr (by decide) (by decide) (by cases hm; rfl) dX4_record_94
        clear e18
        refine z_sub (L' := [(0, .ref (qad g 110)), (2, .int (qI 0))]) [1, 0] rfl ?_
        exact met_X4_record_l54 C hr hT n9 j16 hj16 n9 a13 0 hm
      · have hm := qf_i hm c12
        refine z_iconst (x := 0) C dX4_record_46 rfl ?_
        exact z_iret C hr (by decide) (by decide) (by cases hm; rfl) dX4_record_47
    clear e28
    refine z_if_eq (tgt := 39) C dX4_record_32 (by decide) h6 (fun c29 => ?_) (fun c29 => ?_)
    · have hm := qt_i hm c29
      refine z_iconst (x := 1) C dX4_record_39 rfl ?_
      refine z_sub (L' := [(0, .ref (qad g 110))]) [1] rfl ?_
      exact hj8 1 hm
    · have hm := qf_i hm c29
      refine z_iconst (x := 0) C dX4_record_35 rfl ?_
      refine z_goto (tgt := 40) C dX4_record_36 (by decide) ?_
      refine z_sub (L' := [(0, .ref (qad g 110))]) [1] rfl ?_
      exact hj8 0 hm
  clear e30
  obtain ⟨j31, e32, hm⟩ := ql_i hm
  have hj31 : j31 = some r → qZ g p l e rmX4_record s m ([.ref (qad g 110)] : List Value).toArray below meth c (qQ g below qkI (.inr r.1) r.2 ([.ref (qad g 110)] : List Value).toArray s rmX4_record) 3 a1.2 [(0, .ref (qad g 110))] 28 [] 0 0 := by
    intro  hm
    rw [e32] at hm
    refine z_iconst (x := 0) C dX4_record_28 rfl ?_
    exact hj5 0 hm
  clear e32
  refine z_icmp_ne (tgt := 28) C dX4_record_5 (by decide) ⟨h3, (by decide)⟩ (fun c33 => ?_) (fun c33 => ?_)
  · have hm := qt_i hm c33
    refine z_aload_n C dX4_record_8 0 rfl ?_
    refine gf_X4_28 C rfl dX4_record_9 ?_
    refine z_iconst (x := 0) C dX4_record_12 rfl ?_
    obtain ⟨h34, hm⟩ := qg_i hm
    refine z_iald (N := 95) C rfl h34 (by decide) dX4_record_13 ?_
    refine z_aload_n C dX4_record_14 0 rfl ?_
    refine gf_X4_156 C rfl dX4_record_15 ?_
    refine z_iadd C dX4_record_18 ?_
    refine z_bipush (x := 30) C dX4_record_19 (by decide +kernel) ?_
    obtain ⟨h35, hm⟩ := qg_i hm
    refine z_icmp_gt (tgt := 28) C dX4_record_21 (by decide) ⟨h35, (by decide)⟩ (fun c36 => ?_) (fun c36 => ?_)
    · have hm := qt_i hm c36
      exact hj31  hm
    · have hm := qf_i hm c36
      refine z_iconst (x := 1) C dX4_record_24 rfl ?_
      refine z_goto (tgt := 29) C dX4_record_25 (by decide) ?_
      exact hj5 1 hm
  · have hm := qf_i hm c33
    exact hj31  hm

set_option maxHeartbeats 4000000 in
set_option maxRecDepth 100000 in
theorem met_X4_strike (l : Launch) (g : qG) (hl : l.stackTraces = false) (hA : qAd g) (n9 : Nat) (S : qS) (p1 : Int) (r : Int × qS) (hm : MX4_strike n9 S p1 = some r) : qM l g yX4_strike (.code yX4_strike cX4_strike 2 (some .int)) rmX4_strike qkI [.ref (qad g 110), .int (qI p1)] S (.inr r.1) r.2 := by
  rw [MX4_strike] at hm
  refine qM_of (L := [(0, .ref (qad g 110)), (1, .int (qI p1))]) (by decide +kernel) rfl (Nat.le_of_ble_eq_true rfl) hl hA ?_
  intro p e s m below meth c C hr hT
  have C : qC g p l s m ([.ref (qad g 110), .int (qI p1)] : List Value).toArray meth c RX4 cX4_strike 2 := C
  refine z_aload_n C dX4_strike_0 0 rfl ?_
  refine z_aload_n C dX4_strike_1 0 rfl ?_
  refine z_iload_n C dX4_strike_2 1 rfl ?_
  obtain ⟨a1, h2, hm⟩ := qb_i hm
  refine iv_X4_211 C (met_X4_isAxle l g hl hA n9 S p1 _ h2) rfl ⟨by decide, by decide⟩ ⟨by decide, by decide⟩ (Nat.le_of_ble_eq_true rfl) dX4_strike_3 ?_
  obtain ⟨h3, hm⟩ := qg_i hm
  obtain ⟨j5, e14, hm⟩ := ql_i hm
  have hj5 : ∀ (v4 : Int), j5 v4 = some r → qZ g p l e rmX4_strike s m ([.ref (qad g 110), .int (qI p1)] : List Value).toArray below meth c (qQ g below qkI (.inr r.1) r.2 ([.ref (qad g 110), .int (qI p1)] : List Value).toArray s rmX4_strike) 2 S [(0, .ref (qad g 110)), (1, .int (qI p1))] 14 [.int (qI v4), .ref (qad g 110)] 0 0 := by
    intro v4 hm
    rw [e14] at hm
    obtain ⟨a6, h7, hm⟩ := qb_i hm
    refine iv_X4_134 C (met_X4_refused l g hl hA n9 S v4 _ h7) rfl ⟨by decide, by decide⟩ ⟨by decide, by decide⟩ (Nat.le_of_ble_eq_true rfl) dX4_strike_14 ?_
    obtain ⟨h8, hm⟩ := qg_i hm
    refine z_if_eq (tgt := 22) C dX4_strike_17 (by decide) h8 (fun c9 => ?_) (fun c9 => ?_)
    · have hm := qt_i hm c9
      refine z_aload_n C dX4_strike_22 0 rfl ?_
      obtain ⟨a10, h11, hm⟩ := qb_i hm
      refine iv_X4_246 C (met_X4_remember l g hl hA n9 a6.2  _ h11) rfl ⟨by decide, by decide⟩ ⟨by decide, by decide⟩ (Nat.le_of_ble_eq_true rfl) dX4_strike_23 ?_
      refine z_aload_n C dX4_strike_26 0 rfl ?_
      refine gf_X4_28 C rfl dX4_strike_27 ?_
      refine z_iload_n C dX4_strike_30 1 rfl ?_
      obtain ⟨a12, h13, hm⟩ := qb_i hm
      refine iv_X4_252 C (met_X4_strikeIn l g hl hA n9 a10 117 p1 _ h13) ⟨by decide, by decide⟩ ⟨by decide, by decide⟩ (Nat.le_of_ble_eq_true rfl) dX4_strike_31 ?_
      exact z_iret C hr (by decide) (by decide) (by cases hm; rfl) dX4_strike_34
    · have hm := qf_i hm c9
      refine z_iconst (x := 0) C dX4_strike_20 rfl ?_
      exact z_iret C hr (by decide) (by decide) (by cases hm; rfl) dX4_strike_21
  clear e14
  refine z_if_eq (tgt := 13) C dX4_strike_6 (by decide) h3 (fun c15 => ?_) (fun c15 => ?_)
  · have hm := qt_i hm c15
    refine z_iconst (x := 1) C dX4_strike_13 rfl ?_
    exact hj5 1 hm
  · have hm := qf_i hm c15
    refine z_iconst (x := 0) C dX4_strike_9 rfl ?_
    refine z_goto (tgt := 14) C dX4_strike_10 (by decide) ?_
    exact hj5 0 hm

set_option maxHeartbeats 4000000 in
set_option maxRecDepth 100000 in
theorem met_X4_weigh (l : Launch) (g : qG) (hl : l.stackTraces = false) (hA : qAd g) (n9 : Nat) (S : qS) (p1 : Int) (p2 : Int) (r : Int × qS) (hm : MX4_weigh n9 S p1 p2 = some r) : qM l g yX4_weigh (.code yX4_weigh cX4_weigh 4 (some .int)) rmX4_weigh qkI [.ref (qad g 110), .int (qI p1), .int (qI p2)] S (.inr r.1) r.2 := by
  rw [MX4_weigh] at hm
  refine qM_of (L := [(0, .ref (qad g 110)), (1, .int (qI p1)), (2, .int (qI p2))]) (by decide +kernel) rfl (Nat.le_of_ble_eq_true rfl) hl hA ?_
  intro p e s m below meth c C hr hT
  have C : qC g p l s m ([.ref (qad g 110), .int (qI p1), .int (qI p2)] : List Value).toArray meth c RX4 cX4_weigh 4 := C
  refine z_aload_n C dX4_weigh_0 0 rfl ?_
  refine z_aload_n C dX4_weigh_1 0 rfl ?_
  refine z_iload_n C dX4_weigh_2 1 rfl ?_
  obtain ⟨a1, h2, hm⟩ := qb_i hm
  refine iv_X4_211 C (met_X4_isAxle l g hl hA n9 S p1 _ h2) rfl ⟨by decide, by decide⟩ ⟨by decide, by decide⟩ (Nat.le_of_ble_eq_true rfl) dX4_weigh_3 ?_
  obtain ⟨h3, hm⟩ := qg_i hm
  obtain ⟨j5, e18, hm⟩ := ql_i hm
  have hj5 : ∀ (v4 : Int), j5 v4 = some r → qZ g p l e rmX4_weigh s m ([.ref (qad g 110), .int (qI p1), .int (qI p2)] : List Value).toArray below meth c (qQ g below qkI (.inr r.1) r.2 ([.ref (qad g 110), .int (qI p1), .int (qI p2)] : List Value).toArray s rmX4_weigh) 4 S [(0, .ref (qad g 110)), (1, .int (qI p1)), (2, .int (qI p2))] 25 [.int (qI v4), .ref (qad g 110)] 0 0 := by
    intro v4 hm
    rw [e18] at hm
    obtain ⟨a6, h7, hm⟩ := qb_i hm
    refine iv_X4_134 C (met_X4_refused l g hl hA n9 S v4 _ h7) rfl ⟨by decide, by decide⟩ ⟨by decide, by decide⟩ (Nat.le_of_ble_eq_true rfl) dX4_weigh_25 ?_
    obtain ⟨h8, hm⟩ := qg_i hm
    refine z_if_eq (tgt := 33) C dX4_weigh_28 (by decide) h8 (fun c9 => ?_) (fun c9 => ?_)
    · have hm := qt_i hm c9
      refine z_aload_n C dX4_weigh_33 0 rfl ?_
      obtain ⟨a10, h11, hm⟩ := qb_i hm
      refine iv_X4_246 C (met_X4_remember l g hl hA n9 a6.2  _ h11) rfl ⟨by decide, by decide⟩ ⟨by decide, by decide⟩ (Nat.le_of_ble_eq_true rfl) dX4_weigh_34 ?_
      refine z_aload_n C dX4_weigh_37 0 rfl ?_
      refine gf_X4_28 C rfl dX4_weigh_38 ?_
      refine z_bipush (x := 65) C dX4_weigh_41 (by decide +kernel) ?_
      refine z_iload_n C dX4_weigh_43 1 rfl ?_
      refine z_iadd C dX4_weigh_44 ?_
      obtain ⟨h12, hm⟩ := qg_i hm
      refine z_iald (N := 95) C rfl h12 (by decide) dX4_weigh_45 ?_
      obtain ⟨x13, e14, hm⟩ := ql_i hm
      refine z_topi e14 ?_
      refine z_istore_n (L' := [(3, .int (qI x13)), (0, .ref (qad g 110)), (1, .int (qI p1)), (2, .int (qI p2))]) C dX4_weigh_46 (by decide) rfl ?_
      refine z_aload_n C dX4_weigh_47 1 rfl ?_
      refine gf_X4_28 C rfl dX4_weigh_48 ?_
      refine z_bipush (x := 65) C dX4_weigh_51 (by decide +kernel) ?_
      refine z_iload_n C dX4_weigh_53 2 rfl ?_
      refine z_iadd C dX4_weigh_54 ?_
      refine z_iload_n C dX4_weigh_55 3 rfl ?_
      obtain ⟨h15, hm⟩ := qg_i hm
      refine z_iast (N := 95) C rfl h15 (by decide) dX4_weigh_56 ?_
      obtain ⟨S16, e17, hm⟩ := ql_i hm
      refine z_S e17 ?_
      refine z_iload_n C dX4_weigh_57 0 rfl ?_
      exact z_iret C hr (by decide) (by decide) (by cases hm; rfl) dX4_weigh_58
    · have hm := qf_i hm c9
      refine z_iconst (x := 0) C dX4_weigh_31 rfl ?_
      exact z_iret C hr (by decide) (by decide) (by cases hm; rfl) dX4_weigh_32
  clear e18
  refine z_if_ne (tgt := 13) C dX4_weigh_6 (by decide) h3 (fun c19 => ?_) (fun c19 => ?_)
  · have hm := qt_i hm c19
    refine z_iconst (x := 1) C dX4_weigh_9 rfl ?_
    refine z_goto (tgt := 25) C dX4_weigh_10 (by decide) ?_
    exact hj5 1 hm
  · have hm := qf_i hm c19
    refine z_iload_n C dX4_weigh_13 2 rfl ?_
    obtain ⟨a20, h21, hm⟩ := qb_i hm
    refine iv_X4_243 C (met_X4_isWeight l g hl hA n9 S p2 _ h21) ⟨by decide, by decide⟩ ⟨by decide, by decide⟩ (Nat.le_of_ble_eq_true rfl) dX4_weigh_14 ?_
    obtain ⟨h22, hm⟩ := qg_i hm
    refine z_if_eq (tgt := 24) C dX4_weigh_17 (by decide) h22 (fun c23 => ?_) (fun c23 => ?_)
    · have hm := qt_i hm c23
      refine z_iconst (x := 2) C dX4_weigh_24 rfl ?_
      exact hj5 2 hm
    · have hm := qf_i hm c23
      refine z_iconst (x := 0) C dX4_weigh_20 rfl ?_
      refine z_goto (tgt := 25) C dX4_weigh_21 (by decide) ?_
      exact hj5 0 hm

set_option maxHeartbeats 4000000 in
set_option maxRecDepth 100000 in
theorem met_X4_bill (l : Launch) (g : qG) (hl : l.stackTraces = false) (hA : qAd g) (n9 : Nat) (S : qS) (p1 : Int) (p2 : Int) (r : Int × qS) (hm : MX4_bill n9 S p1 p2 = some r) : qM l g yX4_bill (.code yX4_bill cX4_bill 4 (some .int)) rmX4_bill qkI [.ref (qad g 110), .int (qI p1), .int (qI p2)] S (.inr r.1) r.2 := by
  rw [MX4_bill] at hm
  refine qM_of (L := [(0, .ref (qad g 110)), (1, .int (qI p1)), (2, .int (qI p2))]) (by decide +kernel) rfl (Nat.le_of_ble_eq_true rfl) hl hA ?_
  intro p e s m below meth c C hr hT
  have C : qC g p l s m ([.ref (qad g 110), .int (qI p1), .int (qI p2)] : List Value).toArray meth c RX4 cX4_bill 4 := C
  refine z_aload_n C dX4_bill_0 0 rfl ?_
  refine z_iload_n C dX4_bill_1 1 rfl ?_
  obtain ⟨h1, hm⟩ := qg_i hm
  refine z_i2l C dX4_bill_2 h1 ?_
  refine z_lconst (x := 0) C dX4_bill_3 (by decide +kernel) ?_
  refine z_ldc2 (x := 29) C dX4_bill_4 qct_X4_255 (by decide +kernel) ?_
  obtain ⟨a2, h3, hm⟩ := qb_i hm
  refine iv_X4_118 C (met_X4_in l g hl hA n9 S p1 0 29 _ h3) ⟨by decide, by decide⟩ ⟨by decide, by decide⟩ (Nat.le_of_ble_eq_true rfl) dX4_bill_7 ?_
  obtain ⟨h4, hm⟩ := qg_i hm
  obtain ⟨j6, e21, hm⟩ := ql_i hm
  have hj6 : ∀ (v5 : Int), j6 v5 = some r → qZ g p l e rmX4_bill s m ([.ref (qad g 110), .int (qI p1), .int (qI p2)] : List Value).toArray below meth c (qQ g below qkI (.inr r.1) r.2 ([.ref (qad g 110), .int (qI p1), .int (qI p2)] : List Value).toArray s rmX4_bill) 4 S [(0, .ref (qad g 110)), (1, .int (qI p1)), (2, .int (qI p2))] 30 [.int (qI v5), .ref (qad g 110)] 0 0 := by
    intro v5 hm
    rw [e21] at hm
    obtain ⟨a7, h8, hm⟩ := qb_i hm
    refine iv_X4_134 C (met_X4_refused l g hl hA n9 S v5 _ h8) rfl ⟨by decide, by decide⟩ ⟨by decide, by decide⟩ (Nat.le_of_ble_eq_true rfl) dX4_bill_30 ?_
    obtain ⟨h9, hm⟩ := qg_i hm
    refine z_if_eq (tgt := 38) C dX4_bill_33 (by decide) h9 (fun c10 => ?_) (fun c10 => ?_)
    · have hm := qt_i hm c10
      refine z_aload_n C dX4_bill_38 0 rfl ?_
      obtain ⟨a11, h12, hm⟩ := qb_i hm
      refine iv_X4_246 C (met_X4_remember l g hl hA n9 a7.2  _ h12) rfl ⟨by decide, by decide⟩ ⟨by decide, by decide⟩ (Nat.le_of_ble_eq_true rfl) dX4_bill_39 ?_
      refine z_aload_n C dX4_bill_42 0 rfl ?_
      refine gf_X4_28 C rfl dX4_bill_43 ?_
      refine z_iconst (x := 5) C dX4_bill_46 rfl ?_
      refine z_iload_n C dX4_bill_47 1 rfl ?_
      refine z_iadd C dX4_bill_48 ?_
      obtain ⟨h13, hm⟩ := qg_i hm
      refine z_iald (N := 95) C rfl h13 (by decide) dX4_bill_49 ?_
      obtain ⟨x14, e15, hm⟩ := ql_i hm
      refine z_topi e15 ?_
      refine z_istore_n (L' := [(3, .int (qI x14)), (0, .ref (qad g 110)), (1, .int (qI p1)), (2, .int (qI p2))]) C dX4_bill_50 (by decide) rfl ?_
      refine z_aload_n C dX4_bill_51 1 rfl ?_
      refine gf_X4_28 C rfl dX4_bill_52 ?_
      refine z_iconst (x := 5) C dX4_bill_55 rfl ?_
      refine z_iload_n C dX4_bill_56 2 rfl ?_
      refine z_iadd C dX4_bill_57 ?_
      refine z_iload_n C dX4_bill_58 3 rfl ?_
      obtain ⟨h16, hm⟩ := qg_i hm
      refine z_iast (N := 95) C rfl h16 (by decide) dX4_bill_59 ?_
      obtain ⟨S17, e18, hm⟩ := ql_i hm
      refine z_S e18 ?_
      refine z_iload_n C dX4_bill_60 0 rfl ?_
      obtain ⟨h19, hm⟩ := qg_i hm
      refine z_if_le (tgt := 68) C dX4_bill_61 (by decide) h19 (fun c20 => ?_) (fun c20 => ?_)
      · have hm := qt_i hm c20
        refine z_iconst (x := (-1)) C dX4_bill_68 rfl ?_
        exact z_iret C hr (by decide) (by decide) (by cases hm; rfl) dX4_bill_69
      · have hm := qf_i hm c20
        refine z_iload_n C dX4_bill_64 0 rfl ?_
        refine z_goto (tgt := 69) C dX4_bill_65 (by decide) ?_
        exact z_iret C hr (by decide) (by decide) (by cases hm; rfl) dX4_bill_69
    · have hm := qf_i hm c10
      refine z_iconst (x := 0) C dX4_bill_36 rfl ?_
      exact z_iret C hr (by decide) (by decide) (by cases hm; rfl) dX4_bill_37
  clear e21
  obtain ⟨j22, e23, hm⟩ := ql_i hm
  have hj22 : j22 = some r → qZ g p l e rmX4_bill s m ([.ref (qad g 110), .int (qI p1), .int (qI p2)] : List Value).toArray below meth c (qQ g below qkI (.inr r.1) r.2 ([.ref (qad g 110), .int (qI p1), .int (qI p2)] : List Value).toArray s rmX4_bill) 4 S [(0, .ref (qad g 110)), (1, .int (qI p1)), (2, .int (qI p2))] 29 [.ref (qad g 110)] 0 0 := by
    intro  hm
    rw [e23] at hm
    refine z_iconst (x := 1) C dX4_bill_29 rfl ?_
    exact hj6 1 hm
  clear e23
  refine z_if_eq (tgt := 29) C dX4_bill_10 (by decide) h4 (fun c24 => ?_) (fun c24 => ?_)
  · have hm := qt_i hm c24
    exact hj22  hm
  · have hm := qf_i hm c24
    refine z_iload_n C dX4_bill_13 2 rfl ?_
    obtain ⟨h25, hm⟩ := qg_i hm
    refine z_i2l C dX4_bill_14 h25 ?_
    refine z_lconst (x := 0) C dX4_bill_15 (by decide +kernel) ?_
    refine z_ldc2 (x := 9999) C dX4_bill_16 qct_X4_257 (by decide +kernel) ?_
    obtain ⟨a26, h27, hm⟩ := qb_i hm
    refine iv_X4_118 C (met_X4_in l g hl hA n9 S p2 0 9999 _ h27) ⟨by decide, by decide⟩ ⟨by decide, by decide⟩ (Nat.le_of_ble_eq_true rfl) dX4_bill_19 ?_
    obtain ⟨h28, hm⟩ := qg_i hm
    refine z_if_eq (tgt := 29) C dX4_bill_22 (by decide) h28 (fun c29 => ?_) (fun c29 => ?_)
    · have hm := qt_i hm c29
      exact hj22  hm
    · have hm := qf_i hm c29
      refine z_iconst (x := 0) C dX4_bill_25 rfl ?_
      refine z_goto (tgt := 30) C dX4_bill_26 (by decide) ?_
      exact hj6 0 hm

set_option maxHeartbeats 4000000 in
set_option maxRecDepth 100000 in
theorem met_X4_isSetting (l : Launch) (g : qG) (hl : l.stackTraces = false) (hA : qAd g) (n9 : Nat) (S : qS) (p0 : Int) (p1 : Int) (r : Int) (hm : MX4_isSetting n9 S p0 p1 = some r) : qM l g yX4_isSetting (.code yX4_isSetting cX4_isSetting 2 (some .boolean)) rmX4_isSetting qkI [.int (qI p0), .int (qI p1)] S (.inr r) S := by
  rw [MX4_isSetting] at hm
  refine qM_of (L := [(0, .int (qI p0)), (1, .int (qI p1))]) (by decide +kernel) rfl (Nat.le_of_ble_eq_true rfl) hl hA ?_
  intro p e s m below meth c C hr hT
  have C : qC g p l s m ([.int (qI p0), .int (qI p1)] : List Value).toArray meth c RX4 cX4_isSetting 2 := C
  refine z_iload_n C dX4_isSetting_0 0 rfl ?_
  obtain ⟨h1, hm⟩ := qg_i hm
  obtain ⟨j2, e3, hm⟩ := ql_i hm
  have hj2 : j2 = some r → qZ g p l e rmX4_isSetting s m ([.int (qI p0), .int (qI p1)] : List Value).toArray below meth c (qQ g below qkI (.inr r) S ([.int (qI p0), .int (qI p1)] : List Value).toArray s rmX4_isSetting) 2 S [] 69 [] 0 0 := by
    intro  hm
    rw [e3] at hm
    refine z_iconst (x := 1) C dX4_isSetting_69 rfl ?_
    refine z_goto (tgt := 74) C dX4_isSetting_70 (by decide) ?_
    exact z_zret C hr (by decide) (by decide) (by decide) (by cases hm; rfl) dX4_isSetting_74
  clear e3
  obtain ⟨j4, e27, hm⟩ := ql_i hm
  have hj4 : j4 = some r → qZ g p l e rmX4_isSetting s m ([.int (qI p0), .int (qI p1)] : List Value).toArray below meth c (qQ g below qkI (.inr r) S ([.int (qI p0), .int (qI p1)] : List Value).toArray s rmX4_isSetting) 2 S [(0, .int (qI p0)), (1, .int (qI p1))] 16 [] 0 0 := by
    intro  hm
    rw [e27] at hm
    refine z_iload_n C dX4_isSetting_16 0 rfl ?_
    refine z_iconst (x := 1) C dX4_isSetting_17 rfl ?_
    obtain ⟨j5, e20, hm⟩ := ql_i hm
    have hj5 : j5 = some r → qZ g p l e rmX4_isSetting s m ([.int (qI p0), .int (qI p1)] : List Value).toArray below meth c (qQ g below qkI (.inr r) S ([.int (qI p0), .int (qI p1)] : List Value).toArray s rmX4_isSetting) 2 S [(0, .int (qI p0)), (1, .int (qI p1))] 33 [] 0 0 := by
      intro  hm
      rw [e20] at hm
      refine z_iload_n C dX4_isSetting_33 0 rfl ?_
      refine z_iconst (x := 2) C dX4_isSetting_34 rfl ?_
      obtain ⟨j6, e13, hm⟩ := ql_i hm
      have hj6 : j6 = some r → qZ g p l e rmX4_isSetting s m ([.int (qI p0), .int (qI p1)] : List Value).toArray below meth c (qQ g below qkI (.inr r) S ([.int (qI p0), .int (qI p1)] : List Value).toArray s rmX4_isSetting) 2 S [(0, .int (qI p0)), (1, .int (qI p1))] 50 [] 0 0 := by
        intro  hm
        rw [e13] at hm
        refine z_iload_n C dX4_isSetting_50 0 rfl ?_
        refine z_iconst (x := 3) C dX4_isSetting_51 rfl ?_
        refine z_icmp_ne (tgt := 73) C dX4_isSetting_52 (by decide) ⟨h1, (by decide)⟩ (fun c7 => ?_) (fun c7 => ?_)
        · have hm := qt_i hm c7
          refine z_iload_n C dX4_isSetting_55 1 rfl ?_
          obtain ⟨h8, hm⟩ := qg_i hm
          refine z_i2l C dX4_isSetting_56 h8 ?_
          refine z_ldc2 (x := 2) C dX4_isSetting_57 qct_X4_177 (by decide +kernel) ?_
          refine z_ldc2 (x := 60) C dX4_isSetting_60 qct_X4_236 (by decide +kernel) ?_
          obtain ⟨a9, h10, hm⟩ := qb_i hm
          refine iv_X4_118 C (met_X4_in l g hl hA n9 S p1 2 60 _ h10) ⟨by decide, by decide⟩ ⟨by decide, by decide⟩ (Nat.le_of_ble_eq_true rfl) dX4_isSetting_63 ?_
          obtain ⟨h11, hm⟩ := qg_i hm
          refine z_if_eq (tgt := 73) C dX4_isSetting_66 (by decide) h11 (fun c12 => ?_) (fun c12 => ?_)
          · have hm := qt_i hm c12
            refine z_iconst (x := 0) C dX4_isSetting_73 rfl ?_
            exact z_zret C hr (by decide) (by decide) (by decide) (by cases hm; rfl) dX4_isSetting_74
          · have hm := qf_i hm c12
            refine z_sub (L' := []) [] rfl ?_
            exact hj2  hm
        · have hm := qf_i hm c7
          refine z_iconst (x := 0) C dX4_isSetting_73 rfl ?_
          exact z_zret C hr (by decide) (by decide) (by decide) (by cases hm; rfl) dX4_isSetting_74
      clear e13
      refine z_icmp_ne (tgt := 50) C dX4_isSetting_35 (by decide) ⟨h1, (by decide)⟩ (fun c14 => ?_) (fun c14 => ?_)
      · have hm := qt_i hm c14
        refine z_iload_n C dX4_isSetting_38 1 rfl ?_
        obtain ⟨h15, hm⟩ := qg_i hm
        refine z_i2l C dX4_isSetting_39 h15 ?_
        refine z_lconst (x := 0) C dX4_isSetting_40 (by decide +kernel) ?_
        refine z_ldc2 (x := 60) C dX4_isSetting_41 qct_X4_236 (by decide +kernel) ?_
        obtain ⟨a16, h17, hm⟩ := qb_i hm
        refine iv_X4_118 C (met_X4_in l g hl hA n9 S p1 0 60 _ h17) ⟨by decide, by decide⟩ ⟨by decide, by decide⟩ (Nat.le_of_ble_eq_true rfl) dX4_isSetting_44 ?_
        obtain ⟨h18, hm⟩ := qg_i hm
        refine z_if_ne (tgt := 69) C dX4_isSetting_47 (by decide) h18 (fun c19 => ?_) (fun c19 => ?_)
        · have hm := qt_i hm c19
          exact hj6  hm
        · have hm := qf_i hm c19
          refine z_sub (L' := []) [] rfl ?_
          exact hj2  hm
      · have hm := qf_i hm c14
        exact hj6  hm
    clear e20
    refine z_icmp_ne (tgt := 33) C dX4_isSetting_18 (by decide) ⟨h1, (by decide)⟩ (fun c21 => ?_) (fun c21 => ?_)
    · have hm := qt_i hm c21
      refine z_iload_n C dX4_isSetting_21 1 rfl ?_
      obtain ⟨h22, hm⟩ := qg_i hm
      refine z_i2l C dX4_isSetting_22 h22 ?_
      refine z_lconst (x := 1) C dX4_isSetting_23 (by decide +kernel) ?_
      refine z_ldc2 (x := 40) C dX4_isSetting_24 qct_X4_261 (by decide +kernel) ?_
      obtain ⟨a23, h24, hm⟩ := qb_i hm
      refine iv_X4_118 C (met_X4_in l g hl hA n9 S p1 1 40 _ h24) ⟨by decide, by decide⟩ ⟨by decide, by decide⟩ (Nat.le_of_ble_eq_true rfl) dX4_isSetting_27 ?_
      obtain ⟨h25, hm⟩ := qg_i hm
      refine z_if_ne (tgt := 69) C dX4_isSetting_30 (by decide) h25 (fun c26 => ?_) (fun c26 => ?_)
      · have hm := qt_i hm c26
        exact hj5  hm
      · have hm := qf_i hm c26
        refine z_sub (L' := []) [] rfl ?_
        exact hj2  hm
    · have hm := qf_i hm c21
      exact hj5  hm
  clear e27
  refine z_if_ne (tgt := 16) C dX4_isSetting_1 (by decide) h1 (fun c28 => ?_) (fun c28 => ?_)
  · have hm := qt_i hm c28
    refine z_iload_n C dX4_isSetting_4 1 rfl ?_
    obtain ⟨h29, hm⟩ := qg_i hm
    refine z_i2l C dX4_isSetting_5 h29 ?_
    refine z_lconst (x := 1) C dX4_isSetting_6 (by decide +kernel) ?_
    refine z_ldc2 (x := 20) C dX4_isSetting_7 qct_X4_259 (by decide +kernel) ?_
    obtain ⟨a30, h31, hm⟩ := qb_i hm
    refine iv_X4_118 C (met_X4_in l g hl hA n9 S p1 1 20 _ h31) ⟨by decide, by decide⟩ ⟨by decide, by decide⟩ (Nat.le_of_ble_eq_true rfl) dX4_isSetting_10 ?_
    obtain ⟨h32, hm⟩ := qg_i hm
    refine z_if_ne (tgt := 69) C dX4_isSetting_13 (by decide) h32 (fun c33 => ?_) (fun c33 => ?_)
    · have hm := qt_i hm c33
      exact hj4  hm
    · have hm := qf_i hm c33
      refine z_sub (L' := []) [] rfl ?_
      exact hj2  hm
  · have hm := qf_i hm c28
    exact hj4  hm

set_option maxHeartbeats 4000000 in
set_option maxRecDepth 100000 in
theorem met_X4_set (l : Launch) (g : qG) (hl : l.stackTraces = false) (hA : qAd g) (n9 : Nat) (S : qS) (p1 : Int) (p2 : Int) (r : Int × qS) (hm : MX4_set n9 S p1 p2 = some r) : qM l g yX4_set (.code yX4_set cX4_set 4 (some .int)) rmX4_set qkI [.ref (qad g 110), .int (qI p1), .int (qI p2)] S (.inr r.1) r.2 := by
  rw [MX4_set] at hm
  refine qM_of (L := [(0, .ref (qad g 110)), (1, .int (qI p1)), (2, .int (qI p2))]) (by decide +kernel) rfl (Nat.le_of_ble_eq_true rfl) hl hA ?_
  intro p e s m below meth c C hr hT
  have C : qC g p l s m ([.ref (qad g 110), .int (qI p1), .int (qI p2)] : List Value).toArray meth c RX4 cX4_set 4 := C
  refine z_aload_n C dX4_set_0 0 rfl ?_
  refine z_iload_n C dX4_set_1 1 rfl ?_
  refine z_iload_n C dX4_set_2 2 rfl ?_
  obtain ⟨a1, h2, hm⟩ := qb_i hm
  refine iv_X4_263 C (met_X4_isSetting l g hl hA n9 S p1 p2 _ h2) ⟨by decide, by decide⟩ ⟨by decide, by decide⟩ (Nat.le_of_ble_eq_true rfl) dX4_set_3 ?_
  obtain ⟨h3, hm⟩ := qg_i hm
  obtain ⟨j5, e18, hm⟩ := ql_i hm
  have hj5 : ∀ (v4 : Int), j5 v4 = some r → qZ g p l e rmX4_set s m ([.ref (qad g 110), .int (qI p1), .int (qI p2)] : List Value).toArray below meth c (qQ g below qkI (.inr r.1) r.2 ([.ref (qad g 110), .int (qI p1), .int (qI p2)] : List Value).toArray s rmX4_set) 4 S [(0, .ref (qad g 110)), (1, .int (qI p1)), (2, .int (qI p2))] 14 [.int (qI v4), .ref (qad g 110)] 0 0 := by
    intro v4 hm
    rw [e18] at hm
    obtain ⟨a6, h7, hm⟩ := qb_i hm
    refine iv_X4_134 C (met_X4_refused l g hl hA n9 S v4 _ h7) rfl ⟨by decide, by decide⟩ ⟨by decide, by decide⟩ (Nat.le_of_ble_eq_true rfl) dX4_set_14 ?_
    obtain ⟨h8, hm⟩ := qg_i hm
    refine z_if_eq (tgt := 22) C dX4_set_17 (by decide) h8 (fun c9 => ?_) (fun c9 => ?_)
    · have hm := qt_i hm c9
      refine z_aload_n C dX4_set_22 0 rfl ?_
      obtain ⟨a10, h11, hm⟩ := qb_i hm
      refine iv_X4_246 C (met_X4_remember l g hl hA n9 a6.2  _ h11) rfl ⟨by decide, by decide⟩ ⟨by decide, by decide⟩ (Nat.le_of_ble_eq_true rfl) dX4_set_23 ?_
      refine z_aload_n C dX4_set_26 0 rfl ?_
      refine gf_X4_28 C rfl dX4_set_27 ?_
      refine z_iconst (x := 1) C dX4_set_30 rfl ?_
      refine z_iload_n C dX4_set_31 1 rfl ?_
      refine z_iadd C dX4_set_32 ?_
      obtain ⟨h12, hm⟩ := qg_i hm
      refine z_iald (N := 95) C rfl h12 (by decide) dX4_set_33 ?_
      obtain ⟨x13, e14, hm⟩ := ql_i hm
      refine z_topi e14 ?_
      refine z_istore_n (L' := [(3, .int (qI x13)), (0, .ref (qad g 110)), (1, .int (qI p1)), (2, .int (qI p2))]) C dX4_set_34 (by decide) rfl ?_
      refine z_aload_n C dX4_set_35 1 rfl ?_
      refine gf_X4_28 C rfl dX4_set_36 ?_
      refine z_iconst (x := 1) C dX4_set_39 rfl ?_
      refine z_iload_n C dX4_set_40 2 rfl ?_
      refine z_iadd C dX4_set_41 ?_
      refine z_iload_n C dX4_set_42 3 rfl ?_
      obtain ⟨h15, hm⟩ := qg_i hm
      refine z_iast (N := 95) C rfl h15 (by decide) dX4_set_43 ?_
      obtain ⟨S16, e17, hm⟩ := ql_i hm
      refine z_S e17 ?_
      refine z_iload_n C dX4_set_44 0 rfl ?_
      exact z_iret C hr (by decide) (by decide) (by cases hm; rfl) dX4_set_45
    · have hm := qf_i hm c9
      refine z_iconst (x := 0) C dX4_set_20 rfl ?_
      exact z_iret C hr (by decide) (by decide) (by cases hm; rfl) dX4_set_21
  clear e18
  refine z_if_eq (tgt := 13) C dX4_set_6 (by decide) h3 (fun c19 => ?_) (fun c19 => ?_)
  · have hm := qt_i hm c19
    refine z_iconst (x := 1) C dX4_set_13 rfl ?_
    exact hj5 1 hm
  · have hm := qf_i hm c19
    refine z_iconst (x := 0) C dX4_set_9 rfl ?_
    refine z_goto (tgt := 14) C dX4_set_10 (by decide) ?_
    exact hj5 0 hm

set_option maxHeartbeats 4000000 in
set_option maxRecDepth 100000 in
theorem met_X4_leave (l : Launch) (g : qG) (hl : l.stackTraces = false) (hA : qAd g) (n9 : Nat) (S : qS) (r : Int × qS) (hm : MX4_leave n9 S  = some r) : qM l g yX4_leave (.code yX4_leave cX4_leave 1 (some .int)) rmX4_leave qkI [.ref (qad g 110)] S (.inr r.1) r.2 := by
  rw [MX4_leave] at hm
  refine qM_of (L := [(0, .ref (qad g 110))]) (by decide +kernel) rfl (Nat.le_of_ble_eq_true rfl) hl hA ?_
  intro p e s m below meth c C hr hT
  have C : qC g p l s m ([.ref (qad g 110)] : List Value).toArray meth c RX4 cX4_leave 1 := C
  refine z_aload_n C dX4_leave_0 0 rfl ?_
  refine z_aload_n C dX4_leave_1 0 rfl ?_
  refine gf_X4_28 C rfl dX4_leave_2 ?_
  refine z_iconst (x := 0) C dX4_leave_5 rfl ?_
  obtain ⟨h1, hm⟩ := qg_i hm
  refine z_iald (N := 95) C rfl h1 (by decide) dX4_leave_6 ?_
  obtain ⟨h2, hm⟩ := qg_i hm
  obtain ⟨j4, e13, hm⟩ := ql_i hm
  have hj4 : ∀ (v3 : Int), j4 v3 = some r → qZ g p l e rmX4_leave s m ([.ref (qad g 110)] : List Value).toArray below meth c (qQ g below qkI (.inr r.1) r.2 ([.ref (qad g 110)] : List Value).toArray s rmX4_leave) 1 S [(0, .ref (qad g 110))] 15 [.int (qI v3), .ref (qad g 110)] 0 0 := by
    intro v3 hm
    rw [e13] at hm
    obtain ⟨a5, h6, hm⟩ := qb_i hm
    refine iv_X4_134 C (met_X4_refused l g hl hA n9 S v3 _ h6) rfl ⟨by decide, by decide⟩ ⟨by decide, by decide⟩ (Nat.le_of_ble_eq_true rfl) dX4_leave_15 ?_
    obtain ⟨h7, hm⟩ := qg_i hm
    refine z_if_eq (tgt := 23) C dX4_leave_18 (by decide) h7 (fun c8 => ?_) (fun c8 => ?_)
    · have hm := qt_i hm c8
      refine z_aload_n C dX4_leave_23 0 rfl ?_
      obtain ⟨a9, h10, hm⟩ := qb_i hm
      refine iv_X4_246 C (met_X4_remember l g hl hA n9 a5.2  _ h10) rfl ⟨by decide, by decide⟩ ⟨by decide, by decide⟩ (Nat.le_of_ble_eq_true rfl) dX4_leave_24 ?_
      refine z_aload_n C dX4_leave_27 0 rfl ?_
      refine z_aload_n C dX4_leave_28 0 rfl ?_
      refine gf_X4_28 C rfl dX4_leave_29 ?_
      obtain ⟨a11, h12, hm⟩ := qb_i hm
      refine iv_X4_267 C (met_X4_leaveIn l g hl hA n9 a9 117 _ h12) rfl ⟨by decide, by decide⟩ ⟨by decide, by decide⟩ (Nat.le_of_ble_eq_true rfl) dX4_leave_32 ?_
      exact z_iret C hr (by decide) (by decide) (by cases hm; rfl) dX4_leave_35
    · have hm := qf_i hm c8
      refine z_iconst (x := 0) C dX4_leave_21 rfl ?_
      exact z_iret C hr (by decide) (by decide) (by cases hm; rfl) dX4_leave_22
  clear e13
  refine z_if_ne (tgt := 14) C dX4_leave_7 (by decide) h2 (fun c14 => ?_) (fun c14 => ?_)
  · have hm := qt_i hm c14
    refine z_iconst (x := 1) C dX4_leave_10 rfl ?_
    refine z_goto (tgt := 15) C dX4_leave_11 (by decide) ?_
    exact hj4 1 hm
  · have hm := qf_i hm c14
    refine z_iconst (x := 0) C dX4_leave_14 rfl ?_
    exact hj4 0 hm

set_option maxHeartbeats 4000000 in
set_option maxRecDepth 100000 in
theorem met_X4_undo (l : Launch) (g : qG) (hl : l.stackTraces = false) (hA : qAd g) (n9 : Nat) (S : qS) (r : Int × qS) (hm : MX4_undo n9 S  = some r) : qM l g yX4_undo (.code yX4_undo cX4_undo 1 (some .int)) rmX4_undo qkI [.ref (qad g 110)] S (.inr r.1) r.2 := by
  rw [MX4_undo] at hm
  refine qM_of (L := [(0, .ref (qad g 110))]) (by decide +kernel) rfl (Nat.le_of_ble_eq_true rfl) hl hA ?_
  intro p e s m below meth c C hr hT
  have C : qC g p l s m ([.ref (qad g 110)] : List Value).toArray meth c RX4 cX4_undo 1 := C
  refine z_aload_n C dX4_undo_0 0 rfl ?_
  refine z_aload_n C dX4_undo_1 0 rfl ?_
  refine gf_X4_65 C rfl dX4_undo_2 ?_
  obtain ⟨h1, hm⟩ := qg_i hm
  obtain ⟨j3, e12, hm⟩ := ql_i hm
  have hj3 : ∀ (v2 : Int), j3 v2 = some r → qZ g p l e rmX4_undo s m ([.ref (qad g 110)] : List Value).toArray below meth c (qQ g below qkI (.inr r.1) r.2 ([.ref (qad g 110)] : List Value).toArray s rmX4_undo) 1 S [(0, .ref (qad g 110))] 13 [.int (qI v2), .ref (qad g 110)] 0 0 := by
    intro v2 hm
    rw [e12] at hm
    obtain ⟨a4, h5, hm⟩ := qb_i hm
    refine iv_X4_134 C (met_X4_refused l g hl hA n9 S v2 _ h5) rfl ⟨by decide, by decide⟩ ⟨by decide, by decide⟩ (Nat.le_of_ble_eq_true rfl) dX4_undo_13 ?_
    obtain ⟨h6, hm⟩ := qg_i hm
    refine z_if_eq (tgt := 21) C dX4_undo_16 (by decide) h6 (fun c7 => ?_) (fun c7 => ?_)
    · have hm := qt_i hm c7
      refine z_aload_n C dX4_undo_21 0 rfl ?_
      refine z_dup C dX4_undo_22 rfl ?_
      refine gf_X4_65 C rfl dX4_undo_23 ?_
      refine z_iconst (x := 1) C dX4_undo_26 rfl ?_
      refine z_isub C dX4_undo_27 ?_
      refine pf_X4_65 C rfl dX4_undo_28 ?_
      obtain ⟨S8, e9, hm⟩ := ql_i hm
      refine z_S e9 ?_
      refine z_aload_n C dX4_undo_31 0 rfl ?_
      refine gf_X4_34 C rfl dX4_undo_32 ?_
      refine z_bipush (x := 95) C dX4_undo_35 (by decide +kernel) ?_
      refine z_aload_n C dX4_undo_37 0 rfl ?_
      refine gf_X4_65 C rfl dX4_undo_38 ?_
      refine z_imul C dX4_undo_41 ?_
      refine z_aload_n C dX4_undo_42 0 rfl ?_
      refine gf_X4_28 C rfl dX4_undo_43 ?_
      refine z_iconst (x := 0) C dX4_undo_46 rfl ?_
      refine z_bipush (x := 95) C dX4_undo_47 (by decide +kernel) ?_
      obtain ⟨a10, h11, hm⟩ := qb_i hm
      refine iv_X4_68 C (met_X4_copy l g hl hA n9 S8 119 (95 * (S8 110 15)) 117 0 95 _ h11) ⟨by decide, by decide⟩ ⟨by decide, by decide⟩ (Nat.le_of_ble_eq_true rfl) dX4_undo_49 ?_
      refine z_aload_n C dX4_undo_52 0 rfl ?_
      refine gf_X4_65 C rfl dX4_undo_53 ?_
      exact z_iret C hr (by decide) (by decide) (by cases hm; rfl) dX4_undo_56
    · have hm := qf_i hm c7
      refine z_iconst (x := 0) C dX4_undo_19 rfl ?_
      exact z_iret C hr (by decide) (by decide) (by cases hm; rfl) dX4_undo_20
  clear e12
  refine z_if_ne (tgt := 12) C dX4_undo_5 (by decide) h1 (fun c13 => ?_) (fun c13 => ?_)
  · have hm := qt_i hm c13
    refine z_iconst (x := 1) C dX4_undo_8 rfl ?_
    refine z_goto (tgt := 13) C dX4_undo_9 (by decide) ?_
    exact hj3 1 hm
  · have hm := qf_i hm c13
    refine z_iconst (x := 0) C dX4_undo_12 rfl ?_
    exact hj3 0 hm

set_option maxHeartbeats 4000000 in
set_option maxRecDepth 100000 in
theorem met_X4_without (l : Launch) (g : qG) (hl : l.stackTraces = false) (hA : qAd g) (n9 : Nat) (S : qS) (p1 : Int) (r : Int × qS) (hm : MX4_without n9 S p1 = some r) : qM l g yX4_without (.code yX4_without cX4_without 2 (some .int)) rmX4_without qkI [.ref (qad g 110), .int (qI p1)] S (.inr r.1) r.2 := by
  rw [MX4_without] at hm
  refine qM_of (L := [(0, .ref (qad g 110)), (1, .int (qI p1))]) (by decide +kernel) rfl (Nat.le_of_ble_eq_true rfl) hl hA ?_
  intro p e s m below meth c C hr hT
  have C : qC g p l s m ([.ref (qad g 110), .int (qI p1)] : List Value).toArray meth c RX4 cX4_without 2 := C
  refine z_aload_n C dX4_without_0 0 rfl ?_
  refine z_aload_n C dX4_without_1 0 rfl ?_
  refine z_iload_n C dX4_without_2 1 rfl ?_
  obtain ⟨a1, h2, hm⟩ := qb_i hm
  refine iv_X4_211 C (met_X4_isAxle l g hl hA n9 S p1 _ h2) rfl ⟨by decide, by decide⟩ ⟨by decide, by decide⟩ (Nat.le_of_ble_eq_true rfl) dX4_without_3 ?_
  obtain ⟨h3, hm⟩ := qg_i hm
  obtain ⟨j5, e18, hm⟩ := ql_i hm
  have hj5 : ∀ (v4 : Int), j5 v4 = some r → qZ g p l e rmX4_without s m ([.ref (qad g 110), .int (qI p1)] : List Value).toArray below meth c (qQ g below qkI (.inr r.1) r.2 ([.ref (qad g 110), .int (qI p1)] : List Value).toArray s rmX4_without) 2 S [(0, .ref (qad g 110)), (1, .int (qI p1))] 14 [.int (qI v4), .ref (qad g 110)] 0 0 := by
    intro v4 hm
    rw [e18] at hm
    obtain ⟨a6, h7, hm⟩ := qb_i hm
    refine iv_X4_134 C (met_X4_refused l g hl hA n9 S v4 _ h7) rfl ⟨by decide, by decide⟩ ⟨by decide, by decide⟩ (Nat.le_of_ble_eq_true rfl) dX4_without_14 ?_
    obtain ⟨h8, hm⟩ := qg_i hm
    refine z_if_eq (tgt := 22) C dX4_without_17 (by decide) h8 (fun c9 => ?_) (fun c9 => ?_)
    · have hm := qt_i hm c9
      refine z_aload_n C dX4_without_22 0 rfl ?_
      obtain ⟨a10, h11, hm⟩ := qb_i hm
      refine iv_X4_270 C (met_X4_tryIt l g hl hA n9 a6.2  _ h11) rfl ⟨by decide, by decide⟩ ⟨by decide, by decide⟩ (Nat.le_of_ble_eq_true rfl) dX4_without_23 ?_
      refine z_aload_n C dX4_without_26 0 rfl ?_
      refine gf_X4_31 C rfl dX4_without_27 ?_
      refine z_iload_n C dX4_without_30 1 rfl ?_
      obtain ⟨a12, h13, hm⟩ := qb_i hm
      refine iv_X4_252 C (met_X4_strikeIn l g hl hA n9 a10 118 p1 _ h13) ⟨by decide, by decide⟩ ⟨by decide, by decide⟩ (Nat.le_of_ble_eq_true rfl) dX4_without_31 ?_
      refine z_pop C dX4_without_34 rfl ?_
      refine z_aload_n C dX4_without_35 0 rfl ?_
      refine z_aload_n C dX4_without_36 0 rfl ?_
      refine gf_X4_31 C rfl dX4_without_37 ?_
      obtain ⟨a14, h15, hm⟩ := qb_i hm
      refine iv_X4_125 C (met_X4_lay l g hl hA n9 a12.2 118 _ h15) rfl ⟨by decide, by decide⟩ ⟨by decide, by decide⟩ (Nat.le_of_ble_eq_true rfl) dX4_without_40 ?_
      refine z_aload_n C dX4_without_43 0 rfl ?_
      refine z_aload_n C dX4_without_44 0 rfl ?_
      refine gf_X4_31 C rfl dX4_without_45 ?_
      obtain ⟨a16, h17, hm⟩ := qb_i hm
      refine iv_X4_203 C (met_X4_allWeight l g hl hA n9 a14 118 _ h17) rfl ⟨by decide, by decide⟩ ⟨by decide, by decide⟩ (Nat.le_of_ble_eq_true rfl) dX4_without_48 ?_
      exact z_iret C hr (by decide) (by decide) (by cases hm; rfl) dX4_without_51
    · have hm := qf_i hm c9
      refine z_iconst (x := 0) C dX4_without_20 rfl ?_
      exact z_iret C hr (by decide) (by decide) (by cases hm; rfl) dX4_without_21
  clear e18
  refine z_if_eq (tgt := 13) C dX4_without_6 (by decide) h3 (fun c19 => ?_) (fun c19 => ?_)
  · have hm := qt_i hm c19
    refine z_iconst (x := 1) C dX4_without_13 rfl ?_
    exact hj5 1 hm
  · have hm := qf_i hm c19
    refine z_iconst (x := 0) C dX4_without_9 rfl ?_
    refine z_goto (tgt := 14) C dX4_without_10 (by decide) ?_
    exact hj5 0 hm

set_option maxHeartbeats 4000000 in
set_option maxRecDepth 100000 in
theorem met_X4_suspect_l22 {g : qG} {p : Program} {l : Launch} {e : Env} {s : State} {m : MethodId} {args : Array Value} {below : List Frame} {meth : Method} {c : Code} (C : qC g p l s m args meth c RX4 cX4_suspect 4) (hr : meth.sig.returnType = (some .int)) (hT : ∀ x ∈ c.exceptionTable.toList, False) (n9 : Nat) {r : Int × qS}  : ∀ (f : Nat) (S7 : qS) (x8 : Int) (x9 : Int) (x10 : Int), MX4_suspect_l22 n9 f S7 x8 x9 x10 = some r → qZ g p l e rmX4_suspect s m args below meth c (qQ g below qkI (.inr r.1) r.2 args s rmX4_suspect) 4 S7 [(0, .ref (qad g 110)), (1, .int (qI x8)), (2, .int (qI x9)), (3, .int (qI x10))] 22 [] 0 0 := by
  intro f
  induction f with
  | zero => intro S7 x8 x9 x10 hm; rw [MX4_suspect_l22] at hm; cases hm
  | succ f ih =>
    intro S7 x8 x9 x10 hm
    rw [MX4_suspect_l22] at hm
    have hl := C.2.2.2.2.2.2.2.2
    have hA := C.2.2.2.2.2.2.1
    refine z_iload_n C dX4_suspect_22 3 rfl ?_
    refine z_aload_n C dX4_suspect_23 0 rfl ?_
    refine gf_X4_28 C rfl dX4_suspect_24 ?_
    refine z_iconst (x := 0) C dX4_suspect_27 rfl ?_
    obtain ⟨h11, hm⟩ := qg_i hm
    refine z_iald (N := 95) C rfl h11 (by decide) dX4_suspect_28 ?_
    obtain ⟨h12, hm⟩ := qg_i hm
    obtain ⟨h13, hm⟩ := qg_i hm
    refine z_icmp_ge (tgt := 90) C dX4_suspect_29 (by decide) ⟨h12, h13⟩ (fun c14 => ?_) (fun c14 => ?_)
    · have hm := qt_i hm c14
      refine z_iload_n C dX4_suspect_90 2 rfl ?_
      exact z_iret C hr (by decide) (by decide) (by cases hm; rfl) dX4_suspect_91
    · have hm := qf_i hm c14
      refine z_aload_n C dX4_suspect_32 0 rfl ?_
      obtain ⟨a15, h16, hm⟩ := qb_i hm
      refine iv_X4_270 C (met_X4_tryIt l g hl hA n9 S7  _ h16) rfl ⟨by decide, by decide⟩ ⟨by decide, by decide⟩ (Nat.le_of_ble_eq_true rfl) dX4_suspect_33 ?_
      refine z_aload_n C dX4_suspect_36 0 rfl ?_
      refine gf_X4_31 C rfl dX4_suspect_37 ?_
      refine z_iload_n C dX4_suspect_40 3 rfl ?_
      obtain ⟨a17, h18, hm⟩ := qb_i hm
      refine iv_X4_252 C (met_X4_strikeIn l g hl hA n9 a15 118 x10 _ h18) ⟨by decide, by decide⟩ ⟨by decide, by decide⟩ (Nat.le_of_ble_eq_true rfl) dX4_suspect_41 ?_
      refine z_pop C dX4_suspect_44 rfl ?_
      refine z_aload_n C dX4_suspect_45 0 rfl ?_
      refine z_aload_n C dX4_suspect_46 0 rfl ?_
      refine gf_X4_31 C rfl dX4_suspect_47 ?_
      obtain ⟨a19, h20, hm⟩ := qb_i hm
      refine iv_X4_125 C (met_X4_lay l g hl hA n9 a17.2 118 _ h20) rfl ⟨by decide, by decide⟩ ⟨by decide, by decide⟩ (Nat.le_of_ble_eq_true rfl) dX4_suspect_50 ?_
      refine z_aload_n C dX4_suspect_53 0 rfl ?_
      refine gf_X4_105 C rfl dX4_suspect_54 ?_
      refine z_iload_n C dX4_suspect_57 1 rfl ?_
      obtain ⟨h21, hm⟩ := qg_i hm
      obtain ⟨h22, hm⟩ := qg_i hm
      obtain ⟨j24, e29, hm⟩ := ql_i hm
      have hj24 : ∀ (v23 : Int), j24 v23 = some r → qZ g p l e rmX4_suspect s m args below meth c (qQ g below qkI (.inr r.1) r.2 args s rmX4_suspect) 4 a19 [(0, .ref (qad g 110)), (1, .int (qI x8)), (3, .int (qI x10))] 66 [.int (qI v23)] 0 0 := by
        intro v23 hm
        rw [e29] at hm
        refine z_istore_n (L' := [(2, .int (qI v23)), (0, .ref (qad g 110)), (1, .int (qI x8)), (3, .int (qI x10))]) C dX4_suspect_66 (by decide) rfl ?_
        refine z_aload_n C dX4_suspect_67 1 rfl ?_
        refine gf_X4_105 C rfl dX4_suspect_68 ?_
        refine z_iload_n C dX4_suspect_71 2 rfl ?_
        obtain ⟨j26, e27, hm⟩ := ql_i hm
        have hj26 : ∀ (v25 : Int), j26 v25 = some r → qZ g p l e rmX4_suspect s m args below meth c (qQ g below qkI (.inr r.1) r.2 args s rmX4_suspect) 4 a19 [(0, .ref (qad g 110)), (2, .int (qI v23)), (3, .int (qI x10))] 83 [.int (qI v25)] 0 0 := by
          intro v25 hm
          rw [e27] at hm
          refine z_istore_n (L' := [(1, .int (qI v25)), (0, .ref (qad g 110)), (2, .int (qI v23)), (3, .int (qI x10))]) C dX4_suspect_83 (by decide) rfl ?_
          refine z_iinc (L' := [(3, .int (qI (x10 + 1))), (1, .int (qI v25)), (0, .ref (qad g 110)), (2, .int (qI v23))]) C dX4_suspect_84 3 rfl (by decide) rfl ?_
          refine z_goto (tgt := 22) C dX4_suspect_87 (by decide) ?_
          refine z_sub (L' := [(0, .ref (qad g 110)), (1, .int (qI v25)), (2, .int (qI v23)), (3, .int (qI (x10 + 1)))]) [2, 1, 3, 0] rfl ?_
          exact ih a19 v25 v23 (x10 + 1) hm
        clear e27
        refine z_icmp_ge (tgt := 82) C dX4_suspect_72 (by decide) ⟨h21, h22⟩ (fun c28 => ?_) (fun c28 => ?_)
        · have hm := qt_i hm c28
          refine z_iload_n C dX4_suspect_82 2 rfl ?_
          refine z_sub (L' := [(0, .ref (qad g 110)), (2, .int (qI v23)), (3, .int (qI x10))]) [1, 0, 3] rfl ?_
          exact hj26 x8 hm
        · have hm := qf_i hm c28
          refine z_aload_n C dX4_suspect_75 1 rfl ?_
          refine gf_X4_105 C rfl dX4_suspect_76 ?_
          refine z_goto (tgt := 83) C dX4_suspect_79 (by decide) ?_
          refine z_sub (L' := [(0, .ref (qad g 110)), (2, .int (qI v23)), (3, .int (qI x10))]) [1, 0, 3] rfl ?_
          exact hj26 (a19 110 25) hm
      clear e29
      refine z_icmp_ge (tgt := 65) C dX4_suspect_58 (by decide) ⟨h21, h22⟩ (fun c30 => ?_) (fun c30 => ?_)
      · have hm := qt_i hm c30
        refine z_iload_n C dX4_suspect_65 2 rfl ?_
        refine z_sub (L' := [(0, .ref (qad g 110)), (1, .int (qI x8)), (3, .int (qI x10))]) [0, 1, 3] rfl ?_
        exact hj24 x9 hm
      · have hm := qf_i hm c30
        refine z_iload_n C dX4_suspect_61 3 rfl ?_
        refine z_goto (tgt := 66) C dX4_suspect_62 (by decide) ?_
        refine z_sub (L' := [(0, .ref (qad g 110)), (1, .int (qI x8)), (3, .int (qI x10))]) [0, 1, 3] rfl ?_
        exact hj24 x10 hm

set_option maxHeartbeats 4000000 in
set_option maxRecDepth 100000 in
theorem met_X4_suspect (l : Launch) (g : qG) (hl : l.stackTraces = false) (hA : qAd g) (n9 : Nat) (S : qS) (r : Int × qS) (hm : MX4_suspect n9 S  = some r) : qM l g yX4_suspect (.code yX4_suspect cX4_suspect 4 (some .int)) rmX4_suspect qkI [.ref (qad g 110)] S (.inr r.1) r.2 := by
  rw [MX4_suspect] at hm
  refine qM_of (L := [(0, .ref (qad g 110))]) (by decide +kernel) rfl (Nat.le_of_ble_eq_true rfl) hl hA ?_
  intro p e s m below meth c C hr hT
  have C : qC g p l s m ([.ref (qad g 110)] : List Value).toArray meth c RX4 cX4_suspect 4 := C
  refine z_aload_n C dX4_suspect_0 0 rfl ?_
  refine z_iconst (x := 0) C dX4_suspect_1 rfl ?_
  refine pf_X4_59 C rfl dX4_suspect_2 ?_
  obtain ⟨S1, e2, hm⟩ := ql_i hm
  refine z_S e2 ?_
  refine z_aload_n C dX4_suspect_5 0 rfl ?_
  refine z_aload_n C dX4_suspect_6 0 rfl ?_
  refine gf_X4_28 C rfl dX4_suspect_7 ?_
  obtain ⟨a3, h4, hm⟩ := qb_i hm
  refine iv_X4_125 C (met_X4_lay l g hl hA n9 S1 117 _ h4) rfl ⟨by decide, by decide⟩ ⟨by decide, by decide⟩ (Nat.le_of_ble_eq_true rfl) dX4_suspect_10 ?_
  refine z_aload_n C dX4_suspect_13 0 rfl ?_
  refine gf_X4_105 C rfl dX4_suspect_14 ?_
  obtain ⟨x5, e6, hm⟩ := ql_i hm
  refine z_topi e6 ?_
  refine z_istore_n (L' := [(1, .int (qI x5)), (0, .ref (qad g 110))]) C dX4_suspect_17 (by decide) rfl ?_
  refine z_iconst (x := (-1)) C dX4_suspect_18 rfl ?_
  refine z_istore_n (L' := [(2, .int (qI (-1))), (1, .int (qI x5)), (0, .ref (qad g 110))]) C dX4_suspect_19 (by decide) rfl ?_
  refine z_iconst (x := 0) C dX4_suspect_20 rfl ?_
  refine z_istore_n (L' := [(3, .int (qI 0)), (2, .int (qI (-1))), (1, .int (qI x5)), (0, .ref (qad g 110))]) C dX4_suspect_21 (by decide) rfl ?_
  refine z_sub (L' := [(0, .ref (qad g 110)), (1, .int (qI x5)), (2, .int (qI (-1))), (3, .int (qI 0))]) [3, 2, 1, 0] rfl ?_
  exact met_X4_suspect_l22 C hr hT n9  n9 a3 x5 (-1) 0 hm

set_option maxHeartbeats 4000000 in
set_option maxRecDepth 100000 in
theorem met_X4_bestBase_l11 {g : qG} {p : Program} {l : Launch} {e : Env} {s : State} {m : MethodId} {args : Array Value} {below : List Frame} {meth : Method} {c : Code} (C : qC g p l s m args meth c RX4 cX4_bestBase 5) (hr : meth.sig.returnType = (some .int)) (hT : ∀ x ∈ c.exceptionTable.toList, False) (n9 : Nat) {r : Int × qS}  : ∀ (f : Nat) (S3 : qS) (x4 : Int) (x5 : Int) (x6 : Int), MX4_bestBase_l11 n9 f S3 x4 x5 x6 = some r → qZ g p l e rmX4_bestBase s m args below meth c (qQ g below qkI (.inr r.1) r.2 args s rmX4_bestBase) 5 S3 [(0, .ref (qad g 110)), (1, .int (qI x4)), (2, .int (qI x5)), (3, .int (qI x6))] 11 [] 0 0 := by
  intro f
  induction f with
  | zero => intro S3 x4 x5 x6 hm; rw [MX4_bestBase_l11] at hm; cases hm
  | succ f ih =>
    intro S3 x4 x5 x6 hm
    rw [MX4_bestBase_l11] at hm
    have hl := C.2.2.2.2.2.2.2.2
    have hA := C.2.2.2.2.2.2.1
    refine z_iload_n C dX4_bestBase_11 3 rfl ?_
    refine z_bipush (x := 20) C dX4_bestBase_12 (by decide +kernel) ?_
    obtain ⟨h7, hm⟩ := qg_i hm
    refine z_icmp_gt (tgt := 87) C dX4_bestBase_14 (by decide) ⟨h7, (by decide)⟩ (fun c8 => ?_) (fun c8 => ?_)
    · have hm := qt_i hm c8
      refine z_iload_n C dX4_bestBase_87 1 rfl ?_
      exact z_iret C hr (by decide) (by decide) (by cases hm; rfl) dX4_bestBase_88
    · have hm := qf_i hm c8
      refine z_aload_n C dX4_bestBase_17 0 rfl ?_
      obtain ⟨a9, h10, hm⟩ := qb_i hm
      refine iv_X4_270 C (met_X4_tryIt l g hl hA n9 S3  _ h10) rfl ⟨by decide, by decide⟩ ⟨by decide, by decide⟩ (Nat.le_of_ble_eq_true rfl) dX4_bestBase_18 ?_
      refine z_aload_n C dX4_bestBase_21 0 rfl ?_
      refine gf_X4_31 C rfl dX4_bestBase_22 ?_
      refine z_iconst (x := 1) C dX4_bestBase_25 rfl ?_
      refine z_iload_n C dX4_bestBase_26 3 rfl ?_
      obtain ⟨h11, hm⟩ := qg_i hm
      refine z_iast (N := 95) C rfl h11 (by decide) dX4_bestBase_27 ?_
      obtain ⟨S12, e13, hm⟩ := ql_i hm
      refine z_S e13 ?_
      refine z_aload_n C dX4_bestBase_28 0 rfl ?_
      refine z_aload_n C dX4_bestBase_29 0 rfl ?_
      refine gf_X4_31 C rfl dX4_bestBase_30 ?_
      obtain ⟨a14, h15, hm⟩ := qb_i hm
      refine iv_X4_125 C (met_X4_lay l g hl hA n9 S12 118 _ h15) rfl ⟨by decide, by decide⟩ ⟨by decide, by decide⟩ (Nat.le_of_ble_eq_true rfl) dX4_bestBase_33 ?_
      refine z_iload_n C dX4_bestBase_36 1 rfl ?_
      refine z_iconst (x := (-1)) C dX4_bestBase_37 rfl ?_
      obtain ⟨h16, hm⟩ := qg_i hm
      obtain ⟨j18, e28, hm⟩ := ql_i hm
      have hj18 : ∀ (v17 : Int), j18 v17 = some r → qZ g p l e rmX4_bestBase s m args below meth c (qQ g below qkI (.inr r.1) r.2 args s rmX4_bestBase) 5 a14 [(0, .ref (qad g 110)), (1, .int (qI x4)), (2, .int (qI x5)), (3, .int (qI x6))] 54 [.int (qI v17)] 0 0 := by
        intro v17 hm
        rw [e28] at hm
        refine z_istore (L' := [(4, .int (qI v17)), (0, .ref (qad g 110)), (1, .int (qI x4)), (2, .int (qI x5)), (3, .int (qI x6))]) C dX4_bestBase_54 (by decide) rfl ?_
        refine z_iload C dX4_bestBase_56 0 rfl ?_
        obtain ⟨h19, hm⟩ := qg_i hm
        obtain ⟨j21, e26, hm⟩ := ql_i hm
        have hj21 : ∀ (v20 : Int), j21 v20 = some r → qZ g p l e rmX4_bestBase s m args below meth c (qQ g below qkI (.inr r.1) r.2 args s rmX4_bestBase) 5 a14 [(0, .ref (qad g 110)), (2, .int (qI x5)), (3, .int (qI x6)), (4, .int (qI v17))] 66 [.int (qI v20)] 0 0 := by
          intro v20 hm
          rw [e26] at hm
          refine z_istore_n (L' := [(1, .int (qI v20)), (0, .ref (qad g 110)), (2, .int (qI x5)), (3, .int (qI x6)), (4, .int (qI v17))]) C dX4_bestBase_66 (by decide) rfl ?_
          refine z_iload C dX4_bestBase_67 4 rfl ?_
          obtain ⟨j23, e24, hm⟩ := ql_i hm
          have hj23 : ∀ (v22 : Int), j23 v22 = some r → qZ g p l e rmX4_bestBase s m args below meth c (qQ g below qkI (.inr r.1) r.2 args s rmX4_bestBase) 5 a14 [(0, .ref (qad g 110)), (1, .int (qI v20)), (3, .int (qI x6))] 80 [.int (qI v22)] 0 0 := by
            intro v22 hm
            rw [e24] at hm
            refine z_istore_n (L' := [(2, .int (qI v22)), (0, .ref (qad g 110)), (1, .int (qI v20)), (3, .int (qI x6))]) C dX4_bestBase_80 (by decide) rfl ?_
            refine z_iinc (L' := [(3, .int (qI (x6 + 1))), (2, .int (qI v22)), (0, .ref (qad g 110)), (1, .int (qI v20))]) C dX4_bestBase_81 3 rfl (by decide) rfl ?_
            refine z_goto (tgt := 11) C dX4_bestBase_84 (by decide) ?_
            refine z_sub (L' := [(0, .ref (qad g 110)), (1, .int (qI v20)), (2, .int (qI v22)), (3, .int (qI (x6 + 1)))]) [2, 3, 1, 0] rfl ?_
            exact ih a14 v20 v22 (x6 + 1) hm
          clear e24
          refine z_if_eq (tgt := 79) C dX4_bestBase_69 (by decide) h19 (fun c25 => ?_) (fun c25 => ?_)
          · have hm := qt_i hm c25
            refine z_iload_n C dX4_bestBase_79 2 rfl ?_
            refine z_sub (L' := [(0, .ref (qad g 110)), (1, .int (qI v20)), (3, .int (qI x6))]) [1, 0, 3] rfl ?_
            exact hj23 x5 hm
          · have hm := qf_i hm c25
            refine z_aload_n C dX4_bestBase_72 1 rfl ?_
            refine gf_X4_105 C rfl dX4_bestBase_73 ?_
            refine z_goto (tgt := 80) C dX4_bestBase_76 (by decide) ?_
            refine z_sub (L' := [(0, .ref (qad g 110)), (1, .int (qI v20)), (3, .int (qI x6))]) [1, 0, 3] rfl ?_
            exact hj23 (a14 110 25) hm
        clear e26
        refine z_if_eq (tgt := 65) C dX4_bestBase_58 (by decide) h19 (fun c27 => ?_) (fun c27 => ?_)
        · have hm := qt_i hm c27
          refine z_iload_n C dX4_bestBase_65 2 rfl ?_
          refine z_sub (L' := [(0, .ref (qad g 110)), (2, .int (qI x5)), (3, .int (qI x6)), (4, .int (qI v17))]) [1, 3, 4, 0] rfl ?_
          exact hj21 x4 hm
        · have hm := qf_i hm c27
          refine z_iload_n C dX4_bestBase_61 4 rfl ?_
          refine z_goto (tgt := 66) C dX4_bestBase_62 (by decide) ?_
          refine z_sub (L' := [(0, .ref (qad g 110)), (2, .int (qI x5)), (3, .int (qI x6)), (4, .int (qI v17))]) [1, 3, 4, 0] rfl ?_
          exact hj21 x6 hm
      clear e28
      obtain ⟨j29, e30, hm⟩ := ql_i hm
      have hj29 : j29 = some r → qZ g p l e rmX4_bestBase s m args below meth c (qQ g below qkI (.inr r.1) r.2 args s rmX4_bestBase) 5 a14 [(0, .ref (qad g 110)), (1, .int (qI x4)), (2, .int (qI x5)), (3, .int (qI x6))] 49 [] 0 0 := by
        intro  hm
        rw [e30] at hm
        refine z_iconst (x := 1) C dX4_bestBase_49 rfl ?_
        refine z_goto (tgt := 54) C dX4_bestBase_50 (by decide) ?_
        exact hj18 1 hm
      clear e30
      refine z_icmp_eq (tgt := 49) C dX4_bestBase_38 (by decide) ⟨h16, (by decide)⟩ (fun c31 => ?_) (fun c31 => ?_)
      · have hm := qt_i hm c31
        exact hj29  hm
      · have hm := qf_i hm c31
        refine z_aload_n C dX4_bestBase_41 0 rfl ?_
        refine gf_X4_105 C rfl dX4_bestBase_42 ?_
        refine z_iload_n C dX4_bestBase_45 2 rfl ?_
        obtain ⟨h32, hm⟩ := qg_i hm
        obtain ⟨h33, hm⟩ := qg_i hm
        refine z_icmp_ge (tgt := 53) C dX4_bestBase_46 (by decide) ⟨h32, h33⟩ (fun c34 => ?_) (fun c34 => ?_)
        · have hm := qt_i hm c34
          refine z_iconst (x := 0) C dX4_bestBase_53 rfl ?_
          exact hj18 0 hm
        · have hm := qf_i hm c34
          exact hj29  hm

set_option maxHeartbeats 4000000 in
set_option maxRecDepth 100000 in
theorem met_X4_bestBase (l : Launch) (g : qG) (hl : l.stackTraces = false) (hA : qAd g) (n9 : Nat) (S : qS) (r : Int × qS) (hm : MX4_bestBase n9 S  = some r) : qM l g yX4_bestBase (.code yX4_bestBase cX4_bestBase 5 (some .int)) rmX4_bestBase qkI [.ref (qad g 110)] S (.inr r.1) r.2 := by
  rw [MX4_bestBase] at hm
  refine qM_of (L := [(0, .ref (qad g 110))]) (by decide +kernel) rfl (Nat.le_of_ble_eq_true rfl) hl hA ?_
  intro p e s m below meth c C hr hT
  have C : qC g p l s m ([.ref (qad g 110)] : List Value).toArray meth c RX4 cX4_bestBase 5 := C
  refine z_aload_n C dX4_bestBase_0 0 rfl ?_
  refine z_iconst (x := 0) C dX4_bestBase_1 rfl ?_
  refine pf_X4_59 C rfl dX4_bestBase_2 ?_
  obtain ⟨S1, e2, hm⟩ := ql_i hm
  refine z_S e2 ?_
  refine z_iconst (x := (-1)) C dX4_bestBase_5 rfl ?_
  refine z_istore_n (L' := [(1, .int (qI (-1))), (0, .ref (qad g 110))]) C dX4_bestBase_6 (by decide) rfl ?_
  refine z_iconst (x := 0) C dX4_bestBase_7 rfl ?_
  refine z_istore_n (L' := [(2, .int (qI 0)), (1, .int (qI (-1))), (0, .ref (qad g 110))]) C dX4_bestBase_8 (by decide) rfl ?_
  refine z_iconst (x := 1) C dX4_bestBase_9 rfl ?_
  refine z_istore_n (L' := [(3, .int (qI 1)), (2, .int (qI 0)), (1, .int (qI (-1))), (0, .ref (qad g 110))]) C dX4_bestBase_10 (by decide) rfl ?_
  refine z_sub (L' := [(0, .ref (qad g 110)), (1, .int (qI (-1))), (2, .int (qI 0)), (3, .int (qI 1))]) [3, 2, 1, 0] rfl ?_
  exact met_X4_bestBase_l11 C hr hT n9  n9 S1 (-1) 0 1 hm

set_option maxHeartbeats 4000000 in
set_option maxRecDepth 100000 in
theorem met_X4_sureness (l : Launch) (g : qG) (hl : l.stackTraces = false) (hA : qAd g) (n9 : Nat) (S : qS) (p1 : Int) (r : Int × qS) (hm : MX4_sureness n9 S p1 = some r) : qM l g yX4_sureness (.code yX4_sureness cX4_sureness 3 (some .int)) rmX4_sureness qkI [.ref (qad g 110), .int (qI p1)] S (.inr r.1) r.2 := by
  rw [MX4_sureness] at hm
  refine qM_of (L := [(0, .ref (qad g 110)), (1, .int (qI p1))]) (by decide +kernel) rfl (Nat.le_of_ble_eq_true rfl) hl hA ?_
  intro p e s m below meth c C hr hT
  have C : qC g p l s m ([.ref (qad g 110), .int (qI p1)] : List Value).toArray meth c RX4 cX4_sureness 3 := C
  refine z_aload_n C dX4_sureness_0 0 rfl ?_
  refine z_aload_n C dX4_sureness_1 0 rfl ?_
  refine z_iload_n C dX4_sureness_2 1 rfl ?_
  obtain ⟨a1, h2, hm⟩ := qb_i hm
  refine iv_X4_211 C (met_X4_isAxle l g hl hA n9 S p1 _ h2) rfl ⟨by decide, by decide⟩ ⟨by decide, by decide⟩ (Nat.le_of_ble_eq_true rfl) dX4_sureness_3 ?_
  obtain ⟨h3, hm⟩ := qg_i hm
  obtain ⟨j5, e19, hm⟩ := ql_i hm
  have hj5 : ∀ (v4 : Int), j5 v4 = some r → qZ g p l e rmX4_sureness s m ([.ref (qad g 110), .int (qI p1)] : List Value).toArray below meth c (qQ g below qkI (.inr r.1) r.2 ([.ref (qad g 110), .int (qI p1)] : List Value).toArray s rmX4_sureness) 3 S [(0, .ref (qad g 110)), (1, .int (qI p1))] 14 [.int (qI v4), .ref (qad g 110)] 0 0 := by
    intro v4 hm
    rw [e19] at hm
    obtain ⟨a6, h7, hm⟩ := qb_i hm
    refine iv_X4_134 C (met_X4_refused l g hl hA n9 S v4 _ h7) rfl ⟨by decide, by decide⟩ ⟨by decide, by decide⟩ (Nat.le_of_ble_eq_true rfl) dX4_sureness_14 ?_
    obtain ⟨h8, hm⟩ := qg_i hm
    refine z_if_eq (tgt := 22) C dX4_sureness_17 (by decide) h8 (fun c9 => ?_) (fun c9 => ?_)
    · have hm := qt_i hm c9
      refine z_aload_n C dX4_sureness_22 0 rfl ?_
      refine z_aload_n C dX4_sureness_23 0 rfl ?_
      refine gf_X4_28 C rfl dX4_sureness_24 ?_
      obtain ⟨a10, h11, hm⟩ := qb_i hm
      refine iv_X4_125 C (met_X4_lay l g hl hA n9 a6.2 117 _ h11) rfl ⟨by decide, by decide⟩ ⟨by decide, by decide⟩ (Nat.le_of_ble_eq_true rfl) dX4_sureness_27 ?_
      refine z_aload_n C dX4_sureness_30 0 rfl ?_
      refine z_iload_n C dX4_sureness_31 1 rfl ?_
      obtain ⟨a12, h13, hm⟩ := qb_i hm
      refine iv_X4_200 C (met_X4_trainOf l g hl hA n9 a10 p1 _ h13) rfl ⟨by decide, by decide⟩ ⟨by decide, by decide⟩ (Nat.le_of_ble_eq_true rfl) dX4_sureness_32 ?_
      refine z_istore_n (L' := [(2, .int (qI a12)), (0, .ref (qad g 110)), (1, .int (qI p1))]) C dX4_sureness_35 (by decide) rfl ?_
      refine z_aload_n C dX4_sureness_36 1 rfl ?_
      refine z_aload_n C dX4_sureness_37 1 rfl ?_
      refine gf_X4_28 C rfl dX4_sureness_38 ?_
      refine z_aload_n C dX4_sureness_41 1 rfl ?_
      refine gf_X4_50 C rfl dX4_sureness_42 ?_
      refine z_iload_n C dX4_sureness_45 0 rfl ?_
      obtain ⟨h14, hm⟩ := qg_i hm
      refine z_iald (N := 31) C rfl h14 (by decide) dX4_sureness_46 ?_
      refine z_aload_n C dX4_sureness_47 1 rfl ?_
      refine gf_X4_50 C rfl dX4_sureness_48 ?_
      refine z_iload_n C dX4_sureness_51 0 rfl ?_
      refine z_iconst (x := 1) C dX4_sureness_52 rfl ?_
      refine z_iadd C dX4_sureness_53 ?_
      obtain ⟨h15, hm⟩ := qg_i hm
      refine z_iald (N := 31) C rfl h15 (by decide) dX4_sureness_54 ?_
      refine z_iload_n C dX4_sureness_55 2 rfl ?_
      obtain ⟨a16, h17, hm⟩ := qb_i hm
      refine iv_X4_108 C (met_X4_layRest l g hl hA n9 a10 117 (a10 124 a12.toNat) (a10 124 (a12 + 1).toNat) p1 _ h17) rfl ⟨by decide, by decide⟩ ⟨by decide, by decide⟩ (Nat.le_of_ble_eq_true rfl) dX4_sureness_56 ?_
      refine z_aload_n C dX4_sureness_59 1 rfl ?_
      refine gf_X4_53 C rfl dX4_sureness_60 ?_
      refine z_iload_n C dX4_sureness_63 0 rfl ?_
      obtain ⟨h18, hm⟩ := qg_i hm
      refine z_iald (N := 30) C rfl h18 (by decide) dX4_sureness_64 ?_
      refine z_isub C dX4_sureness_65 ?_
      exact z_iret C hr (by decide) (by decide) (by cases hm; rfl) dX4_sureness_66
    · have hm := qf_i hm c9
      refine z_iconst (x := 0) C dX4_sureness_20 rfl ?_
      exact z_iret C hr (by decide) (by decide) (by cases hm; rfl) dX4_sureness_21
  clear e19
  refine z_if_eq (tgt := 13) C dX4_sureness_6 (by decide) h3 (fun c20 => ?_) (fun c20 => ?_)
  · have hm := qt_i hm c20
    refine z_iconst (x := 1) C dX4_sureness_13 rfl ?_
    exact hj5 1 hm
  · have hm := qf_i hm c20
    refine z_iconst (x := 0) C dX4_sureness_9 rfl ?_
    refine z_goto (tgt := 14) C dX4_sureness_10 (by decide) ?_
    exact hj5 0 hm

set_option maxHeartbeats 4000000 in
set_option maxRecDepth 100000 in
theorem met_X4_plans_l52 {g : qG} {p : Program} {l : Launch} {e : Env} {s : State} {m : MethodId} {args : Array Value} {below : List Frame} {meth : Method} {c : Code} (C : qC g p l s m args meth c RX4 cX4_plans 6) (hr : meth.sig.returnType = (some .int)) (hT : ∀ x ∈ c.exceptionTable.toList, False) (p1 : Int) (a10 : Int × qS) {r : Int × qS} (k81 : Int → Option (Int × qS)) (hk81 : ∀ (y1 : Int), k81 y1 = some r → qZ g p l e rmX4_plans s m args below meth c (qQ g below qkI (.inr r.1) r.2 args s rmX4_plans) 6 a10.2 [(2, .int (qI y1))] 81 [] 0 0) : ∀ (f : Nat) (x22 : Int) (x23 : Int) (x24 : Int), MX4_plans_l52 p1 a10 k81 f x22 x23 x24 = some r → qZ g p l e rmX4_plans s m args below meth c (qQ g below qkI (.inr r.1) r.2 args s rmX4_plans) 6 a10.2 [(0, .ref (qad g 110)), (1, .int (qI p1)), (2, .int (qI x22)), (3, .int (qI x23)), (4, .int (qI x24))] 52 [] 0 0 := by
  intro f
  induction f with
  | zero => intro x22 x23 x24 hm; rw [MX4_plans_l52] at hm; cases hm
  | succ f ih =>
    intro x22 x23 x24 hm
    rw [MX4_plans_l52] at hm
    have hl := C.2.2.2.2.2.2.2.2
    have hA := C.2.2.2.2.2.2.1
    refine z_iload C dX4_plans_52 4 rfl ?_
    refine z_aload_n C dX4_plans_54 0 rfl ?_
    refine gf_X4_50 C rfl dX4_plans_55 ?_
    refine z_iload_n C dX4_plans_58 1 rfl ?_
    refine z_iconst (x := 1) C dX4_plans_59 rfl ?_
    refine z_iadd C dX4_plans_60 ?_
    obtain ⟨h25, hm⟩ := qg_i hm
    refine z_iald (N := 31) C rfl h25 (by decide) dX4_plans_61 ?_
    obtain ⟨h26, hm⟩ := qg_i hm
    obtain ⟨h27, hm⟩ := qg_i hm
    refine z_icmp_ge (tgt := 81) C dX4_plans_62 (by decide) ⟨h26, h27⟩ (fun c28 => ?_) (fun c28 => ?_)
    · have hm := qt_i hm c28
      refine z_sub (L' := [(2, .int (qI x22))]) [2] rfl ?_
      exact hk81 x22 hm
    · have hm := qf_i hm c28
      refine z_iload_n C dX4_plans_65 2 rfl ?_
      refine z_iload_n C dX4_plans_66 3 rfl ?_
      refine z_iadd C dX4_plans_67 ?_
      obtain ⟨x29, e30, hm⟩ := ql_i hm
      refine z_topi e30 ?_
      refine z_istore (L' := [(5, .int (qI x29)), (0, .ref (qad g 110)), (1, .int (qI p1)), (2, .int (qI x22)), (3, .int (qI x23)), (4, .int (qI x24))]) C dX4_plans_68 (by decide) rfl ?_
      refine z_iload_n C dX4_plans_70 3 rfl ?_
      refine z_istore_n (L' := [(3, .int (qI x22)), (5, .int (qI x29)), (0, .ref (qad g 110)), (1, .int (qI p1)), (2, .int (qI x22)), (4, .int (qI x24))]) C dX4_plans_71 (by decide) rfl ?_
      refine z_iload C dX4_plans_72 1 rfl ?_
      refine z_istore_n (L' := [(2, .int (qI x29)), (3, .int (qI x22)), (5, .int (qI x29)), (0, .ref (qad g 110)), (1, .int (qI p1)), (4, .int (qI x24))]) C dX4_plans_74 (by decide) rfl ?_
      refine z_iinc (L' := [(4, .int (qI (x24 + 1))), (2, .int (qI x29)), (3, .int (qI x22)), (5, .int (qI x29)), (0, .ref (qad g 110)), (1, .int (qI p1))]) C dX4_plans_75 5 rfl (by decide) rfl ?_
      refine z_goto (tgt := 52) C dX4_plans_78 (by decide) ?_
      refine z_sub (L' := [(0, .ref (qad g 110)), (1, .int (qI p1)), (2, .int (qI x29)), (3, .int (qI x22)), (4, .int (qI (x24 + 1)))]) [4, 5, 1, 2, 0] rfl ?_
      exact ih x29 x22 (x24 + 1) hm

set_option maxHeartbeats 4000000 in
set_option maxRecDepth 100000 in
theorem met_X4_plans (l : Launch) (g : qG) (hl : l.stackTraces = false) (hA : qAd g) (n9 : Nat) (S : qS) (p1 : Int) (r : Int × qS) (hm : MX4_plans n9 S p1 = some r) : qM l g yX4_plans (.code yX4_plans cX4_plans 6 (some .int)) rmX4_plans qkI [.ref (qad g 110), .int (qI p1)] S (.inr r.1) r.2 := by
  rw [MX4_plans] at hm
  refine qM_of (L := [(0, .ref (qad g 110)), (1, .int (qI p1))]) (by decide +kernel) rfl (Nat.le_of_ble_eq_true rfl) hl hA ?_
  intro p e s m below meth c C hr hT
  have C : qC g p l s m ([.ref (qad g 110), .int (qI p1)] : List Value).toArray meth c RX4 cX4_plans 6 := C
  refine z_aload_n C dX4_plans_0 0 rfl ?_
  refine z_aload_n C dX4_plans_1 0 rfl ?_
  refine gf_X4_28 C rfl dX4_plans_2 ?_
  obtain ⟨a1, h2, hm⟩ := qb_i hm
  refine iv_X4_125 C (met_X4_lay l g hl hA n9 S 117 _ h2) rfl ⟨by decide, by decide⟩ ⟨by decide, by decide⟩ (Nat.le_of_ble_eq_true rfl) dX4_plans_5 ?_
  refine z_aload_n C dX4_plans_8 0 rfl ?_
  refine z_iload_n C dX4_plans_9 1 rfl ?_
  obtain ⟨h3, hm⟩ := qg_i hm
  refine z_i2l C dX4_plans_10 h3 ?_
  refine z_lconst (x := 0) C dX4_plans_11 (by decide +kernel) ?_
  refine z_aload_n C dX4_plans_12 0 rfl ?_
  refine gf_X4_102 C rfl dX4_plans_13 ?_
  refine z_iconst (x := 1) C dX4_plans_16 rfl ?_
  refine z_isub C dX4_plans_17 ?_
  obtain ⟨h4, hm⟩ := qg_i hm
  refine z_i2l C dX4_plans_18 h4 ?_
  obtain ⟨a5, h6, hm⟩ := qb_i hm
  refine iv_X4_118 C (met_X4_in l g hl hA n9 a1 p1 0 ((a1 110 22) - 1) _ h6) ⟨by decide, by decide⟩ ⟨by decide, by decide⟩ (Nat.le_of_ble_eq_true rfl) dX4_plans_19 ?_
  obtain ⟨h7, hm⟩ := qg_i hm
  obtain ⟨j9, e31, hm⟩ := ql_i hm
  have hj9 : ∀ (v8 : Int), j9 v8 = some r → qZ g p l e rmX4_plans s m ([.ref (qad g 110), .int (qI p1)] : List Value).toArray below meth c (qQ g below qkI (.inr r.1) r.2 ([.ref (qad g 110), .int (qI p1)] : List Value).toArray s rmX4_plans) 6 a1 [(0, .ref (qad g 110)), (1, .int (qI p1))] 30 [.int (qI v8), .ref (qad g 110)] 0 0 := by
    intro v8 hm
    rw [e31] at hm
    obtain ⟨a10, h11, hm⟩ := qb_i hm
    refine iv_X4_134 C (met_X4_refused l g hl hA n9 a1 v8 _ h11) rfl ⟨by decide, by decide⟩ ⟨by decide, by decide⟩ (Nat.le_of_ble_eq_true rfl) dX4_plans_30 ?_
    obtain ⟨h12, hm⟩ := qg_i hm
    refine z_if_eq (tgt := 38) C dX4_plans_33 (by decide) h12 (fun c13 => ?_) (fun c13 => ?_)
    · have hm := qt_i hm c13
      refine z_iconst (x := 1) C dX4_plans_38 rfl ?_
      refine z_istore_n (L' := [(2, .int (qI 1)), (0, .ref (qad g 110)), (1, .int (qI p1))]) C dX4_plans_39 (by decide) rfl ?_
      refine z_iconst (x := 1) C dX4_plans_40 rfl ?_
      refine z_istore_n (L' := [(3, .int (qI 1)), (2, .int (qI 1)), (0, .ref (qad g 110)), (1, .int (qI p1))]) C dX4_plans_41 (by decide) rfl ?_
      refine z_aload_n C dX4_plans_42 2 rfl ?_
      refine gf_X4_50 C rfl dX4_plans_43 ?_
      refine z_iload_n C dX4_plans_46 3 rfl ?_
      obtain ⟨h14, hm⟩ := qg_i hm
      refine z_iald (N := 31) C rfl h14 (by decide) dX4_plans_47 ?_
      refine z_iconst (x := 1) C dX4_plans_48 rfl ?_
      refine z_iadd C dX4_plans_49 ?_
      obtain ⟨x15, e16, hm⟩ := ql_i hm
      refine z_topi e16 ?_
      refine z_istore (L' := [(4, .int (qI x15)), (3, .int (qI 1)), (2, .int (qI 1)), (0, .ref (qad g 110)), (1, .int (qI p1))]) C dX4_plans_50 (by decide) rfl ?_
      obtain ⟨j18, e21, hm⟩ := ql_i hm
      have hj18 : ∀ (x17 : Int), j18 x17 = some r → qZ g p l e rmX4_plans s m ([.ref (qad g 110), .int (qI p1)] : List Value).toArray below meth c (qQ g below qkI (.inr r.1) r.2 ([.ref (qad g 110), .int (qI p1)] : List Value).toArray s rmX4_plans) 6 a10.2 [(2, .int (qI x17))] 81 [] 0 0 := by
        intro x17 hm
        rw [e21] at hm
        refine z_iload_n C dX4_plans_81 0 rfl ?_
        refine z_ldcw (x := 999999) C dX4_plans_82 qct_X4_273 (by decide +kernel) ?_
        obtain ⟨h19, hm⟩ := qg_i hm
        refine z_icmp_le (tgt := 94) C dX4_plans_85 (by decide) ⟨h19, (by decide)⟩ (fun c20 => ?_) (fun c20 => ?_)
        · have hm := qt_i hm c20
          refine z_iload_n C dX4_plans_94 0 rfl ?_
          exact z_iret C hr (by decide) (by decide) (by cases hm; rfl) dX4_plans_95
        · have hm := qf_i hm c20
          refine z_ldcw (x := 999999) C dX4_plans_88 qct_X4_273 (by decide +kernel) ?_
          refine z_goto (tgt := 95) C dX4_plans_91 (by decide) ?_
          exact z_iret C hr (by decide) (by decide) (by cases hm; rfl) dX4_plans_95
      clear e21
      refine z_sub (L' := [(0, .ref (qad g 110)), (1, .int (qI p1)), (2, .int (qI 1)), (3, .int (qI 1)), (4, .int (qI x15))]) [3, 4, 2, 1, 0] rfl ?_
      exact met_X4_plans_l52 C hr hT p1 a10 j18 hj18 n9 1 1 x15 hm
    · have hm := qf_i hm c13
      refine z_iconst (x := 0) C dX4_plans_36 rfl ?_
      exact z_iret C hr (by decide) (by decide) (by cases hm; rfl) dX4_plans_37
  clear e31
  refine z_if_eq (tgt := 29) C dX4_plans_22 (by decide) h7 (fun c32 => ?_) (fun c32 => ?_)
  · have hm := qt_i hm c32
    refine z_iconst (x := 1) C dX4_plans_29 rfl ?_
    exact hj9 1 hm
  · have hm := qf_i hm c32
    refine z_iconst (x := 0) C dX4_plans_25 rfl ?_
    refine z_goto (tgt := 30) C dX4_plans_26 (by decide) ?_
    exact hj9 0 hm

set_option maxHeartbeats 4000000 in
set_option maxRecDepth 100000 in
theorem met_X4_heavy_l30 {g : qG} {p : Program} {l : Launch} {e : Env} {s : State} {m : MethodId} {args : Array Value} {below : List Frame} {meth : Method} {c : Code} (C : qC g p l s m args meth c RX4 cX4_heavy 4) (hr : meth.sig.returnType = (some .int)) (hT : ∀ x ∈ c.exceptionTable.toList, False) (n9 : Nat) (p1 : Int) (a8 : qS) {r : Int × qS}  : ∀ (f : Nat) (x10 : Int) (x11 : Int), MX4_heavy_l30 n9 p1 a8 f x10 x11 = some r → qZ g p l e rmX4_heavy s m args below meth c (qQ g below qkI (.inr r.1) r.2 args s rmX4_heavy) 4 a8 [(0, .ref (qad g 110)), (1, .int (qI p1)), (2, .int (qI x10)), (3, .int (qI x11))] 30 [] 0 0 := by
  intro f
  induction f with
  | zero => intro x10 x11 hm; rw [MX4_heavy_l30] at hm; cases hm
  | succ f ih =>
    intro x10 x11 hm
    rw [MX4_heavy_l30] at hm
    have hl := C.2.2.2.2.2.2.2.2
    have hA := C.2.2.2.2.2.2.1
    refine z_iload_n C dX4_heavy_30 3 rfl ?_
    refine z_aload_n C dX4_heavy_31 0 rfl ?_
    refine gf_X4_99 C rfl dX4_heavy_32 ?_
    obtain ⟨h12, hm⟩ := qg_i hm
    obtain ⟨h13, hm⟩ := qg_i hm
    refine z_icmp_ge (tgt := 76) C dX4_heavy_35 (by decide) ⟨h12, h13⟩ (fun c14 => ?_) (fun c14 => ?_)
    · have hm := qt_i hm c14
      refine z_iload_n C dX4_heavy_76 2 rfl ?_
      exact z_iret C hr (by decide) (by decide) (by cases hm; rfl) dX4_heavy_77
    · have hm := qf_i hm c14
      refine z_iload_n C dX4_heavy_38 2 rfl ?_
      refine z_aload_n C dX4_heavy_39 0 rfl ?_
      refine gf_X4_28 C rfl dX4_heavy_40 ?_
      refine z_aload_n C dX4_heavy_43 0 rfl ?_
      refine gf_X4_56 C rfl dX4_heavy_44 ?_
      refine z_iload_n C dX4_heavy_47 3 rfl ?_
      obtain ⟨h15, hm⟩ := qg_i hm
      refine z_iald (N := 15) C rfl h15 (by decide) dX4_heavy_48 ?_
      obtain ⟨a16, h17, hm⟩ := qb_i hm
      refine iv_X4_115 C (met_X4_carWeight l g hl hA n9 a8 117 (a8 126 x11.toNat) _ h17) ⟨by decide, by decide⟩ ⟨by decide, by decide⟩ (Nat.le_of_ble_eq_true rfl) dX4_heavy_49 ?_
      refine z_iload_n C dX4_heavy_52 1 rfl ?_
      obtain ⟨h18, hm⟩ := qg_i hm
      obtain ⟨h19, hm⟩ := qg_i hm
      obtain ⟨j21, e24, hm⟩ := ql_i hm
      have hj21 : ∀ (v20 : Int), j21 v20 = some r → qZ g p l e rmX4_heavy s m args below meth c (qQ g below qkI (.inr r.1) r.2 args s rmX4_heavy) 4 a8 [(0, .ref (qad g 110)), (1, .int (qI p1)), (3, .int (qI x11))] 68 [.int (qI v20), .int (qI x10)] 0 0 := by
        intro v20 hm
        rw [e24] at hm
        refine z_ior C dX4_heavy_68 ?_
        obtain ⟨x22, e23, hm⟩ := ql_i hm
        refine z_topi e23 ?_
        refine z_istore_n (L' := [(2, .int (qI x22)), (0, .ref (qad g 110)), (1, .int (qI p1)), (3, .int (qI x11))]) C dX4_heavy_69 (by decide) rfl ?_
        refine z_iinc (L' := [(3, .int (qI (x11 + 1))), (2, .int (qI x22)), (0, .ref (qad g 110)), (1, .int (qI p1))]) C dX4_heavy_70 3 rfl (by decide) rfl ?_
        refine z_goto (tgt := 30) C dX4_heavy_73 (by decide) ?_
        refine z_sub (L' := [(0, .ref (qad g 110)), (1, .int (qI p1)), (2, .int (qI x22)), (3, .int (qI (x11 + 1)))]) [2, 3, 1, 0] rfl ?_
        exact ih x22 (x11 + 1) hm
      clear e24
      refine z_icmp_lt (tgt := 67) C dX4_heavy_53 (by decide) ⟨h18, h19⟩ (fun c25 => ?_) (fun c25 => ?_)
      · have hm := qt_i hm c25
        refine z_iconst (x := 0) C dX4_heavy_67 rfl ?_
        refine z_sub (L' := [(0, .ref (qad g 110)), (1, .int (qI p1)), (3, .int (qI x11))]) [0, 1, 3] rfl ?_
        exact hj21 0 hm
      · have hm := qf_i hm c25
        refine z_iconst (x := 3) C dX4_heavy_56 rfl ?_
        refine z_aload_n C dX4_heavy_57 0 rfl ?_
        refine gf_X4_56 C rfl dX4_heavy_58 ?_
        refine z_iload_n C dX4_heavy_61 3 rfl ?_
        obtain ⟨h26, hm⟩ := qg_i hm
        refine z_iald (N := 15) C rfl h26 (by decide) dX4_heavy_62 ?_
        refine z_ishl C dX4_heavy_63 ?_
        refine z_goto (tgt := 68) C dX4_heavy_64 (by decide) ?_
        refine z_sub (L' := [(0, .ref (qad g 110)), (1, .int (qI p1)), (3, .int (qI x11))]) [0, 1, 3] rfl ?_
        exact hj21 (qishl 3 (a8 126 x11.toNat)) hm

set_option maxHeartbeats 4000000 in
set_option maxRecDepth 100000 in
theorem met_X4_heavy (l : Launch) (g : qG) (hl : l.stackTraces = false) (hA : qAd g) (n9 : Nat) (S : qS) (p1 : Int) (r : Int × qS) (hm : MX4_heavy n9 S p1 = some r) : qM l g yX4_heavy (.code yX4_heavy cX4_heavy 4 (some .int)) rmX4_heavy qkI [.ref (qad g 110), .int (qI p1)] S (.inr r.1) r.2 := by
  rw [MX4_heavy] at hm
  refine qM_of (L := [(0, .ref (qad g 110)), (1, .int (qI p1))]) (by decide +kernel) rfl (Nat.le_of_ble_eq_true rfl) hl hA ?_
  intro p e s m below meth c C hr hT
  have C : qC g p l s m ([.ref (qad g 110), .int (qI p1)] : List Value).toArray meth c RX4 cX4_heavy 4 := C
  refine z_aload_n C dX4_heavy_0 0 rfl ?_
  refine z_iload_n C dX4_heavy_1 1 rfl ?_
  obtain ⟨h1, hm⟩ := qg_i hm
  obtain ⟨j3, e27, hm⟩ := ql_i hm
  have hj3 : ∀ (v2 : Int), j3 v2 = some r → qZ g p l e rmX4_heavy s m ([.ref (qad g 110), .int (qI p1)] : List Value).toArray below meth c (qQ g below qkI (.inr r.1) r.2 ([.ref (qad g 110), .int (qI p1)] : List Value).toArray s rmX4_heavy) 4 S [(0, .ref (qad g 110)), (1, .int (qI p1))] 10 [.int (qI v2), .ref (qad g 110)] 0 0 := by
    intro v2 hm
    rw [e27] at hm
    obtain ⟨a4, h5, hm⟩ := qb_i hm
    refine iv_X4_134 C (met_X4_refused l g hl hA n9 S v2 _ h5) rfl ⟨by decide, by decide⟩ ⟨by decide, by decide⟩ (Nat.le_of_ble_eq_true rfl) dX4_heavy_10 ?_
    obtain ⟨h6, hm⟩ := qg_i hm
    refine z_if_eq (tgt := 18) C dX4_heavy_13 (by decide) h6 (fun c7 => ?_) (fun c7 => ?_)
    · have hm := qt_i hm c7
      refine z_aload_n C dX4_heavy_18 0 rfl ?_
      refine z_aload_n C dX4_heavy_19 0 rfl ?_
      refine gf_X4_28 C rfl dX4_heavy_20 ?_
      obtain ⟨a8, h9, hm⟩ := qb_i hm
      refine iv_X4_125 C (met_X4_lay l g hl hA n9 a4.2 117 _ h9) rfl ⟨by decide, by decide⟩ ⟨by decide, by decide⟩ (Nat.le_of_ble_eq_true rfl) dX4_heavy_23 ?_
      refine z_iconst (x := 0) C dX4_heavy_26 rfl ?_
      refine z_istore_n (L' := [(2, .int (qI 0)), (0, .ref (qad g 110)), (1, .int (qI p1))]) C dX4_heavy_27 (by decide) rfl ?_
      refine z_iconst (x := 0) C dX4_heavy_28 rfl ?_
      refine z_istore_n (L' := [(3, .int (qI 0)), (2, .int (qI 0)), (0, .ref (qad g 110)), (1, .int (qI p1))]) C dX4_heavy_29 (by decide) rfl ?_
      refine z_sub (L' := [(0, .ref (qad g 110)), (1, .int (qI p1)), (2, .int (qI 0)), (3, .int (qI 0))]) [2, 3, 1, 0] rfl ?_
      exact met_X4_heavy_l30 C hr hT n9 p1 a8  n9 0 0 hm
    · have hm := qf_i hm c7
      refine z_iconst (x := 0) C dX4_heavy_16 rfl ?_
      exact z_iret C hr (by decide) (by decide) (by cases hm; rfl) dX4_heavy_17
  clear e27
  refine z_if_ge (tgt := 9) C dX4_heavy_2 (by decide) h1 (fun c28 => ?_) (fun c28 => ?_)
  · have hm := qt_i hm c28
    refine z_iconst (x := 0) C dX4_heavy_9 rfl ?_
    exact hj3 0 hm
  · have hm := qf_i hm c28
    refine z_iconst (x := 1) C dX4_heavy_5 rfl ?_
    refine z_goto (tgt := 10) C dX4_heavy_6 (by decide) ?_
    exact hj3 1 hm

set_option maxHeartbeats 4000000 in
set_option maxRecDepth 100000 in
theorem met_X4_rolls (l : Launch) (g : qG) (hl : l.stackTraces = false) (hA : qAd g) (n9 : Nat) (S : qS) (p1 : Int) (p2 : Int) (r : Int × qS) (hm : MX4_rolls n9 S p1 p2 = some r) : qM l g yX4_rolls (.code yX4_rolls cX4_rolls 3 (some .boolean)) rmX4_rolls qkI [.ref (qad g 110), .int (qI p1), .int (qI p2)] S (.inr r.1) r.2 := by
  rw [MX4_rolls] at hm
  refine qM_of (L := [(0, .ref (qad g 110)), (1, .int (qI p1)), (2, .int (qI p2))]) (by decide +kernel) rfl (Nat.le_of_ble_eq_true rfl) hl hA ?_
  intro p e s m below meth c C hr hT
  have C : qC g p l s m ([.ref (qad g 110), .int (qI p1), .int (qI p2)] : List Value).toArray meth c RX4 cX4_rolls 3 := C
  refine z_iload_n C dX4_rolls_0 1 rfl ?_
  obtain ⟨a1, h2, hm⟩ := qb_i hm
  refine iv_X4_240 C (met_X4_isPause l g hl hA n9 S p1 _ h2) ⟨by decide, by decide⟩ ⟨by decide, by decide⟩ (Nat.le_of_ble_eq_true rfl) dX4_rolls_1 ?_
  obtain ⟨h3, hm⟩ := qg_i hm
  refine z_if_eq (tgt := 25) C dX4_rolls_4 (by decide) h3 (fun c4 => ?_) (fun c4 => ?_)
  · have hm := qt_i hm c4
    refine z_iconst (x := 0) C dX4_rolls_25 rfl ?_
    exact z_zret C hr (by decide) (by decide) (by decide) (by cases hm; rfl) dX4_rolls_26
  · have hm := qf_i hm c4
    refine z_iload_n C dX4_rolls_7 2 rfl ?_
    obtain ⟨a5, h6, hm⟩ := qb_i hm
    refine iv_X4_243 C (met_X4_isWeight l g hl hA n9 S p2 _ h6) ⟨by decide, by decide⟩ ⟨by decide, by decide⟩ (Nat.le_of_ble_eq_true rfl) dX4_rolls_8 ?_
    obtain ⟨h7, hm⟩ := qg_i hm
    refine z_if_eq (tgt := 25) C dX4_rolls_11 (by decide) h7 (fun c8 => ?_) (fun c8 => ?_)
    · have hm := qt_i hm c8
      refine z_iconst (x := 0) C dX4_rolls_25 rfl ?_
      exact z_zret C hr (by decide) (by decide) (by decide) (by cases hm; rfl) dX4_rolls_26
    · have hm := qf_i hm c8
      refine z_aload_n C dX4_rolls_14 0 rfl ?_
      refine gf_X4_31 C rfl dX4_rolls_15 ?_
      refine z_iconst (x := 0) C dX4_rolls_18 rfl ?_
      obtain ⟨h9, hm⟩ := qg_i hm
      refine z_iald (N := 95) C rfl h9 (by decide) dX4_rolls_19 ?_
      refine z_bipush (x := 30) C dX4_rolls_20 (by decide +kernel) ?_
      obtain ⟨h10, hm⟩ := qg_i hm
      refine z_icmp_ne (tgt := 27) C dX4_rolls_22 (by decide) ⟨h10, (by decide)⟩ (fun c11 => ?_) (fun c11 => ?_)
      · have hm := qt_i hm c11
        refine z_iconst (x := 0) C dX4_rolls_25 rfl ?_
        exact z_zret C hr (by decide) (by decide) (by decide) (by cases hm; rfl) dX4_rolls_26
      · have hm := qf_i hm c11
        refine z_aload_n C dX4_rolls_27 0 rfl ?_
        refine gf_X4_31 C rfl dX4_rolls_28 ?_
        refine z_iload_n C dX4_rolls_31 1 rfl ?_
        refine z_iload_n C dX4_rolls_32 2 rfl ?_
        obtain ⟨a12, h13, hm⟩ := qb_i hm
        refine iv_X4_249 C (met_X4_rollIn l g hl hA n9 S 118 p1 p2 _ h13) ⟨by decide, by decide⟩ ⟨by decide, by decide⟩ (Nat.le_of_ble_eq_true rfl) dX4_rolls_33 ?_
        refine z_pop C dX4_rolls_36 rfl ?_
        refine z_iconst (x := 1) C dX4_rolls_37 rfl ?_
        exact z_zret C hr (by decide) (by decide) (by decide) (by cases hm; rfl) dX4_rolls_38

set_option maxHeartbeats 4000000 in
set_option maxRecDepth 100000 in
theorem met_X4_strikes (l : Launch) (g : qG) (hl : l.stackTraces = false) (hA : qAd g) (n9 : Nat) (S : qS) (p1 : Int) (r : Int × qS) (hm : MX4_strikes n9 S p1 = some r) : qM l g yX4_strikes (.code yX4_strikes cX4_strikes 2 (some .boolean)) rmX4_strikes qkI [.ref (qad g 110), .int (qI p1)] S (.inr r.1) r.2 := by
  rw [MX4_strikes] at hm
  refine qM_of (L := [(0, .ref (qad g 110)), (1, .int (qI p1))]) (by decide +kernel) rfl (Nat.le_of_ble_eq_true rfl) hl hA ?_
  intro p e s m below meth c C hr hT
  have C : qC g p l s m ([.ref (qad g 110), .int (qI p1)] : List Value).toArray meth c RX4 cX4_strikes 2 := C
  refine z_iload_n C dX4_strikes_0 1 rfl ?_
  refine z_aload_n C dX4_strikes_1 0 rfl ?_
  refine gf_X4_31 C rfl dX4_strikes_2 ?_
  refine z_iconst (x := 0) C dX4_strikes_5 rfl ?_
  obtain ⟨h1, hm⟩ := qg_i hm
  refine z_iald (N := 95) C rfl h1 (by decide) dX4_strikes_6 ?_
  obtain ⟨h2, hm⟩ := qg_i hm
  obtain ⟨h3, hm⟩ := qg_i hm
  refine z_icmp_lt (tgt := 12) C dX4_strikes_7 (by decide) ⟨h2, h3⟩ (fun c4 => ?_) (fun c4 => ?_)
  · have hm := qt_i hm c4
    refine z_aload_n C dX4_strikes_12 0 rfl ?_
    refine gf_X4_31 C rfl dX4_strikes_13 ?_
    refine z_iload_n C dX4_strikes_16 1 rfl ?_
    obtain ⟨a5, h6, hm⟩ := qb_i hm
    refine iv_X4_252 C (met_X4_strikeIn l g hl hA n9 S 118 p1 _ h6) ⟨by decide, by decide⟩ ⟨by decide, by decide⟩ (Nat.le_of_ble_eq_true rfl) dX4_strikes_17 ?_
    refine z_pop C dX4_strikes_20 rfl ?_
    refine z_iconst (x := 1) C dX4_strikes_21 rfl ?_
    exact z_zret C hr (by decide) (by decide) (by decide) (by cases hm; rfl) dX4_strikes_22
  · have hm := qf_i hm c4
    refine z_iconst (x := 0) C dX4_strikes_10 rfl ?_
    exact z_zret C hr (by decide) (by decide) (by decide) (by cases hm; rfl) dX4_strikes_11

set_option maxHeartbeats 4000000 in
set_option maxRecDepth 100000 in
theorem met_X4_weighs (l : Launch) (g : qG) (hl : l.stackTraces = false) (hA : qAd g) (n9 : Nat) (S : qS) (p1 : Int) (p2 : Int) (r : Int × qS) (hm : MX4_weighs n9 S p1 p2 = some r) : qM l g yX4_weighs (.code yX4_weighs cX4_weighs 3 (some .boolean)) rmX4_weighs qkI [.ref (qad g 110), .int (qI p1), .int (qI p2)] S (.inr r.1) r.2 := by
  rw [MX4_weighs] at hm
  refine qM_of (L := [(0, .ref (qad g 110)), (1, .int (qI p1)), (2, .int (qI p2))]) (by decide +kernel) rfl (Nat.le_of_ble_eq_true rfl) hl hA ?_
  intro p e s m below meth c C hr hT
  have C : qC g p l s m ([.ref (qad g 110), .int (qI p1), .int (qI p2)] : List Value).toArray meth c RX4 cX4_weighs 3 := C
  refine z_iload_n C dX4_weighs_0 1 rfl ?_
  refine z_aload_n C dX4_weighs_1 0 rfl ?_
  refine gf_X4_31 C rfl dX4_weighs_2 ?_
  refine z_iconst (x := 0) C dX4_weighs_5 rfl ?_
  obtain ⟨h1, hm⟩ := qg_i hm
  refine z_iald (N := 95) C rfl h1 (by decide) dX4_weighs_6 ?_
  obtain ⟨h2, hm⟩ := qg_i hm
  obtain ⟨h3, hm⟩ := qg_i hm
  refine z_icmp_ge (tgt := 17) C dX4_weighs_7 (by decide) ⟨h2, h3⟩ (fun c4 => ?_) (fun c4 => ?_)
  · have hm := qt_i hm c4
    refine z_iconst (x := 0) C dX4_weighs_17 rfl ?_
    exact z_zret C hr (by decide) (by decide) (by decide) (by cases hm; rfl) dX4_weighs_18
  · have hm := qf_i hm c4
    refine z_iload_n C dX4_weighs_10 2 rfl ?_
    obtain ⟨a5, h6, hm⟩ := qb_i hm
    refine iv_X4_243 C (met_X4_isWeight l g hl hA n9 S p2 _ h6) ⟨by decide, by decide⟩ ⟨by decide, by decide⟩ (Nat.le_of_ble_eq_true rfl) dX4_weighs_11 ?_
    obtain ⟨h7, hm⟩ := qg_i hm
    refine z_if_ne (tgt := 19) C dX4_weighs_14 (by decide) h7 (fun c8 => ?_) (fun c8 => ?_)
    · have hm := qt_i hm c8
      refine z_iconst (x := 0) C dX4_weighs_17 rfl ?_
      exact z_zret C hr (by decide) (by decide) (by decide) (by cases hm; rfl) dX4_weighs_18
    · have hm := qf_i hm c8
      refine z_aload_n C dX4_weighs_19 0 rfl ?_
      refine gf_X4_31 C rfl dX4_weighs_20 ?_
      refine z_bipush (x := 65) C dX4_weighs_23 (by decide +kernel) ?_
      refine z_iload_n C dX4_weighs_25 1 rfl ?_
      refine z_iadd C dX4_weighs_26 ?_
      refine z_iload_n C dX4_weighs_27 2 rfl ?_
      obtain ⟨h9, hm⟩ := qg_i hm
      refine z_iast (N := 95) C rfl h9 (by decide) dX4_weighs_28 ?_
      obtain ⟨S10, e11, hm⟩ := ql_i hm
      refine z_S e11 ?_
      refine z_iconst (x := 1) C dX4_weighs_29 rfl ?_
      exact z_zret C hr (by decide) (by decide) (by decide) (by cases hm; rfl) dX4_weighs_30

set_option maxHeartbeats 4000000 in
set_option maxRecDepth 100000 in
theorem met_X4_sets (l : Launch) (g : qG) (hl : l.stackTraces = false) (hA : qAd g) (n9 : Nat) (S : qS) (p1 : Int) (p2 : Int) (r : Int × qS) (hm : MX4_sets n9 S p1 p2 = some r) : qM l g yX4_sets (.code yX4_sets cX4_sets 3 (some .boolean)) rmX4_sets qkI [.ref (qad g 110), .int (qI p1), .int (qI p2)] S (.inr r.1) r.2 := by
  rw [MX4_sets] at hm
  refine qM_of (L := [(0, .ref (qad g 110)), (1, .int (qI p1)), (2, .int (qI p2))]) (by decide +kernel) rfl (Nat.le_of_ble_eq_true rfl) hl hA ?_
  intro p e s m below meth c C hr hT
  have C : qC g p l s m ([.ref (qad g 110), .int (qI p1), .int (qI p2)] : List Value).toArray meth c RX4 cX4_sets 3 := C
  refine z_iload_n C dX4_sets_0 1 rfl ?_
  refine z_iload_n C dX4_sets_1 2 rfl ?_
  obtain ⟨a1, h2, hm⟩ := qb_i hm
  refine iv_X4_263 C (met_X4_isSetting l g hl hA n9 S p1 p2 _ h2) ⟨by decide, by decide⟩ ⟨by decide, by decide⟩ (Nat.le_of_ble_eq_true rfl) dX4_sets_2 ?_
  obtain ⟨h3, hm⟩ := qg_i hm
  refine z_if_ne (tgt := 10) C dX4_sets_5 (by decide) h3 (fun c4 => ?_) (fun c4 => ?_)
  · have hm := qt_i hm c4
    refine z_iconst (x := 0) C dX4_sets_8 rfl ?_
    exact z_zret C hr (by decide) (by decide) (by decide) (by cases hm; rfl) dX4_sets_9
  · have hm := qf_i hm c4
    refine z_aload_n C dX4_sets_10 0 rfl ?_
    refine gf_X4_31 C rfl dX4_sets_11 ?_
    refine z_iconst (x := 1) C dX4_sets_14 rfl ?_
    refine z_iload_n C dX4_sets_15 1 rfl ?_
    refine z_iadd C dX4_sets_16 ?_
    refine z_iload_n C dX4_sets_17 2 rfl ?_
    obtain ⟨h5, hm⟩ := qg_i hm
    refine z_iast (N := 95) C rfl h5 (by decide) dX4_sets_18 ?_
    obtain ⟨S6, e7, hm⟩ := ql_i hm
    refine z_S e7 ?_
    refine z_iconst (x := 1) C dX4_sets_19 rfl ?_
    exact z_zret C hr (by decide) (by decide) (by decide) (by cases hm; rfl) dX4_sets_20

set_option maxHeartbeats 4000000 in
set_option maxRecDepth 100000 in
theorem met_X4_leaves (l : Launch) (g : qG) (hl : l.stackTraces = false) (hA : qAd g) (n9 : Nat) (S : qS) (r : Int × qS) (hm : MX4_leaves n9 S  = some r) : qM l g yX4_leaves (.code yX4_leaves cX4_leaves 1 (some .boolean)) rmX4_leaves qkI [.ref (qad g 110)] S (.inr r.1) r.2 := by
  rw [MX4_leaves] at hm
  refine qM_of (L := [(0, .ref (qad g 110))]) (by decide +kernel) rfl (Nat.le_of_ble_eq_true rfl) hl hA ?_
  intro p e s m below meth c C hr hT
  have C : qC g p l s m ([.ref (qad g 110)] : List Value).toArray meth c RX4 cX4_leaves 1 := C
  refine z_aload_n C dX4_leaves_0 0 rfl ?_
  refine gf_X4_31 C rfl dX4_leaves_1 ?_
  refine z_iconst (x := 0) C dX4_leaves_4 rfl ?_
  obtain ⟨h1, hm⟩ := qg_i hm
  refine z_iald (N := 95) C rfl h1 (by decide) dX4_leaves_5 ?_
  obtain ⟨h2, hm⟩ := qg_i hm
  refine z_if_ne (tgt := 11) C dX4_leaves_6 (by decide) h2 (fun c3 => ?_) (fun c3 => ?_)
  · have hm := qt_i hm c3
    refine z_iconst (x := 0) C dX4_leaves_9 rfl ?_
    exact z_zret C hr (by decide) (by decide) (by decide) (by cases hm; rfl) dX4_leaves_10
  · have hm := qf_i hm c3
    refine z_aload_n C dX4_leaves_11 0 rfl ?_
    refine z_aload_n C dX4_leaves_12 0 rfl ?_
    refine gf_X4_31 C rfl dX4_leaves_13 ?_
    obtain ⟨a4, h5, hm⟩ := qb_i hm
    refine iv_X4_267 C (met_X4_leaveIn l g hl hA n9 S 118 _ h5) rfl ⟨by decide, by decide⟩ ⟨by decide, by decide⟩ (Nat.le_of_ble_eq_true rfl) dX4_leaves_16 ?_
    refine z_pop C dX4_leaves_19 rfl ?_
    refine z_iconst (x := 1) C dX4_leaves_20 rfl ?_
    exact z_zret C hr (by decide) (by decide) (by decide) (by cases hm; rfl) dX4_leaves_21

set_option maxHeartbeats 4000000 in
set_option maxRecDepth 100000 in
theorem met_X4_does (l : Launch) (g : qG) (hl : l.stackTraces = false) (hA : qAd g) (n9 : Nat) (S : qS) (p1 : Int) (r : Int × qS) (hm : MX4_does n9 S p1 = some r) : qM l g yX4_does (.code yX4_does cX4_does 5 (some .boolean)) rmX4_does qkI [.ref (qad g 110), .int (qI p1)] S (.inr r.1) r.2 := by
  rw [MX4_does] at hm
  refine qM_of (L := [(0, .ref (qad g 110)), (1, .int (qI p1))]) (by decide +kernel) rfl (Nat.le_of_ble_eq_true rfl) hl hA ?_
  intro p e s m below meth c C hr hT
  have C : qC g p l s m ([.ref (qad g 110), .int (qI p1)] : List Value).toArray meth c RX4 cX4_does 5 := C
  refine z_iload_n C dX4_does_0 1 rfl ?_
  refine z_sipush (x := 10000) C dX4_does_1 (by decide +kernel) ?_
  obtain ⟨h1, hm⟩ := qg_i hm
  refine z_idiv C dX4_does_4 h1 ?_
  obtain ⟨x2, e3, hm⟩ := ql_i hm
  refine z_topi e3 ?_
  refine z_istore_n (L' := [(2, .int (qI x2)), (0, .ref (qad g 110)), (1, .int (qI p1))]) C dX4_does_5 (by decide) rfl ?_
  refine z_iload_n C dX4_does_6 2 rfl ?_
  refine z_bipush (x := 100) C dX4_does_7 (by decide +kernel) ?_
  obtain ⟨h4, hm⟩ := qg_i hm
  refine z_idiv C dX4_does_9 h4 ?_
  refine z_bipush (x := 100) C dX4_does_10 (by decide +kernel) ?_
  obtain ⟨h5, hm⟩ := qg_i hm
  refine z_irem C dX4_does_12 h5 ?_
  obtain ⟨x6, e7, hm⟩ := ql_i hm
  refine z_topi e7 ?_
  refine z_istore_n (L' := [(3, .int (qI x6)), (2, .int (qI x2)), (0, .ref (qad g 110)), (1, .int (qI p1))]) C dX4_does_13 (by decide) rfl ?_
  refine z_iload_n C dX4_does_14 3 rfl ?_
  refine z_bipush (x := 100) C dX4_does_15 (by decide +kernel) ?_
  obtain ⟨h8, hm⟩ := qg_i hm
  refine z_irem C dX4_does_17 h8 ?_
  obtain ⟨x9, e10, hm⟩ := ql_i hm
  refine z_topi e10 ?_
  refine z_istore (L' := [(4, .int (qI x9)), (3, .int (qI x6)), (2, .int (qI x2)), (0, .ref (qad g 110)), (1, .int (qI p1))]) C dX4_does_18 (by decide) rfl ?_
  refine z_aload_n C dX4_does_20 3 rfl ?_
  refine z_aload_n C dX4_does_21 3 rfl ?_
  refine gf_X4_31 C rfl dX4_does_22 ?_
  obtain ⟨a11, h12, hm⟩ := qb_i hm
  refine iv_X4_125 C (met_X4_lay l g hl hA n9 S 118 _ h12) rfl ⟨by decide, by decide⟩ ⟨by decide, by decide⟩ (Nat.le_of_ble_eq_true rfl) dX4_does_25 ?_
  refine z_iload_n C dX4_does_28 2 rfl ?_
  obtain ⟨h13, hm⟩ := qg_i hm
  rcases Classical.em (x2 = 1) with c14 | c14
  · have hm := qt_i hm c14
    refine z_tableIn (tgt := 80) C dX4_does_29 h13 (by omega) (by omega) (by rw [c14]; rfl) (by decide) ?_
    refine z_aload_n C dX4_does_80 3 rfl ?_
    refine z_iload_n C dX4_does_81 1 rfl ?_
    refine z_iload C dX4_does_82 0 rfl ?_
    obtain ⟨a15, h16, hm⟩ := qb_i hm
    refine iv_X4_274 C (met_X4_rolls l g hl hA n9 a11 x6 x9 _ h16) rfl ⟨by decide, by decide⟩ ⟨by decide, by decide⟩ (Nat.le_of_ble_eq_true rfl) dX4_does_84 ?_
    obtain ⟨h17, hm⟩ := qg_i hm
    exact z_zret C hr h17 (by decide) (by decide) (by cases hm; rfl) dX4_does_87
  have hm := qf_i hm c14
  rcases Classical.em (x2 = 2) with c18 | c18
  · have hm := qt_i hm c18
    refine z_tableIn (tgt := 88) C dX4_does_29 h13 (by omega) (by omega) (by rw [c18]; rfl) (by decide) ?_
    refine z_iload C dX4_does_88 0 rfl ?_
    obtain ⟨h19, hm⟩ := qg_i hm
    refine z_if_ne (tgt := 105) C dX4_does_90 (by decide) h19 (fun c20 => ?_) (fun c20 => ?_)
    · have hm := qt_i hm c20
      refine z_aload_n C dX4_does_93 3 rfl ?_
      refine z_iload_n C dX4_does_94 1 rfl ?_
      obtain ⟨a21, h22, hm⟩ := qb_i hm
      refine iv_X4_277 C (met_X4_strikes l g hl hA n9 a11 x6 _ h22) rfl ⟨by decide, by decide⟩ ⟨by decide, by decide⟩ (Nat.le_of_ble_eq_true rfl) dX4_does_95 ?_
      obtain ⟨h23, hm⟩ := qg_i hm
      refine z_if_eq (tgt := 105) C dX4_does_98 (by decide) h23 (fun c24 => ?_) (fun c24 => ?_)
      · have hm := qt_i hm c24
        refine z_iconst (x := 0) C dX4_does_105 rfl ?_
        exact z_zret C hr (by decide) (by decide) (by decide) (by cases hm; rfl) dX4_does_106
      · have hm := qf_i hm c24
        refine z_iconst (x := 1) C dX4_does_101 rfl ?_
        refine z_goto (tgt := 106) C dX4_does_102 (by decide) ?_
        exact z_zret C hr (by decide) (by decide) (by decide) (by cases hm; rfl) dX4_does_106
    · have hm := qf_i hm c20
      refine z_iconst (x := 0) C dX4_does_105 rfl ?_
      exact z_zret C hr (by decide) (by decide) (by decide) (by cases hm; rfl) dX4_does_106
  have hm := qf_i hm c18
  rcases Classical.em (x2 = 3) with c25 | c25
  · have hm := qt_i hm c25
    refine z_tableIn (tgt := 107) C dX4_does_29 h13 (by omega) (by omega) (by rw [c25]; rfl) (by decide) ?_
    refine z_aload_n C dX4_does_107 3 rfl ?_
    refine z_iload_n C dX4_does_108 1 rfl ?_
    refine z_iload C dX4_does_109 0 rfl ?_
    obtain ⟨a26, h27, hm⟩ := qb_i hm
    refine iv_X4_280 C (met_X4_weighs l g hl hA n9 a11 x6 x9 _ h27) rfl ⟨by decide, by decide⟩ ⟨by decide, by decide⟩ (Nat.le_of_ble_eq_true rfl) dX4_does_111 ?_
    obtain ⟨h28, hm⟩ := qg_i hm
    exact z_zret C hr h28 (by decide) (by decide) (by cases hm; rfl) dX4_does_114
  have hm := qf_i hm c25
  rcases Classical.em (x2 = 4) with c29 | c29
  · have hm := qt_i hm c29
    refine z_tableIn (tgt := 115) C dX4_does_29 h13 (by omega) (by omega) (by rw [c29]; rfl) (by decide) ?_
    refine z_iload_n C dX4_does_115 4 rfl ?_
    refine z_bipush (x := 10) C dX4_does_116 (by decide +kernel) ?_
    obtain ⟨h30, hm⟩ := qg_i hm
    refine z_irem C dX4_does_118 h30 ?_
    obtain ⟨h31, hm⟩ := qg_i hm
    refine z_if_ne (tgt := 144) C dX4_does_119 (by decide) h31 (fun c32 => ?_) (fun c32 => ?_)
    · have hm := qt_i hm c32
      refine z_aload_n C dX4_does_122 3 rfl ?_
      refine z_iload_n C dX4_does_123 1 rfl ?_
      refine z_bipush (x := 10) C dX4_does_124 (by decide +kernel) ?_
      obtain ⟨h33, hm⟩ := qg_i hm
      refine z_idiv C dX4_does_126 h33 ?_
      refine z_iload_n C dX4_does_127 4 rfl ?_
      refine z_bipush (x := 10) C dX4_does_128 (by decide +kernel) ?_
      obtain ⟨h34, hm⟩ := qg_i hm
      refine z_idiv C dX4_does_130 h34 ?_
      refine z_bipush (x := 100) C dX4_does_131 (by decide +kernel) ?_
      obtain ⟨h35, hm⟩ := qg_i hm
      refine z_irem C dX4_does_133 h35 ?_
      obtain ⟨a36, h37, hm⟩ := qb_i hm
      refine iv_X4_283 C (met_X4_sets l g hl hA n9 a11 (x6 / 10) ((p1 / 10) % 100) _ h37) rfl ⟨by decide, by decide⟩ ⟨by decide, by decide⟩ (Nat.le_of_ble_eq_true rfl) dX4_does_134 ?_
      obtain ⟨h38, hm⟩ := qg_i hm
      refine z_if_eq (tgt := 144) C dX4_does_137 (by decide) h38 (fun c39 => ?_) (fun c39 => ?_)
      · have hm := qt_i hm c39
        refine z_iconst (x := 0) C dX4_does_144 rfl ?_
        exact z_zret C hr (by decide) (by decide) (by decide) (by cases hm; rfl) dX4_does_145
      · have hm := qf_i hm c39
        refine z_iconst (x := 1) C dX4_does_140 rfl ?_
        refine z_goto (tgt := 145) C dX4_does_141 (by decide) ?_
        exact z_zret C hr (by decide) (by decide) (by decide) (by cases hm; rfl) dX4_does_145
    · have hm := qf_i hm c32
      refine z_iconst (x := 0) C dX4_does_144 rfl ?_
      exact z_zret C hr (by decide) (by decide) (by decide) (by cases hm; rfl) dX4_does_145
  have hm := qf_i hm c29
  rcases Classical.em (x2 = 5) with c40 | c40
  · have hm := qt_i hm c40
    refine z_tableIn (tgt := 146) C dX4_does_29 h13 (by omega) (by omega) (by rw [c40]; rfl) (by decide) ?_
    refine z_iload_n C dX4_does_146 4 rfl ?_
    refine z_sipush (x := 10000) C dX4_does_147 (by decide +kernel) ?_
    obtain ⟨h41, hm⟩ := qg_i hm
    refine z_irem C dX4_does_150 h41 ?_
    obtain ⟨h42, hm⟩ := qg_i hm
    refine z_if_ne (tgt := 165) C dX4_does_151 (by decide) h42 (fun c43 => ?_) (fun c43 => ?_)
    · have hm := qt_i hm c43
      refine z_aload_n C dX4_does_154 3 rfl ?_
      obtain ⟨a44, h45, hm⟩ := qb_i hm
      refine iv_X4_286 C (met_X4_leaves l g hl hA n9 a11  _ h45) rfl ⟨by decide, by decide⟩ ⟨by decide, by decide⟩ (Nat.le_of_ble_eq_true rfl) dX4_does_155 ?_
      obtain ⟨h46, hm⟩ := qg_i hm
      refine z_if_eq (tgt := 165) C dX4_does_158 (by decide) h46 (fun c47 => ?_) (fun c47 => ?_)
      · have hm := qt_i hm c47
        refine z_iconst (x := 0) C dX4_does_165 rfl ?_
        exact z_zret C hr (by decide) (by decide) (by decide) (by cases hm; rfl) dX4_does_166
      · have hm := qf_i hm c47
        refine z_iconst (x := 1) C dX4_does_161 rfl ?_
        refine z_goto (tgt := 166) C dX4_does_162 (by decide) ?_
        exact z_zret C hr (by decide) (by decide) (by decide) (by cases hm; rfl) dX4_does_166
    · have hm := qf_i hm c43
      refine z_iconst (x := 0) C dX4_does_165 rfl ?_
      exact z_zret C hr (by decide) (by decide) (by decide) (by cases hm; rfl) dX4_does_166
  have hm := qf_i hm c40
  rcases Classical.em (x2 = 6) with c48 | c48
  · have hm := qt_i hm c48
    refine z_tableIn (tgt := 167) C dX4_does_29 h13 (by omega) (by omega) (by rw [c48]; rfl) (by decide) ?_
    refine z_iload_n C dX4_does_167 1 rfl ?_
    obtain ⟨h49, hm⟩ := qg_i hm
    refine z_if_ne (tgt := 184) C dX4_does_168 (by decide) h49 (fun c50 => ?_) (fun c50 => ?_)
    · have hm := qt_i hm c50
      refine z_aload_n C dX4_does_171 3 rfl ?_
      refine gf_X4_99 C rfl dX4_does_172 ?_
      refine z_iload C dX4_does_175 0 rfl ?_
      obtain ⟨h51, hm⟩ := qg_i hm
      obtain ⟨h52, hm⟩ := qg_i hm
      refine z_icmp_lt (tgt := 184) C dX4_does_177 (by decide) ⟨h51, h52⟩ (fun c53 => ?_) (fun c53 => ?_)
      · have hm := qt_i hm c53
        refine z_iconst (x := 0) C dX4_does_184 rfl ?_
        exact z_zret C hr (by decide) (by decide) (by decide) (by cases hm; rfl) dX4_does_185
      · have hm := qf_i hm c53
        refine z_iconst (x := 1) C dX4_does_180 rfl ?_
        refine z_goto (tgt := 185) C dX4_does_181 (by decide) ?_
        exact z_zret C hr (by decide) (by decide) (by decide) (by cases hm; rfl) dX4_does_185
    · have hm := qf_i hm c50
      refine z_iconst (x := 0) C dX4_does_184 rfl ?_
      exact z_zret C hr (by decide) (by decide) (by decide) (by cases hm; rfl) dX4_does_185
  have hm := qf_i hm c48
  rcases Classical.em (x2 = 7) with c54 | c54
  · have hm := qt_i hm c54
    refine z_tableIn (tgt := 186) C dX4_does_29 h13 (by omega) (by omega) (by rw [c54]; rfl) (by decide) ?_
    refine z_iload_n C dX4_does_186 1 rfl ?_
    obtain ⟨h55, hm⟩ := qg_i hm
    refine z_if_ne (tgt := 212) C dX4_does_187 (by decide) h55 (fun c56 => ?_) (fun c56 => ?_)
    · have hm := qt_i hm c56
      refine z_aload_n C dX4_does_190 3 rfl ?_
      refine gf_X4_31 C rfl dX4_does_191 ?_
      refine z_iconst (x := 0) C dX4_does_194 rfl ?_
      obtain ⟨h57, hm⟩ := qg_i hm
      refine z_iald (N := 95) C rfl h57 (by decide) dX4_does_195 ?_
      refine z_iconst (x := 2) C dX4_does_196 rfl ?_
      refine z_aload_n C dX4_does_197 3 rfl ?_
      refine gf_X4_99 C rfl dX4_does_198 ?_
      refine z_imul C dX4_does_201 ?_
      refine z_isub C dX4_does_202 ?_
      refine z_iload C dX4_does_203 0 rfl ?_
      obtain ⟨h58, hm⟩ := qg_i hm
      obtain ⟨h59, hm⟩ := qg_i hm
      refine z_icmp_gt (tgt := 212) C dX4_does_205 (by decide) ⟨h58, h59⟩ (fun c60 => ?_) (fun c60 => ?_)
      · have hm := qt_i hm c60
        refine z_iconst (x := 0) C dX4_does_212 rfl ?_
        exact z_zret C hr (by decide) (by decide) (by decide) (by cases hm; rfl) dX4_does_213
      · have hm := qf_i hm c60
        refine z_iconst (x := 1) C dX4_does_208 rfl ?_
        refine z_goto (tgt := 213) C dX4_does_209 (by decide) ?_
        exact z_zret C hr (by decide) (by decide) (by decide) (by cases hm; rfl) dX4_does_213
    · have hm := qf_i hm c56
      refine z_iconst (x := 0) C dX4_does_212 rfl ?_
      exact z_zret C hr (by decide) (by decide) (by decide) (by cases hm; rfl) dX4_does_213
  have hm := qf_i hm c54
  rcases Classical.em (x2 = 8) with c61 | c61
  · have hm := qt_i hm c61
    refine z_tableIn (tgt := 214) C dX4_does_29 h13 (by omega) (by omega) (by rw [c61]; rfl) (by decide) ?_
    refine z_aload_n C dX4_does_214 3 rfl ?_
    refine z_aload_n C dX4_does_215 3 rfl ?_
    refine gf_X4_31 C rfl dX4_does_216 ?_
    obtain ⟨a62, h63, hm⟩ := qb_i hm
    refine iv_X4_203 C (met_X4_allWeight l g hl hA n9 a11 118 _ h63) rfl ⟨by decide, by decide⟩ ⟨by decide, by decide⟩ (Nat.le_of_ble_eq_true rfl) dX4_does_219 ?_
    refine z_iload_n C dX4_does_222 4 rfl ?_
    refine z_sipush (x := 10000) C dX4_does_223 (by decide +kernel) ?_
    obtain ⟨h64, hm⟩ := qg_i hm
    refine z_irem C dX4_does_226 h64 ?_
    obtain ⟨h65, hm⟩ := qg_i hm
    obtain ⟨h66, hm⟩ := qg_i hm
    refine z_icmp_lt (tgt := 234) C dX4_does_227 (by decide) ⟨h65, h66⟩ (fun c67 => ?_) (fun c67 => ?_)
    · have hm := qt_i hm c67
      refine z_iconst (x := 0) C dX4_does_234 rfl ?_
      exact z_zret C hr (by decide) (by decide) (by decide) (by cases hm; rfl) dX4_does_235
    · have hm := qf_i hm c67
      refine z_iconst (x := 1) C dX4_does_230 rfl ?_
      refine z_goto (tgt := 235) C dX4_does_231 (by decide) ?_
      exact z_zret C hr (by decide) (by decide) (by decide) (by cases hm; rfl) dX4_does_235
  have hm := qf_i hm c61
  rcases Classical.em (x2 = 9) with c68 | c68
  · have hm := qt_i hm c68
    refine z_tableIn (tgt := 236) C dX4_does_29 h13 (by omega) (by omega) (by rw [c68]; rfl) (by decide) ?_
    refine z_iload_n C dX4_does_236 1 rfl ?_
    refine z_aload_n C dX4_does_237 3 rfl ?_
    refine gf_X4_31 C rfl dX4_does_238 ?_
    refine z_iconst (x := 0) C dX4_does_241 rfl ?_
    obtain ⟨h69, hm⟩ := qg_i hm
    refine z_iald (N := 95) C rfl h69 (by decide) dX4_does_242 ?_
    obtain ⟨h70, hm⟩ := qg_i hm
    obtain ⟨h71, hm⟩ := qg_i hm
    refine z_icmp_ge (tgt := 284) C dX4_does_243 (by decide) ⟨h70, h71⟩ (fun c72 => ?_) (fun c72 => ?_)
    · have hm := qt_i hm c72
      refine z_iconst (x := 0) C dX4_does_284 rfl ?_
      exact z_zret C hr (by decide) (by decide) (by decide) (by cases hm; rfl) dX4_does_285
    · have hm := qf_i hm c72
      refine z_iload C dX4_does_246 0 rfl ?_
      refine z_iconst (x := 2) C dX4_does_248 rfl ?_
      obtain ⟨h73, hm⟩ := qg_i hm
      refine z_icmp_ge (tgt := 284) C dX4_does_249 (by decide) ⟨h73, (by decide)⟩ (fun c74 => ?_) (fun c74 => ?_)
      · have hm := qt_i hm c74
        refine z_iconst (x := 0) C dX4_does_284 rfl ?_
        exact z_zret C hr (by decide) (by decide) (by decide) (by cases hm; rfl) dX4_does_285
      · have hm := qf_i hm c74
        refine z_aload_n C dX4_does_252 3 rfl ?_
        refine z_iload_n C dX4_does_253 1 rfl ?_
        obtain ⟨a75, h76, hm⟩ := qb_i hm
        refine iv_X4_216 C (met_X4_carOf l g hl hA n9 a11 x6 _ h76) rfl ⟨by decide, by decide⟩ ⟨by decide, by decide⟩ (Nat.le_of_ble_eq_true rfl) dX4_does_254 ?_
        refine z_iconst (x := (-1)) C dX4_does_257 rfl ?_
        obtain ⟨h77, hm⟩ := qg_i hm
        obtain ⟨j79, e87, hm⟩ := ql_i hm
        have hj79 : ∀ (v78 : Int), j79 v78 = some r → qZ g p l e rmX4_does s m ([.ref (qad g 110), .int (qI p1)] : List Value).toArray below meth c (qQ g below qkI (.inr r.1) r.2 ([.ref (qad g 110), .int (qI p1)] : List Value).toArray s rmX4_does) 5 a11 [(4, .int (qI x9))] 266 [.int (qI v78)] 0 0 := by
          intro v78 hm
          rw [e87] at hm
          refine z_iload C dX4_does_266 0 rfl ?_
          refine z_iconst (x := 1) C dX4_does_268 rfl ?_
          obtain ⟨j81, e85, hm⟩ := ql_i hm
          have hj81 : ∀ (v80 : Int), j81 v80 = some r → qZ g p l e rmX4_does s m ([.ref (qad g 110), .int (qI p1)] : List Value).toArray below meth c (qQ g below qkI (.inr r.1) r.2 ([.ref (qad g 110), .int (qI p1)] : List Value).toArray s rmX4_does) 5 a11 [] 277 [.int (qI v80), .int (qI v78)] 0 0 := by
            intro v80 hm
            rw [e85] at hm
            obtain ⟨h82, hm⟩ := qg_i hm
            obtain ⟨h83, hm⟩ := qg_i hm
            refine z_icmp_ne (tgt := 284) C dX4_does_277 (by decide) ⟨h82, h83⟩ (fun c84 => ?_) (fun c84 => ?_)
            · have hm := qt_i hm c84
              refine z_iconst (x := 1) C dX4_does_280 rfl ?_
              refine z_goto (tgt := 285) C dX4_does_281 (by decide) ?_
              exact z_zret C hr (by decide) (by decide) (by decide) (by cases hm; rfl) dX4_does_285
            · have hm := qf_i hm c84
              refine z_iconst (x := 0) C dX4_does_284 rfl ?_
              exact z_zret C hr (by decide) (by decide) (by decide) (by cases hm; rfl) dX4_does_285
          clear e85
          refine z_icmp_ne (tgt := 276) C dX4_does_269 (by decide) ⟨h73, (by decide)⟩ (fun c86 => ?_) (fun c86 => ?_)
          · have hm := qt_i hm c86
            refine z_iconst (x := 1) C dX4_does_272 rfl ?_
            refine z_goto (tgt := 277) C dX4_does_273 (by decide) ?_
            refine z_sub (L' := []) [] rfl ?_
            exact hj81 1 hm
          · have hm := qf_i hm c86
            refine z_iconst (x := 0) C dX4_does_276 rfl ?_
            refine z_sub (L' := []) [] rfl ?_
            exact hj81 0 hm
        clear e87
        refine z_icmp_eq (tgt := 265) C dX4_does_258 (by decide) ⟨h77, (by decide)⟩ (fun c88 => ?_) (fun c88 => ?_)
        · have hm := qt_i hm c88
          refine z_iconst (x := 0) C dX4_does_265 rfl ?_
          refine z_sub (L' := [(4, .int (qI x9))]) [0] rfl ?_
          exact hj79 0 hm
        · have hm := qf_i hm c88
          refine z_iconst (x := 1) C dX4_does_261 rfl ?_
          refine z_goto (tgt := 266) C dX4_does_262 (by decide) ?_
          refine z_sub (L' := [(4, .int (qI x9))]) [0] rfl ?_
          exact hj79 1 hm
  have hm := qf_i hm c68
  refine z_tableOut (tgt := 286) C dX4_does_29 h13 (by omega) (by decide) ?_
  refine z_iconst (x := 0) C dX4_does_286 rfl ?_
  exact z_zret C hr (by decide) (by decide) (by decide) (by cases hm; rfl) dX4_does_287

set_option maxHeartbeats 4000000 in
set_option maxRecDepth 100000 in
theorem met_X4_runScript_l62 {g : qG} {p : Program} {l : Launch} {e : Env} {s : State} {m : MethodId} {args : Array Value} {below : List Frame} {meth : Method} {c : Code} (C : qC g p l s m args meth c RX4 cX4_runScript 6) (hr : meth.sig.returnType = (some .int)) (hT : ∀ x ∈ c.exceptionTable.toList, False) (n9 : Nat) (p1 : Int) (p2 : Int) {r : Int × qS}  : ∀ (f : Nat) (S13 : qS) (x14 : Int), MX4_runScript_l62 n9 p1 p2 f S13 x14 = some r → qZ g p l e rmX4_runScript s m args below meth c (qQ g below qkI (.inr r.1) r.2 args s rmX4_runScript) 6 S13 [(0, .ref (qad g 110)), (1, .int (qI p1)), (2, .long (qL p2)), (5, .int (qI x14))] 62 [] 0 0 := by
  intro f
  induction f with
  | zero => intro S13 x14 hm; rw [MX4_runScript_l62] at hm; cases hm
  | succ f ih =>
    intro S13 x14 hm
    rw [MX4_runScript_l62] at hm
    have hl := C.2.2.2.2.2.2.2.2
    have hA := C.2.2.2.2.2.2.1
    refine z_iload C dX4_runScript_62 3 rfl ?_
    refine z_iload_n C dX4_runScript_64 1 rfl ?_
    obtain ⟨h15, hm⟩ := qg_i hm
    obtain ⟨h16, hm⟩ := qg_i hm
    refine z_icmp_ge (tgt := 102) C dX4_runScript_65 (by decide) ⟨h15, h16⟩ (fun c17 => ?_) (fun c17 => ?_)
    · have hm := qt_i hm c17
      refine z_iconst (x := (-1)) C dX4_runScript_102 rfl ?_
      exact z_iret C hr (by decide) (by decide) (by cases hm; rfl) dX4_runScript_103
    · have hm := qf_i hm c17
      refine z_aload_n C dX4_runScript_68 0 rfl ?_
      refine z_lload_n C dX4_runScript_69 2 rfl ?_
      refine z_iconst (x := 5) C dX4_runScript_70 rfl ?_
      refine z_iload_n C dX4_runScript_71 1 rfl ?_
      refine z_iconst (x := 1) C dX4_runScript_72 rfl ?_
      refine z_isub C dX4_runScript_73 ?_
      refine z_iload C dX4_runScript_74 3 rfl ?_
      refine z_isub C dX4_runScript_76 ?_
      refine z_imul C dX4_runScript_77 ?_
      obtain ⟨a18, h19, hm⟩ := qb_i hm
      refine iv_X4_290 C (met_X4_tenTo l g hl hA n9 S13 (5 * ((p1 - 1) - x14)) _ h19) ⟨by decide, by decide⟩ ⟨by decide, by decide⟩ (Nat.le_of_ble_eq_true rfl) dX4_runScript_78 ?_
      obtain ⟨h20, hm⟩ := qg_i hm
      refine z_ldiv C dX4_runScript_81 h20 ?_
      refine z_ldc2 (x := 100000) C dX4_runScript_82 qct_X4_294 (by decide +kernel) ?_
      obtain ⟨h21, hm⟩ := qg_i hm
      refine z_lrem C dX4_runScript_85 h21 ?_
      refine z_l2i C dX4_runScript_86 ?_
      obtain ⟨a22, h23, hm⟩ := qb_i hm
      refine iv_X4_296 C (met_X4_does l g hl hA n9 S13 ((p2 / a18) % 100000) _ h23) rfl ⟨by decide, by decide⟩ ⟨by decide, by decide⟩ (Nat.le_of_ble_eq_true rfl) dX4_runScript_87 ?_
      obtain ⟨h24, hm⟩ := qg_i hm
      refine z_if_ne (tgt := 96) C dX4_runScript_90 (by decide) h24 (fun c25 => ?_) (fun c25 => ?_)
      · have hm := qt_i hm c25
        refine z_iload C dX4_runScript_93 3 rfl ?_
        exact z_iret C hr (by decide) (by decide) (by cases hm; rfl) dX4_runScript_95
      · have hm := qf_i hm c25
        refine z_iinc (L' := [(5, .int (qI (x14 + 1))), (0, .ref (qad g 110)), (1, .int (qI p1)), (2, .long (qL p2))]) C dX4_runScript_96 3 rfl (by decide) rfl ?_
        refine z_goto (tgt := 62) C dX4_runScript_99 (by decide) ?_
        refine z_sub (L' := [(0, .ref (qad g 110)), (1, .int (qI p1)), (2, .long (qL p2)), (5, .int (qI (x14 + 1)))]) [1, 2, 3, 0] rfl ?_
        exact ih a22.2 (x14 + 1) hm

set_option maxHeartbeats 4000000 in
set_option maxRecDepth 100000 in
theorem met_X4_runScript (l : Launch) (g : qG) (hl : l.stackTraces = false) (hA : qAd g) (n9 : Nat) (S : qS) (p1 : Int) (p2 : Int) (r : Int × qS) (hm : MX4_runScript n9 S p1 p2 = some r) : qM l g yX4_runScript (.code yX4_runScript cX4_runScript 6 (some .int)) rmX4_runScript qkI [.ref (qad g 110), .int (qI p1), .long (qL p2)] S (.inr r.1) r.2 := by
  rw [MX4_runScript] at hm
  refine qM_of (L := [(0, .ref (qad g 110)), (1, .int (qI p1)), (2, .long (qL p2))]) (by decide +kernel) rfl (Nat.le_of_ble_eq_true rfl) hl hA ?_
  intro p e s m below meth c C hr hT
  have C : qC g p l s m ([.ref (qad g 110), .int (qI p1), .long (qL p2)] : List Value).toArray meth c RX4 cX4_runScript 6 := C
  refine z_iload_n C dX4_runScript_0 1 rfl ?_
  obtain ⟨h1, hm⟩ := qg_i hm
  refine z_i2l C dX4_runScript_1 h1 ?_
  refine z_lconst (x := 1) C dX4_runScript_2 (by decide +kernel) ?_
  refine z_ldc2 (x := 3) C dX4_runScript_3 qct_X4_214 (by decide +kernel) ?_
  obtain ⟨a2, h3, hm⟩ := qb_i hm
  refine iv_X4_118 C (met_X4_in l g hl hA n9 S p1 1 3 _ h3) ⟨by decide, by decide⟩ ⟨by decide, by decide⟩ (Nat.le_of_ble_eq_true rfl) dX4_runScript_6 ?_
  refine z_istore (L' := [(4, .int (qI a2)), (0, .ref (qad g 110)), (1, .int (qI p1)), (2, .long (qL p2))]) C dX4_runScript_9 (by decide) rfl ?_
  refine z_aload_n C dX4_runScript_11 1 rfl ?_
  refine z_iload C dX4_runScript_12 0 rfl ?_
  obtain ⟨h4, hm⟩ := qg_i hm
  obtain ⟨j6, e26, hm⟩ := ql_i hm
  have hj6 : ∀ (v5 : Int), j6 v5 = some r → qZ g p l e rmX4_runScript s m ([.ref (qad g 110), .int (qI p1), .long (qL p2)] : List Value).toArray below meth c (qQ g below qkI (.inr r.1) r.2 ([.ref (qad g 110), .int (qI p1), .long (qL p2)] : List Value).toArray s rmX4_runScript) 6 S [(0, .ref (qad g 110)), (1, .int (qI p1)), (2, .long (qL p2))] 47 [.int (qI v5), .ref (qad g 110)] 0 0 := by
    intro v5 hm
    rw [e26] at hm
    obtain ⟨a7, h8, hm⟩ := qb_i hm
    refine iv_X4_134 C (met_X4_refused l g hl hA n9 S v5 _ h8) rfl ⟨by decide, by decide⟩ ⟨by decide, by decide⟩ (Nat.le_of_ble_eq_true rfl) dX4_runScript_47 ?_
    obtain ⟨h9, hm⟩ := qg_i hm
    refine z_if_eq (tgt := 55) C dX4_runScript_50 (by decide) h9 (fun c10 => ?_) (fun c10 => ?_)
    · have hm := qt_i hm c10
      refine z_aload_n C dX4_runScript_55 0 rfl ?_
      obtain ⟨a11, h12, hm⟩ := qb_i hm
      refine iv_X4_270 C (met_X4_tryIt l g hl hA n9 a7.2  _ h12) rfl ⟨by decide, by decide⟩ ⟨by decide, by decide⟩ (Nat.le_of_ble_eq_true rfl) dX4_runScript_56 ?_
      refine z_iconst (x := 0) C dX4_runScript_59 rfl ?_
      refine z_istore (L' := [(5, .int (qI 0)), (0, .ref (qad g 110)), (1, .int (qI p1)), (2, .long (qL p2))]) C dX4_runScript_60 (by decide) rfl ?_
      refine z_sub (L' := [(0, .ref (qad g 110)), (1, .int (qI p1)), (2, .long (qL p2)), (5, .int (qI 0))]) [1, 2, 3, 0] rfl ?_
      exact met_X4_runScript_l62 C hr hT n9 p1 p2  n9 a11 0 hm
    · have hm := qf_i hm c10
      refine z_iconst (x := 0) C dX4_runScript_53 rfl ?_
      exact z_iret C hr (by decide) (by decide) (by cases hm; rfl) dX4_runScript_54
  clear e26
  obtain ⟨j27, e28, hm⟩ := ql_i hm
  have hj27 : j27 = some r → qZ g p l e rmX4_runScript s m ([.ref (qad g 110), .int (qI p1), .long (qL p2)] : List Value).toArray below meth c (qQ g below qkI (.inr r.1) r.2 ([.ref (qad g 110), .int (qI p1), .long (qL p2)] : List Value).toArray s rmX4_runScript) 6 S [(0, .ref (qad g 110)), (1, .int (qI p1)), (2, .long (qL p2))] 46 [.ref (qad g 110)] 0 0 := by
    intro  hm
    rw [e28] at hm
    refine z_iconst (x := 1) C dX4_runScript_46 rfl ?_
    exact hj6 1 hm
  clear e28
  refine z_if_eq (tgt := 46) C dX4_runScript_14 (by decide) h4 (fun c29 => ?_) (fun c29 => ?_)
  · have hm := qt_i hm c29
    refine z_sub (L' := [(0, .ref (qad g 110)), (1, .int (qI p1)), (2, .long (qL p2))]) [1, 2, 3] rfl ?_
    exact hj27  hm
  · have hm := qf_i hm c29
    refine z_lload_n C dX4_runScript_17 3 rfl ?_
    refine z_lconst (x := 0) C dX4_runScript_18 (by decide +kernel) ?_
    refine z_iload C dX4_runScript_19 0 rfl ?_
    obtain ⟨j31, e38, hm⟩ := ql_i hm
    have hj31 : ∀ (v30 : Int), j31 v30 = some r → qZ g p l e rmX4_runScript s m ([.ref (qad g 110), .int (qI p1), .long (qL p2)] : List Value).toArray below meth c (qQ g below qkI (.inr r.1) r.2 ([.ref (qad g 110), .int (qI p1), .long (qL p2)] : List Value).toArray s rmX4_runScript) 6 S [(0, .ref (qad g 110)), (1, .int (qI p1)), (2, .long (qL p2))] 31 [.int (qI v30), .long (qL 0), .long (qL p2), .ref (qad g 110)] 0 0 := by
      intro v30 hm
      rw [e38] at hm
      obtain ⟨a32, h33, hm⟩ := qb_i hm
      refine iv_X4_290 C (met_X4_tenTo l g hl hA n9 S v30 _ h33) ⟨by decide, by decide⟩ ⟨by decide, by decide⟩ (Nat.le_of_ble_eq_true rfl) dX4_runScript_31 ?_
      refine z_lconst (x := 1) C dX4_runScript_34 (by decide +kernel) ?_
      refine z_lsub C dX4_runScript_35 ?_
      obtain ⟨a34, h35, hm⟩ := qb_i hm
      refine iv_X4_118 C (met_X4_in l g hl hA n9 S p2 0 (a32 - 1) _ h35) ⟨by decide, by decide⟩ ⟨by decide, by decide⟩ (Nat.le_of_ble_eq_true rfl) dX4_runScript_36 ?_
      obtain ⟨h36, hm⟩ := qg_i hm
      refine z_if_eq (tgt := 46) C dX4_runScript_39 (by decide) h36 (fun c37 => ?_) (fun c37 => ?_)
      · have hm := qt_i hm c37
        exact hj27  hm
      · have hm := qf_i hm c37
        refine z_iconst (x := 0) C dX4_runScript_42 rfl ?_
        refine z_goto (tgt := 47) C dX4_runScript_43 (by decide) ?_
        exact hj6 0 hm
    clear e38
    refine z_if_eq (tgt := 30) C dX4_runScript_21 (by decide) h4 (fun c39 => ?_) (fun c39 => ?_)
    · have hm := qt_i hm c39
      refine z_iconst (x := 0) C dX4_runScript_30 rfl ?_
      refine z_sub (L' := [(0, .ref (qad g 110)), (1, .int (qI p1)), (2, .long (qL p2))]) [1, 2, 3] rfl ?_
      exact hj31 0 hm
    · have hm := qf_i hm c39
      refine z_iconst (x := 5) C dX4_runScript_24 rfl ?_
      refine z_iload_n C dX4_runScript_25 2 rfl ?_
      refine z_imul C dX4_runScript_26 ?_
      refine z_goto (tgt := 31) C dX4_runScript_27 (by decide) ?_
      refine z_sub (L' := [(0, .ref (qad g 110)), (1, .int (qI p1)), (2, .long (qL p2))]) [1, 2, 3] rfl ?_
      exact hj31 (5 * p1) hm

set_option maxHeartbeats 4000000 in
set_option maxRecDepth 100000 in
theorem met_X4_pauseOf (l : Launch) (g : qG) (hl : l.stackTraces = false) (hA : qAd g) (n9 : Nat) (S : qS) (p1 : Int) (r : Int) (hm : MX4_pauseOf n9 S p1 = some r) : qM l g yX4_pauseOf (.code yX4_pauseOf cX4_pauseOf 3 (some .int)) rmX4_pauseOf qkI [.ref (qad g 110), .int (qI p1)] S (.inr r) S := by
  rw [MX4_pauseOf] at hm
  refine qM_of (L := [(0, .ref (qad g 110)), (1, .int (qI p1))]) (by decide +kernel) rfl (Nat.le_of_ble_eq_true rfl) hl hA ?_
  intro p e s m below meth c C hr hT
  have C : qC g p l s m ([.ref (qad g 110), .int (qI p1)] : List Value).toArray meth c RX4 cX4_pauseOf 3 := C
  refine z_iload_n C dX4_pauseOf_0 1 rfl ?_
  refine z_bipush (x := 8) C dX4_pauseOf_1 (by decide +kernel) ?_
  obtain ⟨h1, hm⟩ := qg_i hm
  refine z_irem C dX4_pauseOf_3 h1 ?_
  obtain ⟨h2, hm⟩ := qg_i hm
  refine z_if_ne (tgt := 18) C dX4_pauseOf_4 (by decide) h2 (fun c3 => ?_) (fun c3 => ?_)
  · have hm := qt_i hm c3
    refine z_iconst (x := 1) C dX4_pauseOf_7 rfl ?_
    refine z_iload_n C dX4_pauseOf_8 1 rfl ?_
    refine z_sipush (x := 2048) C dX4_pauseOf_9 (by decide +kernel) ?_
    obtain ⟨h4, hm⟩ := qg_i hm
    refine z_idiv C dX4_pauseOf_12 h4 ?_
    refine z_bipush (x := 60) C dX4_pauseOf_13 (by decide +kernel) ?_
    obtain ⟨h5, hm⟩ := qg_i hm
    refine z_irem C dX4_pauseOf_15 h5 ?_
    refine z_iadd C dX4_pauseOf_16 ?_
    exact z_iret C hr (by decide) (by decide) (by cases hm; rfl) dX4_pauseOf_17
  · have hm := qf_i hm c3
    refine z_iload_n C dX4_pauseOf_18 1 rfl ?_
    refine z_iconst (x := 2) C dX4_pauseOf_19 rfl ?_
    obtain ⟨h6, hm⟩ := qg_i hm
    refine z_irem C dX4_pauseOf_20 h6 ?_
    refine z_iconst (x := 1) C dX4_pauseOf_21 rfl ?_
    obtain ⟨h7, hm⟩ := qg_i hm
    obtain ⟨j9, e12, hm⟩ := ql_i hm
    have hj9 : ∀ (v8 : Int), j9 v8 = some r → qZ g p l e rmX4_pauseOf s m ([.ref (qad g 110), .int (qI p1)] : List Value).toArray below meth c (qQ g below qkI (.inr r) S ([.ref (qad g 110), .int (qI p1)] : List Value).toArray s rmX4_pauseOf) 3 S [] 48 [.int (qI v8)] 0 0 := by
      intro v8 hm
      rw [e12] at hm
      refine z_istore_n (L' := [(2, .int (qI v8))]) C dX4_pauseOf_48 (by decide) rfl ?_
      refine z_iload_n C dX4_pauseOf_49 0 rfl ?_
      refine z_bipush (x := 60) C dX4_pauseOf_50 (by decide +kernel) ?_
      obtain ⟨h10, hm⟩ := qg_i hm
      refine z_icmp_le (tgt := 60) C dX4_pauseOf_52 (by decide) ⟨h10, (by decide)⟩ (fun c11 => ?_) (fun c11 => ?_)
      · have hm := qt_i hm c11
        refine z_iload_n C dX4_pauseOf_60 0 rfl ?_
        exact z_iret C hr (by decide) (by decide) (by cases hm; rfl) dX4_pauseOf_61
      · have hm := qf_i hm c11
        refine z_bipush (x := 60) C dX4_pauseOf_55 (by decide +kernel) ?_
        refine z_goto (tgt := 61) C dX4_pauseOf_57 (by decide) ?_
        exact z_iret C hr (by decide) (by decide) (by cases hm; rfl) dX4_pauseOf_61
    clear e12
    refine z_icmp_ne (tgt := 34) C dX4_pauseOf_22 (by decide) ⟨h7, (by decide)⟩ (fun c13 => ?_) (fun c13 => ?_)
    · have hm := qt_i hm c13
      refine z_aload_n C dX4_pauseOf_25 0 rfl ?_
      refine gf_X4_31 C rfl dX4_pauseOf_26 ?_
      refine z_iconst (x := 1) C dX4_pauseOf_29 rfl ?_
      obtain ⟨h14, hm⟩ := qg_i hm
      refine z_iald (N := 95) C rfl h14 (by decide) dX4_pauseOf_30 ?_
      refine z_goto (tgt := 48) C dX4_pauseOf_31 (by decide) ?_
      refine z_sub (L' := []) [] rfl ?_
      exact hj9 (S 118 (1 : Int).toNat) hm
    · have hm := qf_i hm c13
      refine z_aload_n C dX4_pauseOf_34 0 rfl ?_
      refine gf_X4_31 C rfl dX4_pauseOf_35 ?_
      refine z_iconst (x := 2) C dX4_pauseOf_38 rfl ?_
      obtain ⟨h15, hm⟩ := qg_i hm
      refine z_iald (N := 95) C rfl h15 (by decide) dX4_pauseOf_39 ?_
      refine z_iload_n C dX4_pauseOf_40 1 rfl ?_
      refine z_sipush (x := 2048) C dX4_pauseOf_41 (by decide +kernel) ?_
      obtain ⟨h16, hm⟩ := qg_i hm
      refine z_idiv C dX4_pauseOf_44 h16 ?_
      refine z_iconst (x := 4) C dX4_pauseOf_45 rfl ?_
      obtain ⟨h17, hm⟩ := qg_i hm
      refine z_irem C dX4_pauseOf_46 h17 ?_
      refine z_iadd C dX4_pauseOf_47 ?_
      refine z_sub (L' := []) [] rfl ?_
      exact hj9 ((S 118 (2 : Int).toNat) + ((p1 / 2048) % 4)) hm

set_option maxHeartbeats 4000000 in
set_option maxRecDepth 100000 in
theorem met_X4_simulate_l40 {g : qG} {p : Program} {l : Launch} {e : Env} {s : State} {m : MethodId} {args : Array Value} {below : List Frame} {meth : Method} {c : Code} (C : qC g p l s m args meth c RX4 cX4_simulate 9) (hr : meth.sig.returnType = (some .int)) (hT : ∀ x ∈ c.exceptionTable.toList, False) (n9 : Nat) (p3 : Int) {r : Int × qS} (k135 : qS → Option (Int × qS)) (hk135 : ∀ (y1 : qS), k135 y1 = some r → qZ g p l e rmX4_simulate s m args below meth c (qQ g below qkI (.inr r.1) r.2 args s rmX4_simulate) 9 y1 [(0, .ref (qad g 110))] 135 [] 0 0) : ∀ (f : Nat) (S22 : qS) (x23 : Int) (x24 : Int) (x25 : Int), MX4_simulate_l40 n9 p3 k135 f S22 x23 x24 x25 = some r → qZ g p l e rmX4_simulate s m args below meth c (qQ g below qkI (.inr r.1) r.2 args s rmX4_simulate) 9 S22 [(0, .ref (qad g 110)), (3, .int (qI p3)), (4, .long (qL x23)), (6, .int (qI x24)), (7, .int (qI x25))] 40 [] 0 0 := by
  intro f
  induction f with
  | zero => intro S22 x23 x24 x25 hm; rw [MX4_simulate_l40] at hm; cases hm
  | succ f ih =>
    intro S22 x23 x24 x25 hm
    rw [MX4_simulate_l40] at hm
    have hl := C.2.2.2.2.2.2.2.2
    have hA := C.2.2.2.2.2.2.1
    refine z_iload C dX4_simulate_40 4 rfl ?_
    refine z_iload_n C dX4_simulate_42 1 rfl ?_
    obtain ⟨h26, hm⟩ := qg_i hm
    obtain ⟨h27, hm⟩ := qg_i hm
    refine z_icmp_ge (tgt := 135) C dX4_simulate_43 (by decide) ⟨h26, h27⟩ (fun c28 => ?_) (fun c28 => ?_)
    · have hm := qt_i hm c28
      refine z_sub (L' := [(0, .ref (qad g 110))]) [0] rfl ?_
      exact hk135 S22 hm
    · have hm := qf_i hm c28
      refine z_lload C dX4_simulate_46 2 rfl ?_
      refine z_ldc2 (x := 6364136223846793005) C dX4_simulate_48 qct_X4_299 (by decide +kernel) ?_
      refine z_lmul C dX4_simulate_51 ?_
      refine z_ldc2 (x := 1442695040888963407) C dX4_simulate_52 qct_X4_301 (by decide +kernel) ?_
      refine z_ladd C dX4_simulate_55 ?_
      obtain ⟨x29, e30, hm⟩ := ql_i hm
      refine z_topl e30 ?_
      refine z_lstore (L' := [(4, .long (qL x29)), (0, .ref (qad g 110)), (3, .int (qI p3)), (6, .int (qI x24)), (7, .int (qI x25))]) C dX4_simulate_56 (by decide) rfl ?_
      refine z_lload C dX4_simulate_58 0 rfl ?_
      refine z_bipush (x := 33) C dX4_simulate_60 (by decide +kernel) ?_
      refine z_lushr C dX4_simulate_62 ?_
      refine z_l2i C dX4_simulate_63 ?_
      obtain ⟨x31, e32, hm⟩ := ql_i hm
      refine z_topi e32 ?_
      refine z_istore (L' := [(8, .int (qI x31)), (4, .long (qL x29)), (0, .ref (qad g 110)), (3, .int (qI p3)), (6, .int (qI x24)), (7, .int (qI x25))]) C dX4_simulate_64 (by decide) rfl ?_
      refine z_iload C dX4_simulate_66 0 rfl ?_
      refine z_bipush (x := 8) C dX4_simulate_68 (by decide +kernel) ?_
      obtain ⟨h33, hm⟩ := qg_i hm
      refine z_idiv C dX4_simulate_70 h33 ?_
      refine z_iconst (x := 2) C dX4_simulate_71 rfl ?_
      obtain ⟨h34, hm⟩ := qg_i hm
      refine z_irem C dX4_simulate_72 h34 ?_
      obtain ⟨h35, hm⟩ := qg_i hm
      obtain ⟨j37, e50, hm⟩ := ql_i hm
      have hj37 : ∀ (v36 : Int), j37 v36 = some r → qZ g p l e rmX4_simulate s m args below meth c (qQ g below qkI (.inr r.1) r.2 args s rmX4_simulate) 9 S22 [(0, .ref (qad g 110)), (3, .int (qI p3)), (4, .long (qL x29)), (7, .int (qI x25)), (8, .int (qI x31))] 91 [.int (qI v36)] 0 0 := by
        intro v36 hm
        rw [e50] at hm
        refine z_istore (L' := [(6, .int (qI v36)), (0, .ref (qad g 110)), (3, .int (qI p3)), (4, .long (qL x29)), (7, .int (qI x25)), (8, .int (qI x31))]) C dX4_simulate_91 (by decide) rfl ?_
        refine z_aload_n C dX4_simulate_93 1 rfl ?_
        refine gf_X4_31 C rfl dX4_simulate_94 ?_
        refine z_iconst (x := 0) C dX4_simulate_97 rfl ?_
        obtain ⟨h38, hm⟩ := qg_i hm
        refine z_iald (N := 95) C rfl h38 (by decide) dX4_simulate_98 ?_
        refine z_bipush (x := 30) C dX4_simulate_99 (by decide +kernel) ?_
        obtain ⟨h39, hm⟩ := qg_i hm
        obtain ⟨j41, e46, hm⟩ := ql_i hm
        have hj41 : ∀ (S40 : qS), j41 S40 = some r → qZ g p l e rmX4_simulate s m args below meth c (qQ g below qkI (.inr r.1) r.2 args s rmX4_simulate) 9 S40 [(0, .ref (qad g 110)), (3, .int (qI p3)), (4, .long (qL x29)), (6, .int (qI v36)), (7, .int (qI x25)), (8, .int (qI x31))] 113 [] 0 0 := by
          intro S40 hm
          rw [e46] at hm
          refine z_aload_n C dX4_simulate_113 0 rfl ?_
          refine gf_X4_31 C rfl dX4_simulate_114 ?_
          refine z_aload_n C dX4_simulate_117 0 rfl ?_
          refine z_iload C dX4_simulate_118 5 rfl ?_
          obtain ⟨a42, h43, hm⟩ := qb_i hm
          refine iv_X4_303 C (met_X4_pauseOf l g hl hA n9 S40 x31 _ h43) rfl ⟨by decide, by decide⟩ ⟨by decide, by decide⟩ (Nat.le_of_ble_eq_true rfl) dX4_simulate_120 ?_
          refine z_iload C dX4_simulate_123 3 rfl ?_
          obtain ⟨a44, h45, hm⟩ := qb_i hm
          refine iv_X4_249 C (met_X4_rollIn l g hl hA n9 S40 118 a42 v36 _ h45) ⟨by decide, by decide⟩ ⟨by decide, by decide⟩ (Nat.le_of_ble_eq_true rfl) dX4_simulate_125 ?_
          refine z_pop C dX4_simulate_128 rfl ?_
          refine z_iinc (L' := [(7, .int (qI (x25 + 1))), (0, .ref (qad g 110)), (3, .int (qI p3)), (4, .long (qL x29)), (6, .int (qI v36)), (8, .int (qI x31))]) C dX4_simulate_129 4 rfl (by decide) rfl ?_
          refine z_goto (tgt := 40) C dX4_simulate_132 (by decide) ?_
          refine z_sub (L' := [(0, .ref (qad g 110)), (3, .int (qI p3)), (4, .long (qL x29)), (6, .int (qI v36)), (7, .int (qI (x25 + 1)))]) [1, 2, 3, 4, 0] rfl ?_
          exact ih a44.2 x29 v36 (x25 + 1) hm
        clear e46
        refine z_icmp_ne (tgt := 113) C dX4_simulate_101 (by decide) ⟨h39, (by decide)⟩ (fun c47 => ?_) (fun c47 => ?_)
        · have hm := qt_i hm c47
          refine z_aload_n C dX4_simulate_104 1 rfl ?_
          refine z_aload_n C dX4_simulate_105 1 rfl ?_
          refine gf_X4_31 C rfl dX4_simulate_106 ?_
          obtain ⟨a48, h49, hm⟩ := qb_i hm
          refine iv_X4_267 C (met_X4_leaveIn l g hl hA n9 S22 118 _ h49) rfl ⟨by decide, by decide⟩ ⟨by decide, by decide⟩ (Nat.le_of_ble_eq_true rfl) dX4_simulate_109 ?_
          refine z_pop C dX4_simulate_112 rfl ?_
          refine z_sub (L' := [(0, .ref (qad g 110)), (3, .int (qI p3)), (4, .long (qL x29)), (6, .int (qI v36)), (7, .int (qI x25)), (8, .int (qI x31))]) [1, 2, 3, 0, 4, 5] rfl ?_
          exact hj41 a48.2 hm
        · have hm := qf_i hm c47
          refine z_sub (L' := [(0, .ref (qad g 110)), (3, .int (qI p3)), (4, .long (qL x29)), (6, .int (qI v36)), (7, .int (qI x25)), (8, .int (qI x31))]) [1, 2, 3, 0, 4, 5] rfl ?_
          exact hj41 S22 hm
      clear e50
      refine z_if_ne (tgt := 89) C dX4_simulate_73 (by decide) h35 (fun c51 => ?_) (fun c51 => ?_)
      · have hm := qt_i hm c51
        refine z_iconst (x := 1) C dX4_simulate_76 rfl ?_
        refine z_iload C dX4_simulate_77 0 rfl ?_
        refine z_bipush (x := 16) C dX4_simulate_79 (by decide +kernel) ?_
        obtain ⟨h52, hm⟩ := qg_i hm
        refine z_idiv C dX4_simulate_81 h52 ?_
        refine z_bipush (x := 99) C dX4_simulate_82 (by decide +kernel) ?_
        obtain ⟨h53, hm⟩ := qg_i hm
        refine z_irem C dX4_simulate_84 h53 ?_
        refine z_iadd C dX4_simulate_85 ?_
        refine z_goto (tgt := 91) C dX4_simulate_86 (by decide) ?_
        refine z_sub (L' := [(0, .ref (qad g 110)), (3, .int (qI p3)), (4, .long (qL x29)), (7, .int (qI x25)), (8, .int (qI x31))]) [2, 3, 1, 5, 0] rfl ?_
        exact hj37 (1 + ((x31 / 16) % 99)) hm
      · have hm := qf_i hm c51
        refine z_iload C dX4_simulate_89 4 rfl ?_
        refine z_sub (L' := [(0, .ref (qad g 110)), (3, .int (qI p3)), (4, .long (qL x29)), (7, .int (qI x25)), (8, .int (qI x31))]) [2, 3, 1, 5, 0] rfl ?_
        exact hj37 x24 hm

set_option maxHeartbeats 4000000 in
set_option maxRecDepth 100000 in
theorem met_X4_simulate (l : Launch) (g : qG) (hl : l.stackTraces = false) (hA : qAd g) (n9 : Nat) (S : qS) (p1 : Int) (p3 : Int) (r : Int × qS) (hm : MX4_simulate n9 S p1 p3 = some r) : qM l g yX4_simulate (.code yX4_simulate cX4_simulate 9 (some .int)) rmX4_simulate qkI [.ref (qad g 110), .long (qL p1), .int (qI p3)] S (.inr r.1) r.2 := by
  rw [MX4_simulate] at hm
  refine qM_of (L := [(0, .ref (qad g 110)), (1, .long (qL p1)), (3, .int (qI p3))]) (by decide +kernel) rfl (Nat.le_of_ble_eq_true rfl) hl hA ?_
  intro p e s m below meth c C hr hT
  have C : qC g p l s m ([.ref (qad g 110), .long (qL p1), .int (qI p3)] : List Value).toArray meth c RX4 cX4_simulate 9 := C
  refine z_aload_n C dX4_simulate_0 0 rfl ?_
  refine z_iload_n C dX4_simulate_1 2 rfl ?_
  obtain ⟨h1, hm⟩ := qg_i hm
  refine z_i2l C dX4_simulate_2 h1 ?_
  refine z_lconst (x := 1) C dX4_simulate_3 (by decide +kernel) ?_
  refine z_ldc2 (x := 60) C dX4_simulate_4 qct_X4_236 (by decide +kernel) ?_
  obtain ⟨a2, h3, hm⟩ := qb_i hm
  refine iv_X4_118 C (met_X4_in l g hl hA n9 S p3 1 60 _ h3) ⟨by decide, by decide⟩ ⟨by decide, by decide⟩ (Nat.le_of_ble_eq_true rfl) dX4_simulate_7 ?_
  obtain ⟨h4, hm⟩ := qg_i hm
  obtain ⟨j6, e54, hm⟩ := ql_i hm
  have hj6 : ∀ (v5 : Int), j6 v5 = some r → qZ g p l e rmX4_simulate s m ([.ref (qad g 110), .long (qL p1), .int (qI p3)] : List Value).toArray below meth c (qQ g below qkI (.inr r.1) r.2 ([.ref (qad g 110), .long (qL p1), .int (qI p3)] : List Value).toArray s rmX4_simulate) 9 S [(0, .ref (qad g 110)), (1, .long (qL p1)), (3, .int (qI p3))] 18 [.int (qI v5), .ref (qad g 110)] 0 0 := by
    intro v5 hm
    rw [e54] at hm
    obtain ⟨a7, h8, hm⟩ := qb_i hm
    refine iv_X4_134 C (met_X4_refused l g hl hA n9 S v5 _ h8) rfl ⟨by decide, by decide⟩ ⟨by decide, by decide⟩ (Nat.le_of_ble_eq_true rfl) dX4_simulate_18 ?_
    obtain ⟨h9, hm⟩ := qg_i hm
    refine z_if_eq (tgt := 26) C dX4_simulate_21 (by decide) h9 (fun c10 => ?_) (fun c10 => ?_)
    · have hm := qt_i hm c10
      refine z_aload_n C dX4_simulate_26 0 rfl ?_
      obtain ⟨a11, h12, hm⟩ := qb_i hm
      refine iv_X4_270 C (met_X4_tryIt l g hl hA n9 a7.2  _ h12) rfl ⟨by decide, by decide⟩ ⟨by decide, by decide⟩ (Nat.le_of_ble_eq_true rfl) dX4_simulate_27 ?_
      refine z_lload_n C dX4_simulate_30 1 rfl ?_
      refine z_lstore (L' := [(4, .long (qL p1)), (0, .ref (qad g 110)), (1, .long (qL p1)), (3, .int (qI p3))]) C dX4_simulate_31 (by decide) rfl ?_
      refine z_bipush (x := 40) C dX4_simulate_33 (by decide +kernel) ?_
      refine z_istore (L' := [(6, .int (qI 40)), (4, .long (qL p1)), (0, .ref (qad g 110)), (1, .long (qL p1)), (3, .int (qI p3))]) C dX4_simulate_35 (by decide) rfl ?_
      refine z_iconst (x := 0) C dX4_simulate_37 rfl ?_
      refine z_istore (L' := [(7, .int (qI 0)), (6, .int (qI 40)), (4, .long (qL p1)), (0, .ref (qad g 110)), (1, .long (qL p1)), (3, .int (qI p3))]) C dX4_simulate_38 (by decide) rfl ?_
      obtain ⟨j14, e21, hm⟩ := ql_i hm
      have hj14 : ∀ (S13 : qS), j14 S13 = some r → qZ g p l e rmX4_simulate s m ([.ref (qad g 110), .long (qL p1), .int (qI p3)] : List Value).toArray below meth c (qQ g below qkI (.inr r.1) r.2 ([.ref (qad g 110), .long (qL p1), .int (qI p3)] : List Value).toArray s rmX4_simulate) 9 S13 [(0, .ref (qad g 110))] 135 [] 0 0 := by
        intro S13 hm
        rw [e21] at hm
        refine z_aload_n C dX4_simulate_135 0 rfl ?_
        refine z_aload_n C dX4_simulate_136 0 rfl ?_
        refine gf_X4_31 C rfl dX4_simulate_137 ?_
        obtain ⟨a15, h16, hm⟩ := qb_i hm
        refine iv_X4_125 C (met_X4_lay l g hl hA n9 S13 118 _ h16) rfl ⟨by decide, by decide⟩ ⟨by decide, by decide⟩ (Nat.le_of_ble_eq_true rfl) dX4_simulate_140 ?_
        refine z_aload_n C dX4_simulate_143 0 rfl ?_
        refine z_aload_n C dX4_simulate_144 0 rfl ?_
        refine gf_X4_31 C rfl dX4_simulate_145 ?_
        obtain ⟨a17, h18, hm⟩ := qb_i hm
        refine iv_X4_203 C (met_X4_allWeight l g hl hA n9 a15 118 _ h18) rfl ⟨by decide, by decide⟩ ⟨by decide, by decide⟩ (Nat.le_of_ble_eq_true rfl) dX4_simulate_148 ?_
        refine z_istore (L' := [(7, .int (qI a17)), (0, .ref (qad g 110))]) C dX4_simulate_151 (by decide) rfl ?_
        refine z_sipush (x := 1000) C dX4_simulate_153 (by decide +kernel) ?_
        refine z_aload_n C dX4_simulate_156 1 rfl ?_
        refine gf_X4_99 C rfl dX4_simulate_157 ?_
        refine z_imul C dX4_simulate_160 ?_
        refine z_iload C dX4_simulate_161 0 rfl ?_
        refine z_sipush (x := 999) C dX4_simulate_163 (by decide +kernel) ?_
        obtain ⟨h19, hm⟩ := qg_i hm
        refine z_icmp_le (tgt := 175) C dX4_simulate_166 (by decide) ⟨h19, (by decide)⟩ (fun c20 => ?_) (fun c20 => ?_)
        · have hm := qt_i hm c20
          refine z_iload C dX4_simulate_175 0 rfl ?_
          refine z_iadd C dX4_simulate_177 ?_
          exact z_iret C hr (by decide) (by decide) (by cases hm; rfl) dX4_simulate_178
        · have hm := qf_i hm c20
          refine z_sipush (x := 999) C dX4_simulate_169 (by decide +kernel) ?_
          refine z_goto (tgt := 177) C dX4_simulate_172 (by decide) ?_
          refine z_iadd C dX4_simulate_177 ?_
          exact z_iret C hr (by decide) (by decide) (by cases hm; rfl) dX4_simulate_178
      clear e21
      refine z_sub (L' := [(0, .ref (qad g 110)), (3, .int (qI p3)), (4, .long (qL p1)), (6, .int (qI 40)), (7, .int (qI 0))]) [3, 5, 2, 1, 0] rfl ?_
      exact met_X4_simulate_l40 C hr hT n9 p3 j14 hj14 n9 a11 p1 40 0 hm
    · have hm := qf_i hm c10
      refine z_iconst (x := 0) C dX4_simulate_24 rfl ?_
      exact z_iret C hr (by decide) (by decide) (by cases hm; rfl) dX4_simulate_25
  clear e54
  refine z_if_eq (tgt := 17) C dX4_simulate_10 (by decide) h4 (fun c55 => ?_) (fun c55 => ?_)
  · have hm := qt_i hm c55
    refine z_iconst (x := 1) C dX4_simulate_17 rfl ?_
    exact hj6 1 hm
  · have hm := qf_i hm c55
    refine z_iconst (x := 0) C dX4_simulate_13 rfl ?_
    refine z_goto (tgt := 18) C dX4_simulate_14 (by decide) ?_
    exact hj6 0 hm

set_option maxHeartbeats 4000000 in
set_option maxRecDepth 100000 in
theorem met_X4_save (l : Launch) (g : qG) (hl : l.stackTraces = false) (hA : qAd g) (n9 : Nat) (S : qS) (p1 : Int) (r : Int × qS) (hm : MX4_save n9 S p1 = some r) : qM l g yX4_save (.code yX4_save cX4_save 2 (some .int)) rmX4_save qkI [.ref (qad g 110), .int (qI p1)] S (.inr r.1) r.2 := by
  rw [MX4_save] at hm
  refine qM_of (L := [(0, .ref (qad g 110)), (1, .int (qI p1))]) (by decide +kernel) rfl (Nat.le_of_ble_eq_true rfl) hl hA ?_
  intro p e s m below meth c C hr hT
  have C : qC g p l s m ([.ref (qad g 110), .int (qI p1)] : List Value).toArray meth c RX4 cX4_save 2 := C
  refine z_aload_n C dX4_save_0 0 rfl ?_
  refine z_iload_n C dX4_save_1 1 rfl ?_
  obtain ⟨h1, hm⟩ := qg_i hm
  refine z_i2l C dX4_save_2 h1 ?_
  refine z_lconst (x := 0) C dX4_save_3 (by decide +kernel) ?_
  refine z_lconst (x := 1) C dX4_save_4 (by decide +kernel) ?_
  obtain ⟨a2, h3, hm⟩ := qb_i hm
  refine iv_X4_118 C (met_X4_in l g hl hA n9 S p1 0 1 _ h3) ⟨by decide, by decide⟩ ⟨by decide, by decide⟩ (Nat.le_of_ble_eq_true rfl) dX4_save_5 ?_
  obtain ⟨h4, hm⟩ := qg_i hm
  obtain ⟨j6, e17, hm⟩ := ql_i hm
  have hj6 : ∀ (v5 : Int), j6 v5 = some r → qZ g p l e rmX4_save s m ([.ref (qad g 110), .int (qI p1)] : List Value).toArray below meth c (qQ g below qkI (.inr r.1) r.2 ([.ref (qad g 110), .int (qI p1)] : List Value).toArray s rmX4_save) 2 S [(0, .ref (qad g 110)), (1, .int (qI p1))] 16 [.int (qI v5), .ref (qad g 110)] 0 0 := by
    intro v5 hm
    rw [e17] at hm
    obtain ⟨a7, h8, hm⟩ := qb_i hm
    refine iv_X4_134 C (met_X4_refused l g hl hA n9 S v5 _ h8) rfl ⟨by decide, by decide⟩ ⟨by decide, by decide⟩ (Nat.le_of_ble_eq_true rfl) dX4_save_16 ?_
    obtain ⟨h9, hm⟩ := qg_i hm
    refine z_if_eq (tgt := 24) C dX4_save_19 (by decide) h9 (fun c10 => ?_) (fun c10 => ?_)
    · have hm := qt_i hm c10
      refine z_aload_n C dX4_save_24 0 rfl ?_
      refine gf_X4_28 C rfl dX4_save_25 ?_
      refine z_iconst (x := 0) C dX4_save_28 rfl ?_
      refine z_aload_n C dX4_save_29 0 rfl ?_
      refine gf_X4_37 C rfl dX4_save_30 ?_
      refine z_bipush (x := 95) C dX4_save_33 (by decide +kernel) ?_
      refine z_iload_n C dX4_save_35 1 rfl ?_
      refine z_imul C dX4_save_36 ?_
      refine z_bipush (x := 95) C dX4_save_37 (by decide +kernel) ?_
      obtain ⟨a11, h12, hm⟩ := qb_i hm
      refine iv_X4_68 C (met_X4_copy l g hl hA n9 a7.2 117 0 120 (95 * p1) 95 _ h12) ⟨by decide, by decide⟩ ⟨by decide, by decide⟩ (Nat.le_of_ble_eq_true rfl) dX4_save_39 ?_
      refine z_aload_n C dX4_save_42 0 rfl ?_
      refine gf_X4_40 C rfl dX4_save_43 ?_
      refine z_iload_n C dX4_save_46 1 rfl ?_
      refine z_iconst (x := 1) C dX4_save_47 rfl ?_
      obtain ⟨h13, hm⟩ := qg_i hm
      refine z_zast C rfl h13 (by decide) dX4_save_48 ?_
      obtain ⟨S14, e15, hm⟩ := ql_i hm
      refine z_S e15 ?_
      refine z_aload_n C dX4_save_49 0 rfl ?_
      refine gf_X4_28 C rfl dX4_save_50 ?_
      refine z_iconst (x := 0) C dX4_save_53 rfl ?_
      obtain ⟨h16, hm⟩ := qg_i hm
      refine z_iald (N := 95) C rfl h16 (by decide) dX4_save_54 ?_
      exact z_iret C hr (by decide) (by decide) (by cases hm; rfl) dX4_save_55
    · have hm := qf_i hm c10
      refine z_iconst (x := 0) C dX4_save_22 rfl ?_
      exact z_iret C hr (by decide) (by decide) (by cases hm; rfl) dX4_save_23
  clear e17
  refine z_if_eq (tgt := 15) C dX4_save_8 (by decide) h4 (fun c18 => ?_) (fun c18 => ?_)
  · have hm := qt_i hm c18
    refine z_iconst (x := 1) C dX4_save_15 rfl ?_
    exact hj6 1 hm
  · have hm := qf_i hm c18
    refine z_iconst (x := 0) C dX4_save_11 rfl ?_
    refine z_goto (tgt := 16) C dX4_save_12 (by decide) ?_
    exact hj6 0 hm

set_option maxHeartbeats 4000000 in
set_option maxRecDepth 100000 in
theorem met_X4_restore (l : Launch) (g : qG) (hl : l.stackTraces = false) (hA : qAd g) (n9 : Nat) (S : qS) (p1 : Int) (r : Int × qS) (hm : MX4_restore n9 S p1 = some r) : qM l g yX4_restore (.code yX4_restore cX4_restore 2 (some .int)) rmX4_restore qkI [.ref (qad g 110), .int (qI p1)] S (.inr r.1) r.2 := by
  rw [MX4_restore] at hm
  refine qM_of (L := [(0, .ref (qad g 110)), (1, .int (qI p1))]) (by decide +kernel) rfl (Nat.le_of_ble_eq_true rfl) hl hA ?_
  intro p e s m below meth c C hr hT
  have C : qC g p l s m ([.ref (qad g 110), .int (qI p1)] : List Value).toArray meth c RX4 cX4_restore 2 := C
  refine z_aload_n C dX4_restore_0 0 rfl ?_
  refine z_iload_n C dX4_restore_1 1 rfl ?_
  obtain ⟨h1, hm⟩ := qg_i hm
  refine z_i2l C dX4_restore_2 h1 ?_
  refine z_lconst (x := 0) C dX4_restore_3 (by decide +kernel) ?_
  refine z_lconst (x := 1) C dX4_restore_4 (by decide +kernel) ?_
  obtain ⟨a2, h3, hm⟩ := qb_i hm
  refine iv_X4_118 C (met_X4_in l g hl hA n9 S p1 0 1 _ h3) ⟨by decide, by decide⟩ ⟨by decide, by decide⟩ (Nat.le_of_ble_eq_true rfl) dX4_restore_5 ?_
  obtain ⟨h4, hm⟩ := qg_i hm
  obtain ⟨j6, e16, hm⟩ := ql_i hm
  have hj6 : ∀ (v5 : Int), j6 v5 = some r → qZ g p l e rmX4_restore s m ([.ref (qad g 110), .int (qI p1)] : List Value).toArray below meth c (qQ g below qkI (.inr r.1) r.2 ([.ref (qad g 110), .int (qI p1)] : List Value).toArray s rmX4_restore) 2 S [(0, .ref (qad g 110)), (1, .int (qI p1))] 29 [.int (qI v5), .ref (qad g 110)] 0 0 := by
    intro v5 hm
    rw [e16] at hm
    obtain ⟨a7, h8, hm⟩ := qb_i hm
    refine iv_X4_134 C (met_X4_refused l g hl hA n9 S v5 _ h8) rfl ⟨by decide, by decide⟩ ⟨by decide, by decide⟩ (Nat.le_of_ble_eq_true rfl) dX4_restore_29 ?_
    obtain ⟨h9, hm⟩ := qg_i hm
    refine z_if_eq (tgt := 37) C dX4_restore_32 (by decide) h9 (fun c10 => ?_) (fun c10 => ?_)
    · have hm := qt_i hm c10
      refine z_aload_n C dX4_restore_37 0 rfl ?_
      refine gf_X4_37 C rfl dX4_restore_38 ?_
      refine z_bipush (x := 95) C dX4_restore_41 (by decide +kernel) ?_
      refine z_iload_n C dX4_restore_43 1 rfl ?_
      refine z_imul C dX4_restore_44 ?_
      refine z_aload_n C dX4_restore_45 0 rfl ?_
      refine gf_X4_28 C rfl dX4_restore_46 ?_
      refine z_iconst (x := 0) C dX4_restore_49 rfl ?_
      refine z_bipush (x := 95) C dX4_restore_50 (by decide +kernel) ?_
      obtain ⟨a11, h12, hm⟩ := qb_i hm
      refine iv_X4_68 C (met_X4_copy l g hl hA n9 a7.2 120 (95 * p1) 117 0 95 _ h12) ⟨by decide, by decide⟩ ⟨by decide, by decide⟩ (Nat.le_of_ble_eq_true rfl) dX4_restore_52 ?_
      refine z_aload_n C dX4_restore_55 0 rfl ?_
      refine z_iconst (x := 0) C dX4_restore_56 rfl ?_
      refine pf_X4_65 C rfl dX4_restore_57 ?_
      obtain ⟨S13, e14, hm⟩ := ql_i hm
      refine z_S e14 ?_
      refine z_aload_n C dX4_restore_60 0 rfl ?_
      refine gf_X4_28 C rfl dX4_restore_61 ?_
      refine z_iconst (x := 0) C dX4_restore_64 rfl ?_
      obtain ⟨h15, hm⟩ := qg_i hm
      refine z_iald (N := 95) C rfl h15 (by decide) dX4_restore_65 ?_
      exact z_iret C hr (by decide) (by decide) (by cases hm; rfl) dX4_restore_66
    · have hm := qf_i hm c10
      refine z_iconst (x := 0) C dX4_restore_35 rfl ?_
      exact z_iret C hr (by decide) (by decide) (by cases hm; rfl) dX4_restore_36
  clear e16
  refine z_if_ne (tgt := 15) C dX4_restore_8 (by decide) h4 (fun c17 => ?_) (fun c17 => ?_)
  · have hm := qt_i hm c17
    refine z_iconst (x := 1) C dX4_restore_11 rfl ?_
    refine z_goto (tgt := 29) C dX4_restore_12 (by decide) ?_
    exact hj6 1 hm
  · have hm := qf_i hm c17
    refine z_aload_n C dX4_restore_15 0 rfl ?_
    refine gf_X4_40 C rfl dX4_restore_16 ?_
    refine z_iload_n C dX4_restore_19 1 rfl ?_
    obtain ⟨h18, hm⟩ := qg_i hm
    refine z_zald C rfl h18 dX4_restore_20 ?_
    obtain ⟨h19, hm⟩ := qg_i hm
    refine z_if_eq (tgt := 28) C dX4_restore_21 (by decide) h19 (fun c20 => ?_) (fun c20 => ?_)
    · have hm := qt_i hm c20
      refine z_iconst (x := 2) C dX4_restore_28 rfl ?_
      exact hj6 2 hm
    · have hm := qf_i hm c20
      refine z_iconst (x := 0) C dX4_restore_24 rfl ?_
      refine z_goto (tgt := 29) C dX4_restore_25 (by decide) ?_
      exact hj6 0 hm
