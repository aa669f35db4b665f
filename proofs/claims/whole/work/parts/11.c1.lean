set_option maxHeartbeats 4000000 in
set_option maxRecDepth 100000 in
theorem met_X3_at (l : Launch) (g : qG) (hl : l.stackTraces = false) (hA : qAd g) (n9 : Nat) (S : qS) (u0 : Nat) (p1 : Int) (r : Int) (hm : MX3_at n9 S u0 p1 = some r) : qM l g yX3_at (.code yX3_at cX3_at 2 (some .int)) rmX3_at qkI [.ref (qad g u0), .int (qI p1)] S (.inr r) S := by
  rw [MX3_at] at hm
  obtain ⟨hq0, hm⟩ := qg_i hm
  refine qM_of (L := [(0, .ref (qad g u0)), (1, .int (qI p1))]) (by decide +kernel) rfl (Nat.le_of_ble_eq_true rfl) hl hA ?_
  intro p e s m below meth c C hr hT
  have C : qC g p l s m ([.ref (qad g u0), .int (qI p1)] : List Value).toArray meth c RX3 cX3_at 2 := C
  refine z_iload_n C dX3_at_0 1 rfl ?_
  obtain ⟨h1, hm⟩ := qg_i hm
  refine z_if_lt (tgt := 16) C dX3_at_1 (by decide) h1 (fun c2 => ?_) (fun c2 => ?_)
  · have hm := qt_i hm c2
    refine z_iconst (x := 0) C dX3_at_16 rfl ?_
    exact z_iret C hr (by decide) (by decide) (by cases hm; rfl) dX3_at_17
  · have hm := qf_i hm c2
    refine z_iload_n C dX3_at_4 1 rfl ?_
    refine z_aload_n C dX3_at_5 0 rfl ?_
    refine z_alen (N := (qlen u0)) C (qlen_eq hq0) dX3_at_6 ?_
    refine z_icmp_ge (tgt := 16) C dX3_at_7 (by decide) ⟨h1, (qlen_R _)⟩ (fun c3 => ?_) (fun c3 => ?_)
    · have hm := qt_i hm c3
      refine z_iconst (x := 0) C dX3_at_16 rfl ?_
      exact z_iret C hr (by decide) (by decide) (by cases hm; rfl) dX3_at_17
    · have hm := qf_i hm c3
      refine z_aload_n C dX3_at_10 0 rfl ?_
      refine z_iload_n C dX3_at_11 1 rfl ?_
      obtain ⟨h4, hm⟩ := qg_i hm
      refine z_iald (N := (qlen u0)) C (qlen_eq hq0) h4 (qlen_le _) dX3_at_12 ?_
      refine z_goto (tgt := 17) C dX3_at_13 (by decide) ?_
      exact z_iret C hr (by decide) (by decide) (by cases hm; rfl) dX3_at_17

set_option maxHeartbeats 4000000 in
set_option maxRecDepth 100000 in
theorem met_X3_at_s1 (l : Launch) (g : qG) (hl : l.stackTraces = false) (hA : qAd g) (n9 : Nat) (S : qS) (p1 : Int) (r : Int) (hm : MX3_at_s1 n9 S p1 = some r) : qM l g yX3_at (.code yX3_at cX3_at 2 (some .int)) rmX3_at qkI [.ref (qt g 1), .int (qI p1)] S (.inr r) S := by
  rw [MX3_at_s1] at hm
  refine qM_of (L := [(0, .ref (qt g 1)), (1, .int (qI p1))]) (by decide +kernel) rfl (Nat.le_of_ble_eq_true rfl) hl hA ?_
  intro p e s m below meth c C hr hT
  have C : qC g p l s m ([.ref (qt g 1), .int (qI p1)] : List Value).toArray meth c RX3 cX3_at 2 := C
  refine z_iload_n C dX3_at_0 1 rfl ?_
  obtain ⟨h1, hm⟩ := qg_i hm
  refine z_if_lt (tgt := 16) C dX3_at_1 (by decide) h1 (fun c2 => ?_) (fun c2 => ?_)
  · have hm := qt_i hm c2
    refine z_iconst (x := 0) C dX3_at_16 rfl ?_
    exact z_iret C hr (by decide) (by decide) (by cases hm; rfl) dX3_at_17
  · have hm := qf_i hm c2
    refine z_iload_n C dX3_at_4 1 rfl ?_
    refine z_aload_n C dX3_at_5 0 rfl ?_
    refine z_tl1 C dX3_at_6 ?_
    refine z_icmp_ge (tgt := 16) C dX3_at_7 (by decide) ⟨h1, (by decide)⟩ (fun c3 => ?_) (fun c3 => ?_)
    · have hm := qt_i hm c3
      refine z_iconst (x := 0) C dX3_at_16 rfl ?_
      exact z_iret C hr (by decide) (by decide) (by cases hm; rfl) dX3_at_17
    · have hm := qf_i hm c3
      refine z_aload_n C dX3_at_10 0 rfl ?_
      refine z_iload_n C dX3_at_11 1 rfl ?_
      obtain ⟨h4, hm⟩ := qg_i hm
      refine z_ti1 C h4 dX3_at_12 ?_
      refine z_goto (tgt := 17) C dX3_at_13 (by decide) ?_
      exact z_iret C hr (by decide) (by decide) (by cases hm; rfl) dX3_at_17

set_option maxHeartbeats 4000000 in
set_option maxRecDepth 100000 in
theorem met_X3_at_s2 (l : Launch) (g : qG) (hl : l.stackTraces = false) (hA : qAd g) (n9 : Nat) (S : qS) (p1 : Int) (r : Int) (hm : MX3_at_s2 n9 S p1 = some r) : qM l g yX3_at (.code yX3_at cX3_at 2 (some .int)) rmX3_at qkI [.ref (qt g 2), .int (qI p1)] S (.inr r) S := by
  rw [MX3_at_s2] at hm
  refine qM_of (L := [(0, .ref (qt g 2)), (1, .int (qI p1))]) (by decide +kernel) rfl (Nat.le_of_ble_eq_true rfl) hl hA ?_
  intro p e s m below meth c C hr hT
  have C : qC g p l s m ([.ref (qt g 2), .int (qI p1)] : List Value).toArray meth c RX3 cX3_at 2 := C
  refine z_iload_n C dX3_at_0 1 rfl ?_
  obtain ⟨h1, hm⟩ := qg_i hm
  refine z_if_lt (tgt := 16) C dX3_at_1 (by decide) h1 (fun c2 => ?_) (fun c2 => ?_)
  · have hm := qt_i hm c2
    refine z_iconst (x := 0) C dX3_at_16 rfl ?_
    exact z_iret C hr (by decide) (by decide) (by cases hm; rfl) dX3_at_17
  · have hm := qf_i hm c2
    refine z_iload_n C dX3_at_4 1 rfl ?_
    refine z_aload_n C dX3_at_5 0 rfl ?_
    refine z_tl2 C dX3_at_6 ?_
    refine z_icmp_ge (tgt := 16) C dX3_at_7 (by decide) ⟨h1, (by decide)⟩ (fun c3 => ?_) (fun c3 => ?_)
    · have hm := qt_i hm c3
      refine z_iconst (x := 0) C dX3_at_16 rfl ?_
      exact z_iret C hr (by decide) (by decide) (by cases hm; rfl) dX3_at_17
    · have hm := qf_i hm c3
      refine z_aload_n C dX3_at_10 0 rfl ?_
      refine z_iload_n C dX3_at_11 1 rfl ?_
      obtain ⟨h4, hm⟩ := qg_i hm
      refine z_ti2 C h4 dX3_at_12 ?_
      refine z_goto (tgt := 17) C dX3_at_13 (by decide) ?_
      exact z_iret C hr (by decide) (by decide) (by cases hm; rfl) dX3_at_17

set_option maxHeartbeats 4000000 in
set_option maxRecDepth 100000 in
theorem met_X1_beginsTrain (l : Launch) (g : qG) (hl : l.stackTraces = false) (hA : qAd g) (n9 : Nat) (S : qS) (u0 : Nat) (p1 : Int) (r : Int) (hm : MX1_beginsTrain n9 S u0 p1 = some r) : qM l g yX1_beginsTrain (.code yX1_beginsTrain cX1_beginsTrain 2 (some .boolean)) rmX1_beginsTrain qkI [.ref (qad g u0), .int (qI p1)] S (.inr r) S := by
  rw [MX1_beginsTrain] at hm
  obtain ⟨hq0, hm⟩ := qg_i hm
  refine qM_of (L := [(0, .ref (qad g u0)), (1, .int (qI p1))]) (by decide +kernel) rfl (Nat.le_of_ble_eq_true rfl) hl hA ?_
  intro p e s m below meth c C hr hT
  have C : qC g p l s m ([.ref (qad g u0), .int (qI p1)] : List Value).toArray meth c RX1 cX1_beginsTrain 2 := C
  refine z_iload_n C dX1_beginsTrain_0 1 rfl ?_
  obtain ⟨h1, hm⟩ := qg_i hm
  obtain ⟨j2, e3, hm⟩ := ql_i hm
  have hj2 : j2 = some r → qZ g p l e rmX1_beginsTrain s m ([.ref (qad g u0), .int (qI p1)] : List Value).toArray below meth c (qQ g below qkI (.inr r) S ([.ref (qad g u0), .int (qI p1)] : List Value).toArray s rmX1_beginsTrain) 2 S [] 23 [] 0 0 := by
    intro  hm
    rw [e3] at hm
    refine z_iconst (x := 1) C dX1_beginsTrain_23 rfl ?_
    refine z_goto (tgt := 28) C dX1_beginsTrain_24 (by decide) ?_
    exact z_zret C hr (by decide) (by decide) (by decide) (by cases hm; rfl) dX1_beginsTrain_28
  clear e3
  refine z_if_eq (tgt := 23) C dX1_beginsTrain_1 (by decide) h1 (fun c4 => ?_) (fun c4 => ?_)
  · have hm := qt_i hm c4
    refine z_sub (L' := []) [] rfl ?_
    exact hj2  hm
  · have hm := qf_i hm c4
    refine z_aload_n C dX1_beginsTrain_4 0 rfl ?_
    refine gf_X1_9 C hq0 dX1_beginsTrain_5 ?_
    refine z_iload_n C dX1_beginsTrain_8 1 rfl ?_
    obtain ⟨a5, h6, hm⟩ := qb_i hm
    refine iv_X1_31 C (met_X3_at l g hl hA n9 S (u0 + 1) p1 _ h6) ⟨by decide, by decide⟩ ⟨by decide, by decide⟩ (Nat.le_of_ble_eq_true rfl) dX1_beginsTrain_9 ?_
    refine z_aload_n C dX1_beginsTrain_12 0 rfl ?_
    refine gf_X1_24 C hq0 dX1_beginsTrain_13 ?_
    refine z_iconst (x := 3) C dX1_beginsTrain_16 rfl ?_
    obtain ⟨a7, h8, hm⟩ := qb_i hm
    refine iv_X1_31 C (met_X3_at l g hl hA n9 S (u0 + 4) 3 _ h8) ⟨by decide, by decide⟩ ⟨by decide, by decide⟩ (Nat.le_of_ble_eq_true rfl) dX1_beginsTrain_17 ?_
    obtain ⟨h9, hm⟩ := qg_i hm
    obtain ⟨h10, hm⟩ := qg_i hm
    refine z_icmp_lt (tgt := 27) C dX1_beginsTrain_20 (by decide) ⟨h9, h10⟩ (fun c11 => ?_) (fun c11 => ?_)
    · have hm := qt_i hm c11
      refine z_iconst (x := 0) C dX1_beginsTrain_27 rfl ?_
      exact z_zret C hr (by decide) (by decide) (by decide) (by cases hm; rfl) dX1_beginsTrain_28
    · have hm := qf_i hm c11
      refine z_sub (L' := []) [] rfl ?_
      exact hj2  hm

set_option maxHeartbeats 4000000 in
set_option maxRecDepth 100000 in
theorem met_X0_findTrains_l7 {g : qG} {p : Program} {l : Launch} {e : Env} {s : State} {m : MethodId} {args : Array Value} {below : List Frame} {meth : Method} {c : Code} (C : qC g p l s m args meth c RX0 cX0_findTrains 3) (hr : meth.sig.returnType = none) (hT : ∀ x ∈ c.exceptionTable.toList, False) (n9 : Nat) (u1 : Nat) {r : qS} (k83 : qS → Option (qS)) (hq1 : qk u1 = 2) (hk83 : ∀ (y1 : qS), k83 y1 = some r → qZ g p l e rmX0_findTrains s m args below meth c (qQ g below qkV (.inr 0) r args s rmX0_findTrains) 3 y1 [(0, .ref (qad g 17)), (1, .ref (qad g u1))] 83 [] 0 0) : ∀ (f : Nat) (S11 : qS) (x12 : Int), MX0_findTrains_l7 n9 u1 k83 f S11 x12 = some r → qZ g p l e rmX0_findTrains s m args below meth c (qQ g below qkV (.inr 0) r args s rmX0_findTrains) 3 S11 [(0, .ref (qad g 17)), (1, .ref (qad g u1)), (2, .int (qI x12))] 7 [] 0 0 := by
  intro f
  induction f with
  | zero => intro S11 x12 hm; rw [MX0_findTrains_l7] at hm; cases hm
  | succ f ih =>
    intro S11 x12 hm
    rw [MX0_findTrains_l7] at hm
    have hl := C.2.2.2.2.2.2.2.2
    have hA := C.2.2.2.2.2.2.1
    refine z_iload_n C dX0_findTrains_7 2 rfl ?_
    refine z_aload_n C dX0_findTrains_8 1 rfl ?_
    refine gf_X0_72 C hq1 dX0_findTrains_9 ?_
    obtain ⟨h13, hm⟩ := qg_i hm
    obtain ⟨h14, hm⟩ := qg_i hm
    refine z_icmp_ge (tgt := 83) C dX0_findTrains_12 (by decide) ⟨h13, h14⟩ (fun c15 => ?_) (fun c15 => ?_)
    · have hm := qt_i hm c15
      refine z_sub (L' := [(0, .ref (qad g 17)), (1, .ref (qad g u1))]) [0, 1] rfl ?_
      exact hk83 S11 hm
    · have hm := qf_i hm c15
      refine z_iload_n C dX0_findTrains_15 2 rfl ?_
      refine z_bipush (x := 30) C dX0_findTrains_16 (by decide +kernel) ?_
      refine z_icmp_ge (tgt := 83) C dX0_findTrains_18 (by decide) ⟨h13, (by decide)⟩ (fun c16 => ?_) (fun c16 => ?_)
      · have hm := qt_i hm c16
        refine z_sub (L' := [(0, .ref (qad g 17)), (1, .ref (qad g u1))]) [0, 1] rfl ?_
        exact hk83 S11 hm
      · have hm := qf_i hm c16
        refine z_aload_n C dX0_findTrains_21 1 rfl ?_
        refine z_iload_n C dX0_findTrains_22 2 rfl ?_
        obtain ⟨a17, h18, hm⟩ := qb_i hm
        refine iv_X0_77 C (met_X1_beginsTrain l g hl hA n9 S11 u1 x12 _ h18) hq1 ⟨by decide, by decide⟩ ⟨by decide, by decide⟩ (Nat.le_of_ble_eq_true rfl) dX0_findTrains_23 ?_
        obtain ⟨h19, hm⟩ := qg_i hm
        obtain ⟨j21, e28, hm⟩ := ql_i hm
        have hj21 : ∀ (S20 : qS), j21 S20 = some r → qZ g p l e rmX0_findTrains s m args below meth c (qQ g below qkV (.inr 0) r args s rmX0_findTrains) 3 S20 [(0, .ref (qad g 17)), (1, .ref (qad g u1)), (2, .int (qI x12))] 58 [] 0 0 := by
          intro S20 hm
          rw [e28] at hm
          refine z_aload_n C dX0_findTrains_58 0 rfl ?_
          refine gf_X0_21 C rfl dX0_findTrains_59 ?_
          refine z_iload_n C dX0_findTrains_62 2 rfl ?_
          refine z_aload_n C dX0_findTrains_63 0 rfl ?_
          refine gf_X0_53 C rfl dX0_findTrains_64 ?_
          refine z_iconst (x := 1) C dX0_findTrains_67 rfl ?_
          refine z_isub C dX0_findTrains_68 ?_
          obtain ⟨h22, hm⟩ := qg_i hm
          refine z_iast (N := 30) C rfl h22 (by decide) dX0_findTrains_69 ?_
          obtain ⟨S23, e24, hm⟩ := ql_i hm
          refine z_S e24 ?_
          refine z_aload_n C dX0_findTrains_70 0 rfl ?_
          refine gf_X0_24 C rfl dX0_findTrains_71 ?_
          refine z_iload_n C dX0_findTrains_74 2 rfl ?_
          refine z_iconst (x := (-1)) C dX0_findTrains_75 rfl ?_
          obtain ⟨h25, hm⟩ := qg_i hm
          refine z_iast (N := 30) C rfl h25 (by decide) dX0_findTrains_76 ?_
          obtain ⟨S26, e27, hm⟩ := ql_i hm
          refine z_S e27 ?_
          refine z_iinc (L' := [(2, .int (qI (x12 + 1))), (0, .ref (qad g 17)), (1, .ref (qad g u1))]) C dX0_findTrains_77 2 rfl (by decide) rfl ?_
          refine z_goto (tgt := 7) C dX0_findTrains_80 (by decide) ?_
          refine z_sub (L' := [(0, .ref (qad g 17)), (1, .ref (qad g u1)), (2, .int (qI (x12 + 1)))]) [1, 2, 0] rfl ?_
          exact ih S26 (x12 + 1) hm
        clear e28
        refine z_if_eq (tgt := 58) C dX0_findTrains_26 (by decide) h19 (fun c29 => ?_) (fun c29 => ?_)
        · have hm := qt_i hm c29
          exact hj21 S11 hm
        · have hm := qf_i hm c29
          refine z_aload_n C dX0_findTrains_29 0 rfl ?_
          refine gf_X0_53 C rfl dX0_findTrains_30 ?_
          refine z_bipush (x := 30) C dX0_findTrains_33 (by decide +kernel) ?_
          obtain ⟨h30, hm⟩ := qg_i hm
          refine z_icmp_ge (tgt := 58) C dX0_findTrains_35 (by decide) ⟨h30, (by decide)⟩ (fun c31 => ?_) (fun c31 => ?_)
          · have hm := qt_i hm c31
            exact hj21 S11 hm
          · have hm := qf_i hm c31
            refine z_aload_n C dX0_findTrains_38 0 rfl ?_
            refine gf_X0_9 C rfl dX0_findTrains_39 ?_
            refine z_aload_n C dX0_findTrains_42 0 rfl ?_
            refine gf_X0_53 C rfl dX0_findTrains_43 ?_
            refine z_iload_n C dX0_findTrains_46 2 rfl ?_
            obtain ⟨h32, hm⟩ := qg_i hm
            refine z_iast (N := 31) C rfl h32 (by decide) dX0_findTrains_47 ?_
            obtain ⟨S33, e34, hm⟩ := ql_i hm
            refine z_S e34 ?_
            refine z_aload_n C dX0_findTrains_48 0 rfl ?_
            refine z_dup C dX0_findTrains_49 rfl ?_
            refine gf_X0_53 C rfl dX0_findTrains_50 ?_
            refine z_iconst (x := 1) C dX0_findTrains_53 rfl ?_
            refine z_iadd C dX0_findTrains_54 ?_
            refine pf_X0_53 C rfl dX0_findTrains_55 ?_
            obtain ⟨S35, e36, hm⟩ := ql_i hm
            refine z_S e36 ?_
            exact hj21 S35 hm

set_option maxHeartbeats 4000000 in
set_option maxRecDepth 100000 in
theorem met_X0_findTrains (l : Launch) (g : qG) (hl : l.stackTraces = false) (hA : qAd g) (n9 : Nat) (S : qS) (u1 : Nat) (r : qS) (hm : MX0_findTrains n9 S u1 = some r) : qM l g yX0_findTrains (.code yX0_findTrains cX0_findTrains 3 none) rmX0_findTrains qkV [.ref (qad g 17), .ref (qad g u1)] S (.inr 0) r := by
  rw [MX0_findTrains] at hm
  obtain ⟨hq1, hm⟩ := qg_i hm
  refine qM_of (L := [(0, .ref (qad g 17)), (1, .ref (qad g u1))]) (by decide +kernel) rfl (Nat.le_of_ble_eq_true rfl) hl hA ?_
  intro p e s m below meth c C hr hT
  have C : qC g p l s m ([.ref (qad g 17), .ref (qad g u1)] : List Value).toArray meth c RX0 cX0_findTrains 3 := C
  refine z_aload_n C dX0_findTrains_0 0 rfl ?_
  refine z_iconst (x := 0) C dX0_findTrains_1 rfl ?_
  refine pf_X0_53 C rfl dX0_findTrains_2 ?_
  obtain ⟨S1, e2, hm⟩ := ql_i hm
  refine z_S e2 ?_
  refine z_iconst (x := 0) C dX0_findTrains_5 rfl ?_
  refine z_istore_n (L' := [(2, .int (qI 0)), (0, .ref (qad g 17)), (1, .ref (qad g u1))]) C dX0_findTrains_6 (by decide) rfl ?_
  obtain ⟨j4, e10, hm⟩ := ql_i hm
  have hj4 : ∀ (S3 : qS), j4 S3 = some r → qZ g p l e rmX0_findTrains s m ([.ref (qad g 17), .ref (qad g u1)] : List Value).toArray below meth c (qQ g below qkV (.inr 0) r ([.ref (qad g 17), .ref (qad g u1)] : List Value).toArray s rmX0_findTrains) 3 S3 [(0, .ref (qad g 17)), (1, .ref (qad g u1))] 83 [] 0 0 := by
    intro S3 hm
    rw [e10] at hm
    refine z_aload_n C dX0_findTrains_83 0 rfl ?_
    refine gf_X0_53 C rfl dX0_findTrains_84 ?_
    refine z_bipush (x := 30) C dX0_findTrains_87 (by decide +kernel) ?_
    obtain ⟨h5, hm⟩ := qg_i hm
    refine z_icmp_gt (tgt := 105) C dX0_findTrains_89 (by decide) ⟨h5, (by decide)⟩ (fun c6 => ?_) (fun c6 => ?_)
    · have hm := qt_i hm c6
      exact z_vret C hr (by decide) (by decide) (by cases hm; rfl) dX0_findTrains_105
    · have hm := qf_i hm c6
      refine z_aload_n C dX0_findTrains_92 0 rfl ?_
      refine gf_X0_9 C rfl dX0_findTrains_93 ?_
      refine z_aload_n C dX0_findTrains_96 0 rfl ?_
      refine gf_X0_53 C rfl dX0_findTrains_97 ?_
      refine z_aload_n C dX0_findTrains_100 1 rfl ?_
      refine gf_X0_72 C hq1 dX0_findTrains_101 ?_
      obtain ⟨h7, hm⟩ := qg_i hm
      refine z_iast (N := 31) C rfl h7 (by decide) dX0_findTrains_104 ?_
      obtain ⟨S8, e9, hm⟩ := ql_i hm
      refine z_S e9 ?_
      exact z_vret C hr (by decide) (by decide) (by cases hm; rfl) dX0_findTrains_105
  clear e10
  refine z_sub (L' := [(0, .ref (qad g 17)), (1, .ref (qad g u1)), (2, .int (qI 0))]) [1, 2, 0] rfl ?_
  exact met_X0_findTrains_l7 C hr hT n9 u1 j4 hq1 hj4 n9 S1 0 hm

set_option maxHeartbeats 4000000 in
set_option maxRecDepth 100000 in
theorem met_X1_carCost (l : Launch) (g : qG) (hl : l.stackTraces = false) (hA : qAd g) (n9 : Nat) (S : qS) (u0 : Nat) (p1 : Int) (r : Int) (hm : MX1_carCost n9 S u0 p1 = some r) : qM l g yX1_carCost (.code yX1_carCost cX1_carCost 2 (some .int)) rmX1_carCost qkI [.ref (qad g u0), .int (qI p1)] S (.inr r) S := by
  rw [MX1_carCost] at hm
  obtain ⟨hq0, hm⟩ := qg_i hm
  refine qM_of (L := [(0, .ref (qad g u0)), (1, .int (qI p1))]) (by decide +kernel) rfl (Nat.le_of_ble_eq_true rfl) hl hA ?_
  intro p e s m below meth c C hr hT
  have C : qC g p l s m ([.ref (qad g u0), .int (qI p1)] : List Value).toArray meth c RX1 cX1_carCost 2 := C
  refine z_iconst (x := 3) C dX1_carCost_0 rfl ?_
  refine z_aload_n C dX1_carCost_1 0 rfl ?_
  refine gf_X1_9 C hq0 dX1_carCost_2 ?_
  refine z_iload_n C dX1_carCost_5 1 rfl ?_
  refine z_iconst (x := 1) C dX1_carCost_6 rfl ?_
  refine z_iadd C dX1_carCost_7 ?_
  obtain ⟨a1, h2, hm⟩ := qb_i hm
  refine iv_X1_31 C (met_X3_at l g hl hA n9 S (u0 + 1) (p1 + 1) _ h2) ⟨by decide, by decide⟩ ⟨by decide, by decide⟩ (Nat.le_of_ble_eq_true rfl) dX1_carCost_8 ?_
  refine z_aload_n C dX1_carCost_11 0 rfl ?_
  refine gf_X1_24 C hq0 dX1_carCost_12 ?_
  refine z_iconst (x := 0) C dX1_carCost_15 rfl ?_
  obtain ⟨a3, h4, hm⟩ := qb_i hm
  refine iv_X1_31 C (met_X3_at l g hl hA n9 S (u0 + 4) 0 _ h4) ⟨by decide, by decide⟩ ⟨by decide, by decide⟩ (Nat.le_of_ble_eq_true rfl) dX1_carCost_16 ?_
  refine z_isub C dX1_carCost_19 ?_
  obtain ⟨h5, hm⟩ := qg_i hm
  refine iv_X1_65 C ⟨by decide, Nat.le_of_ble_eq_true rfl⟩ ⟨by decide, by decide⟩ h5 dX1_carCost_20 ?_
  refine z_imul C dX1_carCost_23 ?_
  refine z_aload_n C dX1_carCost_24 0 rfl ?_
  refine gf_X1_15 C hq0 dX1_carCost_25 ?_
  refine z_iload_n C dX1_carCost_28 1 rfl ?_
  obtain ⟨a6, h7, hm⟩ := qb_i hm
  refine iv_X1_31 C (met_X3_at l g hl hA n9 S (u0 + 2) p1 _ h7) ⟨by decide, by decide⟩ ⟨by decide, by decide⟩ (Nat.le_of_ble_eq_true rfl) dX1_carCost_29 ?_
  refine z_aload_n C dX1_carCost_32 0 rfl ?_
  refine gf_X1_15 C hq0 dX1_carCost_33 ?_
  refine z_iload_n C dX1_carCost_36 1 rfl ?_
  refine z_iconst (x := 1) C dX1_carCost_37 rfl ?_
  refine z_iadd C dX1_carCost_38 ?_
  obtain ⟨a8, h9, hm⟩ := qb_i hm
  refine iv_X1_31 C (met_X3_at l g hl hA n9 S (u0 + 2) (p1 + 1) _ h9) ⟨by decide, by decide⟩ ⟨by decide, by decide⟩ (Nat.le_of_ble_eq_true rfl) dX1_carCost_39 ?_
  refine z_isub C dX1_carCost_42 ?_
  obtain ⟨h10, hm⟩ := qg_i hm
  refine iv_X1_65 C ⟨by decide, Nat.le_of_ble_eq_true rfl⟩ ⟨by decide, by decide⟩ h10 dX1_carCost_43 ?_
  refine z_iadd C dX1_carCost_46 ?_
  exact z_iret C hr (by decide) (by decide) (by cases hm; rfl) dX1_carCost_47

set_option maxHeartbeats 4000000 in
set_option maxRecDepth 100000 in
theorem met_X0_chooseCar_l30 {g : qG} {p : Program} {l : Launch} {e : Env} {s : State} {m : MethodId} {args : Array Value} {below : List Frame} {meth : Method} {c : Code} (C : qC g p l s m args meth c RX0 cX0_chooseCar 12) (hr : meth.sig.returnType = none) (hT : ∀ x ∈ c.exceptionTable.toList, False) (n9 : Nat) (S : qS) (u1 : Nat) (p2 : Int) (p3 : Int) (p4 : Int) (a1 : Int) {r : qS} (k111 : Int → Int → Option (qS)) (hq1 : qk u1 = 2) (hk111 : ∀ (y1 : Int) (y2 : Int), k111 y1 y2 = some r → qZ g p l e rmX0_chooseCar s m args below meth c (qQ g below qkV (.inr 0) r args s rmX0_chooseCar) 12 S [(0, .ref (qad g 17)), (2, .int (qI p2)), (6, .int (qI y1)), (7, .int (qI y2))] 111 [] 0 0) : ∀ (f : Nat) (x18 : Int) (x19 : Int) (x20 : Int) (x21 : Int), MX0_chooseCar_l30 n9 S u1 p2 p3 p4 a1 k111 f x18 x19 x20 x21 = some r → qZ g p l e rmX0_chooseCar s m args below meth c (qQ g below qkV (.inr 0) r args s rmX0_chooseCar) 12 S [(0, .ref (qad g 17)), (1, .ref (qad g u1)), (2, .int (qI p2)), (3, .int (qI p3)), (4, .int (qI p4)), (5, .int (qI a1)), (6, .int (qI x18)), (7, .int (qI x19)), (8, .int (qI x20)), (9, .int (qI x21))] 30 [] 0 0 := by
  intro f
  induction f with
  | zero => intro x18 x19 x20 x21 hm; rw [MX0_chooseCar_l30] at hm; cases hm
  | succ f ih =>
    intro x18 x19 x20 x21 hm
    rw [MX0_chooseCar_l30] at hm
    have hl := C.2.2.2.2.2.2.2.2
    have hA := C.2.2.2.2.2.2.1
    refine z_iload C dX0_chooseCar_30 9 rfl ?_
    refine z_iconst (x := 1) C dX0_chooseCar_32 rfl ?_
    refine z_iadd C dX0_chooseCar_33 ?_
    refine z_iload_n C dX0_chooseCar_34 3 rfl ?_
    obtain ⟨h22, hm⟩ := qg_i hm
    obtain ⟨h23, hm⟩ := qg_i hm
    refine z_icmp_ge (tgt := 111) C dX0_chooseCar_35 (by decide) ⟨h22, h23⟩ (fun c24 => ?_) (fun c24 => ?_)
    · have hm := qt_i hm c24
      refine z_sub (L' := [(0, .ref (qad g 17)), (2, .int (qI p2)), (6, .int (qI x18)), (7, .int (qI x19))]) [0, 2, 6, 7] rfl ?_
      exact hk111 x18 x19 hm
    · have hm := qf_i hm c24
      refine z_iload C dX0_chooseCar_38 8 rfl ?_
      refine z_aload_n C dX0_chooseCar_40 1 rfl ?_
      refine gf_X0_97 C hq1 dX0_chooseCar_41 ?_
      refine z_iload C dX0_chooseCar_44 9 rfl ?_
      obtain ⟨a25, h26, hm⟩ := qb_i hm
      refine iv_X0_60 C (met_X3_at l g hl hA n9 S (u1 + 1) x21 _ h26) ⟨by decide, by decide⟩ ⟨by decide, by decide⟩ (Nat.le_of_ble_eq_true rfl) dX0_chooseCar_46 ?_
      refine z_iadd C dX0_chooseCar_49 ?_
      obtain ⟨x27, e28, hm⟩ := ql_i hm
      refine z_topi e28 ?_
      refine z_istore (L' := [(8, .int (qI x27)), (0, .ref (qad g 17)), (1, .ref (qad g u1)), (2, .int (qI p2)), (3, .int (qI p3)), (4, .int (qI p4)), (5, .int (qI a1)), (6, .int (qI x18)), (7, .int (qI x19)), (9, .int (qI x21))]) C dX0_chooseCar_50 (by decide) rfl ?_
      refine z_iload C dX0_chooseCar_52 6 rfl ?_
      refine z_iload C dX0_chooseCar_54 9 rfl ?_
      refine z_iload_n C dX0_chooseCar_56 3 rfl ?_
      refine z_isub C dX0_chooseCar_57 ?_
      refine z_imul C dX0_chooseCar_58 ?_
      refine z_iconst (x := 2) C dX0_chooseCar_59 rfl ?_
      refine z_iload C dX0_chooseCar_60 5 rfl ?_
      refine z_iload C dX0_chooseCar_62 0 rfl ?_
      refine z_isub C dX0_chooseCar_64 ?_
      refine z_iconst (x := 0) C dX0_chooseCar_65 rfl ?_
      obtain ⟨h29, hm⟩ := qg_i hm
      refine iv_X0_100 C ⟨by decide, Nat.le_of_ble_eq_true rfl⟩ ⟨by decide, by decide⟩ ⟨h29, (by decide)⟩ dX0_chooseCar_66 ?_
      refine z_imul C dX0_chooseCar_69 ?_
      refine z_iadd C dX0_chooseCar_70 ?_
      obtain ⟨x30, e31, hm⟩ := ql_i hm
      refine z_topi e31 ?_
      refine z_istore (L' := [(10, .int (qI x30)), (8, .int (qI x27)), (0, .ref (qad g 17)), (1, .ref (qad g u1)), (2, .int (qI p2)), (3, .int (qI p3)), (4, .int (qI p4)), (5, .int (qI a1)), (6, .int (qI x18)), (7, .int (qI x19)), (9, .int (qI x21))]) C dX0_chooseCar_71 (by decide) rfl ?_
      refine z_bipush (x := 100) C dX0_chooseCar_73 (by decide +kernel) ?_
      refine z_iload C dX0_chooseCar_75 0 rfl ?_
      refine z_imul C dX0_chooseCar_77 ?_
      refine z_aload_n C dX0_chooseCar_78 2 rfl ?_
      refine gf_X0_30 C rfl dX0_chooseCar_79 ?_
      refine z_iload C dX0_chooseCar_82 10 rfl ?_
      obtain ⟨a32, h33, hm⟩ := qb_i hm
      refine iv_X0_60 C (met_X3_at l g hl hA n9 S 24 x21 _ h33) ⟨by decide, by decide⟩ ⟨by decide, by decide⟩ (Nat.le_of_ble_eq_true rfl) dX0_chooseCar_84 ?_
      refine z_iadd C dX0_chooseCar_87 ?_
      obtain ⟨x34, e35, hm⟩ := ql_i hm
      refine z_topi e35 ?_
      refine z_istore (L' := [(11, .int (qI x34)), (10, .int (qI x30)), (8, .int (qI x27)), (0, .ref (qad g 17)), (1, .ref (qad g u1)), (2, .int (qI p2)), (3, .int (qI p3)), (4, .int (qI p4)), (5, .int (qI a1)), (6, .int (qI x18)), (7, .int (qI x19)), (9, .int (qI x21))]) C dX0_chooseCar_88 (by decide) rfl ?_
      refine z_iload C dX0_chooseCar_90 0 rfl ?_
      refine z_iload C dX0_chooseCar_92 9 rfl ?_
      obtain ⟨h36, hm⟩ := qg_i hm
      obtain ⟨h37, hm⟩ := qg_i hm
      obtain ⟨j40, e41, hm⟩ := ql_i hm
      have hj40 : ∀ (x38 : Int) (x39 : Int), j40 x38 x39 = some r → qZ g p l e rmX0_chooseCar s m args below meth c (qQ g below qkV (.inr 0) r args s rmX0_chooseCar) 12 S [(0, .ref (qad g 17)), (1, .ref (qad g u1)), (2, .int (qI p2)), (3, .int (qI p3)), (4, .int (qI p4)), (5, .int (qI a1)), (6, .int (qI x38)), (7, .int (qI x39)), (8, .int (qI x27)), (9, .int (qI x21))] 105 [] 0 0 := by
        intro x38 x39 hm
        rw [e41] at hm
        refine z_iinc (L' := [(9, .int (qI (x21 + 1))), (0, .ref (qad g 17)), (1, .ref (qad g u1)), (2, .int (qI p2)), (3, .int (qI p3)), (4, .int (qI p4)), (5, .int (qI a1)), (6, .int (qI x38)), (7, .int (qI x39)), (8, .int (qI x27))]) C dX0_chooseCar_105 9 rfl (by decide) rfl ?_
        refine z_goto (tgt := 30) C dX0_chooseCar_108 (by decide) ?_
        refine z_sub (L' := [(0, .ref (qad g 17)), (1, .ref (qad g u1)), (2, .int (qI p2)), (3, .int (qI p3)), (4, .int (qI p4)), (5, .int (qI a1)), (6, .int (qI x38)), (7, .int (qI x39)), (8, .int (qI x27)), (9, .int (qI (x21 + 1)))]) [1, 2, 3, 4, 5, 6, 7, 8, 9, 0] rfl ?_
        exact ih x38 x39 x27 (x21 + 1) hm
      clear e41
      refine z_icmp_ge (tgt := 105) C dX0_chooseCar_94 (by decide) ⟨h36, h37⟩ (fun c42 => ?_) (fun c42 => ?_)
      · have hm := qt_i hm c42
        refine z_sub (L' := [(0, .ref (qad g 17)), (1, .ref (qad g u1)), (2, .int (qI p2)), (3, .int (qI p3)), (4, .int (qI p4)), (5, .int (qI a1)), (6, .int (qI x18)), (7, .int (qI x19)), (8, .int (qI x27)), (9, .int (qI x21))]) [3, 4, 5, 6, 7, 8, 9, 10, 2, 11] rfl ?_
        exact hj40 x18 x19 hm
      · have hm := qf_i hm c42
        refine z_iload C dX0_chooseCar_97 0 rfl ?_
        refine z_istore (L' := [(6, .int (qI x34)), (11, .int (qI x34)), (10, .int (qI x30)), (8, .int (qI x27)), (0, .ref (qad g 17)), (1, .ref (qad g u1)), (2, .int (qI p2)), (3, .int (qI p3)), (4, .int (qI p4)), (5, .int (qI a1)), (7, .int (qI x19)), (9, .int (qI x21))]) C dX0_chooseCar_99 (by decide) rfl ?_
        refine z_iload C dX0_chooseCar_101 11 rfl ?_
        refine z_istore (L' := [(7, .int (qI x21)), (6, .int (qI x34)), (11, .int (qI x34)), (10, .int (qI x30)), (8, .int (qI x27)), (0, .ref (qad g 17)), (1, .ref (qad g u1)), (2, .int (qI p2)), (3, .int (qI p3)), (4, .int (qI p4)), (5, .int (qI a1)), (9, .int (qI x21))]) C dX0_chooseCar_103 (by decide) rfl ?_
        refine z_sub (L' := [(0, .ref (qad g 17)), (1, .ref (qad g u1)), (2, .int (qI p2)), (3, .int (qI p3)), (4, .int (qI p4)), (5, .int (qI a1)), (6, .int (qI x34)), (7, .int (qI x21)), (8, .int (qI x27)), (9, .int (qI x21))]) [5, 6, 7, 8, 9, 10, 1, 0, 4, 11] rfl ?_
        exact hj40 x34 x21 hm

set_option maxHeartbeats 4000000 in
set_option maxRecDepth 100000 in
theorem met_X0_chooseCar (l : Launch) (g : qG) (hl : l.stackTraces = false) (hA : qAd g) (n9 : Nat) (S : qS) (u1 : Nat) (p2 : Int) (p3 : Int) (p4 : Int) (r : qS) (hm : MX0_chooseCar n9 S u1 p2 p3 p4 = some r) : qM l g yX0_chooseCar (.code yX0_chooseCar cX0_chooseCar 12 none) rmX0_chooseCar qkV [.ref (qad g 17), .ref (qad g u1), .int (qI p2), .int (qI p3), .int (qI p4)] S (.inr 0) r := by
  rw [MX0_chooseCar] at hm
  obtain ⟨hq1, hm⟩ := qg_i hm
  refine qM_of (L := [(0, .ref (qad g 17)), (1, .ref (qad g u1)), (2, .int (qI p2)), (3, .int (qI p3)), (4, .int (qI p4))]) (by decide +kernel) rfl (Nat.le_of_ble_eq_true rfl) hl hA ?_
  intro p e s m below meth c C hr hT
  have C : qC g p l s m ([.ref (qad g 17), .ref (qad g u1), .int (qI p2), .int (qI p3), .int (qI p4)] : List Value).toArray meth c RX0 cX0_chooseCar 12 := C
  refine z_aload_n C dX0_chooseCar_0 1 rfl ?_
  refine gf_X0_81 C hq1 dX0_chooseCar_1 ?_
  refine z_iconst (x := 2) C dX0_chooseCar_4 rfl ?_
  obtain ⟨a1, h2, hm⟩ := qb_i hm
  refine iv_X0_60 C (met_X3_at l g hl hA n9 S (u1 + 4) 2 _ h2) ⟨by decide, by decide⟩ ⟨by decide, by decide⟩ (Nat.le_of_ble_eq_true rfl) dX0_chooseCar_5 ?_
  refine z_istore (L' := [(5, .int (qI a1)), (0, .ref (qad g 17)), (1, .ref (qad g u1)), (2, .int (qI p2)), (3, .int (qI p3)), (4, .int (qI p4))]) C dX0_chooseCar_8 (by decide) rfl ?_
  refine z_bipush (x := 100) C dX0_chooseCar_10 (by decide +kernel) ?_
  refine z_iload C dX0_chooseCar_12 0 rfl ?_
  refine z_imul C dX0_chooseCar_14 ?_
  refine z_iload_n C dX0_chooseCar_15 4 rfl ?_
  refine z_iload_n C dX0_chooseCar_16 3 rfl ?_
  refine z_isub C dX0_chooseCar_17 ?_
  refine z_imul C dX0_chooseCar_18 ?_
  obtain ⟨x3, e4, hm⟩ := ql_i hm
  refine z_topi e4 ?_
  refine z_istore (L' := [(6, .int (qI x3)), (5, .int (qI a1)), (0, .ref (qad g 17)), (1, .ref (qad g u1)), (2, .int (qI p2)), (3, .int (qI p3)), (4, .int (qI p4))]) C dX0_chooseCar_19 (by decide) rfl ?_
  refine z_iconst (x := (-1)) C dX0_chooseCar_21 rfl ?_
  refine z_istore (L' := [(7, .int (qI (-1))), (6, .int (qI x3)), (5, .int (qI a1)), (0, .ref (qad g 17)), (1, .ref (qad g u1)), (2, .int (qI p2)), (3, .int (qI p3)), (4, .int (qI p4))]) C dX0_chooseCar_22 (by decide) rfl ?_
  refine z_iconst (x := 0) C dX0_chooseCar_24 rfl ?_
  refine z_istore (L' := [(8, .int (qI 0)), (7, .int (qI (-1))), (6, .int (qI x3)), (5, .int (qI a1)), (0, .ref (qad g 17)), (1, .ref (qad g u1)), (2, .int (qI p2)), (3, .int (qI p3)), (4, .int (qI p4))]) C dX0_chooseCar_25 (by decide) rfl ?_
  refine z_iload_n C dX0_chooseCar_27 6 rfl ?_
  refine z_istore (L' := [(9, .int (qI p2)), (8, .int (qI 0)), (7, .int (qI (-1))), (6, .int (qI x3)), (5, .int (qI a1)), (0, .ref (qad g 17)), (1, .ref (qad g u1)), (2, .int (qI p2)), (3, .int (qI p3)), (4, .int (qI p4))]) C dX0_chooseCar_28 (by decide) rfl ?_
  obtain ⟨j7, e17, hm⟩ := ql_i hm
  have hj7 : ∀ (x5 : Int) (x6 : Int), j7 x5 x6 = some r → qZ g p l e rmX0_chooseCar s m ([.ref (qad g 17), .ref (qad g u1), .int (qI p2), .int (qI p3), .int (qI p4)] : List Value).toArray below meth c (qQ g below qkV (.inr 0) r ([.ref (qad g 17), .ref (qad g u1), .int (qI p2), .int (qI p3), .int (qI p4)] : List Value).toArray s rmX0_chooseCar) 12 S [(0, .ref (qad g 17)), (2, .int (qI p2)), (6, .int (qI x5)), (7, .int (qI x6))] 111 [] 0 0 := by
    intro x5 x6 hm
    rw [e17] at hm
    refine z_iload_n C dX0_chooseCar_111 1 rfl ?_
    obtain ⟨h8, hm⟩ := qg_i hm
    refine z_if_lt (tgt := 137) C dX0_chooseCar_112 (by decide) h8 (fun c9 => ?_) (fun c9 => ?_)
    · have hm := qt_i hm c9
      exact z_vret C hr (by decide) (by decide) (by cases hm; rfl) dX0_chooseCar_137
    · have hm := qf_i hm c9
      refine z_iload_n C dX0_chooseCar_115 1 rfl ?_
      refine z_bipush (x := 30) C dX0_chooseCar_116 (by decide +kernel) ?_
      refine z_icmp_gt (tgt := 137) C dX0_chooseCar_118 (by decide) ⟨h8, (by decide)⟩ (fun c10 => ?_) (fun c10 => ?_)
      · have hm := qt_i hm c10
        exact z_vret C hr (by decide) (by decide) (by cases hm; rfl) dX0_chooseCar_137
      · have hm := qf_i hm c10
        refine z_aload_n C dX0_chooseCar_121 0 rfl ?_
        refine gf_X0_33 C rfl dX0_chooseCar_122 ?_
        refine z_iload_n C dX0_chooseCar_125 1 rfl ?_
        refine z_iload C dX0_chooseCar_126 2 rfl ?_
        obtain ⟨h11, hm⟩ := qg_i hm
        refine z_iast (N := 31) C rfl h11 (by decide) dX0_chooseCar_128 ?_
        obtain ⟨S12, e13, hm⟩ := ql_i hm
        refine z_S e13 ?_
        refine z_aload_n C dX0_chooseCar_129 0 rfl ?_
        refine gf_X0_36 C rfl dX0_chooseCar_130 ?_
        refine z_iload_n C dX0_chooseCar_133 1 rfl ?_
        refine z_iload C dX0_chooseCar_134 3 rfl ?_
        obtain ⟨h14, hm⟩ := qg_i hm
        refine z_iast (N := 31) C rfl h14 (by decide) dX0_chooseCar_136 ?_
        obtain ⟨S15, e16, hm⟩ := ql_i hm
        refine z_S e16 ?_
        exact z_vret C hr (by decide) (by decide) (by cases hm; rfl) dX0_chooseCar_137
  clear e17
  refine z_sub (L' := [(0, .ref (qad g 17)), (1, .ref (qad g u1)), (2, .int (qI p2)), (3, .int (qI p3)), (4, .int (qI p4)), (5, .int (qI a1)), (6, .int (qI x3)), (7, .int (qI (-1))), (8, .int (qI 0)), (9, .int (qI p2))]) [5, 6, 7, 8, 9, 4, 3, 2, 1, 0] rfl ?_
  exact met_X0_chooseCar_l30 C hr hT n9 S u1 p2 p3 p4 a1 j7 hq1 hj7 n9 x3 (-1) 0 p2 hm

set_option maxHeartbeats 4000000 in
set_option maxRecDepth 100000 in
theorem met_X0_findValues_l18 {g : qG} {p : Program} {l : Launch} {e : Env} {s : State} {m : MethodId} {args : Array Value} {below : List Frame} {meth : Method} {c : Code} (C : qC g p l s m args meth c RX0 cX0_findValues 8) (hr : meth.sig.returnType = none) (hT : ∀ x ∈ c.exceptionTable.toList, False) (n9 : Nat) (u1 : Nat) (p2 : Int) (p3 : Int) (p4 : Int) (a1 : Int) {r : qS}  (hq1 : qk u1 = 2) : ∀ (f : Nat) (S6 : qS) (x7 : Int), MX0_findValues_l18 n9 u1 p2 p3 p4 a1 f S6 x7 = some r → qZ g p l e rmX0_findValues s m args below meth c (qQ g below qkV (.inr 0) r args s rmX0_findValues) 8 S6 [(0, .ref (qad g 17)), (1, .ref (qad g u1)), (2, .int (qI p2)), (3, .int (qI p3)), (4, .int (qI p4)), (5, .int (qI a1)), (6, .int (qI x7))] 18 [] 0 0 := by
  intro f
  induction f with
  | zero => intro S6 x7 hm; rw [MX0_findValues_l18] at hm; cases hm
  | succ f ih =>
    intro S6 x7 hm
    rw [MX0_findValues_l18] at hm
    have hl := C.2.2.2.2.2.2.2.2
    have hA := C.2.2.2.2.2.2.1
    refine z_iload C dX0_findValues_18 6 rfl ?_
    refine z_iload_n C dX0_findValues_20 2 rfl ?_
    obtain ⟨h8, hm⟩ := qg_i hm
    obtain ⟨h9, hm⟩ := qg_i hm
    refine z_icmp_lt (tgt := 126) C dX0_findValues_21 (by decide) ⟨h8, h9⟩ (fun c10 => ?_) (fun c10 => ?_)
    · have hm := qt_i hm c10
      exact z_vret C hr (by decide) (by decide) (by cases hm; rfl) dX0_findValues_126
    · have hm := qf_i hm c10
      refine z_iload C dX0_findValues_24 6 rfl ?_
      refine z_if_lt (tgt := 126) C dX0_findValues_26 (by decide) h8 (fun c11 => ?_) (fun c11 => ?_)
      · have hm := qt_i hm c11
        exact z_vret C hr (by decide) (by decide) (by cases hm; rfl) dX0_findValues_126
      · have hm := qf_i hm c11
        refine z_iload C dX0_findValues_29 6 rfl ?_
        refine z_iconst (x := 1) C dX0_findValues_31 rfl ?_
        refine z_iadd C dX0_findValues_32 ?_
        refine z_iload_n C dX0_findValues_33 3 rfl ?_
        obtain ⟨h12, hm⟩ := qg_i hm
        obtain ⟨h13, hm⟩ := qg_i hm
        obtain ⟨j15, e34, hm⟩ := ql_i hm
        have hj15 : ∀ (v14 : Int), j15 v14 = some r → qZ g p l e rmX0_findValues s m args below meth c (qQ g below qkV (.inr 0) r args s rmX0_findValues) 8 S6 [(0, .ref (qad g 17)), (1, .ref (qad g u1)), (2, .int (qI p2)), (3, .int (qI p3)), (4, .int (qI p4)), (5, .int (qI a1)), (6, .int (qI x7))] 58 [.int (qI v14)] 0 0 := by
          intro v14 hm
          rw [e34] at hm
          refine z_istore (L' := [(7, .int (qI v14)), (0, .ref (qad g 17)), (1, .ref (qad g u1)), (2, .int (qI p2)), (3, .int (qI p3)), (4, .int (qI p4)), (5, .int (qI a1)), (6, .int (qI x7))]) C dX0_findValues_58 (by decide) rfl ?_
          refine z_aload_n C dX0_findValues_60 1 rfl ?_
          refine gf_X0_30 C rfl dX0_findValues_61 ?_
          refine z_iload C dX0_findValues_64 7 rfl ?_
          refine z_iload C dX0_findValues_66 0 rfl ?_
          obtain ⟨h16, hm⟩ := qg_i hm
          obtain ⟨j18, e28, hm⟩ := ql_i hm
          have hj18 : ∀ (v17 : Int), j18 v17 = some r → qZ g p l e rmX0_findValues s m args below meth c (qQ g below qkV (.inr 0) r args s rmX0_findValues) 8 S6 [(0, .ref (qad g 17)), (1, .ref (qad g u1)), (2, .int (qI p2)), (3, .int (qI p3)), (4, .int (qI p4)), (5, .int (qI a1)), (6, .int (qI x7))] 99 [.int (qI v17), .int (qI x7), .ref (qad g 24)] 0 0 := by
            intro v17 hm
            rw [e28] at hm
            obtain ⟨h19, hm⟩ := qg_i hm
            refine z_iast (N := 31) C rfl h19 (by decide) dX0_findValues_99 ?_
            obtain ⟨S20, e21, hm⟩ := ql_i hm
            refine z_S e21 ?_
            refine z_aload_n C dX0_findValues_100 0 rfl ?_
            refine z_aload_n C dX0_findValues_101 1 rfl ?_
            refine z_iload C dX0_findValues_102 6 rfl ?_
            refine z_iload_n C dX0_findValues_104 3 rfl ?_
            refine z_iload C dX0_findValues_105 6 rfl ?_
            refine z_iload_n C dX0_findValues_107 2 rfl ?_
            obtain ⟨j23, e26, hm⟩ := ql_i hm
            have hj23 : ∀ (v22 : Int), j23 v22 = some r → qZ g p l e rmX0_findValues s m args below meth c (qQ g below qkV (.inr 0) r args s rmX0_findValues) 8 S20 [(0, .ref (qad g 17)), (1, .ref (qad g u1)), (2, .int (qI p2)), (3, .int (qI p3)), (4, .int (qI p4)), (5, .int (qI a1)), (6, .int (qI x7))] 117 [.int (qI v22), .int (qI p3), .int (qI x7), .ref (qad g u1), .ref (qad g 17)] 0 0 := by
              intro v22 hm
              rw [e26] at hm
              obtain ⟨a24, h25, hm⟩ := qb_i hm
              refine iv_X0_94 C (met_X0_chooseCar l g hl hA n9 S20 u1 x7 p3 v22 _ h25) rfl ⟨by decide, by decide⟩ ⟨by decide, by decide⟩ (Nat.le_of_ble_eq_true rfl) dX0_findValues_117 ?_
              refine z_iinc (L' := [(6, .int (qI (x7 + (-1)))), (0, .ref (qad g 17)), (1, .ref (qad g u1)), (2, .int (qI p2)), (3, .int (qI p3)), (4, .int (qI p4)), (5, .int (qI a1))]) C dX0_findValues_120 6 rfl (by decide) rfl ?_
              refine z_goto (tgt := 18) C dX0_findValues_123 (by decide) ?_
              refine z_sub (L' := [(0, .ref (qad g 17)), (1, .ref (qad g u1)), (2, .int (qI p2)), (3, .int (qI p3)), (4, .int (qI p4)), (5, .int (qI a1)), (6, .int (qI (x7 + (-1))))]) [1, 2, 3, 4, 5, 6, 0] rfl ?_
              exact ih a24 (x7 + (-1)) hm
            clear e26
            refine z_icmp_ne (tgt := 115) C dX0_findValues_108 (by decide) ⟨h8, h9⟩ (fun c27 => ?_) (fun c27 => ?_)
            · have hm := qt_i hm c27
              refine z_iconst (x := 0) C dX0_findValues_111 rfl ?_
              refine z_goto (tgt := 117) C dX0_findValues_112 (by decide) ?_
              exact hj23 0 hm
            · have hm := qf_i hm c27
              refine z_iload C dX0_findValues_115 5 rfl ?_
              exact hj23 a1 hm
          clear e28
          refine z_if_eq (tgt := 97) C dX0_findValues_68 (by decide) h16 (fun c29 => ?_) (fun c29 => ?_)
          · have hm := qt_i hm c29
            refine z_ldc (x := 1000000000) C dX0_findValues_97 qct_X0_93 (by decide +kernel) ?_
            refine z_sub (L' := [(0, .ref (qad g 17)), (1, .ref (qad g u1)), (2, .int (qI p2)), (3, .int (qI p3)), (4, .int (qI p4)), (5, .int (qI a1)), (6, .int (qI x7))]) [1, 2, 3, 4, 5, 6, 7] rfl ?_
            exact hj18 1000000000 hm
          · have hm := qf_i hm c29
            refine z_bipush (x := 100) C dX0_findValues_71 (by decide +kernel) ?_
            refine z_aload_n C dX0_findValues_73 2 rfl ?_
            refine z_iload C dX0_findValues_74 7 rfl ?_
            obtain ⟨a30, h31, hm⟩ := qb_i hm
            refine iv_X0_90 C (met_X1_carCost l g hl hA n9 S6 u1 x7 _ h31) hq1 ⟨by decide, by decide⟩ ⟨by decide, by decide⟩ (Nat.le_of_ble_eq_true rfl) dX0_findValues_76 ?_
            refine z_imul C dX0_findValues_79 ?_
            refine z_iconst (x := 1) C dX0_findValues_80 rfl ?_
            refine z_isub C dX0_findValues_81 ?_
            refine z_aload_n C dX0_findValues_82 1 rfl ?_
            refine gf_X0_33 C rfl dX0_findValues_83 ?_
            refine z_iload C dX0_findValues_86 7 rfl ?_
            refine z_iconst (x := 2) C dX0_findValues_88 rfl ?_
            refine z_iadd C dX0_findValues_89 ?_
            obtain ⟨a32, h33, hm⟩ := qb_i hm
            refine iv_X0_60 C (met_X3_at l g hl hA n9 S6 25 (x7 + 2) _ h33) ⟨by decide, by decide⟩ ⟨by decide, by decide⟩ (Nat.le_of_ble_eq_true rfl) dX0_findValues_90 ?_
            refine z_iadd C dX0_findValues_93 ?_
            refine z_goto (tgt := 99) C dX0_findValues_94 (by decide) ?_
            refine z_sub (L' := [(0, .ref (qad g 17)), (1, .ref (qad g u1)), (2, .int (qI p2)), (3, .int (qI p3)), (4, .int (qI p4)), (5, .int (qI a1)), (6, .int (qI x7))]) [1, 2, 3, 4, 5, 6, 7] rfl ?_
            exact hj18 (((100 * a30) - 1) + a32) hm
        clear e34
        obtain ⟨j35, e36, hm⟩ := ql_i hm
        have hj35 : j35 = some r → qZ g p l e rmX0_findValues s m args below meth c (qQ g below qkV (.inr 0) r args s rmX0_findValues) 8 S6 [(0, .ref (qad g 17)), (1, .ref (qad g u1)), (2, .int (qI p2)), (3, .int (qI p3)), (4, .int (qI p4)), (5, .int (qI a1)), (6, .int (qI x7))] 57 [] 0 0 := by
          intro  hm
          rw [e36] at hm
          refine z_iconst (x := 0) C dX0_findValues_57 rfl ?_
          exact hj15 0 hm
        clear e36
        refine z_icmp_ge (tgt := 57) C dX0_findValues_34 (by decide) ⟨h12, h13⟩ (fun c37 => ?_) (fun c37 => ?_)
        · have hm := qt_i hm c37
          exact hj35  hm
        · have hm := qf_i hm c37
          refine z_iload C dX0_findValues_37 6 rfl ?_
          refine z_iload C dX0_findValues_39 4 rfl ?_
          obtain ⟨h38, hm⟩ := qg_i hm
          refine z_icmp_eq (tgt := 57) C dX0_findValues_41 (by decide) ⟨h8, h38⟩ (fun c39 => ?_) (fun c39 => ?_)
          · have hm := qt_i hm c39
            exact hj35  hm
          · have hm := qf_i hm c39
            refine z_iload C dX0_findValues_44 6 rfl ?_
            refine z_iconst (x := 1) C dX0_findValues_46 rfl ?_
            refine z_iadd C dX0_findValues_47 ?_
            refine z_iload C dX0_findValues_48 4 rfl ?_
            refine z_icmp_eq (tgt := 57) C dX0_findValues_50 (by decide) ⟨h12, h38⟩ (fun c40 => ?_) (fun c40 => ?_)
            · have hm := qt_i hm c40
              exact hj35  hm
            · have hm := qf_i hm c40
              refine z_iconst (x := 1) C dX0_findValues_53 rfl ?_
              refine z_goto (tgt := 58) C dX0_findValues_54 (by decide) ?_
              exact hj15 1 hm

set_option maxHeartbeats 4000000 in
set_option maxRecDepth 100000 in
theorem met_X0_findValues (l : Launch) (g : qG) (hl : l.stackTraces = false) (hA : qAd g) (n9 : Nat) (S : qS) (u1 : Nat) (p2 : Int) (p3 : Int) (p4 : Int) (r : qS) (hm : MX0_findValues n9 S u1 p2 p3 p4 = some r) : qM l g yX0_findValues (.code yX0_findValues cX0_findValues 8 none) rmX0_findValues qkV [.ref (qad g 17), .ref (qad g u1), .int (qI p2), .int (qI p3), .int (qI p4)] S (.inr 0) r := by
  rw [MX0_findValues] at hm
  obtain ⟨hq1, hm⟩ := qg_i hm
  refine qM_of (L := [(0, .ref (qad g 17)), (1, .ref (qad g u1)), (2, .int (qI p2)), (3, .int (qI p3)), (4, .int (qI p4))]) (by decide +kernel) rfl (Nat.le_of_ble_eq_true rfl) hl hA ?_
  intro p e s m below meth c C hr hT
  have C : qC g p l s m ([.ref (qad g 17), .ref (qad g u1), .int (qI p2), .int (qI p3), .int (qI p4)] : List Value).toArray meth c RX0 cX0_findValues 8 := C
  refine z_aload_n C dX0_findValues_0 1 rfl ?_
  refine gf_X0_81 C hq1 dX0_findValues_1 ?_
  refine z_iconst (x := 1) C dX0_findValues_4 rfl ?_
  obtain ⟨a1, h2, hm⟩ := qb_i hm
  refine iv_X0_60 C (met_X3_at l g hl hA n9 S (u1 + 4) 1 _ h2) ⟨by decide, by decide⟩ ⟨by decide, by decide⟩ (Nat.le_of_ble_eq_true rfl) dX0_findValues_5 ?_
  refine z_istore (L' := [(5, .int (qI a1)), (0, .ref (qad g 17)), (1, .ref (qad g u1)), (2, .int (qI p2)), (3, .int (qI p3)), (4, .int (qI p4))]) C dX0_findValues_8 (by decide) rfl ?_
  refine z_iload_n C dX0_findValues_10 4 rfl ?_
  refine z_bipush (x := 30) C dX0_findValues_11 (by decide +kernel) ?_
  obtain ⟨h3, hm⟩ := qg_i hm
  refine iv_X0_84 C ⟨by decide, Nat.le_of_ble_eq_true rfl⟩ ⟨by decide, by decide⟩ ⟨h3, (by decide)⟩ dX0_findValues_13 ?_
  obtain ⟨x4, e5, hm⟩ := ql_i hm
  refine z_topi e5 ?_
  refine z_istore (L' := [(6, .int (qI x4)), (5, .int (qI a1)), (0, .ref (qad g 17)), (1, .ref (qad g u1)), (2, .int (qI p2)), (3, .int (qI p3)), (4, .int (qI p4))]) C dX0_findValues_16 (by decide) rfl ?_
  refine z_sub (L' := [(0, .ref (qad g 17)), (1, .ref (qad g u1)), (2, .int (qI p2)), (3, .int (qI p3)), (4, .int (qI p4)), (5, .int (qI a1)), (6, .int (qI x4))]) [2, 3, 4, 5, 6, 1, 0] rfl ?_
  exact met_X0_findValues_l18 C hr hT n9 u1 p2 p3 p4 a1  hq1 n9 S x4 hm

set_option maxHeartbeats 4000000 in
set_option maxRecDepth 100000 in
theorem met_J9_floorDiv_7cf53 (l : Launch) (g : qG) (hl : l.stackTraces = false) (hA : qAd g) (n9 : Nat) (S : qS) (p0 : Int) (p1 : Int) (r : Int) (hm : MJ9_floorDiv_7cf53 n9 S p0 p1 = some r) : qM l g yJ9_floorDiv_7cf53 (.code yJ9_floorDiv_7cf53 cJ9_floorDiv_7cf53 3 (some .int)) rmJ9_floorDiv_7cf53 qkI [.int (qI p0), .int (qI p1)] S (.inr r) S := by
  rw [MJ9_floorDiv_7cf53] at hm
  refine qM_ofF (L := [(0, .int (qI p0)), (1, .int (qI p1))]) (by decide +kernel) rfl (Nat.le_of_ble_eq_true rfl) hl hA ?_
  intro p e s m below meth c C hr hT
  have C : qC g p l s m ([.int (qI p0), .int (qI p1)] : List Value).toArray meth c RJ9 cJ9_floorDiv_7cf53 3 := C
  refine z_iload_n C dJ9_floorDiv_7cf53_0 0 rfl ?_
  refine z_iload_n C dJ9_floorDiv_7cf53_1 1 rfl ?_
  obtain ⟨h1, hm⟩ := qg_i hm
  refine z_idiv C dJ9_floorDiv_7cf53_2 h1 ?_
  obtain ⟨x2, e3, hm⟩ := ql_i hm
  refine z_topi e3 ?_
  refine z_istore_n (L' := [(2, .int (qI x2)), (0, .int (qI p0)), (1, .int (qI p1))]) C dJ9_floorDiv_7cf53_3 (by decide) rfl ?_
  refine z_iload_n C dJ9_floorDiv_7cf53_4 1 rfl ?_
  refine z_iload_n C dJ9_floorDiv_7cf53_5 2 rfl ?_
  refine z_ixor C dJ9_floorDiv_7cf53_6 ?_
  obtain ⟨h4, hm⟩ := qg_i hm
  refine z_if_ge (tgt := 21) C dJ9_floorDiv_7cf53_7 (by decide) h4 (fun c5 => ?_) (fun c5 => ?_)
  · have hm := qt_i hm c5
    refine z_iload_n C dJ9_floorDiv_7cf53_21 0 rfl ?_
    exact z_iret C hr (by decide) (by decide) (by cases hm; rfl) dJ9_floorDiv_7cf53_22
  · have hm := qf_i hm c5
    refine z_iload_n C dJ9_floorDiv_7cf53_10 0 rfl ?_
    refine z_iload_n C dJ9_floorDiv_7cf53_11 2 rfl ?_
    refine z_imul C dJ9_floorDiv_7cf53_12 ?_
    refine z_iload_n C dJ9_floorDiv_7cf53_13 1 rfl ?_
    obtain ⟨h6, hm⟩ := qg_i hm
    obtain ⟨h7, hm⟩ := qg_i hm
    refine z_icmp_eq (tgt := 21) C dJ9_floorDiv_7cf53_14 (by decide) ⟨h6, h7⟩ (fun c8 => ?_) (fun c8 => ?_)
    · have hm := qt_i hm c8
      refine z_iload_n C dJ9_floorDiv_7cf53_21 0 rfl ?_
      exact z_iret C hr (by decide) (by decide) (by cases hm; rfl) dJ9_floorDiv_7cf53_22
    · have hm := qf_i hm c8
      refine z_iload_n C dJ9_floorDiv_7cf53_17 0 rfl ?_
      refine z_iconst (x := 1) C dJ9_floorDiv_7cf53_18 rfl ?_
      refine z_isub C dJ9_floorDiv_7cf53_19 ?_
      exact z_iret C hr (by decide) (by decide) (by cases hm; rfl) dJ9_floorDiv_7cf53_20

set_option maxHeartbeats 4000000 in
set_option maxRecDepth 100000 in
theorem met_X0_costOf (l : Launch) (g : qG) (hl : l.stackTraces = false) (hA : qAd g) (n9 : Nat) (S : qS) (p0 : Int) (r : Int) (hm : MX0_costOf n9 S p0 = some r) : qM l g yX0_costOf (.code yX0_costOf cX0_costOf 1 (some .int)) rmX0_costOf qkI [.int (qI p0)] S (.inr r) S := by
  rw [MX0_costOf] at hm
  refine qM_of (L := [(0, .int (qI p0))]) (by decide +kernel) rfl (Nat.le_of_ble_eq_true rfl) hl hA ?_
  intro p e s m below meth c C hr hT
  have C : qC g p l s m ([.int (qI p0)] : List Value).toArray meth c RX0 cX0_costOf 1 := C
  refine z_iload_n C dX0_costOf_0 0 rfl ?_
  refine z_bipush (x := 100) C dX0_costOf_1 (by decide +kernel) ?_
  refine z_iadd C dX0_costOf_3 ?_
  refine z_iconst (x := 1) C dX0_costOf_4 rfl ?_
  refine z_isub C dX0_costOf_5 ?_
  refine z_bipush (x := 100) C dX0_costOf_6 (by decide +kernel) ?_
  obtain ⟨a1, h2, hm⟩ := qb_i hm
  refine iv_X0_103 C (met_J9_floorDiv_7cf53 l g hl hA n9 S ((p0 + 100) - 1) 100 _ h2) ⟨by decide, by decide⟩ ⟨by decide, by decide⟩ (Nat.le_of_ble_eq_true rfl) dX0_costOf_8 ?_
  exact z_iret C hr (by decide) (by decide) (by cases hm; rfl) dX0_costOf_11

set_option maxHeartbeats 4000000 in
set_option maxRecDepth 100000 in
theorem met_X1_carWeight (l : Launch) (g : qG) (hl : l.stackTraces = false) (hA : qAd g) (n9 : Nat) (S : qS) (u0 : Nat) (p1 : Int) (r : Int) (hm : MX1_carWeight n9 S u0 p1 = some r) : qM l g yX1_carWeight (.code yX1_carWeight cX1_carWeight 2 (some .int)) rmX1_carWeight qkI [.ref (qad g u0), .int (qI p1)] S (.inr r) S := by
  rw [MX1_carWeight] at hm
  obtain ⟨hq0, hm⟩ := qg_i hm
  refine qM_of (L := [(0, .ref (qad g u0)), (1, .int (qI p1))]) (by decide +kernel) rfl (Nat.le_of_ble_eq_true rfl) hl hA ?_
  intro p e s m below meth c C hr hT
  have C : qC g p l s m ([.ref (qad g u0), .int (qI p1)] : List Value).toArray meth c RX1 cX1_carWeight 2 := C
  refine z_aload_n C dX1_carWeight_0 0 rfl ?_
  refine gf_X1_15 C hq0 dX1_carWeight_1 ?_
  refine z_iload_n C dX1_carWeight_4 1 rfl ?_
  obtain ⟨a1, h2, hm⟩ := qb_i hm
  refine iv_X1_31 C (met_X3_at l g hl hA n9 S (u0 + 2) p1 _ h2) ⟨by decide, by decide⟩ ⟨by decide, by decide⟩ (Nat.le_of_ble_eq_true rfl) dX1_carWeight_5 ?_
  refine z_aload_n C dX1_carWeight_8 0 rfl ?_
  refine gf_X1_15 C hq0 dX1_carWeight_9 ?_
  refine z_iload_n C dX1_carWeight_12 1 rfl ?_
  refine z_iconst (x := 1) C dX1_carWeight_13 rfl ?_
  refine z_iadd C dX1_carWeight_14 ?_
  obtain ⟨a3, h4, hm⟩ := qb_i hm
  refine iv_X1_31 C (met_X3_at l g hl hA n9 S (u0 + 2) (p1 + 1) _ h4) ⟨by decide, by decide⟩ ⟨by decide, by decide⟩ (Nat.le_of_ble_eq_true rfl) dX1_carWeight_15 ?_
  refine z_iadd C dX1_carWeight_18 ?_
  exact z_iret C hr (by decide) (by decide) (by cases hm; rfl) dX1_carWeight_19

set_option maxHeartbeats 4000000 in
set_option maxRecDepth 100000 in
theorem met_X0_takeCars_l9 {g : qG} {p : Program} {l : Launch} {e : Env} {s : State} {m : MethodId} {args : Array Value} {below : List Frame} {meth : Method} {c : Code} (C : qC g p l s m args meth c RX0 cX0_takeCars 4) (hr : meth.sig.returnType = none) (hT : ∀ x ∈ c.exceptionTable.toList, False) (n9 : Nat) (u1 : Nat) {r : qS} (k35 : qS → Option (qS)) (hq1 : qk u1 = 2) (hk35 : ∀ (y1 : qS), k35 y1 = some r → qZ g p l e rmX0_takeCars s m args below meth c (qQ g below qkV (.inr 0) r args s rmX0_takeCars) 4 y1 [] 35 [] 0 0) : ∀ (f : Nat) (S6 : qS) (x7 : Int), MX0_takeCars_l9 n9 u1 k35 f S6 x7 = some r → qZ g p l e rmX0_takeCars s m args below meth c (qQ g below qkV (.inr 0) r args s rmX0_takeCars) 4 S6 [(0, .ref (qad g 17)), (1, .ref (qad g u1)), (3, .int (qI x7))] 9 [] 0 0 := by
  intro f
  induction f with
  | zero => intro S6 x7 hm; rw [MX0_takeCars_l9] at hm; cases hm
  | succ f ih =>
    intro S6 x7 hm
    rw [MX0_takeCars_l9] at hm
    have hl := C.2.2.2.2.2.2.2.2
    have hA := C.2.2.2.2.2.2.1
    refine z_iload_n C dX0_takeCars_9 2 rfl ?_
    refine z_iconst (x := (-1)) C dX0_takeCars_10 rfl ?_
    obtain ⟨h8, hm⟩ := qg_i hm
    refine z_icmp_eq (tgt := 108) C dX0_takeCars_11 (by decide) ⟨h8, (by decide)⟩ (fun c9 => ?_) (fun c9 => ?_)
    · have hm := qt_i hm c9
      exact z_vret C hr (by decide) (by decide) (by cases hm; rfl) dX0_takeCars_108
    · have hm := qf_i hm c9
      refine z_aload_n C dX0_takeCars_14 0 rfl ?_
      refine gf_X0_43 C rfl dX0_takeCars_15 ?_
      refine z_bipush (x := 15) C dX0_takeCars_18 (by decide +kernel) ?_
      obtain ⟨h10, hm⟩ := qg_i hm
      refine z_icmp_ge (tgt := 108) C dX0_takeCars_20 (by decide) ⟨h10, (by decide)⟩ (fun c11 => ?_) (fun c11 => ?_)
      · have hm := qt_i hm c11
        exact z_vret C hr (by decide) (by decide) (by cases hm; rfl) dX0_takeCars_108
      · have hm := qf_i hm c11
        refine z_iload_n C dX0_takeCars_23 2 rfl ?_
        refine z_if_lt (tgt := 108) C dX0_takeCars_24 (by decide) h8 (fun c12 => ?_) (fun c12 => ?_)
        · have hm := qt_i hm c12
          exact z_vret C hr (by decide) (by decide) (by cases hm; rfl) dX0_takeCars_108
        · have hm := qf_i hm c12
          refine z_iload_n C dX0_takeCars_27 2 rfl ?_
          refine z_iconst (x := 1) C dX0_takeCars_28 rfl ?_
          refine z_iadd C dX0_takeCars_29 ?_
          refine z_bipush (x := 30) C dX0_takeCars_30 (by decide +kernel) ?_
          obtain ⟨h13, hm⟩ := qg_i hm
          refine z_icmp_lt (tgt := 38) C dX0_takeCars_32 (by decide) ⟨h13, (by decide)⟩ (fun c14 => ?_) (fun c14 => ?_)
          · have hm := qt_i hm c14
            refine z_aload_n C dX0_takeCars_38 0 rfl ?_
            refine gf_X0_27 C rfl dX0_takeCars_39 ?_
            refine z_aload_n C dX0_takeCars_42 0 rfl ?_
            refine gf_X0_43 C rfl dX0_takeCars_43 ?_
            refine z_iload_n C dX0_takeCars_46 2 rfl ?_
            obtain ⟨h15, hm⟩ := qg_i hm
            refine z_iast (N := 15) C rfl h15 (by decide) dX0_takeCars_47 ?_
            obtain ⟨S16, e17, hm⟩ := ql_i hm
            refine z_S e17 ?_
            refine z_aload_n C dX0_takeCars_48 0 rfl ?_
            refine gf_X0_24 C rfl dX0_takeCars_49 ?_
            refine z_iload_n C dX0_takeCars_52 2 rfl ?_
            refine z_aload_n C dX0_takeCars_53 0 rfl ?_
            refine gf_X0_43 C rfl dX0_takeCars_54 ?_
            obtain ⟨h18, hm⟩ := qg_i hm
            refine z_iast (N := 30) C rfl h18 (by decide) dX0_takeCars_57 ?_
            obtain ⟨S19, e20, hm⟩ := ql_i hm
            refine z_S e20 ?_
            refine z_aload_n C dX0_takeCars_58 0 rfl ?_
            refine gf_X0_24 C rfl dX0_takeCars_59 ?_
            refine z_iload_n C dX0_takeCars_62 2 rfl ?_
            refine z_iconst (x := 1) C dX0_takeCars_63 rfl ?_
            refine z_iadd C dX0_takeCars_64 ?_
            refine z_aload_n C dX0_takeCars_65 0 rfl ?_
            refine gf_X0_43 C rfl dX0_takeCars_66 ?_
            obtain ⟨h21, hm⟩ := qg_i hm
            refine z_iast (N := 30) C rfl h21 (by decide) dX0_takeCars_69 ?_
            obtain ⟨S22, e23, hm⟩ := ql_i hm
            refine z_S e23 ?_
            refine z_aload_n C dX0_takeCars_70 0 rfl ?_
            refine z_dup C dX0_takeCars_71 rfl ?_
            refine gf_X0_50 C rfl dX0_takeCars_72 ?_
            refine z_aload_n C dX0_takeCars_75 1 rfl ?_
            refine z_iload_n C dX0_takeCars_76 2 rfl ?_
            obtain ⟨a24, h25, hm⟩ := qb_i hm
            refine iv_X0_106 C (met_X1_carWeight l g hl hA n9 S22 u1 x7 _ h25) hq1 ⟨by decide, by decide⟩ ⟨by decide, by decide⟩ (Nat.le_of_ble_eq_true rfl) dX0_takeCars_77 ?_
            refine z_iadd C dX0_takeCars_80 ?_
            refine pf_X0_50 C rfl dX0_takeCars_81 ?_
            obtain ⟨S26, e27, hm⟩ := ql_i hm
            refine z_S e27 ?_
            refine z_aload_n C dX0_takeCars_84 0 rfl ?_
            refine z_dup C dX0_takeCars_85 rfl ?_
            refine gf_X0_43 C rfl dX0_takeCars_86 ?_
            refine z_iconst (x := 1) C dX0_takeCars_89 rfl ?_
            refine z_iadd C dX0_takeCars_90 ?_
            refine pf_X0_43 C rfl dX0_takeCars_91 ?_
            obtain ⟨S28, e29, hm⟩ := ql_i hm
            refine z_S e29 ?_
            refine z_aload_n C dX0_takeCars_94 0 rfl ?_
            refine gf_X0_36 C rfl dX0_takeCars_95 ?_
            refine z_iload_n C dX0_takeCars_98 2 rfl ?_
            refine z_iconst (x := 2) C dX0_takeCars_99 rfl ?_
            refine z_iadd C dX0_takeCars_100 ?_
            obtain ⟨a30, h31, hm⟩ := qb_i hm
            refine iv_X0_60 C (met_X3_at l g hl hA n9 S28 26 (x7 + 2) _ h31) ⟨by decide, by decide⟩ ⟨by decide, by decide⟩ (Nat.le_of_ble_eq_true rfl) dX0_takeCars_101 ?_
            refine z_istore_n (L' := [(3, .int (qI a30)), (0, .ref (qad g 17)), (1, .ref (qad g u1))]) C dX0_takeCars_104 (by decide) rfl ?_
            refine z_goto (tgt := 9) C dX0_takeCars_105 (by decide) ?_
            refine z_sub (L' := [(0, .ref (qad g 17)), (1, .ref (qad g u1)), (3, .int (qI a30))]) [1, 2, 0] rfl ?_
            exact ih S28 a30 hm
          · have hm := qf_i hm c14
            refine z_sub (L' := []) [] rfl ?_
            exact hk35 S6 hm

set_option maxHeartbeats 4000000 in
set_option maxRecDepth 100000 in
theorem met_X0_takeCars (l : Launch) (g : qG) (hl : l.stackTraces = false) (hA : qAd g) (n9 : Nat) (S : qS) (u1 : Nat) (p2 : Int) (r : qS) (hm : MX0_takeCars n9 S u1 p2 = some r) : qM l g yX0_takeCars (.code yX0_takeCars cX0_takeCars 4 none) rmX0_takeCars qkV [.ref (qad g 17), .ref (qad g u1), .int (qI p2)] S (.inr 0) r := by
  rw [MX0_takeCars] at hm
  obtain ⟨hq1, hm⟩ := qg_i hm
  refine qM_of (L := [(0, .ref (qad g 17)), (1, .ref (qad g u1)), (2, .int (qI p2))]) (by decide +kernel) rfl (Nat.le_of_ble_eq_true rfl) hl hA ?_
  intro p e s m below meth c C hr hT
  have C : qC g p l s m ([.ref (qad g 17), .ref (qad g u1), .int (qI p2)] : List Value).toArray meth c RX0 cX0_takeCars 4 := C
  refine z_aload_n C dX0_takeCars_0 0 rfl ?_
  refine gf_X0_36 C rfl dX0_takeCars_1 ?_
  refine z_iload_n C dX0_takeCars_4 2 rfl ?_
  obtain ⟨a1, h2, hm⟩ := qb_i hm
  refine iv_X0_60 C (met_X3_at l g hl hA n9 S 26 p2 _ h2) ⟨by decide, by decide⟩ ⟨by decide, by decide⟩ (Nat.le_of_ble_eq_true rfl) dX0_takeCars_5 ?_
  refine z_istore_n (L' := [(3, .int (qI a1)), (0, .ref (qad g 17)), (1, .ref (qad g u1)), (2, .int (qI p2))]) C dX0_takeCars_8 (by decide) rfl ?_
  obtain ⟨j4, e5, hm⟩ := ql_i hm
  have hj4 : ∀ (S3 : qS), j4 S3 = some r → qZ g p l e rmX0_takeCars s m ([.ref (qad g 17), .ref (qad g u1), .int (qI p2)] : List Value).toArray below meth c (qQ g below qkV (.inr 0) r ([.ref (qad g 17), .ref (qad g u1), .int (qI p2)] : List Value).toArray s rmX0_takeCars) 4 S3 [] 35 [] 0 0 := by
    intro S3 hm
    rw [e5] at hm
    refine z_goto (tgt := 108) C dX0_takeCars_35 (by decide) ?_
    exact z_vret C hr (by decide) (by decide) (by cases hm; rfl) dX0_takeCars_108
  clear e5
  refine z_sub (L' := [(0, .ref (qad g 17)), (1, .ref (qad g u1)), (3, .int (qI a1))]) [1, 2, 0] rfl ?_
  exact met_X0_takeCars_l9 C hr hT n9 u1 j4 hq1 hj4 n9 S a1 hm

set_option maxHeartbeats 4000000 in
set_option maxRecDepth 100000 in
theorem met_X0_workOut_l22 {g : qG} {p : Program} {l : Launch} {e : Env} {s : State} {m : MethodId} {args : Array Value} {below : List Frame} {meth : Method} {c : Code} (C : qC g p l s m args meth c RX0 cX0_workOut 4) (hr : meth.sig.returnType = none) (hT : ∀ x ∈ c.exceptionTable.toList, False) (n9 : Nat) (u1 : Nat) {r : qS}  (hq1 : qk u1 = 2) : ∀ (f : Nat) (S9 : qS) (x10 : Int), MX0_workOut_l22 n9 u1 f S9 x10 = some r → qZ g p l e rmX0_workOut s m args below meth c (qQ g below qkV (.inr 0) r args s rmX0_workOut) 4 S9 [(0, .ref (qad g 17)), (1, .ref (qad g u1)), (2, .int (qI x10))] 22 [] 0 0 := by
  intro f
  induction f with
  | zero => intro S9 x10 hm; rw [MX0_workOut_l22] at hm; cases hm
  | succ f ih =>
    intro S9 x10 hm
    rw [MX0_workOut_l22] at hm
    have hl := C.2.2.2.2.2.2.2.2
    have hA := C.2.2.2.2.2.2.1
    refine z_iload_n C dX0_workOut_22 2 rfl ?_
    refine z_aload_n C dX0_workOut_23 0 rfl ?_
    refine gf_X0_53 C rfl dX0_workOut_24 ?_
    obtain ⟨h11, hm⟩ := qg_i hm
    obtain ⟨h12, hm⟩ := qg_i hm
    refine z_icmp_ge (tgt := 114) C dX0_workOut_27 (by decide) ⟨h11, h12⟩ (fun c13 => ?_) (fun c13 => ?_)
    · have hm := qt_i hm c13
      exact z_vret C hr (by decide) (by decide) (by cases hm; rfl) dX0_workOut_114
    · have hm := qf_i hm c13
      refine z_iload_n C dX0_workOut_30 2 rfl ?_
      refine z_bipush (x := 30) C dX0_workOut_31 (by decide +kernel) ?_
      refine z_icmp_ge (tgt := 114) C dX0_workOut_33 (by decide) ⟨h11, (by decide)⟩ (fun c14 => ?_) (fun c14 => ?_)
      · have hm := qt_i hm c14
        exact z_vret C hr (by decide) (by decide) (by cases hm; rfl) dX0_workOut_114
      · have hm := qf_i hm c14
        refine z_aload_n C dX0_workOut_36 0 rfl ?_
        refine gf_X0_9 C rfl dX0_workOut_37 ?_
        refine z_iload_n C dX0_workOut_40 2 rfl ?_
        obtain ⟨h15, hm⟩ := qg_i hm
        refine z_iald (N := 31) C rfl h15 (by decide) dX0_workOut_41 ?_
        obtain ⟨x16, e17, hm⟩ := ql_i hm
        refine z_topi e17 ?_
        refine z_istore_n (L' := [(3, .int (qI x16)), (0, .ref (qad g 17)), (1, .ref (qad g u1)), (2, .int (qI x10))]) C dX0_workOut_42 (by decide) rfl ?_
        refine z_aload_n C dX0_workOut_43 1 rfl ?_
        refine z_aload_n C dX0_workOut_44 2 rfl ?_
        refine z_iload_n C dX0_workOut_45 0 rfl ?_
        refine z_aload_n C dX0_workOut_46 1 rfl ?_
        refine gf_X0_9 C rfl dX0_workOut_47 ?_
        refine z_iload_n C dX0_workOut_50 3 rfl ?_
        refine z_iconst (x := 1) C dX0_workOut_51 rfl ?_
        refine z_iadd C dX0_workOut_52 ?_
        obtain ⟨h18, hm⟩ := qg_i hm
        refine z_iald (N := 31) C rfl h18 (by decide) dX0_workOut_53 ?_
        refine z_iconst (x := (-1)) C dX0_workOut_54 rfl ?_
        obtain ⟨a19, h20, hm⟩ := qb_i hm
        refine iv_X0_56 C (met_X0_findValues l g hl hA n9 S9 u1 x16 (S9 18 (x10 + 1).toNat) (-1) _ h20) rfl ⟨by decide, by decide⟩ ⟨by decide, by decide⟩ (Nat.le_of_ble_eq_true rfl) dX0_workOut_55 ?_
        refine z_aload_n C dX0_workOut_58 1 rfl ?_
        refine gf_X0_18 C rfl dX0_workOut_59 ?_
        refine z_iload_n C dX0_workOut_62 3 rfl ?_
        refine z_aload_n C dX0_workOut_63 1 rfl ?_
        refine gf_X0_33 C rfl dX0_workOut_64 ?_
        refine z_iload_n C dX0_workOut_67 0 rfl ?_
        obtain ⟨a21, h22, hm⟩ := qb_i hm
        refine iv_X0_60 C (met_X3_at l g hl hA n9 a19 25 x16 _ h22) ⟨by decide, by decide⟩ ⟨by decide, by decide⟩ (Nat.le_of_ble_eq_true rfl) dX0_workOut_68 ?_
        obtain ⟨a23, h24, hm⟩ := qb_i hm
        refine iv_X0_64 C (met_X0_costOf l g hl hA n9 a19 a21 _ h24) ⟨by decide, by decide⟩ ⟨by decide, by decide⟩ (Nat.le_of_ble_eq_true rfl) dX0_workOut_71 ?_
        obtain ⟨h25, hm⟩ := qg_i hm
        refine z_iast (N := 30) C rfl h25 (by decide) dX0_workOut_74 ?_
        obtain ⟨S26, e27, hm⟩ := ql_i hm
        refine z_S e27 ?_
        refine z_aload_n C dX0_workOut_75 1 rfl ?_
        refine z_dup C dX0_workOut_76 rfl ?_
        refine gf_X0_47 C rfl dX0_workOut_77 ?_
        refine z_aload_n C dX0_workOut_80 1 rfl ?_
        refine gf_X0_18 C rfl dX0_workOut_81 ?_
        refine z_iload_n C dX0_workOut_84 3 rfl ?_
        obtain ⟨h28, hm⟩ := qg_i hm
        refine z_iald (N := 30) C rfl h28 (by decide) dX0_workOut_85 ?_
        refine z_iadd C dX0_workOut_86 ?_
        refine pf_X0_47 C rfl dX0_workOut_87 ?_
        obtain ⟨S29, e30, hm⟩ := ql_i hm
        refine z_S e30 ?_
        refine z_aload_n C dX0_workOut_90 1 rfl ?_
        refine z_aload_n C dX0_workOut_91 2 rfl ?_
        refine z_iload_n C dX0_workOut_92 0 rfl ?_
        obtain ⟨a31, h32, hm⟩ := qb_i hm
        refine iv_X0_68 C (met_X0_takeCars l g hl hA n9 S29 u1 x16 _ h32) rfl ⟨by decide, by decide⟩ ⟨by decide, by decide⟩ (Nat.le_of_ble_eq_true rfl) dX0_workOut_93 ?_
        refine z_aload_n C dX0_workOut_96 1 rfl ?_
        refine gf_X0_15 C rfl dX0_workOut_97 ?_
        refine z_iload_n C dX0_workOut_100 3 rfl ?_
        refine z_iconst (x := 1) C dX0_workOut_101 rfl ?_
        refine z_iadd C dX0_workOut_102 ?_
        refine z_aload_n C dX0_workOut_103 1 rfl ?_
        refine gf_X0_43 C rfl dX0_workOut_104 ?_
        obtain ⟨h33, hm⟩ := qg_i hm
        refine z_iast (N := 31) C rfl h33 (by decide) dX0_workOut_107 ?_
        obtain ⟨S34, e35, hm⟩ := ql_i hm
        refine z_S e35 ?_
        refine z_iinc (L' := [(2, .int (qI (x10 + 1))), (3, .int (qI x16)), (0, .ref (qad g 17)), (1, .ref (qad g u1))]) C dX0_workOut_108 3 rfl (by decide) rfl ?_
        refine z_goto (tgt := 22) C dX0_workOut_111 (by decide) ?_
        refine z_sub (L' := [(0, .ref (qad g 17)), (1, .ref (qad g u1)), (2, .int (qI (x10 + 1)))]) [2, 3, 0] rfl ?_
        exact ih S34 (x10 + 1) hm

set_option maxHeartbeats 4000000 in
set_option maxRecDepth 100000 in
theorem met_X0_workOut (l : Launch) (g : qG) (hl : l.stackTraces = false) (hA : qAd g) (n9 : Nat) (S : qS) (u1 : Nat) (r : qS) (hm : MX0_workOut n9 S u1 = some r) : qM l g yX0_workOut (.code yX0_workOut cX0_workOut 4 none) rmX0_workOut qkV [.ref (qad g 17), .ref (qad g u1)] S (.inr 0) r := by
  rw [MX0_workOut] at hm
  obtain ⟨hq1, hm⟩ := qg_i hm
  refine qM_of (L := [(0, .ref (qad g 17)), (1, .ref (qad g u1))]) (by decide +kernel) rfl (Nat.le_of_ble_eq_true rfl) hl hA ?_
  intro p e s m below meth c C hr hT
  have C : qC g p l s m ([.ref (qad g 17), .ref (qad g u1)] : List Value).toArray meth c RX0 cX0_workOut 4 := C
  refine z_aload_n C dX0_workOut_0 0 rfl ?_
  refine z_aload_n C dX0_workOut_1 1 rfl ?_
  obtain ⟨a1, h2, hm⟩ := qb_i hm
  refine iv_X0_39 C (met_X0_findTrains l g hl hA n9 S u1 _ h2) rfl ⟨by decide, by decide⟩ ⟨by decide, by decide⟩ (Nat.le_of_ble_eq_true rfl) dX0_workOut_2 ?_
  refine z_aload_n C dX0_workOut_5 0 rfl ?_
  refine z_iconst (x := 0) C dX0_workOut_6 rfl ?_
  refine pf_X0_43 C rfl dX0_workOut_7 ?_
  obtain ⟨S3, e4, hm⟩ := ql_i hm
  refine z_S e4 ?_
  refine z_aload_n C dX0_workOut_10 0 rfl ?_
  refine z_iconst (x := 0) C dX0_workOut_11 rfl ?_
  refine pf_X0_47 C rfl dX0_workOut_12 ?_
  obtain ⟨S5, e6, hm⟩ := ql_i hm
  refine z_S e6 ?_
  refine z_aload_n C dX0_workOut_15 0 rfl ?_
  refine z_iconst (x := 0) C dX0_workOut_16 rfl ?_
  refine pf_X0_50 C rfl dX0_workOut_17 ?_
  obtain ⟨S7, e8, hm⟩ := ql_i hm
  refine z_S e8 ?_
  refine z_iconst (x := 0) C dX0_workOut_20 rfl ?_
  refine z_istore_n (L' := [(2, .int (qI 0)), (0, .ref (qad g 17)), (1, .ref (qad g u1))]) C dX0_workOut_21 (by decide) rfl ?_
  refine z_sub (L' := [(0, .ref (qad g 17)), (1, .ref (qad g u1)), (2, .int (qI 0))]) [1, 2, 0] rfl ?_
  exact met_X0_workOut_l22 C hr hT n9 u1  hq1 n9 S7 0 hm

set_option maxHeartbeats 4000000 in
set_option maxRecDepth 100000 in
theorem met_X0_axlesOfTrain (l : Launch) (g : qG) (hl : l.stackTraces = false) (hA : qAd g) (n9 : Nat) (S : qS) (p1 : Int) (r : Int) (hm : MX0_axlesOfTrain n9 S p1 = some r) : qM l g yX0_axlesOfTrain (.code yX0_axlesOfTrain cX0_axlesOfTrain 2 (some .int)) rmX0_axlesOfTrain qkI [.ref (qad g 17), .int (qI p1)] S (.inr r) S := by
  rw [MX0_axlesOfTrain] at hm
  refine qM_of (L := [(0, .ref (qad g 17)), (1, .int (qI p1))]) (by decide +kernel) rfl (Nat.le_of_ble_eq_true rfl) hl hA ?_
  intro p e s m below meth c C hr hT
  have C : qC g p l s m ([.ref (qad g 17), .int (qI p1)] : List Value).toArray meth c RX0 cX0_axlesOfTrain 2 := C
  refine z_aload_n C dX0_axlesOfTrain_0 0 rfl ?_
  refine gf_X0_9 C rfl dX0_axlesOfTrain_1 ?_
  refine z_iload_n C dX0_axlesOfTrain_4 1 rfl ?_
  refine z_iconst (x := 1) C dX0_axlesOfTrain_5 rfl ?_
  refine z_iadd C dX0_axlesOfTrain_6 ?_
  obtain ⟨a1, h2, hm⟩ := qb_i hm
  refine iv_X0_60 C (met_X3_at l g hl hA n9 S 18 (p1 + 1) _ h2) ⟨by decide, by decide⟩ ⟨by decide, by decide⟩ (Nat.le_of_ble_eq_true rfl) dX0_axlesOfTrain_7 ?_
  refine z_aload_n C dX0_axlesOfTrain_10 0 rfl ?_
  refine gf_X0_9 C rfl dX0_axlesOfTrain_11 ?_
  refine z_iload_n C dX0_axlesOfTrain_14 1 rfl ?_
  obtain ⟨a3, h4, hm⟩ := qb_i hm
  refine iv_X0_60 C (met_X3_at l g hl hA n9 S 18 p1 _ h4) ⟨by decide, by decide⟩ ⟨by decide, by decide⟩ (Nat.le_of_ble_eq_true rfl) dX0_axlesOfTrain_15 ?_
  refine z_isub C dX0_axlesOfTrain_18 ?_
  exact z_iret C hr (by decide) (by decide) (by cases hm; rfl) dX0_axlesOfTrain_19

set_option maxHeartbeats 4000000 in
set_option maxRecDepth 100000 in
theorem met_X0_carsOfTrain (l : Launch) (g : qG) (hl : l.stackTraces = false) (hA : qAd g) (n9 : Nat) (S : qS) (p1 : Int) (r : Int) (hm : MX0_carsOfTrain n9 S p1 = some r) : qM l g yX0_carsOfTrain (.code yX0_carsOfTrain cX0_carsOfTrain 2 (some .int)) rmX0_carsOfTrain qkI [.ref (qad g 17), .int (qI p1)] S (.inr r) S := by
  rw [MX0_carsOfTrain] at hm
  refine qM_of (L := [(0, .ref (qad g 17)), (1, .int (qI p1))]) (by decide +kernel) rfl (Nat.le_of_ble_eq_true rfl) hl hA ?_
  intro p e s m below meth c C hr hT
  have C : qC g p l s m ([.ref (qad g 17), .int (qI p1)] : List Value).toArray meth c RX0 cX0_carsOfTrain 2 := C
  refine z_aload_n C dX0_carsOfTrain_0 0 rfl ?_
  refine gf_X0_15 C rfl dX0_carsOfTrain_1 ?_
  refine z_iload_n C dX0_carsOfTrain_4 1 rfl ?_
  refine z_iconst (x := 1) C dX0_carsOfTrain_5 rfl ?_
  refine z_iadd C dX0_carsOfTrain_6 ?_
  obtain ⟨a1, h2, hm⟩ := qb_i hm
  refine iv_X0_60 C (met_X3_at l g hl hA n9 S 19 (p1 + 1) _ h2) ⟨by decide, by decide⟩ ⟨by decide, by decide⟩ (Nat.le_of_ble_eq_true rfl) dX0_carsOfTrain_7 ?_
  refine z_aload_n C dX0_carsOfTrain_10 0 rfl ?_
  refine gf_X0_15 C rfl dX0_carsOfTrain_11 ?_
  refine z_iload_n C dX0_carsOfTrain_14 1 rfl ?_
  obtain ⟨a3, h4, hm⟩ := qb_i hm
  refine iv_X0_60 C (met_X3_at l g hl hA n9 S 19 p1 _ h4) ⟨by decide, by decide⟩ ⟨by decide, by decide⟩ (Nat.le_of_ble_eq_true rfl) dX0_carsOfTrain_15 ?_
  refine z_isub C dX0_carsOfTrain_18 ?_
  exact z_iret C hr (by decide) (by decide) (by cases hm; rfl) dX0_carsOfTrain_19

set_option maxHeartbeats 4000000 in
set_option maxRecDepth 100000 in
theorem met_X0_weightOfTrain_l12 {g : qG} {p : Program} {l : Launch} {e : Env} {s : State} {m : MethodId} {args : Array Value} {below : List Frame} {meth : Method} {c : Code} (C : qC g p l s m args meth c RX0 cX0_weightOfTrain 5) (hr : meth.sig.returnType = (some .int)) (hT : ∀ x ∈ c.exceptionTable.toList, False) (n9 : Nat) (S : qS) (u1 : Nat) (p2 : Int) {r : Int}  (hq1 : qk u1 = 2) : ∀ (f : Nat) (x3 : Int) (x4 : Int), MX0_weightOfTrain_l12 n9 S u1 p2 f x3 x4 = some r → qZ g p l e rmX0_weightOfTrain s m args below meth c (qQ g below qkI (.inr r) S args s rmX0_weightOfTrain) 5 S [(0, .ref (qad g 17)), (1, .ref (qad g u1)), (2, .int (qI p2)), (3, .int (qI x3)), (4, .int (qI x4))] 12 [] 0 0 := by
  intro f
  induction f with
  | zero => intro x3 x4 hm; rw [MX0_weightOfTrain_l12] at hm; cases hm
  | succ f ih =>
    intro x3 x4 hm
    rw [MX0_weightOfTrain_l12] at hm
    have hl := C.2.2.2.2.2.2.2.2
    have hA := C.2.2.2.2.2.2.1
    refine z_iload C dX0_weightOfTrain_12 4 rfl ?_
    refine z_aload_n C dX0_weightOfTrain_14 0 rfl ?_
    refine gf_X0_15 C rfl dX0_weightOfTrain_15 ?_
    refine z_iload_n C dX0_weightOfTrain_18 2 rfl ?_
    refine z_iconst (x := 1) C dX0_weightOfTrain_19 rfl ?_
    refine z_iadd C dX0_weightOfTrain_20 ?_
    obtain ⟨a5, h6, hm⟩ := qb_i hm
    refine iv_X0_60 C (met_X3_at l g hl hA n9 S 19 (p2 + 1) _ h6) ⟨by decide, by decide⟩ ⟨by decide, by decide⟩ (Nat.le_of_ble_eq_true rfl) dX0_weightOfTrain_21 ?_
    obtain ⟨h7, hm⟩ := qg_i hm
    obtain ⟨h8, hm⟩ := qg_i hm
    refine z_icmp_ge (tgt := 49) C dX0_weightOfTrain_24 (by decide) ⟨h7, h8⟩ (fun c9 => ?_) (fun c9 => ?_)
    · have hm := qt_i hm c9
      refine z_iload_n C dX0_weightOfTrain_49 3 rfl ?_
      exact z_iret C hr (by decide) (by decide) (by cases hm; rfl) dX0_weightOfTrain_50
    · have hm := qf_i hm c9
      refine z_iload_n C dX0_weightOfTrain_27 3 rfl ?_
      refine z_aload_n C dX0_weightOfTrain_28 1 rfl ?_
      refine z_aload_n C dX0_weightOfTrain_29 0 rfl ?_
      refine gf_X0_27 C rfl dX0_weightOfTrain_30 ?_
      refine z_iload C dX0_weightOfTrain_33 4 rfl ?_
      obtain ⟨a10, h11, hm⟩ := qb_i hm
      refine iv_X0_60 C (met_X3_at l g hl hA n9 S 23 x4 _ h11) ⟨by decide, by decide⟩ ⟨by decide, by decide⟩ (Nat.le_of_ble_eq_true rfl) dX0_weightOfTrain_35 ?_
      obtain ⟨a12, h13, hm⟩ := qb_i hm
      refine iv_X0_106 C (met_X1_carWeight l g hl hA n9 S u1 a10 _ h13) hq1 ⟨by decide, by decide⟩ ⟨by decide, by decide⟩ (Nat.le_of_ble_eq_true rfl) dX0_weightOfTrain_38 ?_
      refine z_iadd C dX0_weightOfTrain_41 ?_
      obtain ⟨x14, e15, hm⟩ := ql_i hm
      refine z_topi e15 ?_
      refine z_istore_n (L' := [(3, .int (qI x14)), (0, .ref (qad g 17)), (1, .ref (qad g u1)), (2, .int (qI p2)), (4, .int (qI x4))]) C dX0_weightOfTrain_42 (by decide) rfl ?_
      refine z_iinc (L' := [(4, .int (qI (x4 + 1))), (3, .int (qI x14)), (0, .ref (qad g 17)), (1, .ref (qad g u1)), (2, .int (qI p2))]) C dX0_weightOfTrain_43 4 rfl (by decide) rfl ?_
      refine z_goto (tgt := 12) C dX0_weightOfTrain_46 (by decide) ?_
      refine z_sub (L' := [(0, .ref (qad g 17)), (1, .ref (qad g u1)), (2, .int (qI p2)), (3, .int (qI x14)), (4, .int (qI (x4 + 1)))]) [2, 3, 4, 1, 0] rfl ?_
      exact ih x14 (x4 + 1) hm

set_option maxHeartbeats 4000000 in
set_option maxRecDepth 100000 in
theorem met_X0_weightOfTrain (l : Launch) (g : qG) (hl : l.stackTraces = false) (hA : qAd g) (n9 : Nat) (S : qS) (u1 : Nat) (p2 : Int) (r : Int) (hm : MX0_weightOfTrain n9 S u1 p2 = some r) : qM l g yX0_weightOfTrain (.code yX0_weightOfTrain cX0_weightOfTrain 5 (some .int)) rmX0_weightOfTrain qkI [.ref (qad g 17), .ref (qad g u1), .int (qI p2)] S (.inr r) S := by
  rw [MX0_weightOfTrain] at hm
  obtain ⟨hq1, hm⟩ := qg_i hm
  refine qM_of (L := [(0, .ref (qad g 17)), (1, .ref (qad g u1)), (2, .int (qI p2))]) (by decide +kernel) rfl (Nat.le_of_ble_eq_true rfl) hl hA ?_
  intro p e s m below meth c C hr hT
  have C : qC g p l s m ([.ref (qad g 17), .ref (qad g u1), .int (qI p2)] : List Value).toArray meth c RX0 cX0_weightOfTrain 5 := C
  refine z_iconst (x := 0) C dX0_weightOfTrain_0 rfl ?_
  refine z_istore_n (L' := [(3, .int (qI 0)), (0, .ref (qad g 17)), (1, .ref (qad g u1)), (2, .int (qI p2))]) C dX0_weightOfTrain_1 (by decide) rfl ?_
  refine z_aload_n C dX0_weightOfTrain_2 1 rfl ?_
  refine gf_X0_15 C rfl dX0_weightOfTrain_3 ?_
  refine z_iload_n C dX0_weightOfTrain_6 3 rfl ?_
  obtain ⟨a1, h2, hm⟩ := qb_i hm
  refine iv_X0_60 C (met_X3_at l g hl hA n9 S 19 p2 _ h2) ⟨by decide, by decide⟩ ⟨by decide, by decide⟩ (Nat.le_of_ble_eq_true rfl) dX0_weightOfTrain_7 ?_
  refine z_istore (L' := [(4, .int (qI a1)), (3, .int (qI 0)), (0, .ref (qad g 17)), (1, .ref (qad g u1)), (2, .int (qI p2))]) C dX0_weightOfTrain_10 (by decide) rfl ?_
  refine z_sub (L' := [(0, .ref (qad g 17)), (1, .ref (qad g u1)), (2, .int (qI p2)), (3, .int (qI 0)), (4, .int (qI a1))]) [2, 3, 4, 1, 0] rfl ?_
  exact met_X0_weightOfTrain_l12 C hr hT n9 S u1 p2  hq1 n9 0 a1 hm

set_option maxHeartbeats 4000000 in
set_option maxRecDepth 100000 in
theorem met_X0_greatestWeight_l12 {g : qG} {p : Program} {l : Launch} {e : Env} {s : State} {m : MethodId} {args : Array Value} {below : List Frame} {meth : Method} {c : Code} (C : qC g p l s m args meth c RX0 cX0_greatestWeight 5) (hr : meth.sig.returnType = (some .int)) (hT : ∀ x ∈ c.exceptionTable.toList, False) (n9 : Nat) (S : qS) (u1 : Nat) (p2 : Int) {r : Int}  (hq1 : qk u1 = 2) : ∀ (f : Nat) (x3 : Int) (x4 : Int), MX0_greatestWeight_l12 n9 S u1 p2 f x3 x4 = some r → qZ g p l e rmX0_greatestWeight s m args below meth c (qQ g below qkI (.inr r) S args s rmX0_greatestWeight) 5 S [(0, .ref (qad g 17)), (1, .ref (qad g u1)), (2, .int (qI p2)), (3, .int (qI x3)), (4, .int (qI x4))] 12 [] 0 0 := by
  intro f
  induction f with
  | zero => intro x3 x4 hm; rw [MX0_greatestWeight_l12] at hm; cases hm
  | succ f ih =>
    intro x3 x4 hm
    rw [MX0_greatestWeight_l12] at hm
    have hl := C.2.2.2.2.2.2.2.2
    have hA := C.2.2.2.2.2.2.1
    refine z_iload C dX0_greatestWeight_12 4 rfl ?_
    refine z_aload_n C dX0_greatestWeight_14 0 rfl ?_
    refine gf_X0_15 C rfl dX0_greatestWeight_15 ?_
    refine z_iload_n C dX0_greatestWeight_18 2 rfl ?_
    refine z_iconst (x := 1) C dX0_greatestWeight_19 rfl ?_
    refine z_iadd C dX0_greatestWeight_20 ?_
    obtain ⟨a5, h6, hm⟩ := qb_i hm
    refine iv_X0_60 C (met_X3_at l g hl hA n9 S 19 (p2 + 1) _ h6) ⟨by decide, by decide⟩ ⟨by decide, by decide⟩ (Nat.le_of_ble_eq_true rfl) dX0_greatestWeight_21 ?_
    obtain ⟨h7, hm⟩ := qg_i hm
    obtain ⟨h8, hm⟩ := qg_i hm
    refine z_icmp_ge (tgt := 51) C dX0_greatestWeight_24 (by decide) ⟨h7, h8⟩ (fun c9 => ?_) (fun c9 => ?_)
    · have hm := qt_i hm c9
      refine z_iload_n C dX0_greatestWeight_51 3 rfl ?_
      exact z_iret C hr (by decide) (by decide) (by cases hm; rfl) dX0_greatestWeight_52
    · have hm := qf_i hm c9
      refine z_iload_n C dX0_greatestWeight_27 3 rfl ?_
      refine z_aload_n C dX0_greatestWeight_28 1 rfl ?_
      refine z_aload_n C dX0_greatestWeight_29 0 rfl ?_
      refine gf_X0_27 C rfl dX0_greatestWeight_30 ?_
      refine z_iload C dX0_greatestWeight_33 4 rfl ?_
      obtain ⟨a10, h11, hm⟩ := qb_i hm
      refine iv_X0_60 C (met_X3_at l g hl hA n9 S 23 x4 _ h11) ⟨by decide, by decide⟩ ⟨by decide, by decide⟩ (Nat.le_of_ble_eq_true rfl) dX0_greatestWeight_35 ?_
      obtain ⟨a12, h13, hm⟩ := qb_i hm
      refine iv_X0_106 C (met_X1_carWeight l g hl hA n9 S u1 a10 _ h13) hq1 ⟨by decide, by decide⟩ ⟨by decide, by decide⟩ (Nat.le_of_ble_eq_true rfl) dX0_greatestWeight_38 ?_
      obtain ⟨h14, hm⟩ := qg_i hm
      obtain ⟨h15, hm⟩ := qg_i hm
      refine iv_X0_100 C ⟨by decide, Nat.le_of_ble_eq_true rfl⟩ ⟨by decide, by decide⟩ ⟨h14, h15⟩ dX0_greatestWeight_41 ?_
      obtain ⟨x16, e17, hm⟩ := ql_i hm
      refine z_topi e17 ?_
      refine z_istore_n (L' := [(3, .int (qI x16)), (0, .ref (qad g 17)), (1, .ref (qad g u1)), (2, .int (qI p2)), (4, .int (qI x4))]) C dX0_greatestWeight_44 (by decide) rfl ?_
      refine z_iinc (L' := [(4, .int (qI (x4 + 1))), (3, .int (qI x16)), (0, .ref (qad g 17)), (1, .ref (qad g u1)), (2, .int (qI p2))]) C dX0_greatestWeight_45 4 rfl (by decide) rfl ?_
      refine z_goto (tgt := 12) C dX0_greatestWeight_48 (by decide) ?_
      refine z_sub (L' := [(0, .ref (qad g 17)), (1, .ref (qad g u1)), (2, .int (qI p2)), (3, .int (qI x16)), (4, .int (qI (x4 + 1)))]) [2, 3, 4, 1, 0] rfl ?_
      exact ih x16 (x4 + 1) hm

set_option maxHeartbeats 4000000 in
set_option maxRecDepth 100000 in
theorem met_X0_greatestWeight (l : Launch) (g : qG) (hl : l.stackTraces = false) (hA : qAd g) (n9 : Nat) (S : qS) (u1 : Nat) (p2 : Int) (r : Int) (hm : MX0_greatestWeight n9 S u1 p2 = some r) : qM l g yX0_greatestWeight (.code yX0_greatestWeight cX0_greatestWeight 5 (some .int)) rmX0_greatestWeight qkI [.ref (qad g 17), .ref (qad g u1), .int (qI p2)] S (.inr r) S := by
  rw [MX0_greatestWeight] at hm
  obtain ⟨hq1, hm⟩ := qg_i hm
  refine qM_of (L := [(0, .ref (qad g 17)), (1, .ref (qad g u1)), (2, .int (qI p2))]) (by decide +kernel) rfl (Nat.le_of_ble_eq_true rfl) hl hA ?_
  intro p e s m below meth c C hr hT
  have C : qC g p l s m ([.ref (qad g 17), .ref (qad g u1), .int (qI p2)] : List Value).toArray meth c RX0 cX0_greatestWeight 5 := C
  refine z_iconst (x := (-1)) C dX0_greatestWeight_0 rfl ?_
  refine z_istore_n (L' := [(3, .int (qI (-1))), (0, .ref (qad g 17)), (1, .ref (qad g u1)), (2, .int (qI p2))]) C dX0_greatestWeight_1 (by decide) rfl ?_
  refine z_aload_n C dX0_greatestWeight_2 1 rfl ?_
  refine gf_X0_15 C rfl dX0_greatestWeight_3 ?_
  refine z_iload_n C dX0_greatestWeight_6 3 rfl ?_
  obtain ⟨a1, h2, hm⟩ := qb_i hm
  refine iv_X0_60 C (met_X3_at l g hl hA n9 S 19 p2 _ h2) ⟨by decide, by decide⟩ ⟨by decide, by decide⟩ (Nat.le_of_ble_eq_true rfl) dX0_greatestWeight_7 ?_
  refine z_istore (L' := [(4, .int (qI a1)), (3, .int (qI (-1))), (0, .ref (qad g 17)), (1, .ref (qad g u1)), (2, .int (qI p2))]) C dX0_greatestWeight_10 (by decide) rfl ?_
  refine z_sub (L' := [(0, .ref (qad g 17)), (1, .ref (qad g u1)), (2, .int (qI p2)), (3, .int (qI (-1))), (4, .int (qI a1))]) [2, 3, 4, 1, 0] rfl ?_
  exact met_X0_greatestWeight_l12 C hr hT n9 S u1 p2  hq1 n9 (-1) a1 hm

set_option maxHeartbeats 4000000 in
set_option maxRecDepth 100000 in
theorem met_X1_carSpeed (l : Launch) (g : qG) (hl : l.stackTraces = false) (hA : qAd g) (n9 : Nat) (S : qS) (u0 : Nat) (p1 : Int) (r : Int) (hm : MX1_carSpeed n9 S u0 p1 = some r) : qM l g yX1_carSpeed (.code yX1_carSpeed cX1_carSpeed 3 (some .int)) rmX1_carSpeed qkI [.ref (qad g u0), .int (qI p1)] S (.inr r) S := by
  rw [MX1_carSpeed] at hm
  obtain ⟨hq0, hm⟩ := qg_i hm
  refine qM_of (L := [(0, .ref (qad g u0)), (1, .int (qI p1))]) (by decide +kernel) rfl (Nat.le_of_ble_eq_true rfl) hl hA ?_
  intro p e s m below meth c C hr hT
  have C : qC g p l s m ([.ref (qad g u0), .int (qI p1)] : List Value).toArray meth c RX1 cX1_carSpeed 3 := C
  refine z_aload_n C dX1_carSpeed_0 0 rfl ?_
  refine gf_X1_9 C hq0 dX1_carSpeed_1 ?_
  refine z_iload_n C dX1_carSpeed_4 1 rfl ?_
  refine z_iconst (x := 1) C dX1_carSpeed_5 rfl ?_
  refine z_iadd C dX1_carSpeed_6 ?_
  obtain ⟨a1, h2, hm⟩ := qb_i hm
  refine iv_X1_31 C (met_X3_at l g hl hA n9 S (u0 + 1) (p1 + 1) _ h2) ⟨by decide, by decide⟩ ⟨by decide, by decide⟩ (Nat.le_of_ble_eq_true rfl) dX1_carSpeed_7 ?_
  refine z_istore_n (L' := [(2, .int (qI a1)), (0, .ref (qad g u0)), (1, .int (qI p1))]) C dX1_carSpeed_10 (by decide) rfl ?_
  refine z_iload_n C dX1_carSpeed_11 0 rfl ?_
  obtain ⟨h3, hm⟩ := qg_i hm
  refine z_if_le (tgt := 23) C dX1_carSpeed_12 (by decide) h3 (fun c4 => ?_) (fun c4 => ?_)
  · have hm := qt_i hm c4
    refine z_iconst (x := 0) C dX1_carSpeed_23 rfl ?_
    exact z_iret C hr (by decide) (by decide) (by cases hm; rfl) dX1_carSpeed_24
  · have hm := qf_i hm c4
    refine z_sipush (x := 600) C dX1_carSpeed_15 (by decide +kernel) ?_
    refine z_iload_n C dX1_carSpeed_18 0 rfl ?_
    obtain ⟨h5, hm⟩ := qg_i hm
    refine z_idiv C dX1_carSpeed_19 h5 ?_
    refine z_goto (tgt := 24) C dX1_carSpeed_20 (by decide) ?_
    exact z_iret C hr (by decide) (by decide) (by cases hm; rfl) dX1_carSpeed_24

set_option maxHeartbeats 4000000 in
set_option maxRecDepth 100000 in
theorem met_X0_speedDifference_l27 {g : qG} {p : Program} {l : Launch} {e : Env} {s : State} {m : MethodId} {args : Array Value} {below : List Frame} {meth : Method} {c : Code} (C : qC g p l s m args meth c RX0 cX0_speedDifference 7) (hr : meth.sig.returnType = (some .int)) (hT : ∀ x ∈ c.exceptionTable.toList, False) (n9 : Nat) (S : qS) (u1 : Nat) (p2 : Int) {r : Int} (k79 : Int → Int → Option (Int)) (hq1 : qk u1 = 2) (hk79 : ∀ (y1 : Int) (y2 : Int), k79 y1 y2 = some r → qZ g p l e rmX0_speedDifference s m args below meth c (qQ g below qkI (.inr r) S args s rmX0_speedDifference) 7 S [(3, .int (qI y1)), (4, .int (qI y2))] 79 [] 0 0) : ∀ (f : Nat) (x11 : Int) (x12 : Int) (x13 : Int), MX0_speedDifference_l27 n9 S u1 p2 k79 f x11 x12 x13 = some r → qZ g p l e rmX0_speedDifference s m args below meth c (qQ g below qkI (.inr r) S args s rmX0_speedDifference) 7 S [(0, .ref (qad g 17)), (1, .ref (qad g u1)), (2, .int (qI p2)), (3, .int (qI x11)), (4, .int (qI x12)), (5, .int (qI x13))] 27 [] 0 0 := by
  intro f
  induction f with
  | zero => intro x11 x12 x13 hm; rw [MX0_speedDifference_l27] at hm; cases hm
  | succ f ih =>
    intro x11 x12 x13 hm
    rw [MX0_speedDifference_l27] at hm
    have hl := C.2.2.2.2.2.2.2.2
    have hA := C.2.2.2.2.2.2.1
    refine z_iload C dX0_speedDifference_27 5 rfl ?_
    refine z_aload_n C dX0_speedDifference_29 0 rfl ?_
    refine gf_X0_15 C rfl dX0_speedDifference_30 ?_
    refine z_iload_n C dX0_speedDifference_33 2 rfl ?_
    refine z_iconst (x := 1) C dX0_speedDifference_34 rfl ?_
    refine z_iadd C dX0_speedDifference_35 ?_
    obtain ⟨a14, h15, hm⟩ := qb_i hm
    refine iv_X0_60 C (met_X3_at l g hl hA n9 S 19 (p2 + 1) _ h15) ⟨by decide, by decide⟩ ⟨by decide, by decide⟩ (Nat.le_of_ble_eq_true rfl) dX0_speedDifference_36 ?_
    obtain ⟨h16, hm⟩ := qg_i hm
    obtain ⟨h17, hm⟩ := qg_i hm
    refine z_icmp_ge (tgt := 79) C dX0_speedDifference_39 (by decide) ⟨h16, h17⟩ (fun c18 => ?_) (fun c18 => ?_)
    · have hm := qt_i hm c18
      refine z_sub (L' := [(3, .int (qI x11)), (4, .int (qI x12))]) [3, 4] rfl ?_
      exact hk79 x11 x12 hm
    · have hm := qf_i hm c18
      refine z_aload_n C dX0_speedDifference_42 1 rfl ?_
      refine z_aload_n C dX0_speedDifference_43 0 rfl ?_
      refine gf_X0_27 C rfl dX0_speedDifference_44 ?_
      refine z_iload C dX0_speedDifference_47 5 rfl ?_
      obtain ⟨a19, h20, hm⟩ := qb_i hm
      refine iv_X0_60 C (met_X3_at l g hl hA n9 S 23 x13 _ h20) ⟨by decide, by decide⟩ ⟨by decide, by decide⟩ (Nat.le_of_ble_eq_true rfl) dX0_speedDifference_49 ?_
      obtain ⟨a21, h22, hm⟩ := qb_i hm
      refine iv_X0_112 C (met_X1_carSpeed l g hl hA n9 S u1 a19 _ h22) hq1 ⟨by decide, by decide⟩ ⟨by decide, by decide⟩ (Nat.le_of_ble_eq_true rfl) dX0_speedDifference_52 ?_
      refine z_istore (L' := [(6, .int (qI a21)), (0, .ref (qad g 17)), (1, .ref (qad g u1)), (2, .int (qI p2)), (3, .int (qI x11)), (4, .int (qI x12)), (5, .int (qI x13))]) C dX0_speedDifference_55 (by decide) rfl ?_
      refine z_iload_n C dX0_speedDifference_57 4 rfl ?_
      refine z_iload C dX0_speedDifference_58 0 rfl ?_
      obtain ⟨h23, hm⟩ := qg_i hm
      obtain ⟨h24, hm⟩ := qg_i hm
      refine iv_X0_84 C ⟨by decide, Nat.le_of_ble_eq_true rfl⟩ ⟨by decide, by decide⟩ ⟨h23, h24⟩ dX0_speedDifference_60 ?_
      obtain ⟨x25, e26, hm⟩ := ql_i hm
      refine z_topi e26 ?_
      refine z_istore_n (L' := [(3, .int (qI x25)), (6, .int (qI a21)), (0, .ref (qad g 17)), (1, .ref (qad g u1)), (2, .int (qI p2)), (4, .int (qI x12)), (5, .int (qI x13))]) C dX0_speedDifference_63 (by decide) rfl ?_
      refine z_iload C dX0_speedDifference_64 5 rfl ?_
      refine z_iload C dX0_speedDifference_66 1 rfl ?_
      obtain ⟨h27, hm⟩ := qg_i hm
      refine iv_X0_100 C ⟨by decide, Nat.le_of_ble_eq_true rfl⟩ ⟨by decide, by decide⟩ ⟨h27, h24⟩ dX0_speedDifference_68 ?_
      obtain ⟨x28, e29, hm⟩ := ql_i hm
      refine z_topi e29 ?_
      refine z_istore (L' := [(4, .int (qI x28)), (3, .int (qI x25)), (6, .int (qI a21)), (0, .ref (qad g 17)), (1, .ref (qad g u1)), (2, .int (qI p2)), (5, .int (qI x13))]) C dX0_speedDifference_71 (by decide) rfl ?_
      refine z_iinc (L' := [(5, .int (qI (x13 + 1))), (4, .int (qI x28)), (3, .int (qI x25)), (6, .int (qI a21)), (0, .ref (qad g 17)), (1, .ref (qad g u1)), (2, .int (qI p2))]) C dX0_speedDifference_73 6 rfl (by decide) rfl ?_
      refine z_goto (tgt := 27) C dX0_speedDifference_76 (by decide) ?_
      refine z_sub (L' := [(0, .ref (qad g 17)), (1, .ref (qad g u1)), (2, .int (qI p2)), (3, .int (qI x25)), (4, .int (qI x28)), (5, .int (qI (x13 + 1)))]) [4, 5, 6, 2, 1, 0] rfl ?_
      exact ih x25 x28 (x13 + 1) hm

set_option maxHeartbeats 4000000 in
set_option maxRecDepth 100000 in
theorem met_X0_speedDifference (l : Launch) (g : qG) (hl : l.stackTraces = false) (hA : qAd g) (n9 : Nat) (S : qS) (u1 : Nat) (p2 : Int) (r : Int) (hm : MX0_speedDifference n9 S u1 p2 = some r) : qM l g yX0_speedDifference (.code yX0_speedDifference cX0_speedDifference 7 (some .int)) rmX0_speedDifference qkI [.ref (qad g 17), .ref (qad g u1), .int (qI p2)] S (.inr r) S := by
  rw [MX0_speedDifference] at hm
  obtain ⟨hq1, hm⟩ := qg_i hm
  refine qM_of (L := [(0, .ref (qad g 17)), (1, .ref (qad g u1)), (2, .int (qI p2))]) (by decide +kernel) rfl (Nat.le_of_ble_eq_true rfl) hl hA ?_
  intro p e s m below meth c C hr hT
  have C : qC g p l s m ([.ref (qad g 17), .ref (qad g u1), .int (qI p2)] : List Value).toArray meth c RX0 cX0_speedDifference 7 := C
  refine z_aload_n C dX0_speedDifference_0 0 rfl ?_
  refine z_iload_n C dX0_speedDifference_1 2 rfl ?_
  obtain ⟨a1, h2, hm⟩ := qb_i hm
  refine iv_X0_109 C (met_X0_carsOfTrain l g hl hA n9 S p2 _ h2) rfl ⟨by decide, by decide⟩ ⟨by decide, by decide⟩ (Nat.le_of_ble_eq_true rfl) dX0_speedDifference_2 ?_
  obtain ⟨h3, hm⟩ := qg_i hm
  refine z_if_ne (tgt := 10) C dX0_speedDifference_5 (by decide) h3 (fun c4 => ?_) (fun c4 => ?_)
  · have hm := qt_i hm c4
    refine z_iconst (x := (-1)) C dX0_speedDifference_8 rfl ?_
    exact z_iret C hr (by decide) (by decide) (by cases hm; rfl) dX0_speedDifference_9
  · have hm := qf_i hm c4
    refine z_sipush (x := 600) C dX0_speedDifference_10 (by decide +kernel) ?_
    refine z_istore_n (L' := [(3, .int (qI 600)), (0, .ref (qad g 17)), (1, .ref (qad g u1)), (2, .int (qI p2))]) C dX0_speedDifference_13 (by decide) rfl ?_
    refine z_iconst (x := 0) C dX0_speedDifference_14 rfl ?_
    refine z_istore (L' := [(4, .int (qI 0)), (3, .int (qI 600)), (0, .ref (qad g 17)), (1, .ref (qad g u1)), (2, .int (qI p2))]) C dX0_speedDifference_15 (by decide) rfl ?_
    refine z_aload_n C dX0_speedDifference_17 2 rfl ?_
    refine gf_X0_15 C rfl dX0_speedDifference_18 ?_
    refine z_iload_n C dX0_speedDifference_21 4 rfl ?_
    obtain ⟨a5, h6, hm⟩ := qb_i hm
    refine iv_X0_60 C (met_X3_at l g hl hA n9 S 19 p2 _ h6) ⟨by decide, by decide⟩ ⟨by decide, by decide⟩ (Nat.le_of_ble_eq_true rfl) dX0_speedDifference_22 ?_
    refine z_istore (L' := [(5, .int (qI a5)), (4, .int (qI 0)), (3, .int (qI 600)), (0, .ref (qad g 17)), (1, .ref (qad g u1)), (2, .int (qI p2))]) C dX0_speedDifference_25 (by decide) rfl ?_
    obtain ⟨j9, e10, hm⟩ := ql_i hm
    have hj9 : ∀ (x7 : Int) (x8 : Int), j9 x7 x8 = some r → qZ g p l e rmX0_speedDifference s m ([.ref (qad g 17), .ref (qad g u1), .int (qI p2)] : List Value).toArray below meth c (qQ g below qkI (.inr r) S ([.ref (qad g 17), .ref (qad g u1), .int (qI p2)] : List Value).toArray s rmX0_speedDifference) 7 S [(3, .int (qI x7)), (4, .int (qI x8))] 79 [] 0 0 := by
      intro x7 x8 hm
      rw [e10] at hm
      refine z_iload C dX0_speedDifference_79 1 rfl ?_
      refine z_iload_n C dX0_speedDifference_81 0 rfl ?_
      refine z_isub C dX0_speedDifference_82 ?_
      exact z_iret C hr (by decide) (by decide) (by cases hm; rfl) dX0_speedDifference_83
    clear e10
    refine z_sub (L' := [(0, .ref (qad g 17)), (1, .ref (qad g u1)), (2, .int (qI p2)), (3, .int (qI 600)), (4, .int (qI 0)), (5, .int (qI a5))]) [3, 4, 5, 2, 1, 0] rfl ?_
    exact met_X0_speedDifference_l27 C hr hT n9 S u1 p2 j9 hq1 hj9 n9 600 0 a5 hm

set_option maxHeartbeats 4000000 in
set_option maxRecDepth 100000 in
theorem met_X0_ticksBeforeCar_l47 {g : qG} {p : Program} {l : Launch} {e : Env} {s : State} {m : MethodId} {args : Array Value} {below : List Frame} {meth : Method} {c : Code} (C : qC g p l s m args meth c RX0 cX0_ticksBeforeCar 6) (hr : meth.sig.returnType = (some .int)) (hT : ∀ x ∈ c.exceptionTable.toList, False) (n9 : Nat) (S : qS) (u1 : Nat) (a1 : Int) {r : Int}  (hq1 : qk u1 = 2) : ∀ (f : Nat) (x14 : Int) (x15 : Int), MX0_ticksBeforeCar_l47 n9 S u1 a1 f x14 x15 = some r → qZ g p l e rmX0_ticksBeforeCar s m args below meth c (qQ g below qkI (.inr r) S args s rmX0_ticksBeforeCar) 6 S [(1, .ref (qad g u1)), (3, .int (qI a1)), (4, .int (qI x14)), (5, .int (qI x15))] 47 [] 0 0 := by
  intro f
  induction f with
  | zero => intro x14 x15 hm; rw [MX0_ticksBeforeCar_l47] at hm; cases hm
  | succ f ih =>
    intro x14 x15 hm
    rw [MX0_ticksBeforeCar_l47] at hm
    have hl := C.2.2.2.2.2.2.2.2
    have hA := C.2.2.2.2.2.2.1
    refine z_iload C dX0_ticksBeforeCar_47 3 rfl ?_
    refine z_iload_n C dX0_ticksBeforeCar_49 1 rfl ?_
    obtain ⟨h16, hm⟩ := qg_i hm
    obtain ⟨h17, hm⟩ := qg_i hm
    refine z_icmp_gt (tgt := 73) C dX0_ticksBeforeCar_50 (by decide) ⟨h16, h17⟩ (fun c18 => ?_) (fun c18 => ?_)
    · have hm := qt_i hm c18
      refine z_iload C dX0_ticksBeforeCar_73 2 rfl ?_
      exact z_iret C hr (by decide) (by decide) (by cases hm; rfl) dX0_ticksBeforeCar_75
    · have hm := qf_i hm c18
      refine z_iload C dX0_ticksBeforeCar_53 2 rfl ?_
      refine z_aload_n C dX0_ticksBeforeCar_55 0 rfl ?_
      refine gf_X0_97 C hq1 dX0_ticksBeforeCar_56 ?_
      refine z_iload C dX0_ticksBeforeCar_59 3 rfl ?_
      obtain ⟨a19, h20, hm⟩ := qb_i hm
      refine iv_X0_60 C (met_X3_at l g hl hA n9 S (u1 + 1) x15 _ h20) ⟨by decide, by decide⟩ ⟨by decide, by decide⟩ (Nat.le_of_ble_eq_true rfl) dX0_ticksBeforeCar_61 ?_
      refine z_iadd C dX0_ticksBeforeCar_64 ?_
      obtain ⟨x21, e22, hm⟩ := ql_i hm
      refine z_topi e22 ?_
      refine z_istore (L' := [(4, .int (qI x21)), (1, .ref (qad g u1)), (3, .int (qI a1)), (5, .int (qI x15))]) C dX0_ticksBeforeCar_65 (by decide) rfl ?_
      refine z_iinc (L' := [(5, .int (qI (x15 + 1))), (4, .int (qI x21)), (1, .ref (qad g u1)), (3, .int (qI a1))]) C dX0_ticksBeforeCar_67 3 rfl (by decide) rfl ?_
      refine z_goto (tgt := 47) C dX0_ticksBeforeCar_70 (by decide) ?_
      refine z_sub (L' := [(1, .ref (qad g u1)), (3, .int (qI a1)), (4, .int (qI x21)), (5, .int (qI (x15 + 1)))]) [2, 3, 1, 0] rfl ?_
      exact ih x21 (x15 + 1) hm

set_option maxHeartbeats 4000000 in
set_option maxRecDepth 100000 in
theorem met_X0_ticksBeforeCar (l : Launch) (g : qG) (hl : l.stackTraces = false) (hA : qAd g) (n9 : Nat) (S : qS) (u1 : Nat) (p2 : Int) (r : Int) (hm : MX0_ticksBeforeCar n9 S u1 p2 = some r) : qM l g yX0_ticksBeforeCar (.code yX0_ticksBeforeCar cX0_ticksBeforeCar 6 (some .int)) rmX0_ticksBeforeCar qkI [.ref (qad g 17), .ref (qad g u1), .int (qI p2)] S (.inr r) S := by
  rw [MX0_ticksBeforeCar] at hm
  obtain ⟨hq1, hm⟩ := qg_i hm
  refine qM_of (L := [(0, .ref (qad g 17)), (1, .ref (qad g u1)), (2, .int (qI p2))]) (by decide +kernel) rfl (Nat.le_of_ble_eq_true rfl) hl hA ?_
  intro p e s m below meth c C hr hT
  have C : qC g p l s m ([.ref (qad g 17), .ref (qad g u1), .int (qI p2)] : List Value).toArray meth c RX0 cX0_ticksBeforeCar 6 := C
  refine z_aload_n C dX0_ticksBeforeCar_0 0 rfl ?_
  refine gf_X0_27 C rfl dX0_ticksBeforeCar_1 ?_
  refine z_iload_n C dX0_ticksBeforeCar_4 2 rfl ?_
  obtain ⟨a1, h2, hm⟩ := qb_i hm
  refine iv_X0_60 C (met_X3_at l g hl hA n9 S 23 p2 _ h2) ⟨by decide, by decide⟩ ⟨by decide, by decide⟩ (Nat.le_of_ble_eq_true rfl) dX0_ticksBeforeCar_5 ?_
  refine z_istore_n (L' := [(3, .int (qI a1)), (0, .ref (qad g 17)), (1, .ref (qad g u1)), (2, .int (qI p2))]) C dX0_ticksBeforeCar_8 (by decide) rfl ?_
  refine z_iload_n C dX0_ticksBeforeCar_9 3 rfl ?_
  refine z_aload_n C dX0_ticksBeforeCar_10 1 rfl ?_
  refine gf_X0_15 C rfl dX0_ticksBeforeCar_11 ?_
  refine z_aload_n C dX0_ticksBeforeCar_14 1 rfl ?_
  refine gf_X0_21 C rfl dX0_ticksBeforeCar_15 ?_
  refine z_iload_n C dX0_ticksBeforeCar_18 0 rfl ?_
  obtain ⟨a3, h4, hm⟩ := qb_i hm
  refine iv_X0_60 C (met_X3_at l g hl hA n9 S 21 a1 _ h4) ⟨by decide, by decide⟩ ⟨by decide, by decide⟩ (Nat.le_of_ble_eq_true rfl) dX0_ticksBeforeCar_19 ?_
  obtain ⟨a5, h6, hm⟩ := qb_i hm
  refine iv_X0_60 C (met_X3_at l g hl hA n9 S 19 a3 _ h6) ⟨by decide, by decide⟩ ⟨by decide, by decide⟩ (Nat.le_of_ble_eq_true rfl) dX0_ticksBeforeCar_22 ?_
  obtain ⟨h7, hm⟩ := qg_i hm
  obtain ⟨h8, hm⟩ := qg_i hm
  refine z_icmp_ne (tgt := 30) C dX0_ticksBeforeCar_25 (by decide) ⟨h7, h8⟩ (fun c9 => ?_) (fun c9 => ?_)
  · have hm := qt_i hm c9
    refine z_iconst (x := (-1)) C dX0_ticksBeforeCar_28 rfl ?_
    exact z_iret C hr (by decide) (by decide) (by cases hm; rfl) dX0_ticksBeforeCar_29
  · have hm := qf_i hm c9
    refine z_iconst (x := 0) C dX0_ticksBeforeCar_30 rfl ?_
    refine z_istore (L' := [(4, .int (qI 0)), (3, .int (qI a1)), (0, .ref (qad g 17)), (1, .ref (qad g u1)), (2, .int (qI p2))]) C dX0_ticksBeforeCar_31 (by decide) rfl ?_
    refine z_aload_n C dX0_ticksBeforeCar_33 2 rfl ?_
    refine gf_X0_27 C rfl dX0_ticksBeforeCar_34 ?_
    refine z_iload_n C dX0_ticksBeforeCar_37 4 rfl ?_
    refine z_iconst (x := 1) C dX0_ticksBeforeCar_38 rfl ?_
    refine z_isub C dX0_ticksBeforeCar_39 ?_
    obtain ⟨a10, h11, hm⟩ := qb_i hm
    refine iv_X0_60 C (met_X3_at l g hl hA n9 S 23 (p2 - 1) _ h11) ⟨by decide, by decide⟩ ⟨by decide, by decide⟩ (Nat.le_of_ble_eq_true rfl) dX0_ticksBeforeCar_40 ?_
    refine z_iconst (x := 2) C dX0_ticksBeforeCar_43 rfl ?_
    refine z_iadd C dX0_ticksBeforeCar_44 ?_
    obtain ⟨x12, e13, hm⟩ := ql_i hm
    refine z_topi e13 ?_
    refine z_istore (L' := [(5, .int (qI x12)), (4, .int (qI 0)), (3, .int (qI a1)), (0, .ref (qad g 17)), (1, .ref (qad g u1)), (2, .int (qI p2))]) C dX0_ticksBeforeCar_45 (by decide) rfl ?_
    refine z_sub (L' := [(1, .ref (qad g u1)), (3, .int (qI a1)), (4, .int (qI 0)), (5, .int (qI x12))]) [4, 2, 1, 0] rfl ?_
    exact met_X0_ticksBeforeCar_l47 C hr hT n9 S u1 a1  hq1 n9 0 x12 hm

set_option maxHeartbeats 4000000 in
set_option maxRecDepth 100000 in
theorem met_X0_costWithStray (l : Launch) (g : qG) (hl : l.stackTraces = false) (hA : qAd g) (n9 : Nat) (S : qS) (u1 : Nat) (p2 : Int) (p3 : Int) (r : Int × qS) (hm : MX0_costWithStray n9 S u1 p2 p3 = some r) : qM l g yX0_costWithStray (.code yX0_costWithStray cX0_costWithStray 5 (some .int)) rmX0_costWithStray qkI [.ref (qad g 17), .ref (qad g u1), .int (qI p2), .int (qI p3)] S (.inr r.1) r.2 := by
  rw [MX0_costWithStray] at hm
  obtain ⟨hq1, hm⟩ := qg_i hm
  refine qM_of (L := [(0, .ref (qad g 17)), (1, .ref (qad g u1)), (2, .int (qI p2)), (3, .int (qI p3))]) (by decide +kernel) rfl (Nat.le_of_ble_eq_true rfl) hl hA ?_
  intro p e s m below meth c C hr hT
  have C : qC g p l s m ([.ref (qad g 17), .ref (qad g u1), .int (qI p2), .int (qI p3)] : List Value).toArray meth c RX0 cX0_costWithStray 5 := C
  refine z_aload_n C dX0_costWithStray_0 0 rfl ?_
  refine gf_X0_9 C rfl dX0_costWithStray_1 ?_
  refine z_iload_n C dX0_costWithStray_4 2 rfl ?_
  obtain ⟨a1, h2, hm⟩ := qb_i hm
  refine iv_X0_60 C (met_X3_at l g hl hA n9 S 18 p2 _ h2) ⟨by decide, by decide⟩ ⟨by decide, by decide⟩ (Nat.le_of_ble_eq_true rfl) dX0_costWithStray_5 ?_
  refine z_istore (L' := [(4, .int (qI a1)), (0, .ref (qad g 17)), (1, .ref (qad g u1)), (2, .int (qI p2)), (3, .int (qI p3))]) C dX0_costWithStray_8 (by decide) rfl ?_
  refine z_aload_n C dX0_costWithStray_10 1 rfl ?_
  refine z_aload_n C dX0_costWithStray_11 2 rfl ?_
  refine z_iload C dX0_costWithStray_12 0 rfl ?_
  refine z_aload_n C dX0_costWithStray_14 1 rfl ?_
  refine gf_X0_9 C rfl dX0_costWithStray_15 ?_
  refine z_iload_n C dX0_costWithStray_18 3 rfl ?_
  refine z_iconst (x := 1) C dX0_costWithStray_19 rfl ?_
  refine z_iadd C dX0_costWithStray_20 ?_
  obtain ⟨a3, h4, hm⟩ := qb_i hm
  refine iv_X0_60 C (met_X3_at l g hl hA n9 S 18 (p2 + 1) _ h4) ⟨by decide, by decide⟩ ⟨by decide, by decide⟩ (Nat.le_of_ble_eq_true rfl) dX0_costWithStray_21 ?_
  refine z_iload_n C dX0_costWithStray_24 4 rfl ?_
  obtain ⟨a5, h6, hm⟩ := qb_i hm
  refine iv_X0_56 C (met_X0_findValues l g hl hA n9 S u1 a1 a3 p3 _ h6) rfl ⟨by decide, by decide⟩ ⟨by decide, by decide⟩ (Nat.le_of_ble_eq_true rfl) dX0_costWithStray_25 ?_
  refine z_aload_n C dX0_costWithStray_28 1 rfl ?_
  refine gf_X0_33 C rfl dX0_costWithStray_29 ?_
  refine z_iload C dX0_costWithStray_32 0 rfl ?_
  obtain ⟨a7, h8, hm⟩ := qb_i hm
  refine iv_X0_60 C (met_X3_at l g hl hA n9 a5 25 a1 _ h8) ⟨by decide, by decide⟩ ⟨by decide, by decide⟩ (Nat.le_of_ble_eq_true rfl) dX0_costWithStray_34 ?_
  obtain ⟨a9, h10, hm⟩ := qb_i hm
  refine iv_X0_64 C (met_X0_costOf l g hl hA n9 a5 a7 _ h10) ⟨by decide, by decide⟩ ⟨by decide, by decide⟩ (Nat.le_of_ble_eq_true rfl) dX0_costWithStray_37 ?_
  exact z_iret C hr (by decide) (by decide) (by cases hm; rfl) dX0_costWithStray_40

set_option maxHeartbeats 4000000 in
set_option maxRecDepth 100000 in
theorem met_X1_has (l : Launch) (g : qG) (hl : l.stackTraces = false) (hA : qAd g) (n9 : Nat) (S : qS) (u0 : Nat) (p1 : Int) (r : Int) (hm : MX1_has n9 S u0 p1 = some r) : qM l g yX1_has (.code yX1_has cX1_has 2 (some .boolean)) rmX1_has qkI [.ref (qad g u0), .int (qI p1)] S (.inr r) S := by
  rw [MX1_has] at hm
  obtain ⟨hq0, hm⟩ := qg_i hm
  refine qM_of (L := [(0, .ref (qad g u0)), (1, .int (qI p1))]) (by decide +kernel) rfl (Nat.le_of_ble_eq_true rfl) hl hA ?_
  intro p e s m below meth c C hr hT
  have C : qC g p l s m ([.ref (qad g u0), .int (qI p1)] : List Value).toArray meth c RX1 cX1_has 2 := C
  refine z_iload_n C dX1_has_0 1 rfl ?_
  obtain ⟨h1, hm⟩ := qg_i hm
  refine z_if_lt (tgt := 16) C dX1_has_1 (by decide) h1 (fun c2 => ?_) (fun c2 => ?_)
  · have hm := qt_i hm c2
    refine z_iconst (x := 0) C dX1_has_16 rfl ?_
    exact z_zret C hr (by decide) (by decide) (by decide) (by cases hm; rfl) dX1_has_17
  · have hm := qf_i hm c2
    refine z_iload_n C dX1_has_4 1 rfl ?_
    refine z_aload_n C dX1_has_5 0 rfl ?_
    refine gf_X1_27 C hq0 dX1_has_6 ?_
    obtain ⟨h3, hm⟩ := qg_i hm
    refine z_icmp_ge (tgt := 16) C dX1_has_9 (by decide) ⟨h1, h3⟩ (fun c4 => ?_) (fun c4 => ?_)
    · have hm := qt_i hm c4
      refine z_iconst (x := 0) C dX1_has_16 rfl ?_
      exact z_zret C hr (by decide) (by decide) (by decide) (by cases hm; rfl) dX1_has_17
    · have hm := qf_i hm c4
      refine z_iconst (x := 1) C dX1_has_12 rfl ?_
      refine z_goto (tgt := 17) C dX1_has_13 (by decide) ?_
      exact z_zret C hr (by decide) (by decide) (by decide) (by cases hm; rfl) dX1_has_17

set_option maxHeartbeats 4000000 in
set_option maxRecDepth 100000 in
theorem met_X3_isPause (l : Launch) (g : qG) (hl : l.stackTraces = false) (hA : qAd g) (n9 : Nat) (S : qS) (p0 : Int) (r : Int) (hm : MX3_isPause n9 S p0 = some r) : qM l g yX3_isPause (.code yX3_isPause cX3_isPause 1 (some .boolean)) rmX3_isPause qkI [.int (qI p0)] S (.inr r) S := by
  rw [MX3_isPause] at hm
  refine qM_of (L := [(0, .int (qI p0))]) (by decide +kernel) rfl (Nat.le_of_ble_eq_true rfl) hl hA ?_
  intro p e s m below meth c C hr hT
  have C : qC g p l s m ([.int (qI p0)] : List Value).toArray meth c RX3 cX3_isPause 1 := C
  refine z_iload_n C dX3_isPause_0 0 rfl ?_
  refine z_iconst (x := 1) C dX3_isPause_1 rfl ?_
  obtain ⟨h1, hm⟩ := qg_i hm
  refine z_icmp_lt (tgt := 15) C dX3_isPause_2 (by decide) ⟨h1, (by decide)⟩ (fun c2 => ?_) (fun c2 => ?_)
  · have hm := qt_i hm c2
    refine z_iconst (x := 0) C dX3_isPause_15 rfl ?_
    exact z_zret C hr (by decide) (by decide) (by decide) (by cases hm; rfl) dX3_isPause_16
  · have hm := qf_i hm c2
    refine z_iload_n C dX3_isPause_5 0 rfl ?_
    refine z_bipush (x := 60) C dX3_isPause_6 (by decide +kernel) ?_
    refine z_icmp_gt (tgt := 15) C dX3_isPause_8 (by decide) ⟨h1, (by decide)⟩ (fun c3 => ?_) (fun c3 => ?_)
    · have hm := qt_i hm c3
      refine z_iconst (x := 0) C dX3_isPause_15 rfl ?_
      exact z_zret C hr (by decide) (by decide) (by decide) (by cases hm; rfl) dX3_isPause_16
    · have hm := qf_i hm c3
      refine z_iconst (x := 1) C dX3_isPause_11 rfl ?_
      refine z_goto (tgt := 16) C dX3_isPause_12 (by decide) ?_
      exact z_zret C hr (by decide) (by decide) (by decide) (by cases hm; rfl) dX3_isPause_16

set_option maxHeartbeats 4000000 in
set_option maxRecDepth 100000 in
theorem met_X3_isWeight (l : Launch) (g : qG) (hl : l.stackTraces = false) (hA : qAd g) (n9 : Nat) (S : qS) (p0 : Int) (r : Int) (hm : MX3_isWeight n9 S p0 = some r) : qM l g yX3_isWeight (.code yX3_isWeight cX3_isWeight 1 (some .boolean)) rmX3_isWeight qkI [.int (qI p0)] S (.inr r) S := by
  rw [MX3_isWeight] at hm
  refine qM_of (L := [(0, .int (qI p0))]) (by decide +kernel) rfl (Nat.le_of_ble_eq_true rfl) hl hA ?_
  intro p e s m below meth c C hr hT
  have C : qC g p l s m ([.int (qI p0)] : List Value).toArray meth c RX3 cX3_isWeight 1 := C
  refine z_iload_n C dX3_isWeight_0 0 rfl ?_
  refine z_iconst (x := 1) C dX3_isWeight_1 rfl ?_
  obtain ⟨h1, hm⟩ := qg_i hm
  refine z_icmp_lt (tgt := 15) C dX3_isWeight_2 (by decide) ⟨h1, (by decide)⟩ (fun c2 => ?_) (fun c2 => ?_)
  · have hm := qt_i hm c2
    refine z_iconst (x := 0) C dX3_isWeight_15 rfl ?_
    exact z_zret C hr (by decide) (by decide) (by decide) (by cases hm; rfl) dX3_isWeight_16
  · have hm := qf_i hm c2
    refine z_iload_n C dX3_isWeight_5 0 rfl ?_
    refine z_bipush (x := 99) C dX3_isWeight_6 (by decide +kernel) ?_
    refine z_icmp_gt (tgt := 15) C dX3_isWeight_8 (by decide) ⟨h1, (by decide)⟩ (fun c3 => ?_) (fun c3 => ?_)
    · have hm := qt_i hm c3
      refine z_iconst (x := 0) C dX3_isWeight_15 rfl ?_
      exact z_zret C hr (by decide) (by decide) (by decide) (by cases hm; rfl) dX3_isWeight_16
    · have hm := qf_i hm c3
      refine z_iconst (x := 1) C dX3_isWeight_11 rfl ?_
      refine z_goto (tgt := 16) C dX3_isWeight_12 (by decide) ?_
      exact z_zret C hr (by decide) (by decide) (by decide) (by cases hm; rfl) dX3_isWeight_16

set_option maxHeartbeats 4000000 in
set_option maxRecDepth 100000 in
theorem met_X1_addAxle (l : Launch) (g : qG) (hl : l.stackTraces = false) (hA : qAd g) (n9 : Nat) (S : qS) (u0 : Nat) (p1 : Int) (p2 : Int) (r : Int × qS) (hm : MX1_addAxle n9 S u0 p1 p2 = some r) : qM l g yX1_addAxle (.code yX1_addAxle cX1_addAxle 3 (some .boolean)) rmX1_addAxle qkI [.ref (qad g u0), .int (qI p1), .int (qI p2)] S (.inr r.1) r.2 := by
  rw [MX1_addAxle] at hm
  obtain ⟨hq0, hm⟩ := qg_i hm
  refine qM_of (L := [(0, .ref (qad g u0)), (1, .int (qI p1)), (2, .int (qI p2))]) (by decide +kernel) rfl (Nat.le_of_ble_eq_true rfl) hl hA ?_
  intro p e s m below meth c C hr hT
  have C : qC g p l s m ([.ref (qad g u0), .int (qI p1), .int (qI p2)] : List Value).toArray meth c RX1 cX1_addAxle 3 := C
  refine z_iload_n C dX1_addAxle_0 1 rfl ?_
  obtain ⟨a1, h2, hm⟩ := qb_i hm
  refine iv_X1_35 C (met_X3_isPause l g hl hA n9 S p1 _ h2) ⟨by decide, by decide⟩ ⟨by decide, by decide⟩ (Nat.le_of_ble_eq_true rfl) dX1_addAxle_1 ?_
  obtain ⟨h3, hm⟩ := qg_i hm
  refine z_if_eq (tgt := 30) C dX1_addAxle_4 (by decide) h3 (fun c4 => ?_) (fun c4 => ?_)
  · have hm := qt_i hm c4
    refine z_iconst (x := 0) C dX1_addAxle_30 rfl ?_
    exact z_zret C hr (by decide) (by decide) (by decide) (by cases hm; rfl) dX1_addAxle_31
  · have hm := qf_i hm c4
    refine z_iload_n C dX1_addAxle_7 2 rfl ?_
    obtain ⟨a5, h6, hm⟩ := qb_i hm
    refine iv_X1_39 C (met_X3_isWeight l g hl hA n9 S p2 _ h6) ⟨by decide, by decide⟩ ⟨by decide, by decide⟩ (Nat.le_of_ble_eq_true rfl) dX1_addAxle_8 ?_
    obtain ⟨h7, hm⟩ := qg_i hm
    refine z_if_eq (tgt := 30) C dX1_addAxle_11 (by decide) h7 (fun c8 => ?_) (fun c8 => ?_)
    · have hm := qt_i hm c8
      refine z_iconst (x := 0) C dX1_addAxle_30 rfl ?_
      exact z_zret C hr (by decide) (by decide) (by decide) (by cases hm; rfl) dX1_addAxle_31
    · have hm := qf_i hm c8
      refine z_aload_n C dX1_addAxle_14 0 rfl ?_
      refine gf_X1_27 C hq0 dX1_addAxle_15 ?_
      obtain ⟨h9, hm⟩ := qg_i hm
      refine z_if_lt (tgt := 30) C dX1_addAxle_18 (by decide) h9 (fun c10 => ?_) (fun c10 => ?_)
      · have hm := qt_i hm c10
        refine z_iconst (x := 0) C dX1_addAxle_30 rfl ?_
        exact z_zret C hr (by decide) (by decide) (by decide) (by cases hm; rfl) dX1_addAxle_31
      · have hm := qf_i hm c10
        refine z_aload_n C dX1_addAxle_21 0 rfl ?_
        refine gf_X1_27 C hq0 dX1_addAxle_22 ?_
        refine z_bipush (x := 30) C dX1_addAxle_25 (by decide +kernel) ?_
        refine z_icmp_lt (tgt := 32) C dX1_addAxle_27 (by decide) ⟨h9, (by decide)⟩ (fun c11 => ?_) (fun c11 => ?_)
        · have hm := qt_i hm c11
          refine z_aload_n C dX1_addAxle_32 0 rfl ?_
          refine gf_X1_9 C hq0 dX1_addAxle_33 ?_
          refine z_aload_n C dX1_addAxle_36 0 rfl ?_
          refine gf_X1_27 C hq0 dX1_addAxle_37 ?_
          refine z_iload_n C dX1_addAxle_40 1 rfl ?_
          obtain ⟨h12, hm⟩ := qg_i hm
          refine z_iast (N := 30) C (qk_rec hq0).1 h12 (by decide) dX1_addAxle_41 ?_
          obtain ⟨S13, e14, hm⟩ := ql_i hm
          refine z_S e14 ?_
          refine z_aload_n C dX1_addAxle_42 0 rfl ?_
          refine gf_X1_15 C hq0 dX1_addAxle_43 ?_
          refine z_aload_n C dX1_addAxle_46 0 rfl ?_
          refine gf_X1_27 C hq0 dX1_addAxle_47 ?_
          refine z_iload_n C dX1_addAxle_50 2 rfl ?_
          obtain ⟨h15, hm⟩ := qg_i hm
          refine z_iast (N := 30) C (qk_rec hq0).2.1 h15 (by decide) dX1_addAxle_51 ?_
          obtain ⟨S16, e17, hm⟩ := ql_i hm
          refine z_S e17 ?_
          refine z_aload_n C dX1_addAxle_52 0 rfl ?_
          refine z_dup C dX1_addAxle_53 rfl ?_
          refine gf_X1_27 C hq0 dX1_addAxle_54 ?_
          refine z_iconst (x := 1) C dX1_addAxle_57 rfl ?_
          refine z_iadd C dX1_addAxle_58 ?_
          refine pf_X1_27 C hq0 dX1_addAxle_59 ?_
          obtain ⟨S18, e19, hm⟩ := ql_i hm
          refine z_S e19 ?_
          refine z_iconst (x := 1) C dX1_addAxle_62 rfl ?_
          exact z_zret C hr (by decide) (by decide) (by decide) (by cases hm; rfl) dX1_addAxle_63
        · have hm := qf_i hm c11
          refine z_iconst (x := 0) C dX1_addAxle_30 rfl ?_
          exact z_zret C hr (by decide) (by decide) (by decide) (by cases hm; rfl) dX1_addAxle_31

set_option maxHeartbeats 4000000 in
set_option maxRecDepth 100000 in
theorem met_X1_dropAxles_l6 {g : qG} {p : Program} {l : Launch} {e : Env} {s : State} {m : MethodId} {args : Array Value} {below : List Frame} {meth : Method} {c : Code} (C : qC g p l s m args meth c RX1 cX1_dropAxles 4) (hr : meth.sig.returnType = none) (hT : ∀ x ∈ c.exceptionTable.toList, False) (n9 : Nat) (u0 : Nat) (p2 : Int) {r : qS} (k50 : qS → Option (qS)) (hq0 : qk u0 = 2) (hk50 : ∀ (y1 : qS), k50 y1 = some r → qZ g p l e rmX1_dropAxles s m args below meth c (qQ g below qkV (.inr 0) r args s rmX1_dropAxles) 4 y1 [(0, .ref (qad g u0)), (2, .int (qI p2))] 50 [] 0 0) : ∀ (f : Nat) (S9 : qS) (x10 : Int), MX1_dropAxles_l6 n9 u0 p2 k50 f S9 x10 = some r → qZ g p l e rmX1_dropAxles s m args below meth c (qQ g below qkV (.inr 0) r args s rmX1_dropAxles) 4 S9 [(0, .ref (qad g u0)), (2, .int (qI p2)), (3, .int (qI x10))] 6 [] 0 0 := by
  intro f
  induction f with
  | zero => intro S9 x10 hm; rw [MX1_dropAxles_l6] at hm; cases hm
  | succ f ih =>
    intro S9 x10 hm
    rw [MX1_dropAxles_l6] at hm
    have hl := C.2.2.2.2.2.2.2.2
    have hA := C.2.2.2.2.2.2.1
    refine z_iload_n C dX1_dropAxles_6 2 rfl ?_
    refine z_bipush (x := 30) C dX1_dropAxles_7 (by decide +kernel) ?_
    obtain ⟨h11, hm⟩ := qg_i hm
    refine z_icmp_ge (tgt := 50) C dX1_dropAxles_9 (by decide) ⟨h11, (by decide)⟩ (fun c12 => ?_) (fun c12 => ?_)
    · have hm := qt_i hm c12
      refine z_sub (L' := [(0, .ref (qad g u0)), (2, .int (qI p2))]) [0, 1] rfl ?_
      exact hk50 S9 hm
    · have hm := qf_i hm c12
      refine z_aload_n C dX1_dropAxles_12 0 rfl ?_
      refine gf_X1_9 C hq0 dX1_dropAxles_13 ?_
      refine z_iload_n C dX1_dropAxles_16 2 rfl ?_
      refine z_aload_n C dX1_dropAxles_17 0 rfl ?_
      refine gf_X1_9 C hq0 dX1_dropAxles_18 ?_
      refine z_iload_n C dX1_dropAxles_21 2 rfl ?_
      refine z_iload_n C dX1_dropAxles_22 1 rfl ?_
      refine z_iadd C dX1_dropAxles_23 ?_
      obtain ⟨a13, h14, hm⟩ := qb_i hm
      refine iv_X1_31 C (met_X3_at l g hl hA n9 S9 (u0 + 1) (x10 + p2) _ h14) ⟨by decide, by decide⟩ ⟨by decide, by decide⟩ (Nat.le_of_ble_eq_true rfl) dX1_dropAxles_24 ?_
      obtain ⟨h15, hm⟩ := qg_i hm
      refine z_iast (N := 30) C (qk_rec hq0).1 h15 (by decide) dX1_dropAxles_27 ?_
      obtain ⟨S16, e17, hm⟩ := ql_i hm
      refine z_S e17 ?_
      refine z_aload_n C dX1_dropAxles_28 0 rfl ?_
      refine gf_X1_15 C hq0 dX1_dropAxles_29 ?_
      refine z_iload_n C dX1_dropAxles_32 2 rfl ?_
      refine z_aload_n C dX1_dropAxles_33 0 rfl ?_
      refine gf_X1_15 C hq0 dX1_dropAxles_34 ?_
      refine z_iload_n C dX1_dropAxles_37 2 rfl ?_
      refine z_iload_n C dX1_dropAxles_38 1 rfl ?_
      refine z_iadd C dX1_dropAxles_39 ?_
      obtain ⟨a18, h19, hm⟩ := qb_i hm
      refine iv_X1_31 C (met_X3_at l g hl hA n9 S16 (u0 + 2) (x10 + p2) _ h19) ⟨by decide, by decide⟩ ⟨by decide, by decide⟩ (Nat.le_of_ble_eq_true rfl) dX1_dropAxles_40 ?_
      obtain ⟨h20, hm⟩ := qg_i hm
      refine z_iast (N := 30) C (qk_rec hq0).2.1 h20 (by decide) dX1_dropAxles_43 ?_
      obtain ⟨S21, e22, hm⟩ := ql_i hm
      refine z_S e22 ?_
      refine z_iinc (L' := [(3, .int (qI (x10 + 1))), (0, .ref (qad g u0)), (2, .int (qI p2))]) C dX1_dropAxles_44 2 rfl (by decide) rfl ?_
      refine z_goto (tgt := 6) C dX1_dropAxles_47 (by decide) ?_
      refine z_sub (L' := [(0, .ref (qad g u0)), (2, .int (qI p2)), (3, .int (qI (x10 + 1)))]) [1, 2, 0] rfl ?_
      exact ih S21 (x10 + 1) hm

set_option maxHeartbeats 4000000 in
set_option maxRecDepth 100000 in
theorem met_X1_dropAxles (l : Launch) (g : qG) (hl : l.stackTraces = false) (hA : qAd g) (n9 : Nat) (S : qS) (u0 : Nat) (p1 : Int) (p2 : Int) (r : qS) (hm : MX1_dropAxles n9 S u0 p1 p2 = some r) : qM l g yX1_dropAxles (.code yX1_dropAxles cX1_dropAxles 4 none) rmX1_dropAxles qkV [.ref (qad g u0), .int (qI p1), .int (qI p2)] S (.inr 0) r := by
  rw [MX1_dropAxles] at hm
  obtain ⟨hq0, hm⟩ := qg_i hm
  refine qM_of (L := [(0, .ref (qad g u0)), (1, .int (qI p1)), (2, .int (qI p2))]) (by decide +kernel) rfl (Nat.le_of_ble_eq_true rfl) hl hA ?_
  intro p e s m below meth c C hr hT
  have C : qC g p l s m ([.ref (qad g u0), .int (qI p1), .int (qI p2)] : List Value).toArray meth c RX1 cX1_dropAxles 4 := C
  refine z_iload_n C dX1_dropAxles_0 1 rfl ?_
  refine z_iconst (x := 0) C dX1_dropAxles_1 rfl ?_
  obtain ⟨h1, hm⟩ := qg_i hm
  refine iv_X1_62 C ⟨by decide, Nat.le_of_ble_eq_true rfl⟩ ⟨by decide, by decide⟩ ⟨h1, (by decide)⟩ dX1_dropAxles_2 ?_
  obtain ⟨x2, e3, hm⟩ := ql_i hm
  refine z_topi e3 ?_
  refine z_istore_n (L' := [(3, .int (qI x2)), (0, .ref (qad g u0)), (1, .int (qI p1)), (2, .int (qI p2))]) C dX1_dropAxles_5 (by decide) rfl ?_
  obtain ⟨j5, e8, hm⟩ := ql_i hm
  have hj5 : ∀ (S4 : qS), j5 S4 = some r → qZ g p l e rmX1_dropAxles s m ([.ref (qad g u0), .int (qI p1), .int (qI p2)] : List Value).toArray below meth c (qQ g below qkV (.inr 0) r ([.ref (qad g u0), .int (qI p1), .int (qI p2)] : List Value).toArray s rmX1_dropAxles) 4 S4 [(0, .ref (qad g u0)), (2, .int (qI p2))] 50 [] 0 0 := by
    intro S4 hm
    rw [e8] at hm
    refine z_aload_n C dX1_dropAxles_50 0 rfl ?_
    refine z_dup C dX1_dropAxles_51 rfl ?_
    refine gf_X1_27 C hq0 dX1_dropAxles_52 ?_
    refine z_iload_n C dX1_dropAxles_55 1 rfl ?_
    refine z_isub C dX1_dropAxles_56 ?_
    refine pf_X1_27 C hq0 dX1_dropAxles_57 ?_
    obtain ⟨S6, e7, hm⟩ := ql_i hm
    refine z_S e7 ?_
    exact z_vret C hr (by decide) (by decide) (by cases hm; rfl) dX1_dropAxles_60
  clear e8
  refine z_sub (L' := [(0, .ref (qad g u0)), (2, .int (qI p2)), (3, .int (qI x2))]) [1, 3, 0] rfl ?_
  exact met_X1_dropAxles_l6 C hr hT n9 u0 p2 j5 hq0 hj5 n9 S x2 hm

set_option maxHeartbeats 4000000 in
set_option maxRecDepth 100000 in
theorem met_X1_dropAxle (l : Launch) (g : qG) (hl : l.stackTraces = false) (hA : qAd g) (n9 : Nat) (S : qS) (u0 : Nat) (p1 : Int) (r : Int × qS) (hm : MX1_dropAxle n9 S u0 p1 = some r) : qM l g yX1_dropAxle (.code yX1_dropAxle cX1_dropAxle 3 (some .boolean)) rmX1_dropAxle qkI [.ref (qad g u0), .int (qI p1)] S (.inr r.1) r.2 := by
  rw [MX1_dropAxle] at hm
  obtain ⟨hq0, hm⟩ := qg_i hm
  refine qM_of (L := [(0, .ref (qad g u0)), (1, .int (qI p1))]) (by decide +kernel) rfl (Nat.le_of_ble_eq_true rfl) hl hA ?_
  intro p e s m below meth c C hr hT
  have C : qC g p l s m ([.ref (qad g u0), .int (qI p1)] : List Value).toArray meth c RX1 cX1_dropAxle 3 := C
  refine z_aload_n C dX1_dropAxle_0 0 rfl ?_
  refine z_iload_n C dX1_dropAxle_1 1 rfl ?_
  obtain ⟨a1, h2, hm⟩ := qb_i hm
  refine iv_X1_42 C (met_X1_has l g hl hA n9 S u0 p1 _ h2) hq0 ⟨by decide, by decide⟩ ⟨by decide, by decide⟩ (Nat.le_of_ble_eq_true rfl) dX1_dropAxle_2 ?_
  obtain ⟨h3, hm⟩ := qg_i hm
  refine z_if_ne (tgt := 10) C dX1_dropAxle_5 (by decide) h3 (fun c4 => ?_) (fun c4 => ?_)
  · have hm := qt_i hm c4
    refine z_iconst (x := 0) C dX1_dropAxle_8 rfl ?_
    exact z_zret C hr (by decide) (by decide) (by decide) (by cases hm; rfl) dX1_dropAxle_9
  · have hm := qf_i hm c4
    refine z_aload_n C dX1_dropAxle_10 0 rfl ?_
    refine gf_X1_9 C hq0 dX1_dropAxle_11 ?_
    refine z_iload_n C dX1_dropAxle_14 1 rfl ?_
    obtain ⟨a5, h6, hm⟩ := qb_i hm
    refine iv_X1_31 C (met_X3_at l g hl hA n9 S (u0 + 1) p1 _ h6) ⟨by decide, by decide⟩ ⟨by decide, by decide⟩ (Nat.le_of_ble_eq_true rfl) dX1_dropAxle_15 ?_
    refine z_istore_n (L' := [(2, .int (qI a5)), (0, .ref (qad g u0)), (1, .int (qI p1))]) C dX1_dropAxle_18 (by decide) rfl ?_
    refine z_aload_n C dX1_dropAxle_19 1 rfl ?_
    refine z_iload_n C dX1_dropAxle_20 2 rfl ?_
    refine z_iconst (x := 1) C dX1_dropAxle_21 rfl ?_
    obtain ⟨a7, h8, hm⟩ := qb_i hm
    refine iv_X1_45 C (met_X1_dropAxles l g hl hA n9 S u0 p1 1 _ h8) hq0 ⟨by decide, by decide⟩ ⟨by decide, by decide⟩ (Nat.le_of_ble_eq_true rfl) dX1_dropAxle_22 ?_
    refine z_aload_n C dX1_dropAxle_25 1 rfl ?_
    refine z_iload_n C dX1_dropAxle_26 2 rfl ?_
    obtain ⟨a9, h10, hm⟩ := qb_i hm
    refine iv_X1_42 C (met_X1_has l g hl hA n9 a7 u0 p1 _ h10) hq0 ⟨by decide, by decide⟩ ⟨by decide, by decide⟩ (Nat.le_of_ble_eq_true rfl) dX1_dropAxle_27 ?_
    obtain ⟨h11, hm⟩ := qg_i hm
    refine z_if_eq (tgt := 52) C dX1_dropAxle_30 (by decide) h11 (fun c12 => ?_) (fun c12 => ?_)
    · have hm := qt_i hm c12
      refine z_iconst (x := 1) C dX1_dropAxle_52 rfl ?_
      exact z_zret C hr (by decide) (by decide) (by decide) (by cases hm; rfl) dX1_dropAxle_53
    · have hm := qf_i hm c12
      refine z_aload_n C dX1_dropAxle_33 1 rfl ?_
      refine gf_X1_9 C hq0 dX1_dropAxle_34 ?_
      refine z_iload_n C dX1_dropAxle_37 2 rfl ?_
      refine z_aload_n C dX1_dropAxle_38 1 rfl ?_
      refine gf_X1_9 C hq0 dX1_dropAxle_39 ?_
      refine z_iload_n C dX1_dropAxle_42 2 rfl ?_
      obtain ⟨h13, hm⟩ := qg_i hm
      refine z_iald (N := 30) C (qk_rec hq0).1 h13 (by decide) dX1_dropAxle_43 ?_
      refine z_iload_n C dX1_dropAxle_44 0 rfl ?_
      refine z_iadd C dX1_dropAxle_45 ?_
      refine z_bipush (x := 60) C dX1_dropAxle_46 (by decide +kernel) ?_
      obtain ⟨h14, hm⟩ := qg_i hm
      refine iv_X1_49 C ⟨by decide, Nat.le_of_ble_eq_true rfl⟩ ⟨by decide, by decide⟩ ⟨h14, (by decide)⟩ dX1_dropAxle_48 ?_
      obtain ⟨h15, hm⟩ := qg_i hm
      refine z_iast (N := 30) C (qk_rec hq0).1 h15 (by decide) dX1_dropAxle_51 ?_
      obtain ⟨S16, e17, hm⟩ := ql_i hm
      refine z_S e17 ?_
      refine z_iconst (x := 1) C dX1_dropAxle_52 rfl ?_
      exact z_zret C hr (by decide) (by decide) (by decide) (by cases hm; rfl) dX1_dropAxle_53

set_option maxHeartbeats 4000000 in
set_option maxRecDepth 100000 in
theorem met_X1_putWeight (l : Launch) (g : qG) (hl : l.stackTraces = false) (hA : qAd g) (n9 : Nat) (S : qS) (u0 : Nat) (p1 : Int) (p2 : Int) (r : Int × qS) (hm : MX1_putWeight n9 S u0 p1 p2 = some r) : qM l g yX1_putWeight (.code yX1_putWeight cX1_putWeight 3 (some .boolean)) rmX1_putWeight qkI [.ref (qad g u0), .int (qI p1), .int (qI p2)] S (.inr r.1) r.2 := by
  rw [MX1_putWeight] at hm
  obtain ⟨hq0, hm⟩ := qg_i hm
  refine qM_of (L := [(0, .ref (qad g u0)), (1, .int (qI p1)), (2, .int (qI p2))]) (by decide +kernel) rfl (Nat.le_of_ble_eq_true rfl) hl hA ?_
  intro p e s m below meth c C hr hT
  have C : qC g p l s m ([.ref (qad g u0), .int (qI p1), .int (qI p2)] : List Value).toArray meth c RX1 cX1_putWeight 3 := C
  refine z_aload_n C dX1_putWeight_0 0 rfl ?_
  refine z_iload_n C dX1_putWeight_1 1 rfl ?_
  obtain ⟨a1, h2, hm⟩ := qb_i hm
  refine iv_X1_42 C (met_X1_has l g hl hA n9 S u0 p1 _ h2) hq0 ⟨by decide, by decide⟩ ⟨by decide, by decide⟩ (Nat.le_of_ble_eq_true rfl) dX1_putWeight_2 ?_
  obtain ⟨h3, hm⟩ := qg_i hm
  refine z_if_eq (tgt := 15) C dX1_putWeight_5 (by decide) h3 (fun c4 => ?_) (fun c4 => ?_)
  · have hm := qt_i hm c4
    refine z_iconst (x := 0) C dX1_putWeight_15 rfl ?_
    exact z_zret C hr (by decide) (by decide) (by decide) (by cases hm; rfl) dX1_putWeight_16
  · have hm := qf_i hm c4
    refine z_iload_n C dX1_putWeight_8 2 rfl ?_
    obtain ⟨a5, h6, hm⟩ := qb_i hm
    refine iv_X1_39 C (met_X3_isWeight l g hl hA n9 S p2 _ h6) ⟨by decide, by decide⟩ ⟨by decide, by decide⟩ (Nat.le_of_ble_eq_true rfl) dX1_putWeight_9 ?_
    obtain ⟨h7, hm⟩ := qg_i hm
    refine z_if_ne (tgt := 17) C dX1_putWeight_12 (by decide) h7 (fun c8 => ?_) (fun c8 => ?_)
    · have hm := qt_i hm c8
      refine z_iconst (x := 0) C dX1_putWeight_15 rfl ?_
      exact z_zret C hr (by decide) (by decide) (by decide) (by cases hm; rfl) dX1_putWeight_16
    · have hm := qf_i hm c8
      refine z_aload_n C dX1_putWeight_17 0 rfl ?_
      refine gf_X1_15 C hq0 dX1_putWeight_18 ?_
      refine z_iload_n C dX1_putWeight_21 1 rfl ?_
      refine z_iload_n C dX1_putWeight_22 2 rfl ?_
      obtain ⟨h9, hm⟩ := qg_i hm
      refine z_iast (N := 30) C (qk_rec hq0).2.1 h9 (by decide) dX1_putWeight_23 ?_
      obtain ⟨S10, e11, hm⟩ := ql_i hm
      refine z_S e11 ?_
      refine z_iconst (x := 1) C dX1_putWeight_24 rfl ?_
      exact z_zret C hr (by decide) (by decide) (by decide) (by cases hm; rfl) dX1_putWeight_25

set_option maxHeartbeats 4000000 in
set_option maxRecDepth 100000 in
theorem met_X3_isSetting (l : Launch) (g : qG) (hl : l.stackTraces = false) (hA : qAd g) (n9 : Nat) (S : qS) (p0 : Int) (r : Int) (hm : MX3_isSetting n9 S p0 = some r) : qM l g yX3_isSetting (.code yX3_isSetting cX3_isSetting 1 (some .boolean)) rmX3_isSetting qkI [.int (qI p0)] S (.inr r) S := by
  rw [MX3_isSetting] at hm
  refine qM_of (L := [(0, .int (qI p0))]) (by decide +kernel) rfl (Nat.le_of_ble_eq_true rfl) hl hA ?_
  intro p e s m below meth c C hr hT
  have C : qC g p l s m ([.int (qI p0)] : List Value).toArray meth c RX3 cX3_isSetting 1 := C
  refine z_iload_n C dX3_isSetting_0 0 rfl ?_
  obtain ⟨h1, hm⟩ := qg_i hm
  refine z_if_lt (tgt := 16) C dX3_isSetting_1 (by decide) h1 (fun c2 => ?_) (fun c2 => ?_)
  · have hm := qt_i hm c2
    refine z_iconst (x := 0) C dX3_isSetting_16 rfl ?_
    exact z_zret C hr (by decide) (by decide) (by decide) (by cases hm; rfl) dX3_isSetting_17
  · have hm := qf_i hm c2
    refine z_iload_n C dX3_isSetting_4 0 rfl ?_
    refine z_gs0 C qsl_297 dX3_isSetting_5 ?_
    refine z_tl0 C dX3_isSetting_8 ?_
    refine z_icmp_ge (tgt := 16) C dX3_isSetting_9 (by decide) ⟨h1, (by decide)⟩ (fun c3 => ?_) (fun c3 => ?_)
    · have hm := qt_i hm c3
      refine z_iconst (x := 0) C dX3_isSetting_16 rfl ?_
      exact z_zret C hr (by decide) (by decide) (by decide) (by cases hm; rfl) dX3_isSetting_17
    · have hm := qf_i hm c3
      refine z_iconst (x := 1) C dX3_isSetting_12 rfl ?_
      refine z_goto (tgt := 17) C dX3_isSetting_13 (by decide) ?_
      exact z_zret C hr (by decide) (by decide) (by decide) (by cases hm; rfl) dX3_isSetting_17

set_option maxHeartbeats 4000000 in
set_option maxRecDepth 100000 in
theorem met_X3_isValueOfSetting (l : Launch) (g : qG) (hl : l.stackTraces = false) (hA : qAd g) (n9 : Nat) (S : qS) (p0 : Int) (p1 : Int) (r : Int) (hm : MX3_isValueOfSetting n9 S p0 p1 = some r) : qM l g yX3_isValueOfSetting (.code yX3_isValueOfSetting cX3_isValueOfSetting 2 (some .boolean)) rmX3_isValueOfSetting qkI [.int (qI p0), .int (qI p1)] S (.inr r) S := by
  rw [MX3_isValueOfSetting] at hm
  refine qM_of (L := [(0, .int (qI p0)), (1, .int (qI p1))]) (by decide +kernel) rfl (Nat.le_of_ble_eq_true rfl) hl hA ?_
  intro p e s m below meth c C hr hT
  have C : qC g p l s m ([.int (qI p0), .int (qI p1)] : List Value).toArray meth c RX3 cX3_isValueOfSetting 2 := C
  refine z_iload_n C dX3_isValueOfSetting_0 0 rfl ?_
  obtain ⟨a1, h2, hm⟩ := qb_i hm
  refine iv_X3_171 C (met_X3_isSetting l g hl hA n9 S p0 _ h2) ⟨by decide, by decide⟩ ⟨by decide, by decide⟩ (Nat.le_of_ble_eq_true rfl) dX3_isValueOfSetting_1 ?_
  obtain ⟨h3, hm⟩ := qg_i hm
  refine z_if_eq (tgt := 33) C dX3_isValueOfSetting_4 (by decide) h3 (fun c4 => ?_) (fun c4 => ?_)
  · have hm := qt_i hm c4
    refine z_iconst (x := 0) C dX3_isValueOfSetting_33 rfl ?_
    exact z_zret C hr (by decide) (by decide) (by decide) (by cases hm; rfl) dX3_isValueOfSetting_34
  · have hm := qf_i hm c4
    refine z_iload_n C dX3_isValueOfSetting_7 1 rfl ?_
    refine z_gs1 C qsl_239 dX3_isValueOfSetting_8 ?_
    refine z_iload_n C dX3_isValueOfSetting_11 0 rfl ?_
    obtain ⟨a5, h6, hm⟩ := qb_i hm
    refine iv_X3_108 C (met_X3_at_s1 l g hl hA n9 S p0 _ h6) ⟨by decide, by decide⟩ ⟨by decide, by decide⟩ (Nat.le_of_ble_eq_true rfl) dX3_isValueOfSetting_12 ?_
    obtain ⟨h7, hm⟩ := qg_i hm
    obtain ⟨h8, hm⟩ := qg_i hm
    refine z_icmp_lt (tgt := 33) C dX3_isValueOfSetting_15 (by decide) ⟨h7, h8⟩ (fun c9 => ?_) (fun c9 => ?_)
    · have hm := qt_i hm c9
      refine z_iconst (x := 0) C dX3_isValueOfSetting_33 rfl ?_
      exact z_zret C hr (by decide) (by decide) (by decide) (by cases hm; rfl) dX3_isValueOfSetting_34
    · have hm := qf_i hm c9
      refine z_iload_n C dX3_isValueOfSetting_18 1 rfl ?_
      refine z_gs2 C qsl_242 dX3_isValueOfSetting_19 ?_
      refine z_iload_n C dX3_isValueOfSetting_22 0 rfl ?_
      obtain ⟨a10, h11, hm⟩ := qb_i hm
      refine iv_X3_108 C (met_X3_at_s2 l g hl hA n9 S p0 _ h11) ⟨by decide, by decide⟩ ⟨by decide, by decide⟩ (Nat.le_of_ble_eq_true rfl) dX3_isValueOfSetting_23 ?_
      obtain ⟨h12, hm⟩ := qg_i hm
      refine z_icmp_gt (tgt := 33) C dX3_isValueOfSetting_26 (by decide) ⟨h7, h12⟩ (fun c13 => ?_) (fun c13 => ?_)
      · have hm := qt_i hm c13
        refine z_iconst (x := 0) C dX3_isValueOfSetting_33 rfl ?_
        exact z_zret C hr (by decide) (by decide) (by decide) (by cases hm; rfl) dX3_isValueOfSetting_34
      · have hm := qf_i hm c13
        refine z_iconst (x := 1) C dX3_isValueOfSetting_29 rfl ?_
        refine z_goto (tgt := 34) C dX3_isValueOfSetting_30 (by decide) ?_
        exact z_zret C hr (by decide) (by decide) (by decide) (by cases hm; rfl) dX3_isValueOfSetting_34

set_option maxHeartbeats 4000000 in
set_option maxRecDepth 100000 in
theorem met_X1_putSetting (l : Launch) (g : qG) (hl : l.stackTraces = false) (hA : qAd g) (n9 : Nat) (S : qS) (u0 : Nat) (p1 : Int) (p2 : Int) (r : Int × qS) (hm : MX1_putSetting n9 S u0 p1 p2 = some r) : qM l g yX1_putSetting (.code yX1_putSetting cX1_putSetting 3 (some .boolean)) rmX1_putSetting qkI [.ref (qad g u0), .int (qI p1), .int (qI p2)] S (.inr r.1) r.2 := by
  rw [MX1_putSetting] at hm
  obtain ⟨hq0, hm⟩ := qg_i hm
  refine qM_of (L := [(0, .ref (qad g u0)), (1, .int (qI p1)), (2, .int (qI p2))]) (by decide +kernel) rfl (Nat.le_of_ble_eq_true rfl) hl hA ?_
  intro p e s m below meth c C hr hT
  have C : qC g p l s m ([.ref (qad g u0), .int (qI p1), .int (qI p2)] : List Value).toArray meth c RX1 cX1_putSetting 3 := C
  refine z_iload_n C dX1_putSetting_0 1 rfl ?_
  refine z_iload_n C dX1_putSetting_1 2 rfl ?_
  obtain ⟨a1, h2, hm⟩ := qb_i hm
  refine iv_X1_55 C (met_X3_isValueOfSetting l g hl hA n9 S p1 p2 _ h2) ⟨by decide, by decide⟩ ⟨by decide, by decide⟩ (Nat.le_of_ble_eq_true rfl) dX1_putSetting_2 ?_
  obtain ⟨h3, hm⟩ := qg_i hm
  refine z_if_ne (tgt := 10) C dX1_putSetting_5 (by decide) h3 (fun c4 => ?_) (fun c4 => ?_)
  · have hm := qt_i hm c4
    refine z_iconst (x := 0) C dX1_putSetting_8 rfl ?_
    exact z_zret C hr (by decide) (by decide) (by decide) (by cases hm; rfl) dX1_putSetting_9
  · have hm := qf_i hm c4
    refine z_aload_n C dX1_putSetting_10 0 rfl ?_
    refine gf_X1_24 C hq0 dX1_putSetting_11 ?_
    refine z_iload_n C dX1_putSetting_14 1 rfl ?_
    refine z_iload_n C dX1_putSetting_15 2 rfl ?_
    obtain ⟨h5, hm⟩ := qg_i hm
    refine z_iast (N := 4) C (qk_rec hq0).2.2.2 h5 (by decide) dX1_putSetting_16 ?_
    obtain ⟨S6, e7, hm⟩ := ql_i hm
    refine z_S e7 ?_
    refine z_iconst (x := 1) C dX1_putSetting_17 rfl ?_
    exact z_zret C hr (by decide) (by decide) (by decide) (by cases hm; rfl) dX1_putSetting_18

set_option maxHeartbeats 4000000 in
set_option maxRecDepth 100000 in
theorem met_X1_dropFirstTrain_l41 {g : qG} {p : Program} {l : Launch} {e : Env} {s : State} {m : MethodId} {args : Array Value} {below : List Frame} {meth : Method} {c : Code} (C : qC g p l s m args meth c RX1 cX1_dropFirstTrain 3) (hr : meth.sig.returnType = (some .boolean)) (hT : ∀ x ∈ c.exceptionTable.toList, False) (n9 : Nat) (u0 : Nat) {r : Int × qS}  (hq0 : qk u0 = 2) : ∀ (f : Nat) (S7 : qS) (x8 : Int), MX1_dropFirstTrain_l41 n9 u0 f S7 x8 = some r → qZ g p l e rmX1_dropFirstTrain s m args below meth c (qQ g below qkI (.inr r.1) r.2 args s rmX1_dropFirstTrain) 3 S7 [(0, .ref (qad g u0)), (2, .int (qI x8))] 41 [] 0 0 := by
  intro f
  induction f with
  | zero => intro S7 x8 hm; rw [MX1_dropFirstTrain_l41] at hm; cases hm
  | succ f ih =>
    intro S7 x8 hm
    rw [MX1_dropFirstTrain_l41] at hm
    have hl := C.2.2.2.2.2.2.2.2
    have hA := C.2.2.2.2.2.2.1
    refine z_iload_n C dX1_dropFirstTrain_41 1 rfl ?_
    refine z_bipush (x := 30) C dX1_dropFirstTrain_42 (by decide +kernel) ?_
    obtain ⟨h9, hm⟩ := qg_i hm
    refine z_icmp_ge (tgt := 69) C dX1_dropFirstTrain_44 (by decide) ⟨h9, (by decide)⟩ (fun c10 => ?_) (fun c10 => ?_)
    · have hm := qt_i hm c10
      refine z_iconst (x := 1) C dX1_dropFirstTrain_69 rfl ?_
      exact z_zret C hr (by decide) (by decide) (by decide) (by cases hm; rfl) dX1_dropFirstTrain_70
    · have hm := qf_i hm c10
      refine z_aload_n C dX1_dropFirstTrain_47 0 rfl ?_
      refine gf_X1_18 C hq0 dX1_dropFirstTrain_48 ?_
      refine z_iload_n C dX1_dropFirstTrain_51 1 rfl ?_
      refine z_aload_n C dX1_dropFirstTrain_52 0 rfl ?_
      refine gf_X1_18 C hq0 dX1_dropFirstTrain_53 ?_
      refine z_iload_n C dX1_dropFirstTrain_56 1 rfl ?_
      refine z_iconst (x := 1) C dX1_dropFirstTrain_57 rfl ?_
      refine z_iadd C dX1_dropFirstTrain_58 ?_
      obtain ⟨a11, h12, hm⟩ := qb_i hm
      refine iv_X1_31 C (met_X3_at l g hl hA n9 S7 (u0 + 3) (x8 + 1) _ h12) ⟨by decide, by decide⟩ ⟨by decide, by decide⟩ (Nat.le_of_ble_eq_true rfl) dX1_dropFirstTrain_59 ?_
      obtain ⟨h13, hm⟩ := qg_i hm
      refine z_iast (N := 30) C (qk_rec hq0).2.2.1 h13 (by decide) dX1_dropFirstTrain_62 ?_
      obtain ⟨S14, e15, hm⟩ := ql_i hm
      refine z_S e15 ?_
      refine z_iinc (L' := [(2, .int (qI (x8 + 1))), (0, .ref (qad g u0))]) C dX1_dropFirstTrain_63 1 rfl (by decide) rfl ?_
      refine z_goto (tgt := 41) C dX1_dropFirstTrain_66 (by decide) ?_
      refine z_sub (L' := [(0, .ref (qad g u0)), (2, .int (qI (x8 + 1)))]) [1, 0] rfl ?_
      exact ih S14 (x8 + 1) hm

set_option maxHeartbeats 4000000 in
set_option maxRecDepth 100000 in
theorem met_X1_dropFirstTrain_l11 {g : qG} {p : Program} {l : Launch} {e : Env} {s : State} {m : MethodId} {args : Array Value} {below : List Frame} {meth : Method} {c : Code} (C : qC g p l s m args meth c RX1 cX1_dropFirstTrain 3) (hr : meth.sig.returnType = (some .boolean)) (hT : ∀ x ∈ c.exceptionTable.toList, False) (n9 : Nat) (S : qS) (u0 : Nat) {r : Int × qS} (k33 : Int → Option (Int × qS)) (hq0 : qk u0 = 2) (hk33 : ∀ (y1 : Int), k33 y1 = some r → qZ g p l e rmX1_dropFirstTrain s m args below meth c (qQ g below qkI (.inr r.1) r.2 args s rmX1_dropFirstTrain) 3 S [(0, .ref (qad g u0)), (1, .int (qI y1))] 33 [] 0 0) : ∀ (f : Nat) (x17 : Int), MX1_dropFirstTrain_l11 n9 S u0 k33 f x17 = some r → qZ g p l e rmX1_dropFirstTrain s m args below meth c (qQ g below qkI (.inr r.1) r.2 args s rmX1_dropFirstTrain) 3 S [(0, .ref (qad g u0)), (1, .int (qI x17))] 11 [] 0 0 := by
  intro f
  induction f with
  | zero => intro x17 hm; rw [MX1_dropFirstTrain_l11] at hm; cases hm
  | succ f ih =>
    intro x17 hm
    rw [MX1_dropFirstTrain_l11] at hm
    have hl := C.2.2.2.2.2.2.2.2
    have hA := C.2.2.2.2.2.2.1
    refine z_iload_n C dX1_dropFirstTrain_11 1 rfl ?_
    refine z_aload_n C dX1_dropFirstTrain_12 0 rfl ?_
    refine gf_X1_27 C hq0 dX1_dropFirstTrain_13 ?_
    obtain ⟨h18, hm⟩ := qg_i hm
    obtain ⟨h19, hm⟩ := qg_i hm
    refine z_icmp_ge (tgt := 33) C dX1_dropFirstTrain_16 (by decide) ⟨h18, h19⟩ (fun c20 => ?_) (fun c20 => ?_)
    · have hm := qt_i hm c20
      exact hk33 x17 hm
    · have hm := qf_i hm c20
      refine z_aload_n C dX1_dropFirstTrain_19 0 rfl ?_
      refine z_iload_n C dX1_dropFirstTrain_20 1 rfl ?_
      obtain ⟨a21, h22, hm⟩ := qb_i hm
      refine iv_X1_59 C (met_X1_beginsTrain l g hl hA n9 S u0 x17 _ h22) hq0 ⟨by decide, by decide⟩ ⟨by decide, by decide⟩ (Nat.le_of_ble_eq_true rfl) dX1_dropFirstTrain_21 ?_
      obtain ⟨h23, hm⟩ := qg_i hm
      refine z_if_ne (tgt := 33) C dX1_dropFirstTrain_24 (by decide) h23 (fun c24 => ?_) (fun c24 => ?_)
      · have hm := qt_i hm c24
        refine z_iinc (L' := [(1, .int (qI (x17 + 1))), (0, .ref (qad g u0))]) C dX1_dropFirstTrain_27 1 rfl (by decide) rfl ?_
        refine z_goto (tgt := 11) C dX1_dropFirstTrain_30 (by decide) ?_
        refine z_sub (L' := [(0, .ref (qad g u0)), (1, .int (qI (x17 + 1)))]) [1, 0] rfl ?_
        exact ih (x17 + 1) hm
      · have hm := qf_i hm c24
        exact hk33 x17 hm

set_option maxHeartbeats 4000000 in
set_option maxRecDepth 100000 in
theorem met_X1_dropFirstTrain (l : Launch) (g : qG) (hl : l.stackTraces = false) (hA : qAd g) (n9 : Nat) (S : qS) (u0 : Nat) (r : Int × qS) (hm : MX1_dropFirstTrain n9 S u0 = some r) : qM l g yX1_dropFirstTrain (.code yX1_dropFirstTrain cX1_dropFirstTrain 3 (some .boolean)) rmX1_dropFirstTrain qkI [.ref (qad g u0)] S (.inr r.1) r.2 := by
  rw [MX1_dropFirstTrain] at hm
  obtain ⟨hq0, hm⟩ := qg_i hm
  refine qM_of (L := [(0, .ref (qad g u0))]) (by decide +kernel) rfl (Nat.le_of_ble_eq_true rfl) hl hA ?_
  intro p e s m below meth c C hr hT
  have C : qC g p l s m ([.ref (qad g u0)] : List Value).toArray meth c RX1 cX1_dropFirstTrain 3 := C
  refine z_aload_n C dX1_dropFirstTrain_0 0 rfl ?_
  refine gf_X1_27 C hq0 dX1_dropFirstTrain_1 ?_
  obtain ⟨h1, hm⟩ := qg_i hm
  refine z_if_ne (tgt := 9) C dX1_dropFirstTrain_4 (by decide) h1 (fun c2 => ?_) (fun c2 => ?_)
  · have hm := qt_i hm c2
    refine z_iconst (x := 0) C dX1_dropFirstTrain_7 rfl ?_
    exact z_zret C hr (by decide) (by decide) (by decide) (by cases hm; rfl) dX1_dropFirstTrain_8
  · have hm := qf_i hm c2
    refine z_iconst (x := 1) C dX1_dropFirstTrain_9 rfl ?_
    refine z_istore_n (L' := [(1, .int (qI 1)), (0, .ref (qad g u0))]) C dX1_dropFirstTrain_10 (by decide) rfl ?_
    obtain ⟨j4, e16, hm⟩ := ql_i hm
    have hj4 : ∀ (x3 : Int), j4 x3 = some r → qZ g p l e rmX1_dropFirstTrain s m ([.ref (qad g u0)] : List Value).toArray below meth c (qQ g below qkI (.inr r.1) r.2 ([.ref (qad g u0)] : List Value).toArray s rmX1_dropFirstTrain) 3 S [(0, .ref (qad g u0)), (1, .int (qI x3))] 33 [] 0 0 := by
      intro x3 hm
      rw [e16] at hm
      refine z_aload_n C dX1_dropFirstTrain_33 0 rfl ?_
      refine z_iconst (x := 0) C dX1_dropFirstTrain_34 rfl ?_
      refine z_iload_n C dX1_dropFirstTrain_35 1 rfl ?_
      obtain ⟨a5, h6, hm⟩ := qb_i hm
      refine iv_X1_45 C (met_X1_dropAxles l g hl hA n9 S u0 0 x3 _ h6) hq0 ⟨by decide, by decide⟩ ⟨by decide, by decide⟩ (Nat.le_of_ble_eq_true rfl) dX1_dropFirstTrain_36 ?_
      refine z_iconst (x := 0) C dX1_dropFirstTrain_39 rfl ?_
      refine z_istore_n (L' := [(2, .int (qI 0)), (0, .ref (qad g u0)), (1, .int (qI x3))]) C dX1_dropFirstTrain_40 (by decide) rfl ?_
      refine z_sub (L' := [(0, .ref (qad g u0)), (2, .int (qI 0))]) [1, 0] rfl ?_
      exact met_X1_dropFirstTrain_l41 C hr hT n9 u0  hq0 n9 a5 0 hm
    clear e16
    refine z_sub (L' := [(0, .ref (qad g u0)), (1, .int (qI 1))]) [1, 0] rfl ?_
    exact met_X1_dropFirstTrain_l11 C hr hT n9 S u0 j4 hq0 hj4 n9 1 hm
