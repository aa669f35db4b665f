set_option maxHeartbeats 4000000 in
set_option maxRecDepth 100000 in
theorem met_X3_append (l : Launch) (g : qG) (hl : l.stackTraces = false) (hA : qAd g) (n9 : Nat) (S : qS) (p1 : Int) (r : qO × qS) (hm : MX3_append n9 S p1 = some r) : qM l g yX3_append (.code yX3_append cX3_append 2 (some .int)) rmX3_append qkI [.ref (qad g 0), .int (qI p1)] S r.1 r.2 := by
  rw [MX3_append] at hm
  refine qM_of (L := [(0, .ref (qad g 0)), (1, .int (qI p1))]) (by decide +kernel) rfl (Nat.le_of_ble_eq_true rfl) hl hA ?_
  intro p e s m below meth c C hr hT
  have C : qC g p l s m ([.ref (qad g 0), .int (qI p1)] : List Value).toArray meth c RX3 cX3_append 2 := C
  refine z_iload_n C dX3_append_0 1 rfl ?_
  obtain ⟨h1, hm⟩ := qg_i hm
  obtain ⟨j2, e3, hm⟩ := ql_i hm
  have hj2 : j2 = some r → qZ g p l e rmX3_append s m ([.ref (qad g 0), .int (qI p1)] : List Value).toArray below meth c (qQ g below qkI r.1 r.2 ([.ref (qad g 0), .int (qI p1)] : List Value).toArray s rmX3_append) 2 S [] 11 [] 0 0 := by
    intro  hm
    rw [e3] at hm
    exact th_iae C hT (by decide : (46, "no character code") ∈ qStr) ⟨by decide, Nat.le_of_ble_eq_true rfl⟩ ⟨by decide, by decide⟩ (by decide) (by decide) (by cases hm; rfl) dX3_append_11 dX3_append_14 dX3_append_15 dX3_append_17 dX3_append_20
  clear e3
  refine z_if_lt (tgt := 11) C dX3_append_1 (by decide) h1 (fun c4 => ?_) (fun c4 => ?_)
  · have hm := qt_i hm c4
    refine z_sub (L' := []) [] rfl ?_
    exact hj2  hm
  · have hm := qf_i hm c4
    refine z_iload_n C dX3_append_4 1 rfl ?_
    refine z_sipush (x := 255) C dX3_append_5 (by decide +kernel) ?_
    refine z_icmp_le (tgt := 21) C dX3_append_8 (by decide) ⟨h1, (by decide)⟩ (fun c5 => ?_) (fun c5 => ?_)
    · have hm := qt_i hm c5
      refine z_aload_n C dX3_append_21 0 rfl ?_
      refine gf_X3_10 C rfl dX3_append_22 ?_
      refine z_iload_n C dX3_append_25 1 rfl ?_
      obtain ⟨a6, h7, hm⟩ := qb_i hm
      refine iv_X3_51 C (met_X2_add l g hl hA n9 S p1 _ h7) rfl ⟨by decide, by decide⟩ ⟨by decide, by decide⟩ (Nat.le_of_ble_eq_true rfl) dX3_append_26 ?_
      obtain ⟨h8, hm⟩ := qg_i hm
      refine z_if_ne (tgt := 42) C dX3_append_29 (by decide) h8 (fun c9 => ?_) (fun c9 => ?_)
      · have hm := qt_i hm c9
        exact th_ise C hT (by decide : (57, "the text is full") ∈ qStr) ⟨by decide, Nat.le_of_ble_eq_true rfl⟩ ⟨by decide, by decide⟩ (by decide) (by decide) (by cases hm; rfl) dX3_append_32 dX3_append_35 dX3_append_36 dX3_append_38 dX3_append_41
      · have hm := qf_i hm c9
        refine z_aload_n C dX3_append_42 0 rfl ?_
        refine gf_X3_10 C rfl dX3_append_43 ?_
        refine gf_X3_60 C rfl dX3_append_46 ?_
        exact z_iret C hr (by decide) (by decide) (by cases hm; rfl) dX3_append_49
    · have hm := qf_i hm c5
      refine z_sub (L' := []) [] rfl ?_
      exact hj2  hm

set_option maxHeartbeats 4000000 in
set_option maxRecDepth 100000 in
theorem met_X3_clearText (l : Launch) (g : qG) (hl : l.stackTraces = false) (hA : qAd g) (n9 : Nat) (S : qS) (r : Int × qS) (hm : MX3_clearText n9 S  = some r) : qM l g yX3_clearText (.code yX3_clearText cX3_clearText 2 (some .int)) rmX3_clearText qkI [.ref (qad g 0)] S (.inr r.1) r.2 := by
  rw [MX3_clearText] at hm
  refine qM_of (L := [(0, .ref (qad g 0))]) (by decide +kernel) rfl (Nat.le_of_ble_eq_true rfl) hl hA ?_
  intro p e s m below meth c C hr hT
  have C : qC g p l s m ([.ref (qad g 0)] : List Value).toArray meth c RX3 cX3_clearText 2 := C
  refine z_aload_n C dX3_clearText_0 0 rfl ?_
  refine gf_X3_10 C rfl dX3_clearText_1 ?_
  refine gf_X3_60 C rfl dX3_clearText_4 ?_
  obtain ⟨x1, e2, hm⟩ := ql_i hm
  refine z_topi e2 ?_
  refine z_istore_n (L' := [(1, .int (qI x1)), (0, .ref (qad g 0))]) C dX3_clearText_7 (by decide) rfl ?_
  refine z_aload_n C dX3_clearText_8 1 rfl ?_
  refine gf_X3_10 C rfl dX3_clearText_9 ?_
  refine z_iconst (x := 0) C dX3_clearText_12 rfl ?_
  refine pf_X3_60 C rfl dX3_clearText_13 ?_
  obtain ⟨S3, e4, hm⟩ := ql_i hm
  refine z_S e4 ?_
  refine z_iload_n C dX3_clearText_16 0 rfl ?_
  exact z_iret C hr (by decide) (by decide) (by cases hm; rfl) dX3_clearText_17

set_option maxHeartbeats 4000000 in
set_option maxRecDepth 100000 in
theorem met_X3_errorPosition (l : Launch) (g : qG) (hl : l.stackTraces = false) (hA : qAd g) (n9 : Nat) (S : qS) (r : Int × qS) (hm : MX3_errorPosition n9 S  = some r) : qM l g yX3_errorPosition (.code yX3_errorPosition cX3_errorPosition 1 (some .int)) rmX3_errorPosition qkI [.ref (qad g 0)] S (.inr r.1) r.2 := by
  rw [MX3_errorPosition] at hm
  refine qM_of (L := [(0, .ref (qad g 0))]) (by decide +kernel) rfl (Nat.le_of_ble_eq_true rfl) hl hA ?_
  intro p e s m below meth c C hr hT
  have C : qC g p l s m ([.ref (qad g 0)] : List Value).toArray meth c RX3 cX3_errorPosition 1 := C
  refine z_aload_n C dX3_errorPosition_0 0 rfl ?_
  refine gf_X3_10 C rfl dX3_errorPosition_1 ?_
  obtain ⟨a1, h2, hm⟩ := qb_i hm
  refine iv_X3_64 C (met_X2_read l g hl hA n9 S  _ h2) rfl ⟨by decide, by decide⟩ ⟨by decide, by decide⟩ (Nat.le_of_ble_eq_true rfl) dX3_errorPosition_4 ?_
  refine z_aload_n C dX3_errorPosition_7 0 rfl ?_
  refine gf_X3_10 C rfl dX3_errorPosition_8 ?_
  refine gf_X3_67 C rfl dX3_errorPosition_11 ?_
  exact z_iret C hr (by decide) (by decide) (by cases hm; rfl) dX3_errorPosition_14

set_option maxHeartbeats 4000000 in
set_option maxRecDepth 100000 in
theorem met_X3_axlesTold (l : Launch) (g : qG) (hl : l.stackTraces = false) (hA : qAd g) (n9 : Nat) (S : qS) (r : Int × qS) (hm : MX3_axlesTold n9 S  = some r) : qM l g yX3_axlesTold (.code yX3_axlesTold cX3_axlesTold 1 (some .int)) rmX3_axlesTold qkI [.ref (qad g 0)] S (.inr r.1) r.2 := by
  rw [MX3_axlesTold] at hm
  refine qM_of (L := [(0, .ref (qad g 0))]) (by decide +kernel) rfl (Nat.le_of_ble_eq_true rfl) hl hA ?_
  intro p e s m below meth c C hr hT
  have C : qC g p l s m ([.ref (qad g 0)] : List Value).toArray meth c RX3 cX3_axlesTold 1 := C
  refine z_aload_n C dX3_axlesTold_0 0 rfl ?_
  refine gf_X3_10 C rfl dX3_axlesTold_1 ?_
  obtain ⟨a1, h2, hm⟩ := qb_i hm
  refine iv_X3_64 C (met_X2_read l g hl hA n9 S  _ h2) rfl ⟨by decide, by decide⟩ ⟨by decide, by decide⟩ (Nat.le_of_ble_eq_true rfl) dX3_axlesTold_4 ?_
  refine z_aload_n C dX3_axlesTold_7 0 rfl ?_
  refine gf_X3_10 C rfl dX3_axlesTold_8 ?_
  refine gf_X3_67 C rfl dX3_axlesTold_11 ?_
  refine z_iconst (x := (-1)) C dX3_axlesTold_14 rfl ?_
  obtain ⟨h3, hm⟩ := qg_i hm
  refine z_icmp_ne (tgt := 28) C dX3_axlesTold_15 (by decide) ⟨h3, (by decide)⟩ (fun c4 => ?_) (fun c4 => ?_)
  · have hm := qt_i hm c4
    refine z_aload_n C dX3_axlesTold_18 0 rfl ?_
    refine gf_X3_10 C rfl dX3_axlesTold_19 ?_
    refine gf_X3_70 C rfl dX3_axlesTold_22 ?_
    refine z_goto (tgt := 29) C dX3_axlesTold_25 (by decide) ?_
    exact z_iret C hr (by decide) (by decide) (by cases hm; rfl) dX3_axlesTold_29
  · have hm := qf_i hm c4
    refine z_iconst (x := (-1)) C dX3_axlesTold_28 rfl ?_
    exact z_iret C hr (by decide) (by decide) (by cases hm; rfl) dX3_axlesTold_29

set_option maxHeartbeats 4000000 in
set_option maxRecDepth 100000 in
theorem met_X3_countBills_l4 {g : qG} {p : Program} {l : Launch} {e : Env} {s : State} {m : MethodId} {args : Array Value} {below : List Frame} {meth : Method} {c : Code} (C : qC g p l s m args meth c RX3 cX3_countBills 5) (hr : meth.sig.returnType = (some .int)) (hT : ∀ x ∈ c.exceptionTable.toList, False) (n9 : Nat) (S : qS) (p1 : Int) {r : Int}  : ∀ (f : Nat) (x1 : Int) (x2 : Int), MX3_countBills_l4 n9 S p1 f x1 x2 = some r → qZ g p l e rmX3_countBills s m args below meth c (qQ g below qkI (.inr r) S args s rmX3_countBills) 5 S [(0, .ref (qad g 0)), (1, .int (qI p1)), (2, .int (qI x1)), (3, .int (qI x2))] 4 [] 0 0 := by
  intro f
  induction f with
  | zero => intro x1 x2 hm; rw [MX3_countBills_l4] at hm; cases hm
  | succ f ih =>
    intro x1 x2 hm
    rw [MX3_countBills_l4] at hm
    have hl := C.2.2.2.2.2.2.2.2
    have hA := C.2.2.2.2.2.2.1
    refine z_iload_n C dX3_countBills_4 3 rfl ?_
    refine z_aload_n C dX3_countBills_5 0 rfl ?_
    refine gf_X3_29 C rfl dX3_countBills_6 ?_
    refine gf_X3_82 C rfl dX3_countBills_9 ?_
    obtain ⟨h3, hm⟩ := qg_i hm
    obtain ⟨h4, hm⟩ := qg_i hm
    refine z_icmp_ge (tgt := 63) C dX3_countBills_12 (by decide) ⟨h3, h4⟩ (fun c5 => ?_) (fun c5 => ?_)
    · have hm := qt_i hm c5
      refine z_iload_n C dX3_countBills_63 2 rfl ?_
      exact z_iret C hr (by decide) (by decide) (by cases hm; rfl) dX3_countBills_64
    · have hm := qf_i hm c5
      refine z_aload_n C dX3_countBills_15 0 rfl ?_
      refine gf_X3_19 C rfl dX3_countBills_16 ?_
      refine gf_X3_210 C rfl dX3_countBills_19 ?_
      refine z_iload_n C dX3_countBills_22 3 rfl ?_
      obtain ⟨a6, h7, hm⟩ := qb_i hm
      refine iv_X3_108 C (met_X3_at l g hl hA n9 S (7 + 3) x2 _ h7) ⟨by decide, by decide⟩ ⟨by decide, by decide⟩ (Nat.le_of_ble_eq_true rfl) dX3_countBills_23 ?_
      refine z_istore (L' := [(4, .int (qI a6)), (0, .ref (qad g 0)), (1, .int (qI p1)), (2, .int (qI x1)), (3, .int (qI x2))]) C dX3_countBills_26 (by decide) rfl ?_
      refine z_iload C dX3_countBills_28 0 rfl ?_
      obtain ⟨h8, hm⟩ := qg_i hm
      obtain ⟨j10, e11, hm⟩ := ql_i hm
      have hj10 : ∀ (x9 : Int), j10 x9 = some r → qZ g p l e rmX3_countBills s m args below meth c (qQ g below qkI (.inr r) S args s rmX3_countBills) 5 S [(0, .ref (qad g 0)), (1, .int (qI p1)), (2, .int (qI x9)), (3, .int (qI x2))] 57 [] 0 0 := by
        intro x9 hm
        rw [e11] at hm
        refine z_iinc (L' := [(3, .int (qI (x2 + 1))), (0, .ref (qad g 0)), (1, .int (qI p1)), (2, .int (qI x9))]) C dX3_countBills_57 3 rfl (by decide) rfl ?_
        refine z_goto (tgt := 4) C dX3_countBills_60 (by decide) ?_
        refine z_sub (L' := [(0, .ref (qad g 0)), (1, .int (qI p1)), (2, .int (qI x9)), (3, .int (qI (x2 + 1)))]) [1, 2, 3, 0] rfl ?_
        exact ih x9 (x2 + 1) hm
      clear e11
      refine z_if_eq (tgt := 57) C dX3_countBills_30 (by decide) h8 (fun c12 => ?_) (fun c12 => ?_)
      · have hm := qt_i hm c12
        refine z_sub (L' := [(0, .ref (qad g 0)), (1, .int (qI p1)), (2, .int (qI x1)), (3, .int (qI x2))]) [1, 2, 3, 4] rfl ?_
        exact hj10 x1 hm
      · have hm := qf_i hm c12
        refine z_iload_n C dX3_countBills_33 2 rfl ?_
        obtain ⟨h13, hm⟩ := qg_i hm
        obtain ⟨j14, e15, hm⟩ := ql_i hm
        have hj14 : j14 = some r → qZ g p l e rmX3_countBills s m args below meth c (qQ g below qkI (.inr r) S args s rmX3_countBills) 5 S [(0, .ref (qad g 0)), (1, .int (qI p1)), (2, .int (qI x1)), (3, .int (qI x2))] 54 [] 0 0 := by
          intro  hm
          rw [e15] at hm
          refine z_iinc (L' := [(2, .int (qI (x1 + 1))), (0, .ref (qad g 0)), (1, .int (qI p1)), (3, .int (qI x2))]) C dX3_countBills_54 2 rfl (by decide) rfl ?_
          refine z_sub (L' := [(0, .ref (qad g 0)), (1, .int (qI p1)), (2, .int (qI (x1 + 1))), (3, .int (qI x2))]) [1, 2, 0, 3] rfl ?_
          exact hj10 (x1 + 1) hm
        clear e15
        refine z_if_eq (tgt := 54) C dX3_countBills_34 (by decide) h13 (fun c16 => ?_) (fun c16 => ?_)
        · have hm := qt_i hm c16
          refine z_sub (L' := [(0, .ref (qad g 0)), (1, .int (qI p1)), (2, .int (qI x1)), (3, .int (qI x2))]) [1, 2, 3, 4] rfl ?_
          exact hj14  hm
        · have hm := qf_i hm c16
          refine z_iload C dX3_countBills_37 0 rfl ?_
          refine z_aload_n C dX3_countBills_39 1 rfl ?_
          refine gf_X3_29 C rfl dX3_countBills_40 ?_
          refine z_aload_n C dX3_countBills_43 1 rfl ?_
          refine gf_X3_19 C rfl dX3_countBills_44 ?_
          refine z_iload_n C dX3_countBills_47 4 rfl ?_
          obtain ⟨a17, h18, hm⟩ := qb_i hm
          refine iv_X3_156 C (met_X0_weightOfTrain l g hl hA n9 S 7 x2 _ h18) rfl ⟨by decide, by decide⟩ ⟨by decide, by decide⟩ (Nat.le_of_ble_eq_true rfl) dX3_countBills_48 ?_
          obtain ⟨h19, hm⟩ := qg_i hm
          refine z_icmp_eq (tgt := 57) C dX3_countBills_51 (by decide) ⟨h8, h19⟩ (fun c20 => ?_) (fun c20 => ?_)
          · have hm := qt_i hm c20
            refine z_sub (L' := [(0, .ref (qad g 0)), (1, .int (qI p1)), (2, .int (qI x1)), (3, .int (qI x2))]) [1, 2, 3, 4] rfl ?_
            exact hj10 x1 hm
          · have hm := qf_i hm c20
            refine z_sub (L' := [(0, .ref (qad g 0)), (1, .int (qI p1)), (2, .int (qI x1)), (3, .int (qI x2))]) [1, 2, 3, 4] rfl ?_
            exact hj14  hm

set_option maxHeartbeats 4000000 in
set_option maxRecDepth 100000 in
theorem met_X3_countBills (l : Launch) (g : qG) (hl : l.stackTraces = false) (hA : qAd g) (n9 : Nat) (S : qS) (p1 : Int) (r : Int) (hm : MX3_countBills n9 S p1 = some r) : qM l g yX3_countBills (.code yX3_countBills cX3_countBills 5 (some .int)) rmX3_countBills qkI [.ref (qad g 0), .int (qI p1)] S (.inr r) S := by
  rw [MX3_countBills] at hm
  refine qM_of (L := [(0, .ref (qad g 0)), (1, .int (qI p1))]) (by decide +kernel) rfl (Nat.le_of_ble_eq_true rfl) hl hA ?_
  intro p e s m below meth c C hr hT
  have C : qC g p l s m ([.ref (qad g 0), .int (qI p1)] : List Value).toArray meth c RX3 cX3_countBills 5 := C
  refine z_iconst (x := 0) C dX3_countBills_0 rfl ?_
  refine z_istore_n (L' := [(2, .int (qI 0)), (0, .ref (qad g 0)), (1, .int (qI p1))]) C dX3_countBills_1 (by decide) rfl ?_
  refine z_iconst (x := 0) C dX3_countBills_2 rfl ?_
  refine z_istore_n (L' := [(3, .int (qI 0)), (2, .int (qI 0)), (0, .ref (qad g 0)), (1, .int (qI p1))]) C dX3_countBills_3 (by decide) rfl ?_
  refine z_sub (L' := [(0, .ref (qad g 0)), (1, .int (qI p1)), (2, .int (qI 0)), (3, .int (qI 0))]) [2, 3, 1, 0] rfl ?_
  exact met_X3_countBills_l4 C hr hT n9 S p1  n9 0 0 hm

set_option maxHeartbeats 4000000 in
set_option maxRecDepth 100000 in
theorem met_X3_about (l : Launch) (g : qG) (hl : l.stackTraces = false) (hA : qAd g) (n9 : Nat) (S : qS) (p1 : Int) (r : qO × qS) (hm : MX3_about n9 S p1 = some r) : qM l g yX3_about (.code yX3_about cX3_about 2 (some .int)) rmX3_about qkI [.ref (qad g 0), .int (qI p1)] S r.1 r.2 := by
  rw [MX3_about] at hm
  refine qM_of (L := [(0, .ref (qad g 0)), (1, .int (qI p1))]) (by decide +kernel) rfl (Nat.le_of_ble_eq_true rfl) hl hA ?_
  intro p e s m below meth c C hr hT
  have C : qC g p l s m ([.ref (qad g 0), .int (qI p1)] : List Value).toArray meth c RX3 cX3_about 2 := C
  refine z_iload_n C dX3_about_0 1 rfl ?_
  obtain ⟨h1, hm⟩ := qg_i hm
  obtain ⟨j2, e3, hm⟩ := ql_i hm
  have hj2 : j2 = some r → qZ g p l e rmX3_about s m ([.ref (qad g 0), .int (qI p1)] : List Value).toArray below meth c (qQ g below qkI r.1 r.2 ([.ref (qad g 0), .int (qI p1)] : List Value).toArray s rmX3_about) 2 S [] 10 [] 0 0 := by
    intro  hm
    rw [e3] at hm
    exact th_iae C hT (by decide : (73, "no such number") ∈ qStr) ⟨by decide, Nat.le_of_ble_eq_true rfl⟩ ⟨by decide, by decide⟩ (by decide) (by decide) (by cases hm; rfl) dX3_about_10 dX3_about_13 dX3_about_14 dX3_about_16 dX3_about_19
  clear e3
  refine z_if_lt (tgt := 10) C dX3_about_1 (by decide) h1 (fun c4 => ?_) (fun c4 => ?_)
  · have hm := qt_i hm c4
    refine z_sub (L' := []) [] rfl ?_
    exact hj2  hm
  · have hm := qf_i hm c4
    refine z_iload_n C dX3_about_4 1 rfl ?_
    refine z_bipush (x := 7) C dX3_about_5 (by decide +kernel) ?_
    refine z_icmp_le (tgt := 20) C dX3_about_7 (by decide) ⟨h1, (by decide)⟩ (fun c5 => ?_) (fun c5 => ?_)
    · have hm := qt_i hm c5
      refine z_aload_n C dX3_about_20 0 rfl ?_
      refine gf_X3_29 C rfl dX3_about_21 ?_
      refine z_aload_n C dX3_about_24 0 rfl ?_
      refine gf_X3_19 C rfl dX3_about_25 ?_
      obtain ⟨a6, h7, hm⟩ := qb_i hm
      refine iv_X3_75 C (met_X0_workOut l g hl hA n9 S 7 _ h7) rfl ⟨by decide, by decide⟩ ⟨by decide, by decide⟩ (Nat.le_of_ble_eq_true rfl) dX3_about_28 ?_
      refine z_iload_n C dX3_about_31 1 rfl ?_
      rcases Classical.em (p1 = 0) with c8 | c8
      · have hm := qt_i hm c8
        refine z_tableIn (tgt := 76) C dX3_about_32 h1 (by omega) (by omega) (by rw [c8]; rfl) (by decide) ?_
        refine z_aload_n C dX3_about_76 0 rfl ?_
        refine gf_X3_19 C rfl dX3_about_77 ?_
        refine gf_X3_79 C rfl dX3_about_80 ?_
        exact z_iret C hr (by decide) (by decide) (by cases hm; rfl) dX3_about_83
      have hm := qf_i hm c8
      rcases Classical.em (p1 = 1) with c9 | c9
      · have hm := qt_i hm c9
        refine z_tableIn (tgt := 84) C dX3_about_32 h1 (by omega) (by omega) (by rw [c9]; rfl) (by decide) ?_
        refine z_aload_n C dX3_about_84 0 rfl ?_
        refine gf_X3_29 C rfl dX3_about_85 ?_
        refine gf_X3_82 C rfl dX3_about_88 ?_
        exact z_iret C hr (by decide) (by decide) (by cases hm; rfl) dX3_about_91
      have hm := qf_i hm c9
      rcases Classical.em (p1 = 2) with c10 | c10
      · have hm := qt_i hm c10
        refine z_tableIn (tgt := 92) C dX3_about_32 h1 (by omega) (by omega) (by rw [c10]; rfl) (by decide) ?_
        refine z_aload_n C dX3_about_92 0 rfl ?_
        refine gf_X3_29 C rfl dX3_about_93 ?_
        refine gf_X3_85 C rfl dX3_about_96 ?_
        exact z_iret C hr (by decide) (by decide) (by cases hm; rfl) dX3_about_99
      have hm := qf_i hm c10
      rcases Classical.em (p1 = 3) with c11 | c11
      · have hm := qt_i hm c11
        refine z_tableIn (tgt := 100) C dX3_about_32 h1 (by omega) (by omega) (by rw [c11]; rfl) (by decide) ?_
        refine z_aload_n C dX3_about_100 0 rfl ?_
        refine gf_X3_19 C rfl dX3_about_101 ?_
        refine gf_X3_79 C rfl dX3_about_104 ?_
        refine z_iconst (x := 2) C dX3_about_107 rfl ?_
        refine z_aload_n C dX3_about_108 0 rfl ?_
        refine gf_X3_29 C rfl dX3_about_109 ?_
        refine gf_X3_85 C rfl dX3_about_112 ?_
        refine z_imul C dX3_about_115 ?_
        refine z_isub C dX3_about_116 ?_
        exact z_iret C hr (by decide) (by decide) (by cases hm; rfl) dX3_about_117
      have hm := qf_i hm c11
      rcases Classical.em (p1 = 4) with c12 | c12
      · have hm := qt_i hm c12
        refine z_tableIn (tgt := 118) C dX3_about_32 h1 (by omega) (by omega) (by rw [c12]; rfl) (by decide) ?_
        refine z_aload_n C dX3_about_118 0 rfl ?_
        refine gf_X3_29 C rfl dX3_about_119 ?_
        refine gf_X3_88 C rfl dX3_about_122 ?_
        exact z_iret C hr (by decide) (by decide) (by cases hm; rfl) dX3_about_125
      have hm := qf_i hm c12
      rcases Classical.em (p1 = 5) with c13 | c13
      · have hm := qt_i hm c13
        refine z_tableIn (tgt := 126) C dX3_about_32 h1 (by omega) (by omega) (by rw [c13]; rfl) (by decide) ?_
        refine z_aload_n C dX3_about_126 0 rfl ?_
        refine gf_X3_29 C rfl dX3_about_127 ?_
        refine gf_X3_91 C rfl dX3_about_130 ?_
        exact z_iret C hr (by decide) (by decide) (by cases hm; rfl) dX3_about_133
      have hm := qf_i hm c13
      rcases Classical.em (p1 = 6) with c14 | c14
      · have hm := qt_i hm c14
        refine z_tableIn (tgt := 134) C dX3_about_32 h1 (by omega) (by omega) (by rw [c14]; rfl) (by decide) ?_
        refine z_aload_n C dX3_about_134 0 rfl ?_
        refine z_iconst (x := 0) C dX3_about_135 rfl ?_
        obtain ⟨a15, h16, hm⟩ := qb_i hm
        refine iv_X3_94 C (met_X3_countBills l g hl hA n9 a6 0 _ h16) rfl ⟨by decide, by decide⟩ ⟨by decide, by decide⟩ (Nat.le_of_ble_eq_true rfl) dX3_about_136 ?_
        exact z_iret C hr (by decide) (by decide) (by cases hm; rfl) dX3_about_139
      have hm := qf_i hm c14
      refine z_tableOut (tgt := 140) C dX3_about_32 h1 (by omega) (by decide) ?_
      refine z_aload_n C dX3_about_140 0 rfl ?_
      refine z_iconst (x := 1) C dX3_about_141 rfl ?_
      obtain ⟨a17, h18, hm⟩ := qb_i hm
      refine iv_X3_94 C (met_X3_countBills l g hl hA n9 a6 1 _ h18) rfl ⟨by decide, by decide⟩ ⟨by decide, by decide⟩ (Nat.le_of_ble_eq_true rfl) dX3_about_142 ?_
      exact z_iret C hr (by decide) (by decide) (by cases hm; rfl) dX3_about_145
    · have hm := qf_i hm c5
      refine z_sub (L' := []) [] rfl ?_
      exact hj2  hm

set_option maxHeartbeats 4000000 in
set_option maxRecDepth 100000 in
theorem met_X3_demandAxle (l : Launch) (g : qG) (hl : l.stackTraces = false) (hA : qAd g) (n9 : Nat) (S : qS) (p1 : Int) (r : qO) (hm : MX3_demandAxle n9 S p1 = some r) : qM l g yX3_demandAxle (.code yX3_demandAxle cX3_demandAxle 2 none) rmX3_demandAxle qkV [.ref (qad g 0), .int (qI p1)] S r S := by
  rw [MX3_demandAxle] at hm
  refine qM_of (L := [(0, .ref (qad g 0)), (1, .int (qI p1))]) (by decide +kernel) rfl (Nat.le_of_ble_eq_true rfl) hl hA ?_
  intro p e s m below meth c C hr hT
  have C : qC g p l s m ([.ref (qad g 0), .int (qI p1)] : List Value).toArray meth c RX3 cX3_demandAxle 2 := C
  refine z_aload_n C dX3_demandAxle_0 0 rfl ?_
  refine gf_X3_19 C rfl dX3_demandAxle_1 ?_
  refine z_iload_n C dX3_demandAxle_4 1 rfl ?_
  obtain ⟨a1, h2, hm⟩ := qb_i hm
  refine iv_X3_285 C (met_X1_has l g hl hA n9 S 7 p1 _ h2) rfl ⟨by decide, by decide⟩ ⟨by decide, by decide⟩ (Nat.le_of_ble_eq_true rfl) dX3_demandAxle_5 ?_
  obtain ⟨h3, hm⟩ := qg_i hm
  refine z_if_ne (tgt := 22) C dX3_demandAxle_8 (by decide) h3 (fun c4 => ?_) (fun c4 => ?_)
  · have hm := qt_i hm c4
    exact th_ioow C hT (by decide : (288, "no such axle") ∈ qStr) ⟨by decide, Nat.le_of_ble_eq_true rfl⟩ ⟨by decide, by decide⟩ (by decide) (by decide) (by cases hm; rfl) dX3_demandAxle_11 dX3_demandAxle_14 dX3_demandAxle_15 dX3_demandAxle_18 dX3_demandAxle_21
  · have hm := qf_i hm c4
    exact z_vret C hr (by decide) (by decide) (by cases hm; rfl) dX3_demandAxle_22

set_option maxHeartbeats 4000000 in
set_option maxRecDepth 100000 in
theorem met_X3_axle (l : Launch) (g : qG) (hl : l.stackTraces = false) (hA : qAd g) (n9 : Nat) (S : qS) (p1 : Int) (p2 : Int) (r : qO × qS) (hm : MX3_axle n9 S p1 p2 = some r) : qM l g yX3_axle (.code yX3_axle cX3_axle 3 (some .int)) rmX3_axle qkI [.ref (qad g 0), .int (qI p1), .int (qI p2)] S r.1 r.2 := by
  rw [MX3_axle] at hm
  refine qM_of (L := [(0, .ref (qad g 0)), (1, .int (qI p1)), (2, .int (qI p2))]) (by decide +kernel) rfl (Nat.le_of_ble_eq_true rfl) hl hA ?_
  intro p e s m below meth c C hr hT
  have C : qC g p l s m ([.ref (qad g 0), .int (qI p1), .int (qI p2)] : List Value).toArray meth c RX3 cX3_axle 3 := C
  refine z_aload_n C dX3_axle_0 0 rfl ?_
  refine z_iload_n C dX3_axle_1 1 rfl ?_
  obtain ⟨a1, h2, hm⟩ := qb_i hm
  refine iv_X3_98 C (met_X3_demandAxle l g hl hA n9 S p1 _ h2) rfl ⟨by decide, by decide⟩ ⟨by decide, by decide⟩ (Nat.le_of_ble_eq_true rfl) dX3_axle_2 (fun E he => z_thr C hT (by decide) (by decide) (by have hm := qy_l hm he; cases hm; rfl)) (fun v3 h4 => ?_)
  have hm := qy_r hm h4
  refine z_iload_n C dX3_axle_5 2 rfl ?_
  obtain ⟨h5, hm⟩ := qg_i hm
  obtain ⟨j6, e7, hm⟩ := ql_i hm
  have hj6 : j6 = some r → qZ g p l e rmX3_axle s m ([.ref (qad g 0), .int (qI p1), .int (qI p2)] : List Value).toArray below meth c (qQ g below qkI r.1 r.2 ([.ref (qad g 0), .int (qI p1), .int (qI p2)] : List Value).toArray s rmX3_axle) 3 S [] 14 [] 1 6 := by
    intro  hm
    rw [e7] at hm
    exact th_iae C hT (by decide : (102, "no such number of an axle") ∈ qStr) ⟨by decide, Nat.le_of_ble_eq_true rfl⟩ ⟨by decide, by decide⟩ (by decide) (by decide) (by cases hm; rfl) dX3_axle_14 dX3_axle_17 dX3_axle_18 dX3_axle_20 dX3_axle_23
  clear e7
  refine z_if_lt (tgt := 14) C dX3_axle_6 (by decide) h5 (fun c8 => ?_) (fun c8 => ?_)
  · have hm := qt_i hm c8
    refine z_sub (L' := []) [] rfl ?_
    exact hj6  hm
  · have hm := qf_i hm c8
    refine z_iload_n C dX3_axle_9 2 rfl ?_
    refine z_iconst (x := 3) C dX3_axle_10 rfl ?_
    refine z_icmp_le (tgt := 24) C dX3_axle_11 (by decide) ⟨h5, (by decide)⟩ (fun c9 => ?_) (fun c9 => ?_)
    · have hm := qt_i hm c9
      refine z_aload_n C dX3_axle_24 0 rfl ?_
      refine gf_X3_29 C rfl dX3_axle_25 ?_
      refine z_aload_n C dX3_axle_28 0 rfl ?_
      refine gf_X3_19 C rfl dX3_axle_29 ?_
      obtain ⟨a10, h11, hm⟩ := qb_i hm
      refine iv_X3_75 C (met_X0_workOut l g hl hA n9 S 7 _ h11) rfl ⟨by decide, by decide⟩ ⟨by decide, by decide⟩ (Nat.le_of_ble_eq_true rfl) dX3_axle_32 ?_
      refine z_iload_n C dX3_axle_35 2 rfl ?_
      rcases Classical.em (p2 = 0) with c12 | c12
      · have hm := qt_i hm c12
        refine z_tableIn (tgt := 64) C dX3_axle_36 h5 (by omega) (by omega) (by rw [c12]; rfl) (by decide) ?_
        refine z_aload_n C dX3_axle_64 0 rfl ?_
        refine gf_X3_19 C rfl dX3_axle_65 ?_
        refine gf_X3_104 C rfl dX3_axle_68 ?_
        refine z_iload_n C dX3_axle_71 1 rfl ?_
        obtain ⟨a13, h14, hm⟩ := qb_i hm
        refine iv_X3_108 C (met_X3_at l g hl hA n9 a10 (7 + 1) p1 _ h14) ⟨by decide, by decide⟩ ⟨by decide, by decide⟩ (Nat.le_of_ble_eq_true rfl) dX3_axle_72 ?_
        exact z_iret C hr (by decide) (by decide) (by cases hm; rfl) dX3_axle_75
      have hm := qf_i hm c12
      rcases Classical.em (p2 = 1) with c15 | c15
      · have hm := qt_i hm c15
        refine z_tableIn (tgt := 76) C dX3_axle_36 h5 (by omega) (by omega) (by rw [c15]; rfl) (by decide) ?_
        refine z_aload_n C dX3_axle_76 0 rfl ?_
        refine gf_X3_19 C rfl dX3_axle_77 ?_
        refine gf_X3_112 C rfl dX3_axle_80 ?_
        refine z_iload_n C dX3_axle_83 1 rfl ?_
        obtain ⟨a16, h17, hm⟩ := qb_i hm
        refine iv_X3_108 C (met_X3_at l g hl hA n9 a10 (7 + 2) p1 _ h17) ⟨by decide, by decide⟩ ⟨by decide, by decide⟩ (Nat.le_of_ble_eq_true rfl) dX3_axle_84 ?_
        exact z_iret C hr (by decide) (by decide) (by cases hm; rfl) dX3_axle_87
      have hm := qf_i hm c15
      rcases Classical.em (p2 = 2) with c18 | c18
      · have hm := qt_i hm c18
        refine z_tableIn (tgt := 88) C dX3_axle_36 h5 (by omega) (by omega) (by rw [c18]; rfl) (by decide) ?_
        refine z_aload_n C dX3_axle_88 0 rfl ?_
        refine gf_X3_29 C rfl dX3_axle_89 ?_
        refine gf_X3_115 C rfl dX3_axle_92 ?_
        refine z_iload_n C dX3_axle_95 1 rfl ?_
        obtain ⟨a19, h20, hm⟩ := qb_i hm
        refine iv_X3_108 C (met_X3_at l g hl hA n9 a10 21 p1 _ h20) ⟨by decide, by decide⟩ ⟨by decide, by decide⟩ (Nat.le_of_ble_eq_true rfl) dX3_axle_96 ?_
        exact z_iret C hr (by decide) (by decide) (by cases hm; rfl) dX3_axle_99
      have hm := qf_i hm c18
      refine z_tableOut (tgt := 100) C dX3_axle_36 h5 (by omega) (by decide) ?_
      refine z_aload_n C dX3_axle_100 0 rfl ?_
      refine gf_X3_29 C rfl dX3_axle_101 ?_
      refine gf_X3_118 C rfl dX3_axle_104 ?_
      refine z_iload_n C dX3_axle_107 1 rfl ?_
      obtain ⟨a21, h22, hm⟩ := qb_i hm
      refine iv_X3_108 C (met_X3_at l g hl hA n9 a10 22 p1 _ h22) ⟨by decide, by decide⟩ ⟨by decide, by decide⟩ (Nat.le_of_ble_eq_true rfl) dX3_axle_108 ?_
      exact z_iret C hr (by decide) (by decide) (by cases hm; rfl) dX3_axle_111
    · have hm := qf_i hm c9
      refine z_sub (L' := []) [] rfl ?_
      exact hj6  hm

set_option maxHeartbeats 4000000 in
set_option maxRecDepth 100000 in
theorem met_X3_car (l : Launch) (g : qG) (hl : l.stackTraces = false) (hA : qAd g) (n9 : Nat) (S : qS) (p1 : Int) (p2 : Int) (r : qO × qS) (hm : MX3_car n9 S p1 p2 = some r) : qM l g yX3_car (.code yX3_car cX3_car 4 (some .int)) rmX3_car qkI [.ref (qad g 0), .int (qI p1), .int (qI p2)] S r.1 r.2 := by
  rw [MX3_car] at hm
  refine qM_of (L := [(0, .ref (qad g 0)), (1, .int (qI p1)), (2, .int (qI p2))]) (by decide +kernel) rfl (Nat.le_of_ble_eq_true rfl) hl hA ?_
  intro p e s m below meth c C hr hT
  have C : qC g p l s m ([.ref (qad g 0), .int (qI p1), .int (qI p2)] : List Value).toArray meth c RX3 cX3_car 4 := C
  refine z_aload_n C dX3_car_0 0 rfl ?_
  refine gf_X3_29 C rfl dX3_car_1 ?_
  refine z_aload_n C dX3_car_4 0 rfl ?_
  refine gf_X3_19 C rfl dX3_car_5 ?_
  obtain ⟨a1, h2, hm⟩ := qb_i hm
  refine iv_X3_75 C (met_X0_workOut l g hl hA n9 S 7 _ h2) rfl ⟨by decide, by decide⟩ ⟨by decide, by decide⟩ (Nat.le_of_ble_eq_true rfl) dX3_car_8 ?_
  refine z_iload_n C dX3_car_11 1 rfl ?_
  obtain ⟨h3, hm⟩ := qg_i hm
  obtain ⟨j4, e5, hm⟩ := ql_i hm
  have hj4 : j4 = some r → qZ g p l e rmX3_car s m ([.ref (qad g 0), .int (qI p1), .int (qI p2)] : List Value).toArray below meth c (qQ g below qkI r.1 r.2 ([.ref (qad g 0), .int (qI p1), .int (qI p2)] : List Value).toArray s rmX3_car) 4 a1 [] 26 [] 0 0 := by
    intro  hm
    rw [e5] at hm
    exact th_ioo C hT (by decide : (123, "no such car") ∈ qStr) ⟨by decide, Nat.le_of_ble_eq_true rfl⟩ ⟨by decide, by decide⟩ (by decide) (by decide) (by cases hm; rfl) dX3_car_26 dX3_car_29 dX3_car_30 dX3_car_32 dX3_car_35
  clear e5
  refine z_if_lt (tgt := 26) C dX3_car_12 (by decide) h3 (fun c6 => ?_) (fun c6 => ?_)
  · have hm := qt_i hm c6
    refine z_sub (L' := []) [] rfl ?_
    exact hj4  hm
  · have hm := qf_i hm c6
    refine z_iload_n C dX3_car_15 1 rfl ?_
    refine z_aload_n C dX3_car_16 0 rfl ?_
    refine gf_X3_29 C rfl dX3_car_17 ?_
    refine gf_X3_85 C rfl dX3_car_20 ?_
    obtain ⟨h7, hm⟩ := qg_i hm
    refine z_icmp_lt (tgt := 36) C dX3_car_23 (by decide) ⟨h3, h7⟩ (fun c8 => ?_) (fun c8 => ?_)
    · have hm := qt_i hm c8
      refine z_iload_n C dX3_car_36 2 rfl ?_
      obtain ⟨h9, hm⟩ := qg_i hm
      obtain ⟨j10, e11, hm⟩ := ql_i hm
      have hj10 : j10 = some r → qZ g p l e rmX3_car s m ([.ref (qad g 0), .int (qI p1), .int (qI p2)] : List Value).toArray below meth c (qQ g below qkI r.1 r.2 ([.ref (qad g 0), .int (qI p1), .int (qI p2)] : List Value).toArray s rmX3_car) 4 a1 [] 45 [] 0 0 := by
        intro  hm
        rw [e11] at hm
        exact th_iae C hT (by decide : (126, "no such number of a car") ∈ qStr) ⟨by decide, Nat.le_of_ble_eq_true rfl⟩ ⟨by decide, by decide⟩ (by decide) (by decide) (by cases hm; rfl) dX3_car_45 dX3_car_48 dX3_car_49 dX3_car_51 dX3_car_54
      clear e11
      refine z_if_lt (tgt := 45) C dX3_car_37 (by decide) h9 (fun c12 => ?_) (fun c12 => ?_)
      · have hm := qt_i hm c12
        refine z_sub (L' := []) [] rfl ?_
        exact hj10  hm
      · have hm := qf_i hm c12
        refine z_iload_n C dX3_car_40 2 rfl ?_
        refine z_iconst (x := 5) C dX3_car_41 rfl ?_
        refine z_icmp_le (tgt := 55) C dX3_car_42 (by decide) ⟨h9, (by decide)⟩ (fun c13 => ?_) (fun c13 => ?_)
        · have hm := qt_i hm c13
          refine z_aload_n C dX3_car_55 0 rfl ?_
          refine gf_X3_29 C rfl dX3_car_56 ?_
          refine gf_X3_128 C rfl dX3_car_59 ?_
          refine z_iload_n C dX3_car_62 1 rfl ?_
          obtain ⟨a14, h15, hm⟩ := qb_i hm
          refine iv_X3_108 C (met_X3_at l g hl hA n9 a1 23 p1 _ h15) ⟨by decide, by decide⟩ ⟨by decide, by decide⟩ (Nat.le_of_ble_eq_true rfl) dX3_car_63 ?_
          refine z_istore_n (L' := [(3, .int (qI a14)), (0, .ref (qad g 0)), (1, .int (qI p1)), (2, .int (qI p2))]) C dX3_car_66 (by decide) rfl ?_
          refine z_iload_n C dX3_car_67 3 rfl ?_
          rcases Classical.em (p2 = 0) with c16 | c16
          · have hm := qt_i hm c16
            refine z_tableIn (tgt := 104) C dX3_car_68 h9 (by omega) (by omega) (by rw [c16]; rfl) (by decide) ?_
            refine z_iload_n C dX3_car_104 0 rfl ?_
            exact z_iret C hr (by decide) (by decide) (by cases hm; rfl) dX3_car_105
          have hm := qf_i hm c16
          rcases Classical.em (p2 = 1) with c17 | c17
          · have hm := qt_i hm c17
            refine z_tableIn (tgt := 106) C dX3_car_68 h9 (by omega) (by omega) (by rw [c17]; rfl) (by decide) ?_
            refine z_aload_n C dX3_car_106 1 rfl ?_
            refine gf_X3_19 C rfl dX3_car_107 ?_
            refine z_iload_n C dX3_car_110 0 rfl ?_
            obtain ⟨a18, h19, hm⟩ := qb_i hm
            refine iv_X3_131 C (met_X1_carWeight l g hl hA n9 a1 7 a14 _ h19) rfl ⟨by decide, by decide⟩ ⟨by decide, by decide⟩ (Nat.le_of_ble_eq_true rfl) dX3_car_111 ?_
            exact z_iret C hr (by decide) (by decide) (by cases hm; rfl) dX3_car_114
          have hm := qf_i hm c17
          rcases Classical.em (p2 = 2) with c20 | c20
          · have hm := qt_i hm c20
            refine z_tableIn (tgt := 115) C dX3_car_68 h9 (by omega) (by omega) (by rw [c20]; rfl) (by decide) ?_
            refine z_aload_n C dX3_car_115 1 rfl ?_
            refine gf_X3_19 C rfl dX3_car_116 ?_
            refine gf_X3_104 C rfl dX3_car_119 ?_
            refine z_iload_n C dX3_car_122 0 rfl ?_
            refine z_iconst (x := 1) C dX3_car_123 rfl ?_
            refine z_iadd C dX3_car_124 ?_
            obtain ⟨a21, h22, hm⟩ := qb_i hm
            refine iv_X3_108 C (met_X3_at l g hl hA n9 a1 (7 + 1) (a14 + 1) _ h22) ⟨by decide, by decide⟩ ⟨by decide, by decide⟩ (Nat.le_of_ble_eq_true rfl) dX3_car_125 ?_
            exact z_iret C hr (by decide) (by decide) (by cases hm; rfl) dX3_car_128
          have hm := qf_i hm c20
          rcases Classical.em (p2 = 3) with c23 | c23
          · have hm := qt_i hm c23
            refine z_tableIn (tgt := 129) C dX3_car_68 h9 (by omega) (by omega) (by rw [c23]; rfl) (by decide) ?_
            refine z_aload_n C dX3_car_129 1 rfl ?_
            refine gf_X3_19 C rfl dX3_car_130 ?_
            refine z_iload_n C dX3_car_133 0 rfl ?_
            obtain ⟨a24, h25, hm⟩ := qb_i hm
            refine iv_X3_135 C (met_X1_carSpeed l g hl hA n9 a1 7 a14 _ h25) rfl ⟨by decide, by decide⟩ ⟨by decide, by decide⟩ (Nat.le_of_ble_eq_true rfl) dX3_car_134 ?_
            exact z_iret C hr (by decide) (by decide) (by cases hm; rfl) dX3_car_137
          have hm := qf_i hm c23
          rcases Classical.em (p2 = 4) with c26 | c26
          · have hm := qt_i hm c26
            refine z_tableIn (tgt := 138) C dX3_car_68 h9 (by omega) (by omega) (by rw [c26]; rfl) (by decide) ?_
            refine z_aload_n C dX3_car_138 1 rfl ?_
            refine gf_X3_29 C rfl dX3_car_139 ?_
            refine gf_X3_115 C rfl dX3_car_142 ?_
            refine z_iload_n C dX3_car_145 0 rfl ?_
            obtain ⟨a27, h28, hm⟩ := qb_i hm
            refine iv_X3_108 C (met_X3_at l g hl hA n9 a1 21 a14 _ h28) ⟨by decide, by decide⟩ ⟨by decide, by decide⟩ (Nat.le_of_ble_eq_true rfl) dX3_car_146 ?_
            exact z_iret C hr (by decide) (by decide) (by cases hm; rfl) dX3_car_149
          have hm := qf_i hm c26
          refine z_tableOut (tgt := 150) C dX3_car_68 h9 (by omega) (by decide) ?_
          refine z_aload_n C dX3_car_150 1 rfl ?_
          refine gf_X3_29 C rfl dX3_car_151 ?_
          refine z_aload_n C dX3_car_154 1 rfl ?_
          refine gf_X3_19 C rfl dX3_car_155 ?_
          refine z_iload_n C dX3_car_158 2 rfl ?_
          obtain ⟨a29, h30, hm⟩ := qb_i hm
          refine iv_X3_138 C (met_X0_ticksBeforeCar l g hl hA n9 a1 7 p1 _ h30) rfl ⟨by decide, by decide⟩ ⟨by decide, by decide⟩ (Nat.le_of_ble_eq_true rfl) dX3_car_159 ?_
          exact z_iret C hr (by decide) (by decide) (by cases hm; rfl) dX3_car_162
        · have hm := qf_i hm c13
          refine z_sub (L' := []) [] rfl ?_
          exact hj10  hm
    · have hm := qf_i hm c8
      refine z_sub (L' := []) [] rfl ?_
      exact hj4  hm

set_option maxHeartbeats 4000000 in
set_option maxRecDepth 100000 in
theorem met_X3_demandTrain (l : Launch) (g : qG) (hl : l.stackTraces = false) (hA : qAd g) (n9 : Nat) (S : qS) (p1 : Int) (r : qO) (hm : MX3_demandTrain n9 S p1 = some r) : qM l g yX3_demandTrain (.code yX3_demandTrain cX3_demandTrain 2 none) rmX3_demandTrain qkV [.ref (qad g 0), .int (qI p1)] S r S := by
  rw [MX3_demandTrain] at hm
  refine qM_of (L := [(0, .ref (qad g 0)), (1, .int (qI p1))]) (by decide +kernel) rfl (Nat.le_of_ble_eq_true rfl) hl hA ?_
  intro p e s m below meth c C hr hT
  have C : qC g p l s m ([.ref (qad g 0), .int (qI p1)] : List Value).toArray meth c RX3 cX3_demandTrain 2 := C
  refine z_iload_n C dX3_demandTrain_0 1 rfl ?_
  obtain ⟨h1, hm⟩ := qg_i hm
  obtain ⟨j2, e3, hm⟩ := ql_i hm
  have hj2 : j2 = some r → qZ g p l e rmX3_demandTrain s m ([.ref (qad g 0), .int (qI p1)] : List Value).toArray below meth c (qQ g below qkV r S ([.ref (qad g 0), .int (qI p1)] : List Value).toArray s rmX3_demandTrain) 2 S [] 15 [] 0 0 := by
    intro  hm
    rw [e3] at hm
    exact th_ioow C hT (by decide : (290, "no such train") ∈ qStr) ⟨by decide, Nat.le_of_ble_eq_true rfl⟩ ⟨by decide, by decide⟩ (by decide) (by decide) (by cases hm; rfl) dX3_demandTrain_15 dX3_demandTrain_18 dX3_demandTrain_19 dX3_demandTrain_22 dX3_demandTrain_25
  clear e3
  refine z_if_lt (tgt := 15) C dX3_demandTrain_1 (by decide) h1 (fun c4 => ?_) (fun c4 => ?_)
  · have hm := qt_i hm c4
    refine z_sub (L' := []) [] rfl ?_
    exact hj2  hm
  · have hm := qf_i hm c4
    refine z_iload_n C dX3_demandTrain_4 1 rfl ?_
    refine z_aload_n C dX3_demandTrain_5 0 rfl ?_
    refine gf_X3_29 C rfl dX3_demandTrain_6 ?_
    refine gf_X3_82 C rfl dX3_demandTrain_9 ?_
    obtain ⟨h5, hm⟩ := qg_i hm
    refine z_icmp_lt (tgt := 26) C dX3_demandTrain_12 (by decide) ⟨h1, h5⟩ (fun c6 => ?_) (fun c6 => ?_)
    · have hm := qt_i hm c6
      exact z_vret C hr (by decide) (by decide) (by cases hm; rfl) dX3_demandTrain_26
    · have hm := qf_i hm c6
      refine z_sub (L' := []) [] rfl ?_
      exact hj2  hm

set_option maxHeartbeats 4000000 in
set_option maxRecDepth 100000 in
theorem met_X3_billOrNone (l : Launch) (g : qG) (hl : l.stackTraces = false) (hA : qAd g) (n9 : Nat) (S : qS) (p1 : Int) (r : Int) (hm : MX3_billOrNone n9 S p1 = some r) : qM l g yX3_billOrNone (.code yX3_billOrNone cX3_billOrNone 3 (some .int)) rmX3_billOrNone qkI [.ref (qad g 0), .int (qI p1)] S (.inr r) S := by
  rw [MX3_billOrNone] at hm
  refine qM_of (L := [(0, .ref (qad g 0)), (1, .int (qI p1))]) (by decide +kernel) rfl (Nat.le_of_ble_eq_true rfl) hl hA ?_
  intro p e s m below meth c C hr hT
  have C : qC g p l s m ([.ref (qad g 0), .int (qI p1)] : List Value).toArray meth c RX3 cX3_billOrNone 3 := C
  refine z_aload_n C dX3_billOrNone_0 0 rfl ?_
  refine gf_X3_19 C rfl dX3_billOrNone_1 ?_
  refine gf_X3_210 C rfl dX3_billOrNone_4 ?_
  refine z_iload_n C dX3_billOrNone_7 1 rfl ?_
  obtain ⟨a1, h2, hm⟩ := qb_i hm
  refine iv_X3_108 C (met_X3_at l g hl hA n9 S (7 + 3) p1 _ h2) ⟨by decide, by decide⟩ ⟨by decide, by decide⟩ (Nat.le_of_ble_eq_true rfl) dX3_billOrNone_8 ?_
  refine z_istore_n (L' := [(2, .int (qI a1)), (0, .ref (qad g 0)), (1, .int (qI p1))]) C dX3_billOrNone_11 (by decide) rfl ?_
  refine z_iload_n C dX3_billOrNone_12 0 rfl ?_
  obtain ⟨h3, hm⟩ := qg_i hm
  refine z_if_ne (tgt := 20) C dX3_billOrNone_13 (by decide) h3 (fun c4 => ?_) (fun c4 => ?_)
  · have hm := qt_i hm c4
    refine z_iconst (x := (-1)) C dX3_billOrNone_16 rfl ?_
    refine z_goto (tgt := 21) C dX3_billOrNone_17 (by decide) ?_
    exact z_iret C hr (by decide) (by decide) (by cases hm; rfl) dX3_billOrNone_21
  · have hm := qf_i hm c4
    refine z_iload_n C dX3_billOrNone_20 0 rfl ?_
    exact z_iret C hr (by decide) (by decide) (by cases hm; rfl) dX3_billOrNone_21

set_option maxHeartbeats 4000000 in
set_option maxRecDepth 100000 in
theorem met_X3_train (l : Launch) (g : qG) (hl : l.stackTraces = false) (hA : qAd g) (n9 : Nat) (S : qS) (p1 : Int) (p2 : Int) (r : qO × qS) (hm : MX3_train n9 S p1 p2 = some r) : qM l g yX3_train (.code yX3_train cX3_train 3 (some .int)) rmX3_train qkI [.ref (qad g 0), .int (qI p1), .int (qI p2)] S r.1 r.2 := by
  rw [MX3_train] at hm
  refine qM_of (L := [(0, .ref (qad g 0)), (1, .int (qI p1)), (2, .int (qI p2))]) (by decide +kernel) rfl (Nat.le_of_ble_eq_true rfl) hl hA ?_
  intro p e s m below meth c C hr hT
  have C : qC g p l s m ([.ref (qad g 0), .int (qI p1), .int (qI p2)] : List Value).toArray meth c RX3 cX3_train 3 := C
  refine z_aload_n C dX3_train_0 0 rfl ?_
  refine gf_X3_29 C rfl dX3_train_1 ?_
  refine z_aload_n C dX3_train_4 0 rfl ?_
  refine gf_X3_19 C rfl dX3_train_5 ?_
  obtain ⟨a1, h2, hm⟩ := qb_i hm
  refine iv_X3_75 C (met_X0_workOut l g hl hA n9 S 7 _ h2) rfl ⟨by decide, by decide⟩ ⟨by decide, by decide⟩ (Nat.le_of_ble_eq_true rfl) dX3_train_8 ?_
  refine z_aload_n C dX3_train_11 0 rfl ?_
  refine z_iload_n C dX3_train_12 1 rfl ?_
  obtain ⟨a3, h4, hm⟩ := qb_i hm
  refine iv_X3_142 C (met_X3_demandTrain l g hl hA n9 a1 p1 _ h4) rfl ⟨by decide, by decide⟩ ⟨by decide, by decide⟩ (Nat.le_of_ble_eq_true rfl) dX3_train_13 (fun E he => z_thr C hT (by decide) (by decide) (by have hm := qy_l hm he; cases hm; rfl)) (fun v5 h6 => ?_)
  have hm := qy_r hm h6
  refine z_iload_n C dX3_train_16 2 rfl ?_
  obtain ⟨h7, hm⟩ := qg_i hm
  obtain ⟨j8, e9, hm⟩ := ql_i hm
  have hj8 : j8 = some r → qZ g p l e rmX3_train s m ([.ref (qad g 0), .int (qI p1), .int (qI p2)] : List Value).toArray below meth c (qQ g below qkI r.1 r.2 ([.ref (qad g 0), .int (qI p1), .int (qI p2)] : List Value).toArray s rmX3_train) 3 a1 [] 26 [] 1 6 := by
    intro  hm
    rw [e9] at hm
    exact th_iae C hT (by decide : (145, "no such number of a train") ∈ qStr) ⟨by decide, Nat.le_of_ble_eq_true rfl⟩ ⟨by decide, by decide⟩ (by decide) (by decide) (by cases hm; rfl) dX3_train_26 dX3_train_29 dX3_train_30 dX3_train_32 dX3_train_35
  clear e9
  refine z_if_lt (tgt := 26) C dX3_train_17 (by decide) h7 (fun c10 => ?_) (fun c10 => ?_)
  · have hm := qt_i hm c10
    refine z_sub (L' := []) [] rfl ?_
    exact hj8  hm
  · have hm := qf_i hm c10
    refine z_iload_n C dX3_train_20 2 rfl ?_
    refine z_bipush (x := 7) C dX3_train_21 (by decide +kernel) ?_
    refine z_icmp_le (tgt := 36) C dX3_train_23 (by decide) ⟨h7, (by decide)⟩ (fun c11 => ?_) (fun c11 => ?_)
    · have hm := qt_i hm c11
      refine z_iload_n C dX3_train_36 2 rfl ?_
      rcases Classical.em (p2 = 0) with c12 | c12
      · have hm := qt_i hm c12
        refine z_tableIn (tgt := 80) C dX3_train_37 h7 (by omega) (by omega) (by rw [c12]; rfl) (by decide) ?_
        refine z_aload_n C dX3_train_80 0 rfl ?_
        refine gf_X3_29 C rfl dX3_train_81 ?_
        refine gf_X3_147 C rfl dX3_train_84 ?_
        refine z_iload_n C dX3_train_87 1 rfl ?_
        obtain ⟨a13, h14, hm⟩ := qb_i hm
        refine iv_X3_108 C (met_X3_at l g hl hA n9 a1 18 p1 _ h14) ⟨by decide, by decide⟩ ⟨by decide, by decide⟩ (Nat.le_of_ble_eq_true rfl) dX3_train_88 ?_
        exact z_iret C hr (by decide) (by decide) (by cases hm; rfl) dX3_train_91
      have hm := qf_i hm c12
      rcases Classical.em (p2 = 1) with c15 | c15
      · have hm := qt_i hm c15
        refine z_tableIn (tgt := 92) C dX3_train_37 h7 (by omega) (by omega) (by rw [c15]; rfl) (by decide) ?_
        refine z_aload_n C dX3_train_92 0 rfl ?_
        refine gf_X3_29 C rfl dX3_train_93 ?_
        refine z_iload_n C dX3_train_96 1 rfl ?_
        obtain ⟨a16, h17, hm⟩ := qb_i hm
        refine iv_X3_150 C (met_X0_axlesOfTrain l g hl hA n9 a1 p1 _ h17) rfl ⟨by decide, by decide⟩ ⟨by decide, by decide⟩ (Nat.le_of_ble_eq_true rfl) dX3_train_97 ?_
        exact z_iret C hr (by decide) (by decide) (by cases hm; rfl) dX3_train_100
      have hm := qf_i hm c15
      rcases Classical.em (p2 = 2) with c18 | c18
      · have hm := qt_i hm c18
        refine z_tableIn (tgt := 101) C dX3_train_37 h7 (by omega) (by omega) (by rw [c18]; rfl) (by decide) ?_
        refine z_aload_n C dX3_train_101 0 rfl ?_
        refine gf_X3_29 C rfl dX3_train_102 ?_
        refine z_iload_n C dX3_train_105 1 rfl ?_
        obtain ⟨a19, h20, hm⟩ := qb_i hm
        refine iv_X3_153 C (met_X0_carsOfTrain l g hl hA n9 a1 p1 _ h20) rfl ⟨by decide, by decide⟩ ⟨by decide, by decide⟩ (Nat.le_of_ble_eq_true rfl) dX3_train_106 ?_
        exact z_iret C hr (by decide) (by decide) (by cases hm; rfl) dX3_train_109
      have hm := qf_i hm c18
      rcases Classical.em (p2 = 3) with c21 | c21
      · have hm := qt_i hm c21
        refine z_tableIn (tgt := 110) C dX3_train_37 h7 (by omega) (by omega) (by rw [c21]; rfl) (by decide) ?_
        refine z_aload_n C dX3_train_110 0 rfl ?_
        refine gf_X3_29 C rfl dX3_train_111 ?_
        refine z_aload_n C dX3_train_114 0 rfl ?_
        refine gf_X3_19 C rfl dX3_train_115 ?_
        refine z_iload_n C dX3_train_118 1 rfl ?_
        obtain ⟨a22, h23, hm⟩ := qb_i hm
        refine iv_X3_156 C (met_X0_weightOfTrain l g hl hA n9 a1 7 p1 _ h23) rfl ⟨by decide, by decide⟩ ⟨by decide, by decide⟩ (Nat.le_of_ble_eq_true rfl) dX3_train_119 ?_
        exact z_iret C hr (by decide) (by decide) (by cases hm; rfl) dX3_train_122
      have hm := qf_i hm c21
      rcases Classical.em (p2 = 4) with c24 | c24
      · have hm := qt_i hm c24
        refine z_tableIn (tgt := 123) C dX3_train_37 h7 (by omega) (by omega) (by rw [c24]; rfl) (by decide) ?_
        refine z_aload_n C dX3_train_123 0 rfl ?_
        refine gf_X3_29 C rfl dX3_train_124 ?_
        refine gf_X3_159 C rfl dX3_train_127 ?_
        refine z_iload_n C dX3_train_130 1 rfl ?_
        obtain ⟨a25, h26, hm⟩ := qb_i hm
        refine iv_X3_108 C (met_X3_at l g hl hA n9 a1 20 p1 _ h26) ⟨by decide, by decide⟩ ⟨by decide, by decide⟩ (Nat.le_of_ble_eq_true rfl) dX3_train_131 ?_
        exact z_iret C hr (by decide) (by decide) (by cases hm; rfl) dX3_train_134
      have hm := qf_i hm c24
      rcases Classical.em (p2 = 5) with c27 | c27
      · have hm := qt_i hm c27
        refine z_tableIn (tgt := 135) C dX3_train_37 h7 (by omega) (by omega) (by rw [c27]; rfl) (by decide) ?_
        refine z_aload_n C dX3_train_135 0 rfl ?_
        refine gf_X3_29 C rfl dX3_train_136 ?_
        refine z_aload_n C dX3_train_139 0 rfl ?_
        refine gf_X3_19 C rfl dX3_train_140 ?_
        refine z_iload_n C dX3_train_143 1 rfl ?_
        obtain ⟨a28, h29, hm⟩ := qb_i hm
        refine iv_X3_162 C (met_X0_greatestWeight l g hl hA n9 a1 7 p1 _ h29) rfl ⟨by decide, by decide⟩ ⟨by decide, by decide⟩ (Nat.le_of_ble_eq_true rfl) dX3_train_144 ?_
        exact z_iret C hr (by decide) (by decide) (by cases hm; rfl) dX3_train_147
      have hm := qf_i hm c27
      rcases Classical.em (p2 = 6) with c30 | c30
      · have hm := qt_i hm c30
        refine z_tableIn (tgt := 148) C dX3_train_37 h7 (by omega) (by omega) (by rw [c30]; rfl) (by decide) ?_
        refine z_aload_n C dX3_train_148 0 rfl ?_
        refine gf_X3_29 C rfl dX3_train_149 ?_
        refine z_aload_n C dX3_train_152 0 rfl ?_
        refine gf_X3_19 C rfl dX3_train_153 ?_
        refine z_iload_n C dX3_train_156 1 rfl ?_
        obtain ⟨a31, h32, hm⟩ := qb_i hm
        refine iv_X3_165 C (met_X0_speedDifference l g hl hA n9 a1 7 p1 _ h32) rfl ⟨by decide, by decide⟩ ⟨by decide, by decide⟩ (Nat.le_of_ble_eq_true rfl) dX3_train_157 ?_
        exact z_iret C hr (by decide) (by decide) (by cases hm; rfl) dX3_train_160
      have hm := qf_i hm c30
      refine z_tableOut (tgt := 161) C dX3_train_37 h7 (by omega) (by decide) ?_
      refine z_aload_n C dX3_train_161 0 rfl ?_
      refine z_iload_n C dX3_train_162 1 rfl ?_
      obtain ⟨a33, h34, hm⟩ := qb_i hm
      refine iv_X3_168 C (met_X3_billOrNone l g hl hA n9 a1 p1 _ h34) rfl ⟨by decide, by decide⟩ ⟨by decide, by decide⟩ (Nat.le_of_ble_eq_true rfl) dX3_train_163 ?_
      exact z_iret C hr (by decide) (by decide) (by cases hm; rfl) dX3_train_166
    · have hm := qf_i hm c11
      refine z_sub (L' := []) [] rfl ?_
      exact hj8  hm

set_option maxHeartbeats 4000000 in
set_option maxRecDepth 100000 in
theorem met_X3_setting (l : Launch) (g : qG) (hl : l.stackTraces = false) (hA : qAd g) (n9 : Nat) (S : qS) (p1 : Int) (r : qO) (hm : MX3_setting n9 S p1 = some r) : qM l g yX3_setting (.code yX3_setting cX3_setting 2 (some .int)) rmX3_setting qkI [.ref (qad g 0), .int (qI p1)] S r S := by
  rw [MX3_setting] at hm
  refine qM_of (L := [(0, .ref (qad g 0)), (1, .int (qI p1))]) (by decide +kernel) rfl (Nat.le_of_ble_eq_true rfl) hl hA ?_
  intro p e s m below meth c C hr hT
  have C : qC g p l s m ([.ref (qad g 0), .int (qI p1)] : List Value).toArray meth c RX3 cX3_setting 2 := C
  refine z_iload_n C dX3_setting_0 1 rfl ?_
  obtain ⟨a1, h2, hm⟩ := qb_i hm
  refine iv_X3_171 C (met_X3_isSetting l g hl hA n9 S p1 _ h2) ⟨by decide, by decide⟩ ⟨by decide, by decide⟩ (Nat.le_of_ble_eq_true rfl) dX3_setting_1 ?_
  obtain ⟨h3, hm⟩ := qg_i hm
  refine z_if_ne (tgt := 17) C dX3_setting_4 (by decide) h3 (fun c4 => ?_) (fun c4 => ?_)
  · have hm := qt_i hm c4
    exact th_iae C hT (by decide : (174, "no such setting") ∈ qStr) ⟨by decide, Nat.le_of_ble_eq_true rfl⟩ ⟨by decide, by decide⟩ (by decide) (by decide) (by cases hm; rfl) dX3_setting_7 dX3_setting_10 dX3_setting_11 dX3_setting_13 dX3_setting_16
  · have hm := qf_i hm c4
    refine z_aload_n C dX3_setting_17 0 rfl ?_
    refine gf_X3_19 C rfl dX3_setting_18 ?_
    refine gf_X3_176 C rfl dX3_setting_21 ?_
    refine z_iload_n C dX3_setting_24 1 rfl ?_
    obtain ⟨a5, h6, hm⟩ := qb_i hm
    refine iv_X3_108 C (met_X3_at l g hl hA n9 S (7 + 4) p1 _ h6) ⟨by decide, by decide⟩ ⟨by decide, by decide⟩ (Nat.le_of_ble_eq_true rfl) dX3_setting_25 ?_
    exact z_iret C hr (by decide) (by decide) (by cases hm; rfl) dX3_setting_28

set_option maxHeartbeats 4000000 in
set_option maxRecDepth 100000 in
theorem met_X3_copy_l61 {g : qG} {p : Program} {l : Launch} {e : Env} {s : State} {m : MethodId} {args : Array Value} {below : List Frame} {meth : Method} {c : Code} (C : qC g p l s m args meth c RX3 cX3_copy 3) (hr : meth.sig.returnType = none) (hT : ∀ x ∈ c.exceptionTable.toList, False) (u0 : Nat) (u1 : Nat) {r : qS} (k87 : qS → Option (qS)) (hq0 : qk u0 = 2) (hq1 : qk u1 = 2) (hk87 : ∀ (y1 : qS), k87 y1 = some r → qZ g p l e rmX3_copy s m args below meth c (qQ g below qkV (.inr 0) r args s rmX3_copy) 3 y1 [(0, .ref (qad g u0)), (1, .ref (qad g u1))] 87 [] 0 0) : ∀ (f : Nat) (S8 : qS) (x9 : Int), MX3_copy_l61 u0 u1 k87 f S8 x9 = some r → qZ g p l e rmX3_copy s m args below meth c (qQ g below qkV (.inr 0) r args s rmX3_copy) 3 S8 [(0, .ref (qad g u0)), (1, .ref (qad g u1)), (2, .int (qI x9))] 61 [] 0 0 := by
  intro f
  induction f with
  | zero => intro S8 x9 hm; rw [MX3_copy_l61] at hm; cases hm
  | succ f ih =>
    intro S8 x9 hm
    rw [MX3_copy_l61] at hm
    have hl := C.2.2.2.2.2.2.2.2
    have hA := C.2.2.2.2.2.2.1
    refine z_iload_n C dX3_copy_61 2 rfl ?_
    refine z_gs0 C qsl_297 dX3_copy_62 ?_
    refine z_tl0 C dX3_copy_65 ?_
    obtain ⟨h10, hm⟩ := qg_i hm
    refine z_icmp_ge (tgt := 87) C dX3_copy_66 (by decide) ⟨h10, (by decide)⟩ (fun c11 => ?_) (fun c11 => ?_)
    · have hm := qt_i hm c11
      refine z_sub (L' := [(0, .ref (qad g u0)), (1, .ref (qad g u1))]) [0, 1] rfl ?_
      exact hk87 S8 hm
    · have hm := qf_i hm c11
      refine z_aload_n C dX3_copy_69 1 rfl ?_
      refine gf_X3_176 C hq1 dX3_copy_70 ?_
      refine z_iload_n C dX3_copy_73 2 rfl ?_
      refine z_aload_n C dX3_copy_74 0 rfl ?_
      refine gf_X3_176 C hq0 dX3_copy_75 ?_
      refine z_iload_n C dX3_copy_78 2 rfl ?_
      obtain ⟨h12, hm⟩ := qg_i hm
      refine z_iald (N := 4) C (qk_rec hq0).2.2.2 h12 (by decide) dX3_copy_79 ?_
      obtain ⟨h13, hm⟩ := qg_i hm
      refine z_iast (N := 4) C (qk_rec hq1).2.2.2 h13 (by decide) dX3_copy_80 ?_
      obtain ⟨S14, e15, hm⟩ := ql_i hm
      refine z_S e15 ?_
      refine z_iinc (L' := [(2, .int (qI (x9 + 1))), (0, .ref (qad g u0)), (1, .ref (qad g u1))]) C dX3_copy_81 2 rfl (by decide) rfl ?_
      refine z_goto (tgt := 61) C dX3_copy_84 (by decide) ?_
      refine z_sub (L' := [(0, .ref (qad g u0)), (1, .ref (qad g u1)), (2, .int (qI (x9 + 1)))]) [1, 2, 0] rfl ?_
      exact ih S14 (x9 + 1) hm

set_option maxHeartbeats 4000000 in
set_option maxRecDepth 100000 in
theorem met_X3_copy_l11 {g : qG} {p : Program} {l : Launch} {e : Env} {s : State} {m : MethodId} {args : Array Value} {below : List Frame} {meth : Method} {c : Code} (C : qC g p l s m args meth c RX3 cX3_copy 3) (hr : meth.sig.returnType = none) (hT : ∀ x ∈ c.exceptionTable.toList, False) (u0 : Nat) (u1 : Nat) {r : qS} (k59 : qS → Option (qS)) (hq0 : qk u0 = 2) (hq1 : qk u1 = 2) (hk59 : ∀ (y1 : qS), k59 y1 = some r → qZ g p l e rmX3_copy s m args below meth c (qQ g below qkV (.inr 0) r args s rmX3_copy) 3 y1 [(0, .ref (qad g u0)), (1, .ref (qad g u1))] 59 [] 0 0) : ∀ (f : Nat) (S17 : qS) (x18 : Int), MX3_copy_l11 u0 u1 k59 f S17 x18 = some r → qZ g p l e rmX3_copy s m args below meth c (qQ g below qkV (.inr 0) r args s rmX3_copy) 3 S17 [(0, .ref (qad g u0)), (1, .ref (qad g u1)), (2, .int (qI x18))] 11 [] 0 0 := by
  intro f
  induction f with
  | zero => intro S17 x18 hm; rw [MX3_copy_l11] at hm; cases hm
  | succ f ih =>
    intro S17 x18 hm
    rw [MX3_copy_l11] at hm
    have hl := C.2.2.2.2.2.2.2.2
    have hA := C.2.2.2.2.2.2.1
    refine z_iload_n C dX3_copy_11 2 rfl ?_
    refine z_bipush (x := 30) C dX3_copy_12 (by decide +kernel) ?_
    obtain ⟨h19, hm⟩ := qg_i hm
    refine z_icmp_ge (tgt := 59) C dX3_copy_14 (by decide) ⟨h19, (by decide)⟩ (fun c20 => ?_) (fun c20 => ?_)
    · have hm := qt_i hm c20
      refine z_sub (L' := [(0, .ref (qad g u0)), (1, .ref (qad g u1))]) [0, 1] rfl ?_
      exact hk59 S17 hm
    · have hm := qf_i hm c20
      refine z_aload_n C dX3_copy_17 1 rfl ?_
      refine gf_X3_104 C hq1 dX3_copy_18 ?_
      refine z_iload_n C dX3_copy_21 2 rfl ?_
      refine z_aload_n C dX3_copy_22 0 rfl ?_
      refine gf_X3_104 C hq0 dX3_copy_23 ?_
      refine z_iload_n C dX3_copy_26 2 rfl ?_
      obtain ⟨h21, hm⟩ := qg_i hm
      refine z_iald (N := 30) C (qk_rec hq0).1 h21 (by decide) dX3_copy_27 ?_
      obtain ⟨h22, hm⟩ := qg_i hm
      refine z_iast (N := 30) C (qk_rec hq1).1 h22 (by decide) dX3_copy_28 ?_
      obtain ⟨S23, e24, hm⟩ := ql_i hm
      refine z_S e24 ?_
      refine z_aload_n C dX3_copy_29 1 rfl ?_
      refine gf_X3_112 C hq1 dX3_copy_30 ?_
      refine z_iload_n C dX3_copy_33 2 rfl ?_
      refine z_aload_n C dX3_copy_34 0 rfl ?_
      refine gf_X3_112 C hq0 dX3_copy_35 ?_
      refine z_iload_n C dX3_copy_38 2 rfl ?_
      obtain ⟨h25, hm⟩ := qg_i hm
      refine z_iald (N := 30) C (qk_rec hq0).2.1 h25 (by decide) dX3_copy_39 ?_
      obtain ⟨h26, hm⟩ := qg_i hm
      refine z_iast (N := 30) C (qk_rec hq1).2.1 h26 (by decide) dX3_copy_40 ?_
      obtain ⟨S27, e28, hm⟩ := ql_i hm
      refine z_S e28 ?_
      refine z_aload_n C dX3_copy_41 1 rfl ?_
      refine gf_X3_210 C hq1 dX3_copy_42 ?_
      refine z_iload_n C dX3_copy_45 2 rfl ?_
      refine z_aload_n C dX3_copy_46 0 rfl ?_
      refine gf_X3_210 C hq0 dX3_copy_47 ?_
      refine z_iload_n C dX3_copy_50 2 rfl ?_
      obtain ⟨h29, hm⟩ := qg_i hm
      refine z_iald (N := 30) C (qk_rec hq0).2.2.1 h29 (by decide) dX3_copy_51 ?_
      obtain ⟨h30, hm⟩ := qg_i hm
      refine z_iast (N := 30) C (qk_rec hq1).2.2.1 h30 (by decide) dX3_copy_52 ?_
      obtain ⟨S31, e32, hm⟩ := ql_i hm
      refine z_S e32 ?_
      refine z_iinc (L' := [(2, .int (qI (x18 + 1))), (0, .ref (qad g u0)), (1, .ref (qad g u1))]) C dX3_copy_53 2 rfl (by decide) rfl ?_
      refine z_goto (tgt := 11) C dX3_copy_56 (by decide) ?_
      refine z_sub (L' := [(0, .ref (qad g u0)), (1, .ref (qad g u1)), (2, .int (qI (x18 + 1)))]) [1, 2, 0] rfl ?_
      exact ih S31 (x18 + 1) hm

set_option maxHeartbeats 4000000 in
set_option maxRecDepth 100000 in
theorem met_X3_copy (l : Launch) (g : qG) (hl : l.stackTraces = false) (hA : qAd g) (n9 : Nat) (S : qS) (u0 : Nat) (u1 : Nat) (r : qS) (hm : MX3_copy n9 S u0 u1 = some r) : qM l g yX3_copy (.code yX3_copy cX3_copy 3 none) rmX3_copy qkV [.ref (qad g u0), .ref (qad g u1)] S (.inr 0) r := by
  rw [MX3_copy] at hm
  obtain ⟨hq0, hm⟩ := qg_i hm
  obtain ⟨hq1, hm⟩ := qg_i hm
  refine qM_of (L := [(0, .ref (qad g u0)), (1, .ref (qad g u1))]) (by decide +kernel) rfl (Nat.le_of_ble_eq_true rfl) hl hA ?_
  intro p e s m below meth c C hr hT
  have C : qC g p l s m ([.ref (qad g u0), .ref (qad g u1)] : List Value).toArray meth c RX3 cX3_copy 3 := C
  refine z_aload_n C dX3_copy_0 0 rfl ?_
  refine z_ifnull C dX3_copy_1 ?_
  refine z_aload_n C dX3_copy_4 1 rfl ?_
  refine z_ifnonnull (tgt := 9) C dX3_copy_5 (by decide) ?_
  refine z_iconst (x := 0) C dX3_copy_9 rfl ?_
  refine z_istore_n (L' := [(2, .int (qI 0)), (0, .ref (qad g u0)), (1, .ref (qad g u1))]) C dX3_copy_10 (by decide) rfl ?_
  obtain ⟨j2, e16, hm⟩ := ql_i hm
  have hj2 : ∀ (S1 : qS), j2 S1 = some r → qZ g p l e rmX3_copy s m ([.ref (qad g u0), .ref (qad g u1)] : List Value).toArray below meth c (qQ g below qkV (.inr 0) r ([.ref (qad g u0), .ref (qad g u1)] : List Value).toArray s rmX3_copy) 3 S1 [(0, .ref (qad g u0)), (1, .ref (qad g u1))] 59 [] 0 0 := by
    intro S1 hm
    rw [e16] at hm
    refine z_iconst (x := 0) C dX3_copy_59 rfl ?_
    refine z_istore_n (L' := [(2, .int (qI 0)), (0, .ref (qad g u0)), (1, .ref (qad g u1))]) C dX3_copy_60 (by decide) rfl ?_
    obtain ⟨j4, e7, hm⟩ := ql_i hm
    have hj4 : ∀ (S3 : qS), j4 S3 = some r → qZ g p l e rmX3_copy s m ([.ref (qad g u0), .ref (qad g u1)] : List Value).toArray below meth c (qQ g below qkV (.inr 0) r ([.ref (qad g u0), .ref (qad g u1)] : List Value).toArray s rmX3_copy) 3 S3 [(0, .ref (qad g u0)), (1, .ref (qad g u1))] 87 [] 0 0 := by
      intro S3 hm
      rw [e7] at hm
      refine z_aload_n C dX3_copy_87 1 rfl ?_
      refine z_aload_n C dX3_copy_88 0 rfl ?_
      refine gf_X3_79 C hq0 dX3_copy_89 ?_
      refine pf_X3_79 C hq1 dX3_copy_92 ?_
      obtain ⟨S5, e6, hm⟩ := ql_i hm
      refine z_S e6 ?_
      exact z_vret C hr (by decide) (by decide) (by cases hm; rfl) dX3_copy_95
    clear e7
    refine z_sub (L' := [(0, .ref (qad g u0)), (1, .ref (qad g u1)), (2, .int (qI 0))]) [1, 2, 0] rfl ?_
    exact met_X3_copy_l61 C hr hT u0 u1 j4 hq0 hq1 hj4 n9 S1 0 hm
  clear e16
  refine z_sub (L' := [(0, .ref (qad g u0)), (1, .ref (qad g u1)), (2, .int (qI 0))]) [1, 2, 0] rfl ?_
  exact met_X3_copy_l11 C hr hT u0 u1 j2 hq0 hq1 hj2 n9 S 0 hm

set_option maxHeartbeats 4000000 in
set_option maxRecDepth 100000 in
theorem met_X3_remember (l : Launch) (g : qG) (hl : l.stackTraces = false) (hA : qAd g) (n9 : Nat) (S : qS) (r : qS) (hm : MX3_remember n9 S  = some r) : qM l g yX3_remember (.code yX3_remember cX3_remember 1 none) rmX3_remember qkV [.ref (qad g 0)] S (.inr 0) r := by
  rw [MX3_remember] at hm
  refine qM_of (L := [(0, .ref (qad g 0))]) (by decide +kernel) rfl (Nat.le_of_ble_eq_true rfl) hl hA ?_
  intro p e s m below meth c C hr hT
  have C : qC g p l s m ([.ref (qad g 0)] : List Value).toArray meth c RX3 cX3_remember 1 := C
  refine z_aload_n C dX3_remember_0 0 rfl ?_
  refine gf_X3_19 C rfl dX3_remember_1 ?_
  refine z_aload_n C dX3_remember_4 0 rfl ?_
  refine gf_X3_33 C rfl dX3_remember_5 ?_
  refine z_aload_n C dX3_remember_8 0 rfl ?_
  refine gf_X3_232 C rfl dX3_remember_9 ?_
  obtain ⟨h1, hm⟩ := qg_i hm
  refine z_ast C rfl h1 dX3_remember_12 ?_
  obtain ⟨a2, h3, hm⟩ := qb_i hm
  refine iv_X3_235 C (met_X3_copy l g hl hA n9 S 7 (30 + 5 * (S 0 7).toNat) _ h3) ⟨by decide, by decide⟩ ⟨by decide, by decide⟩ (Nat.le_of_ble_eq_true rfl) dX3_remember_13 ?_
  refine z_aload_n C dX3_remember_16 0 rfl ?_
  refine z_aload_n C dX3_remember_17 0 rfl ?_
  refine gf_X3_232 C rfl dX3_remember_18 ?_
  refine z_iconst (x := 1) C dX3_remember_21 rfl ?_
  refine z_iadd C dX3_remember_22 ?_
  refine z_bipush (x := 14) C dX3_remember_23 (by decide +kernel) ?_
  obtain ⟨h4, hm⟩ := qg_i hm
  refine z_irem C dX3_remember_25 h4 ?_
  refine pf_X3_232 C rfl dX3_remember_26 ?_
  obtain ⟨S5, e6, hm⟩ := ql_i hm
  refine z_S e6 ?_
  refine z_aload_n C dX3_remember_29 0 rfl ?_
  refine z_aload_n C dX3_remember_30 0 rfl ?_
  refine gf_X3_227 C rfl dX3_remember_31 ?_
  refine z_iconst (x := 1) C dX3_remember_34 rfl ?_
  refine z_iadd C dX3_remember_35 ?_
  refine z_bipush (x := 14) C dX3_remember_36 (by decide +kernel) ?_
  obtain ⟨h7, hm⟩ := qg_i hm
  refine iv_X3_250 C ⟨by decide, Nat.le_of_ble_eq_true rfl⟩ ⟨by decide, by decide⟩ ⟨h7, (by decide)⟩ dX3_remember_38 ?_
  refine pf_X3_227 C rfl dX3_remember_41 ?_
  obtain ⟨S8, e9, hm⟩ := ql_i hm
  refine z_S e9 ?_
  exact z_vret C hr (by decide) (by decide) (by cases hm; rfl) dX3_remember_44

set_option maxHeartbeats 4000000 in
set_option maxRecDepth 100000 in
theorem met_X3_roll (l : Launch) (g : qG) (hl : l.stackTraces = false) (hA : qAd g) (n9 : Nat) (S : qS) (p1 : Int) (p2 : Int) (r : qO × qS) (hm : MX3_roll n9 S p1 p2 = some r) : qM l g yX3_roll (.code yX3_roll cX3_roll 3 (some .int)) rmX3_roll qkI [.ref (qad g 0), .int (qI p1), .int (qI p2)] S r.1 r.2 := by
  rw [MX3_roll] at hm
  refine qM_of (L := [(0, .ref (qad g 0)), (1, .int (qI p1)), (2, .int (qI p2))]) (by decide +kernel) rfl (Nat.le_of_ble_eq_true rfl) hl hA ?_
  intro p e s m below meth c C hr hT
  have C : qC g p l s m ([.ref (qad g 0), .int (qI p1), .int (qI p2)] : List Value).toArray meth c RX3 cX3_roll 3 := C
  refine z_iload_n C dX3_roll_0 1 rfl ?_
  obtain ⟨a1, h2, hm⟩ := qb_i hm
  refine iv_X3_179 C (met_X3_isPause l g hl hA n9 S p1 _ h2) ⟨by decide, by decide⟩ ⟨by decide, by decide⟩ (Nat.le_of_ble_eq_true rfl) dX3_roll_1 ?_
  obtain ⟨h3, hm⟩ := qg_i hm
  obtain ⟨j4, e5, hm⟩ := ql_i hm
  have hj4 : j4 = some r → qZ g p l e rmX3_roll s m ([.ref (qad g 0), .int (qI p1), .int (qI p2)] : List Value).toArray below meth c (qQ g below qkI r.1 r.2 ([.ref (qad g 0), .int (qI p1), .int (qI p2)] : List Value).toArray s rmX3_roll) 3 S [] 14 [] 0 0 := by
    intro  hm
    rw [e5] at hm
    exact th_iae C hT (by decide : (185, "no such pause or weight") ∈ qStr) ⟨by decide, Nat.le_of_ble_eq_true rfl⟩ ⟨by decide, by decide⟩ (by decide) (by decide) (by cases hm; rfl) dX3_roll_14 dX3_roll_17 dX3_roll_18 dX3_roll_20 dX3_roll_23
  clear e5
  refine z_if_eq (tgt := 14) C dX3_roll_4 (by decide) h3 (fun c6 => ?_) (fun c6 => ?_)
  · have hm := qt_i hm c6
    refine z_sub (L' := []) [] rfl ?_
    exact hj4  hm
  · have hm := qf_i hm c6
    refine z_iload_n C dX3_roll_7 2 rfl ?_
    obtain ⟨a7, h8, hm⟩ := qb_i hm
    refine iv_X3_182 C (met_X3_isWeight l g hl hA n9 S p2 _ h8) ⟨by decide, by decide⟩ ⟨by decide, by decide⟩ (Nat.le_of_ble_eq_true rfl) dX3_roll_8 ?_
    obtain ⟨h9, hm⟩ := qg_i hm
    refine z_if_ne (tgt := 24) C dX3_roll_11 (by decide) h9 (fun c10 => ?_) (fun c10 => ?_)
    · have hm := qt_i hm c10
      refine z_sub (L' := []) [] rfl ?_
      exact hj4  hm
    · have hm := qf_i hm c10
      refine z_aload_n C dX3_roll_24 0 rfl ?_
      refine gf_X3_19 C rfl dX3_roll_25 ?_
      refine gf_X3_79 C rfl dX3_roll_28 ?_
      refine z_bipush (x := 30) C dX3_roll_31 (by decide +kernel) ?_
      obtain ⟨h11, hm⟩ := qg_i hm
      refine z_icmp_lt (tgt := 46) C dX3_roll_33 (by decide) ⟨h11, (by decide)⟩ (fun c12 => ?_) (fun c12 => ?_)
      · have hm := qt_i hm c12
        refine z_aload_n C dX3_roll_46 0 rfl ?_
        obtain ⟨a13, h14, hm⟩ := qb_i hm
        refine iv_X3_189 C (met_X3_remember l g hl hA n9 S  _ h14) rfl ⟨by decide, by decide⟩ ⟨by decide, by decide⟩ (Nat.le_of_ble_eq_true rfl) dX3_roll_47 ?_
        refine z_aload_n C dX3_roll_50 0 rfl ?_
        refine gf_X3_19 C rfl dX3_roll_51 ?_
        refine z_iload_n C dX3_roll_54 1 rfl ?_
        refine z_iload_n C dX3_roll_55 2 rfl ?_
        obtain ⟨a15, h16, hm⟩ := qb_i hm
        refine iv_X3_192 C (met_X1_addAxle l g hl hA n9 a13 7 p1 p2 _ h16) rfl ⟨by decide, by decide⟩ ⟨by decide, by decide⟩ (Nat.le_of_ble_eq_true rfl) dX3_roll_56 ?_
        refine z_pop C dX3_roll_59 rfl ?_
        refine z_aload_n C dX3_roll_60 0 rfl ?_
        refine gf_X3_19 C rfl dX3_roll_61 ?_
        refine gf_X3_79 C rfl dX3_roll_64 ?_
        refine z_iconst (x := 1) C dX3_roll_67 rfl ?_
        refine z_isub C dX3_roll_68 ?_
        exact z_iret C hr (by decide) (by decide) (by cases hm; rfl) dX3_roll_69
      · have hm := qf_i hm c12
        exact th_ise C hT (by decide : (187, "there are 30 axles") ∈ qStr) ⟨by decide, Nat.le_of_ble_eq_true rfl⟩ ⟨by decide, by decide⟩ (by decide) (by decide) (by cases hm; rfl) dX3_roll_36 dX3_roll_39 dX3_roll_40 dX3_roll_42 dX3_roll_45

set_option maxHeartbeats 4000000 in
set_option maxRecDepth 100000 in
theorem met_X3_record_l54 {g : qG} {p : Program} {l : Launch} {e : Env} {s : State} {m : MethodId} {args : Array Value} {below : List Frame} {meth : Method} {c : Code} (C : qC g p l s m args meth c RX3 cX3_record 2) (hr : meth.sig.returnType = (some .int)) (hT : ∀ x ∈ c.exceptionTable.toList, False) (n9 : Nat) {r : qO × qS} (k103 : qS → Option (qO × qS)) (hk103 : ∀ (y1 : qS), k103 y1 = some r → qZ g p l e rmX3_record s m args below meth c (qQ g below qkI r.1 r.2 args s rmX3_record) 2 y1 [(0, .ref (qad g 0))] 103 [] 0 0) : ∀ (f : Nat) (S14 : qS) (x15 : Int), MX3_record_l54 n9 k103 f S14 x15 = some r → qZ g p l e rmX3_record s m args below meth c (qQ g below qkI r.1 r.2 args s rmX3_record) 2 S14 [(0, .ref (qad g 0)), (1, .int (qI x15))] 54 [] 0 0 := by
  intro f
  induction f with
  | zero => intro S14 x15 hm; rw [MX3_record_l54] at hm; cases hm
  | succ f ih =>
    intro S14 x15 hm
    rw [MX3_record_l54] at hm
    have hl := C.2.2.2.2.2.2.2.2
    have hA := C.2.2.2.2.2.2.1
    refine z_iload_n C dX3_record_54 1 rfl ?_
    refine z_aload_n C dX3_record_55 0 rfl ?_
    refine gf_X3_10 C rfl dX3_record_56 ?_
    refine gf_X3_70 C rfl dX3_record_59 ?_
    obtain ⟨h16, hm⟩ := qg_i hm
    obtain ⟨h17, hm⟩ := qg_i hm
    refine z_icmp_ge (tgt := 103) C dX3_record_62 (by decide) ⟨h16, h17⟩ (fun c18 => ?_) (fun c18 => ?_)
    · have hm := qt_i hm c18
      refine z_sub (L' := [(0, .ref (qad g 0))]) [0] rfl ?_
      exact hk103 S14 hm
    · have hm := qf_i hm c18
      refine z_iload_n C dX3_record_65 1 rfl ?_
      refine z_bipush (x := 30) C dX3_record_66 (by decide +kernel) ?_
      refine z_icmp_ge (tgt := 103) C dX3_record_68 (by decide) ⟨h16, (by decide)⟩ (fun c19 => ?_) (fun c19 => ?_)
      · have hm := qt_i hm c19
        refine z_sub (L' := [(0, .ref (qad g 0))]) [0] rfl ?_
        exact hk103 S14 hm
      · have hm := qf_i hm c19
        refine z_aload_n C dX3_record_71 0 rfl ?_
        refine gf_X3_19 C rfl dX3_record_72 ?_
        refine z_aload_n C dX3_record_75 0 rfl ?_
        refine gf_X3_10 C rfl dX3_record_76 ?_
        refine gf_X3_198 C rfl dX3_record_79 ?_
        refine z_iload_n C dX3_record_82 1 rfl ?_
        obtain ⟨h20, hm⟩ := qg_i hm
        refine z_iald (N := 30) C rfl h20 (by decide) dX3_record_83 ?_
        refine z_aload_n C dX3_record_84 0 rfl ?_
        refine gf_X3_10 C rfl dX3_record_85 ?_
        refine gf_X3_199 C rfl dX3_record_88 ?_
        refine z_iload_n C dX3_record_91 1 rfl ?_
        obtain ⟨h21, hm⟩ := qg_i hm
        refine z_iald (N := 30) C rfl h21 (by decide) dX3_record_92 ?_
        obtain ⟨a22, h23, hm⟩ := qb_i hm
        refine iv_X3_192 C (met_X1_addAxle l g hl hA n9 S14 7 (S14 3 x15.toNat) (S14 4 x15.toNat) _ h23) rfl ⟨by decide, by decide⟩ ⟨by decide, by decide⟩ (Nat.le_of_ble_eq_true rfl) dX3_record_93 ?_
        refine z_pop C dX3_record_96 rfl ?_
        refine z_iinc (L' := [(1, .int (qI (x15 + 1))), (0, .ref (qad g 0))]) C dX3_record_97 1 rfl (by decide) rfl ?_
        refine z_goto (tgt := 54) C dX3_record_100 (by decide) ?_
        refine z_sub (L' := [(0, .ref (qad g 0)), (1, .int (qI (x15 + 1)))]) [1, 0] rfl ?_
        exact ih a22.2 (x15 + 1) hm

set_option maxHeartbeats 4000000 in
set_option maxRecDepth 100000 in
theorem met_X3_record (l : Launch) (g : qG) (hl : l.stackTraces = false) (hA : qAd g) (n9 : Nat) (S : qS) (r : qO × qS) (hm : MX3_record n9 S  = some r) : qM l g yX3_record (.code yX3_record cX3_record 2 (some .int)) rmX3_record qkI [.ref (qad g 0)] S r.1 r.2 := by
  rw [MX3_record] at hm
  refine qM_of (L := [(0, .ref (qad g 0))]) (by decide +kernel) rfl (Nat.le_of_ble_eq_true rfl) hl hA ?_
  intro p e s m below meth c C hr hT
  have C : qC g p l s m ([.ref (qad g 0)] : List Value).toArray meth c RX3 cX3_record 2 := C
  refine z_aload_n C dX3_record_0 0 rfl ?_
  refine gf_X3_10 C rfl dX3_record_1 ?_
  obtain ⟨a1, h2, hm⟩ := qb_i hm
  refine iv_X3_64 C (met_X2_read l g hl hA n9 S  _ h2) rfl ⟨by decide, by decide⟩ ⟨by decide, by decide⟩ (Nat.le_of_ble_eq_true rfl) dX3_record_4 ?_
  refine z_aload_n C dX3_record_7 0 rfl ?_
  refine gf_X3_10 C rfl dX3_record_8 ?_
  refine gf_X3_67 C rfl dX3_record_11 ?_
  refine z_iconst (x := (-1)) C dX3_record_14 rfl ?_
  obtain ⟨h3, hm⟩ := qg_i hm
  obtain ⟨j4, e5, hm⟩ := ql_i hm
  have hj4 : j4 = some r → qZ g p l e rmX3_record s m ([.ref (qad g 0)] : List Value).toArray below meth c (qQ g below qkI r.1 r.2 ([.ref (qad g 0)] : List Value).toArray s rmX3_record) 2 a1 [] 38 [] 0 0 := by
    intro  hm
    rw [e5] at hm
    exact th_ise C hT (by decide : (196, "no record, or too many axles") ∈ qStr) ⟨by decide, Nat.le_of_ble_eq_true rfl⟩ ⟨by decide, by decide⟩ (by decide) (by decide) (by cases hm; rfl) dX3_record_38 dX3_record_41 dX3_record_42 dX3_record_44 dX3_record_47
  clear e5
  refine z_icmp_ne (tgt := 38) C dX3_record_15 (by decide) ⟨h3, (by decide)⟩ (fun c6 => ?_) (fun c6 => ?_)
  · have hm := qt_i hm c6
    refine z_aload_n C dX3_record_18 0 rfl ?_
    refine gf_X3_19 C rfl dX3_record_19 ?_
    refine gf_X3_79 C rfl dX3_record_22 ?_
    refine z_aload_n C dX3_record_25 0 rfl ?_
    refine gf_X3_10 C rfl dX3_record_26 ?_
    refine gf_X3_70 C rfl dX3_record_29 ?_
    refine z_iadd C dX3_record_32 ?_
    refine z_bipush (x := 30) C dX3_record_33 (by decide +kernel) ?_
    obtain ⟨h7, hm⟩ := qg_i hm
    refine z_icmp_le (tgt := 48) C dX3_record_35 (by decide) ⟨h7, (by decide)⟩ (fun c8 => ?_) (fun c8 => ?_)
    · have hm := qt_i hm c8
      refine z_aload_n C dX3_record_48 0 rfl ?_
      obtain ⟨a9, h10, hm⟩ := qb_i hm
      refine iv_X3_189 C (met_X3_remember l g hl hA n9 a1  _ h10) rfl ⟨by decide, by decide⟩ ⟨by decide, by decide⟩ (Nat.le_of_ble_eq_true rfl) dX3_record_49 ?_
      refine z_iconst (x := 0) C dX3_record_52 rfl ?_
      refine z_istore_n (L' := [(1, .int (qI 0)), (0, .ref (qad g 0))]) C dX3_record_53 (by decide) rfl ?_
      obtain ⟨j12, e13, hm⟩ := ql_i hm
      have hj12 : ∀ (S11 : qS), j12 S11 = some r → qZ g p l e rmX3_record s m ([.ref (qad g 0)] : List Value).toArray below meth c (qQ g below qkI r.1 r.2 ([.ref (qad g 0)] : List Value).toArray s rmX3_record) 2 S11 [(0, .ref (qad g 0))] 103 [] 0 0 := by
        intro S11 hm
        rw [e13] at hm
        refine z_aload_n C dX3_record_103 0 rfl ?_
        refine gf_X3_19 C rfl dX3_record_104 ?_
        refine gf_X3_79 C rfl dX3_record_107 ?_
        exact z_iret C hr (by decide) (by decide) (by cases hm; rfl) dX3_record_110
      clear e13
      refine z_sub (L' := [(0, .ref (qad g 0)), (1, .int (qI 0))]) [1, 0] rfl ?_
      exact met_X3_record_l54 C hr hT n9 j12 hj12 n9 a9 0 hm
    · have hm := qf_i hm c8
      refine z_sub (L' := []) [] rfl ?_
      exact hj4  hm
  · have hm := qf_i hm c6
    refine z_sub (L' := []) [] rfl ?_
    exact hj4  hm

set_option maxHeartbeats 4000000 in
set_option maxRecDepth 100000 in
theorem met_X3_strike (l : Launch) (g : qG) (hl : l.stackTraces = false) (hA : qAd g) (n9 : Nat) (S : qS) (p1 : Int) (r : qO × qS) (hm : MX3_strike n9 S p1 = some r) : qM l g yX3_strike (.code yX3_strike cX3_strike 2 (some .int)) rmX3_strike qkI [.ref (qad g 0), .int (qI p1)] S r.1 r.2 := by
  rw [MX3_strike] at hm
  refine qM_of (L := [(0, .ref (qad g 0)), (1, .int (qI p1))]) (by decide +kernel) rfl (Nat.le_of_ble_eq_true rfl) hl hA ?_
  intro p e s m below meth c C hr hT
  have C : qC g p l s m ([.ref (qad g 0), .int (qI p1)] : List Value).toArray meth c RX3 cX3_strike 2 := C
  refine z_aload_n C dX3_strike_0 0 rfl ?_
  refine z_iload_n C dX3_strike_1 1 rfl ?_
  obtain ⟨a1, h2, hm⟩ := qb_i hm
  refine iv_X3_98 C (met_X3_demandAxle l g hl hA n9 S p1 _ h2) rfl ⟨by decide, by decide⟩ ⟨by decide, by decide⟩ (Nat.le_of_ble_eq_true rfl) dX3_strike_2 (fun E he => z_thr C hT (by decide) (by decide) (by have hm := qy_l hm he; cases hm; rfl)) (fun v3 h4 => ?_)
  have hm := qy_r hm h4
  refine z_aload_n C dX3_strike_5 0 rfl ?_
  obtain ⟨a5, h6, hm⟩ := qb_i hm
  refine iv_X3_189 C (met_X3_remember l g hl hA n9 S  _ h6) rfl ⟨by decide, by decide⟩ ⟨by decide, by decide⟩ (Nat.le_of_ble_eq_true rfl) dX3_strike_6 ?_
  refine z_aload_n C dX3_strike_9 0 rfl ?_
  refine gf_X3_19 C rfl dX3_strike_10 ?_
  refine z_iload_n C dX3_strike_13 1 rfl ?_
  obtain ⟨a7, h8, hm⟩ := qb_i hm
  refine iv_X3_200 C (met_X1_dropAxle l g hl hA n9 a5 7 p1 _ h8) rfl ⟨by decide, by decide⟩ ⟨by decide, by decide⟩ (Nat.le_of_ble_eq_true rfl) dX3_strike_14 ?_
  refine z_pop C dX3_strike_17 rfl ?_
  refine z_aload_n C dX3_strike_18 0 rfl ?_
  refine gf_X3_19 C rfl dX3_strike_19 ?_
  refine gf_X3_79 C rfl dX3_strike_22 ?_
  exact z_iret C hr (by decide) (by decide) (by cases hm; rfl) dX3_strike_25

set_option maxHeartbeats 4000000 in
set_option maxRecDepth 100000 in
theorem met_X3_weigh (l : Launch) (g : qG) (hl : l.stackTraces = false) (hA : qAd g) (n9 : Nat) (S : qS) (p1 : Int) (p2 : Int) (r : qO × qS) (hm : MX3_weigh n9 S p1 p2 = some r) : qM l g yX3_weigh (.code yX3_weigh cX3_weigh 4 (some .int)) rmX3_weigh qkI [.ref (qad g 0), .int (qI p1), .int (qI p2)] S r.1 r.2 := by
  rw [MX3_weigh] at hm
  refine qM_of (L := [(0, .ref (qad g 0)), (1, .int (qI p1)), (2, .int (qI p2))]) (by decide +kernel) rfl (Nat.le_of_ble_eq_true rfl) hl hA ?_
  intro p e s m below meth c C hr hT
  have C : qC g p l s m ([.ref (qad g 0), .int (qI p1), .int (qI p2)] : List Value).toArray meth c RX3 cX3_weigh 4 := C
  refine z_aload_n C dX3_weigh_0 0 rfl ?_
  refine z_iload_n C dX3_weigh_1 1 rfl ?_
  obtain ⟨a1, h2, hm⟩ := qb_i hm
  refine iv_X3_98 C (met_X3_demandAxle l g hl hA n9 S p1 _ h2) rfl ⟨by decide, by decide⟩ ⟨by decide, by decide⟩ (Nat.le_of_ble_eq_true rfl) dX3_weigh_2 (fun E he => z_thr C hT (by decide) (by decide) (by have hm := qy_l hm he; cases hm; rfl)) (fun v3 h4 => ?_)
  have hm := qy_r hm h4
  refine z_iload_n C dX3_weigh_5 2 rfl ?_
  obtain ⟨a5, h6, hm⟩ := qb_i hm
  refine iv_X3_182 C (met_X3_isWeight l g hl hA n9 S p2 _ h6) ⟨by decide, by decide⟩ ⟨by decide, by decide⟩ (Nat.le_of_ble_eq_true rfl) dX3_weigh_6 ?_
  obtain ⟨h7, hm⟩ := qg_i hm
  refine z_if_ne (tgt := 22) C dX3_weigh_9 (by decide) h7 (fun c8 => ?_) (fun c8 => ?_)
  · have hm := qt_i hm c8
    exact th_iae C hT (by decide : (203, "no such weight") ∈ qStr) ⟨by decide, Nat.le_of_ble_eq_true rfl⟩ ⟨by decide, by decide⟩ (by decide) (by decide) (by cases hm; rfl) dX3_weigh_12 dX3_weigh_15 dX3_weigh_16 dX3_weigh_18 dX3_weigh_21
  · have hm := qf_i hm c8
    refine z_aload_n C dX3_weigh_22 0 rfl ?_
    refine gf_X3_19 C rfl dX3_weigh_23 ?_
    refine gf_X3_112 C rfl dX3_weigh_26 ?_
    refine z_iload_n C dX3_weigh_29 1 rfl ?_
    obtain ⟨a9, h10, hm⟩ := qb_i hm
    refine iv_X3_108 C (met_X3_at l g hl hA n9 S (7 + 2) p1 _ h10) ⟨by decide, by decide⟩ ⟨by decide, by decide⟩ (Nat.le_of_ble_eq_true rfl) dX3_weigh_30 ?_
    refine z_istore_n (L' := [(3, .int (qI a9)), (0, .ref (qad g 0)), (1, .int (qI p1)), (2, .int (qI p2))]) C dX3_weigh_33 (by decide) rfl ?_
    refine z_aload_n C dX3_weigh_34 1 rfl ?_
    obtain ⟨a11, h12, hm⟩ := qb_i hm
    refine iv_X3_189 C (met_X3_remember l g hl hA n9 S  _ h12) rfl ⟨by decide, by decide⟩ ⟨by decide, by decide⟩ (Nat.le_of_ble_eq_true rfl) dX3_weigh_35 ?_
    refine z_aload_n C dX3_weigh_38 1 rfl ?_
    refine gf_X3_19 C rfl dX3_weigh_39 ?_
    refine z_iload_n C dX3_weigh_42 2 rfl ?_
    refine z_iload_n C dX3_weigh_43 3 rfl ?_
    obtain ⟨a13, h14, hm⟩ := qb_i hm
    refine iv_X3_205 C (met_X1_putWeight l g hl hA n9 a11 7 p1 p2 _ h14) rfl ⟨by decide, by decide⟩ ⟨by decide, by decide⟩ (Nat.le_of_ble_eq_true rfl) dX3_weigh_44 ?_
    refine z_pop C dX3_weigh_47 rfl ?_
    refine z_iload_n C dX3_weigh_48 0 rfl ?_
    exact z_iret C hr (by decide) (by decide) (by cases hm; rfl) dX3_weigh_49

set_option maxHeartbeats 4000000 in
set_option maxRecDepth 100000 in
theorem met_X3_bill (l : Launch) (g : qG) (hl : l.stackTraces = false) (hA : qAd g) (n9 : Nat) (S : qS) (p1 : Int) (p2 : Int) (r : qO × qS) (hm : MX3_bill n9 S p1 p2 = some r) : qM l g yX3_bill (.code yX3_bill cX3_bill 4 (some .int)) rmX3_bill qkI [.ref (qad g 0), .int (qI p1), .int (qI p2)] S r.1 r.2 := by
  rw [MX3_bill] at hm
  refine qM_of (L := [(0, .ref (qad g 0)), (1, .int (qI p1)), (2, .int (qI p2))]) (by decide +kernel) rfl (Nat.le_of_ble_eq_true rfl) hl hA ?_
  intro p e s m below meth c C hr hT
  have C : qC g p l s m ([.ref (qad g 0), .int (qI p1), .int (qI p2)] : List Value).toArray meth c RX3 cX3_bill 4 := C
  refine z_iload_n C dX3_bill_0 1 rfl ?_
  obtain ⟨h1, hm⟩ := qg_i hm
  obtain ⟨j2, e3, hm⟩ := ql_i hm
  have hj2 : j2 = some r → qZ g p l e rmX3_bill s m ([.ref (qad g 0), .int (qI p1), .int (qI p2)] : List Value).toArray below meth c (qQ g below qkI r.1 r.2 ([.ref (qad g 0), .int (qI p1), .int (qI p2)] : List Value).toArray s rmX3_bill) 4 S [] 21 [] 0 0 := by
    intro  hm
    rw [e3] at hm
    exact th_iae C hT (by decide : (208, "no such train or bill") ∈ qStr) ⟨by decide, Nat.le_of_ble_eq_true rfl⟩ ⟨by decide, by decide⟩ (by decide) (by decide) (by cases hm; rfl) dX3_bill_21 dX3_bill_24 dX3_bill_25 dX3_bill_27 dX3_bill_30
  clear e3
  refine z_if_lt (tgt := 21) C dX3_bill_1 (by decide) h1 (fun c4 => ?_) (fun c4 => ?_)
  · have hm := qt_i hm c4
    refine z_sub (L' := []) [] rfl ?_
    exact hj2  hm
  · have hm := qf_i hm c4
    refine z_iload_n C dX3_bill_4 1 rfl ?_
    refine z_bipush (x := 30) C dX3_bill_5 (by decide +kernel) ?_
    refine z_icmp_ge (tgt := 21) C dX3_bill_7 (by decide) ⟨h1, (by decide)⟩ (fun c5 => ?_) (fun c5 => ?_)
    · have hm := qt_i hm c5
      refine z_sub (L' := []) [] rfl ?_
      exact hj2  hm
    · have hm := qf_i hm c5
      refine z_iload_n C dX3_bill_10 2 rfl ?_
      obtain ⟨h6, hm⟩ := qg_i hm
      refine z_if_lt (tgt := 21) C dX3_bill_11 (by decide) h6 (fun c7 => ?_) (fun c7 => ?_)
      · have hm := qt_i hm c7
        refine z_sub (L' := []) [] rfl ?_
        exact hj2  hm
      · have hm := qf_i hm c7
        refine z_iload_n C dX3_bill_14 2 rfl ?_
        refine z_sipush (x := 9999) C dX3_bill_15 (by decide +kernel) ?_
        refine z_icmp_le (tgt := 31) C dX3_bill_18 (by decide) ⟨h6, (by decide)⟩ (fun c8 => ?_) (fun c8 => ?_)
        · have hm := qt_i hm c8
          refine z_aload_n C dX3_bill_31 0 rfl ?_
          refine z_iload_n C dX3_bill_32 1 rfl ?_
          obtain ⟨a9, h10, hm⟩ := qb_i hm
          refine iv_X3_168 C (met_X3_billOrNone l g hl hA n9 S p1 _ h10) rfl ⟨by decide, by decide⟩ ⟨by decide, by decide⟩ (Nat.le_of_ble_eq_true rfl) dX3_bill_33 ?_
          refine z_istore_n (L' := [(3, .int (qI a9)), (0, .ref (qad g 0)), (1, .int (qI p1)), (2, .int (qI p2))]) C dX3_bill_36 (by decide) rfl ?_
          refine z_aload_n C dX3_bill_37 1 rfl ?_
          obtain ⟨a11, h12, hm⟩ := qb_i hm
          refine iv_X3_189 C (met_X3_remember l g hl hA n9 S  _ h12) rfl ⟨by decide, by decide⟩ ⟨by decide, by decide⟩ (Nat.le_of_ble_eq_true rfl) dX3_bill_38 ?_
          refine z_aload_n C dX3_bill_41 1 rfl ?_
          refine gf_X3_19 C rfl dX3_bill_42 ?_
          refine gf_X3_210 C rfl dX3_bill_45 ?_
          refine z_iload_n C dX3_bill_48 2 rfl ?_
          refine z_iload_n C dX3_bill_49 3 rfl ?_
          obtain ⟨h13, hm⟩ := qg_i hm
          refine z_iast (N := 30) C (qk_rec (rfl : qk 7 = 2)).2.2.1 h13 (by decide) dX3_bill_50 ?_
          obtain ⟨S14, e15, hm⟩ := ql_i hm
          refine z_S e15 ?_
          refine z_iload_n C dX3_bill_51 0 rfl ?_
          exact z_iret C hr (by decide) (by decide) (by cases hm; rfl) dX3_bill_52
        · have hm := qf_i hm c8
          refine z_sub (L' := []) [] rfl ?_
          exact hj2  hm

set_option maxHeartbeats 4000000 in
set_option maxRecDepth 100000 in
theorem met_X3_set (l : Launch) (g : qG) (hl : l.stackTraces = false) (hA : qAd g) (n9 : Nat) (S : qS) (p1 : Int) (p2 : Int) (r : qO × qS) (hm : MX3_set n9 S p1 p2 = some r) : qM l g yX3_set (.code yX3_set cX3_set 4 (some .int)) rmX3_set qkI [.ref (qad g 0), .int (qI p1), .int (qI p2)] S r.1 r.2 := by
  rw [MX3_set] at hm
  refine qM_of (L := [(0, .ref (qad g 0)), (1, .int (qI p1)), (2, .int (qI p2))]) (by decide +kernel) rfl (Nat.le_of_ble_eq_true rfl) hl hA ?_
  intro p e s m below meth c C hr hT
  have C : qC g p l s m ([.ref (qad g 0), .int (qI p1), .int (qI p2)] : List Value).toArray meth c RX3 cX3_set 4 := C
  refine z_iload_n C dX3_set_0 1 rfl ?_
  refine z_iload_n C dX3_set_1 2 rfl ?_
  obtain ⟨a1, h2, hm⟩ := qb_i hm
  refine iv_X3_213 C (met_X3_isValueOfSetting l g hl hA n9 S p1 p2 _ h2) ⟨by decide, by decide⟩ ⟨by decide, by decide⟩ (Nat.le_of_ble_eq_true rfl) dX3_set_2 ?_
  obtain ⟨h3, hm⟩ := qg_i hm
  refine z_if_ne (tgt := 18) C dX3_set_5 (by decide) h3 (fun c4 => ?_) (fun c4 => ?_)
  · have hm := qt_i hm c4
    exact th_iae C hT (by decide : (216, "no such setting or value") ∈ qStr) ⟨by decide, Nat.le_of_ble_eq_true rfl⟩ ⟨by decide, by decide⟩ (by decide) (by decide) (by cases hm; rfl) dX3_set_8 dX3_set_11 dX3_set_12 dX3_set_14 dX3_set_17
  · have hm := qf_i hm c4
    refine z_aload_n C dX3_set_18 0 rfl ?_
    refine gf_X3_19 C rfl dX3_set_19 ?_
    refine gf_X3_176 C rfl dX3_set_22 ?_
    refine z_iload_n C dX3_set_25 1 rfl ?_
    obtain ⟨a5, h6, hm⟩ := qb_i hm
    refine iv_X3_108 C (met_X3_at l g hl hA n9 S (7 + 4) p1 _ h6) ⟨by decide, by decide⟩ ⟨by decide, by decide⟩ (Nat.le_of_ble_eq_true rfl) dX3_set_26 ?_
    refine z_istore_n (L' := [(3, .int (qI a5)), (0, .ref (qad g 0)), (1, .int (qI p1)), (2, .int (qI p2))]) C dX3_set_29 (by decide) rfl ?_
    refine z_aload_n C dX3_set_30 1 rfl ?_
    obtain ⟨a7, h8, hm⟩ := qb_i hm
    refine iv_X3_189 C (met_X3_remember l g hl hA n9 S  _ h8) rfl ⟨by decide, by decide⟩ ⟨by decide, by decide⟩ (Nat.le_of_ble_eq_true rfl) dX3_set_31 ?_
    refine z_aload_n C dX3_set_34 1 rfl ?_
    refine gf_X3_19 C rfl dX3_set_35 ?_
    refine z_iload_n C dX3_set_38 2 rfl ?_
    refine z_iload_n C dX3_set_39 3 rfl ?_
    obtain ⟨a9, h10, hm⟩ := qb_i hm
    refine iv_X3_218 C (met_X1_putSetting l g hl hA n9 a7 7 p1 p2 _ h10) rfl ⟨by decide, by decide⟩ ⟨by decide, by decide⟩ (Nat.le_of_ble_eq_true rfl) dX3_set_40 ?_
    refine z_pop C dX3_set_43 rfl ?_
    refine z_iload_n C dX3_set_44 0 rfl ?_
    exact z_iret C hr (by decide) (by decide) (by cases hm; rfl) dX3_set_45

set_option maxHeartbeats 4000000 in
set_option maxRecDepth 100000 in
theorem met_X3_leave (l : Launch) (g : qG) (hl : l.stackTraces = false) (hA : qAd g) (n9 : Nat) (S : qS) (r : qO × qS) (hm : MX3_leave n9 S  = some r) : qM l g yX3_leave (.code yX3_leave cX3_leave 2 (some .int)) rmX3_leave qkI [.ref (qad g 0)] S r.1 r.2 := by
  rw [MX3_leave] at hm
  refine qM_of (L := [(0, .ref (qad g 0))]) (by decide +kernel) rfl (Nat.le_of_ble_eq_true rfl) hl hA ?_
  intro p e s m below meth c C hr hT
  have C : qC g p l s m ([.ref (qad g 0)] : List Value).toArray meth c RX3 cX3_leave 2 := C
  refine z_aload_n C dX3_leave_0 0 rfl ?_
  refine gf_X3_19 C rfl dX3_leave_1 ?_
  refine gf_X3_79 C rfl dX3_leave_4 ?_
  obtain ⟨h1, hm⟩ := qg_i hm
  refine z_if_ne (tgt := 20) C dX3_leave_7 (by decide) h1 (fun c2 => ?_) (fun c2 => ?_)
  · have hm := qt_i hm c2
    exact th_ise C hT (by decide : (221, "there is no train") ∈ qStr) ⟨by decide, Nat.le_of_ble_eq_true rfl⟩ ⟨by decide, by decide⟩ (by decide) (by decide) (by cases hm; rfl) dX3_leave_10 dX3_leave_13 dX3_leave_14 dX3_leave_16 dX3_leave_19
  · have hm := qf_i hm c2
    refine z_aload_n C dX3_leave_20 0 rfl ?_
    refine gf_X3_29 C rfl dX3_leave_21 ?_
    refine z_aload_n C dX3_leave_24 0 rfl ?_
    refine gf_X3_19 C rfl dX3_leave_25 ?_
    obtain ⟨a3, h4, hm⟩ := qb_i hm
    refine iv_X3_75 C (met_X0_workOut l g hl hA n9 S 7 _ h4) rfl ⟨by decide, by decide⟩ ⟨by decide, by decide⟩ (Nat.le_of_ble_eq_true rfl) dX3_leave_28 ?_
    refine z_aload_n C dX3_leave_31 0 rfl ?_
    refine gf_X3_29 C rfl dX3_leave_32 ?_
    refine z_aload_n C dX3_leave_35 0 rfl ?_
    refine gf_X3_19 C rfl dX3_leave_36 ?_
    refine z_iconst (x := 0) C dX3_leave_39 rfl ?_
    obtain ⟨a5, h6, hm⟩ := qb_i hm
    refine iv_X3_156 C (met_X0_weightOfTrain l g hl hA n9 a3 7 0 _ h6) rfl ⟨by decide, by decide⟩ ⟨by decide, by decide⟩ (Nat.le_of_ble_eq_true rfl) dX3_leave_40 ?_
    refine z_istore_n (L' := [(1, .int (qI a5)), (0, .ref (qad g 0))]) C dX3_leave_43 (by decide) rfl ?_
    refine z_aload_n C dX3_leave_44 1 rfl ?_
    obtain ⟨a7, h8, hm⟩ := qb_i hm
    refine iv_X3_189 C (met_X3_remember l g hl hA n9 a3  _ h8) rfl ⟨by decide, by decide⟩ ⟨by decide, by decide⟩ (Nat.le_of_ble_eq_true rfl) dX3_leave_45 ?_
    refine z_aload_n C dX3_leave_48 1 rfl ?_
    refine gf_X3_19 C rfl dX3_leave_49 ?_
    obtain ⟨a9, h10, hm⟩ := qb_i hm
    refine iv_X3_223 C (met_X1_dropFirstTrain l g hl hA n9 a7 7 _ h10) rfl ⟨by decide, by decide⟩ ⟨by decide, by decide⟩ (Nat.le_of_ble_eq_true rfl) dX3_leave_52 ?_
    refine z_pop C dX3_leave_55 rfl ?_
    refine z_iload_n C dX3_leave_56 0 rfl ?_
    exact z_iret C hr (by decide) (by decide) (by cases hm; rfl) dX3_leave_57

set_option maxHeartbeats 4000000 in
set_option maxRecDepth 100000 in
theorem met_X3_undo (l : Launch) (g : qG) (hl : l.stackTraces = false) (hA : qAd g) (n9 : Nat) (S : qS) (r : qO × qS) (hm : MX3_undo n9 S  = some r) : qM l g yX3_undo (.code yX3_undo cX3_undo 1 (some .int)) rmX3_undo qkI [.ref (qad g 0)] S r.1 r.2 := by
  rw [MX3_undo] at hm
  refine qM_of (L := [(0, .ref (qad g 0))]) (by decide +kernel) rfl (Nat.le_of_ble_eq_true rfl) hl hA ?_
  intro p e s m below meth c C hr hT
  have C : qC g p l s m ([.ref (qad g 0)] : List Value).toArray meth c RX3 cX3_undo 1 := C
  refine z_aload_n C dX3_undo_0 0 rfl ?_
  refine gf_X3_227 C rfl dX3_undo_1 ?_
  obtain ⟨h1, hm⟩ := qg_i hm
  refine z_if_ne (tgt := 17) C dX3_undo_4 (by decide) h1 (fun c2 => ?_) (fun c2 => ?_)
  · have hm := qt_i hm c2
    exact th_ise C hT (by decide : (230, "nothing is remembered") ∈ qStr) ⟨by decide, Nat.le_of_ble_eq_true rfl⟩ ⟨by decide, by decide⟩ (by decide) (by decide) (by cases hm; rfl) dX3_undo_7 dX3_undo_10 dX3_undo_11 dX3_undo_13 dX3_undo_16
  · have hm := qf_i hm c2
    refine z_aload_n C dX3_undo_17 0 rfl ?_
    refine z_dup C dX3_undo_18 rfl ?_
    refine gf_X3_227 C rfl dX3_undo_19 ?_
    refine z_iconst (x := 1) C dX3_undo_22 rfl ?_
    refine z_isub C dX3_undo_23 ?_
    refine pf_X3_227 C rfl dX3_undo_24 ?_
    obtain ⟨S3, e4, hm⟩ := ql_i hm
    refine z_S e4 ?_
    refine z_aload_n C dX3_undo_27 0 rfl ?_
    refine z_aload_n C dX3_undo_28 0 rfl ?_
    refine gf_X3_232 C rfl dX3_undo_29 ?_
    refine z_bipush (x := 14) C dX3_undo_32 (by decide +kernel) ?_
    refine z_iadd C dX3_undo_34 ?_
    refine z_iconst (x := 1) C dX3_undo_35 rfl ?_
    refine z_isub C dX3_undo_36 ?_
    refine z_bipush (x := 14) C dX3_undo_37 (by decide +kernel) ?_
    obtain ⟨h5, hm⟩ := qg_i hm
    refine z_irem C dX3_undo_39 h5 ?_
    refine pf_X3_232 C rfl dX3_undo_40 ?_
    obtain ⟨S6, e7, hm⟩ := ql_i hm
    refine z_S e7 ?_
    refine z_aload_n C dX3_undo_43 0 rfl ?_
    refine gf_X3_33 C rfl dX3_undo_44 ?_
    refine z_aload_n C dX3_undo_47 0 rfl ?_
    refine gf_X3_232 C rfl dX3_undo_48 ?_
    obtain ⟨h8, hm⟩ := qg_i hm
    refine z_ast C rfl h8 dX3_undo_51 ?_
    refine z_aload_n C dX3_undo_52 0 rfl ?_
    refine gf_X3_19 C rfl dX3_undo_53 ?_
    obtain ⟨a9, h10, hm⟩ := qb_i hm
    refine iv_X3_235 C (met_X3_copy l g hl hA n9 S6 (30 + 5 * (S6 0 7).toNat) 7 _ h10) ⟨by decide, by decide⟩ ⟨by decide, by decide⟩ (Nat.le_of_ble_eq_true rfl) dX3_undo_56 ?_
    refine z_aload_n C dX3_undo_59 0 rfl ?_
    refine gf_X3_227 C rfl dX3_undo_60 ?_
    exact z_iret C hr (by decide) (by decide) (by cases hm; rfl) dX3_undo_63

set_option maxHeartbeats 4000000 in
set_option maxRecDepth 100000 in
theorem met_X3_without (l : Launch) (g : qG) (hl : l.stackTraces = false) (hA : qAd g) (n9 : Nat) (S : qS) (p1 : Int) (r : qO × qS) (hm : MX3_without n9 S p1 = some r) : qM l g yX3_without (.code yX3_without cX3_without 2 (some .int)) rmX3_without qkI [.ref (qad g 0), .int (qI p1)] S r.1 r.2 := by
  rw [MX3_without] at hm
  refine qM_of (L := [(0, .ref (qad g 0)), (1, .int (qI p1))]) (by decide +kernel) rfl (Nat.le_of_ble_eq_true rfl) hl hA ?_
  intro p e s m below meth c C hr hT
  have C : qC g p l s m ([.ref (qad g 0), .int (qI p1)] : List Value).toArray meth c RX3 cX3_without 2 := C
  refine z_aload_n C dX3_without_0 0 rfl ?_
  refine z_iload_n C dX3_without_1 1 rfl ?_
  obtain ⟨a1, h2, hm⟩ := qb_i hm
  refine iv_X3_98 C (met_X3_demandAxle l g hl hA n9 S p1 _ h2) rfl ⟨by decide, by decide⟩ ⟨by decide, by decide⟩ (Nat.le_of_ble_eq_true rfl) dX3_without_2 (fun E he => z_thr C hT (by decide) (by decide) (by have hm := qy_l hm he; cases hm; rfl)) (fun v3 h4 => ?_)
  have hm := qy_r hm h4
  refine z_aload_n C dX3_without_5 0 rfl ?_
  refine gf_X3_19 C rfl dX3_without_6 ?_
  refine z_aload_n C dX3_without_9 0 rfl ?_
  refine gf_X3_23 C rfl dX3_without_10 ?_
  obtain ⟨a5, h6, hm⟩ := qb_i hm
  refine iv_X3_235 C (met_X3_copy l g hl hA n9 S 7 12 _ h6) ⟨by decide, by decide⟩ ⟨by decide, by decide⟩ (Nat.le_of_ble_eq_true rfl) dX3_without_13 ?_
  refine z_aload_n C dX3_without_16 0 rfl ?_
  refine gf_X3_23 C rfl dX3_without_17 ?_
  refine z_iload_n C dX3_without_20 1 rfl ?_
  obtain ⟨a7, h8, hm⟩ := qb_i hm
  refine iv_X3_200 C (met_X1_dropAxle l g hl hA n9 a5 12 p1 _ h8) rfl ⟨by decide, by decide⟩ ⟨by decide, by decide⟩ (Nat.le_of_ble_eq_true rfl) dX3_without_21 ?_
  refine z_pop C dX3_without_24 rfl ?_
  refine z_aload_n C dX3_without_25 0 rfl ?_
  refine gf_X3_29 C rfl dX3_without_26 ?_
  refine z_aload_n C dX3_without_29 0 rfl ?_
  refine gf_X3_23 C rfl dX3_without_30 ?_
  obtain ⟨a9, h10, hm⟩ := qb_i hm
  refine iv_X3_75 C (met_X0_workOut l g hl hA n9 a7.2 12 _ h10) rfl ⟨by decide, by decide⟩ ⟨by decide, by decide⟩ (Nat.le_of_ble_eq_true rfl) dX3_without_33 ?_
  refine z_aload_n C dX3_without_36 0 rfl ?_
  refine gf_X3_29 C rfl dX3_without_37 ?_
  refine gf_X3_88 C rfl dX3_without_40 ?_
  exact z_iret C hr (by decide) (by decide) (by cases hm; rfl) dX3_without_43

set_option maxHeartbeats 4000000 in
set_option maxRecDepth 100000 in
theorem met_X3_suspect_l23 {g : qG} {p : Program} {l : Launch} {e : Env} {s : State} {m : MethodId} {args : Array Value} {below : List Frame} {meth : Method} {c : Code} (C : qC g p l s m args meth c RX3 cX3_suspect 4) (hr : meth.sig.returnType = (some .int)) (hT : ∀ x ∈ c.exceptionTable.toList, False) (n9 : Nat) {r : Int × qS}  : ∀ (f : Nat) (S5 : qS) (x6 : Int) (x7 : Int) (x8 : Int), MX3_suspect_l23 n9 f S5 x6 x7 x8 = some r → qZ g p l e rmX3_suspect s m args below meth c (qQ g below qkI (.inr r.1) r.2 args s rmX3_suspect) 4 S5 [(0, .ref (qad g 0)), (1, .int (qI x6)), (2, .int (qI x7)), (3, .int (qI x8))] 23 [] 0 0 := by
  intro f
  induction f with
  | zero => intro S5 x6 x7 x8 hm; rw [MX3_suspect_l23] at hm; cases hm
  | succ f ih =>
    intro S5 x6 x7 x8 hm
    rw [MX3_suspect_l23] at hm
    have hl := C.2.2.2.2.2.2.2.2
    have hA := C.2.2.2.2.2.2.1
    refine z_iload_n C dX3_suspect_23 3 rfl ?_
    refine z_aload_n C dX3_suspect_24 0 rfl ?_
    refine gf_X3_19 C rfl dX3_suspect_25 ?_
    refine gf_X3_79 C rfl dX3_suspect_28 ?_
    obtain ⟨h9, hm⟩ := qg_i hm
    obtain ⟨h10, hm⟩ := qg_i hm
    refine z_icmp_ge (tgt := 92) C dX3_suspect_31 (by decide) ⟨h9, h10⟩ (fun c11 => ?_) (fun c11 => ?_)
    · have hm := qt_i hm c11
      refine z_iload_n C dX3_suspect_92 2 rfl ?_
      exact z_iret C hr (by decide) (by decide) (by cases hm; rfl) dX3_suspect_93
    · have hm := qf_i hm c11
      refine z_aload_n C dX3_suspect_34 0 rfl ?_
      refine gf_X3_19 C rfl dX3_suspect_35 ?_
      refine z_aload_n C dX3_suspect_38 0 rfl ?_
      refine gf_X3_23 C rfl dX3_suspect_39 ?_
      obtain ⟨a12, h13, hm⟩ := qb_i hm
      refine iv_X3_235 C (met_X3_copy l g hl hA n9 S5 7 12 _ h13) ⟨by decide, by decide⟩ ⟨by decide, by decide⟩ (Nat.le_of_ble_eq_true rfl) dX3_suspect_42 ?_
      refine z_aload_n C dX3_suspect_45 0 rfl ?_
      refine gf_X3_23 C rfl dX3_suspect_46 ?_
      refine z_iload_n C dX3_suspect_49 3 rfl ?_
      obtain ⟨a14, h15, hm⟩ := qb_i hm
      refine iv_X3_200 C (met_X1_dropAxle l g hl hA n9 a12 12 x8 _ h15) rfl ⟨by decide, by decide⟩ ⟨by decide, by decide⟩ (Nat.le_of_ble_eq_true rfl) dX3_suspect_50 ?_
      refine z_pop C dX3_suspect_53 rfl ?_
      refine z_aload_n C dX3_suspect_54 0 rfl ?_
      refine gf_X3_29 C rfl dX3_suspect_55 ?_
      refine z_aload_n C dX3_suspect_58 0 rfl ?_
      refine gf_X3_23 C rfl dX3_suspect_59 ?_
      obtain ⟨a16, h17, hm⟩ := qb_i hm
      refine iv_X3_75 C (met_X0_workOut l g hl hA n9 a14.2 12 _ h17) rfl ⟨by decide, by decide⟩ ⟨by decide, by decide⟩ (Nat.le_of_ble_eq_true rfl) dX3_suspect_62 ?_
      refine z_aload_n C dX3_suspect_65 0 rfl ?_
      refine gf_X3_29 C rfl dX3_suspect_66 ?_
      refine gf_X3_91 C rfl dX3_suspect_69 ?_
      refine z_iload_n C dX3_suspect_72 1 rfl ?_
      obtain ⟨h18, hm⟩ := qg_i hm
      obtain ⟨h19, hm⟩ := qg_i hm
      obtain ⟨j22, e23, hm⟩ := ql_i hm
      have hj22 : ∀ (x20 : Int) (x21 : Int), j22 x20 x21 = some r → qZ g p l e rmX3_suspect s m args below meth c (qQ g below qkI (.inr r.1) r.2 args s rmX3_suspect) 4 a16 [(0, .ref (qad g 0)), (1, .int (qI x20)), (2, .int (qI x21)), (3, .int (qI x8))] 86 [] 0 0 := by
        intro x20 x21 hm
        rw [e23] at hm
        refine z_iinc (L' := [(3, .int (qI (x8 + 1))), (0, .ref (qad g 0)), (1, .int (qI x20)), (2, .int (qI x21))]) C dX3_suspect_86 3 rfl (by decide) rfl ?_
        refine z_goto (tgt := 23) C dX3_suspect_89 (by decide) ?_
        refine z_sub (L' := [(0, .ref (qad g 0)), (1, .int (qI x20)), (2, .int (qI x21)), (3, .int (qI (x8 + 1)))]) [1, 2, 3, 0] rfl ?_
        exact ih a16 x20 x21 (x8 + 1) hm
      clear e23
      refine z_icmp_ge (tgt := 86) C dX3_suspect_73 (by decide) ⟨h18, h19⟩ (fun c24 => ?_) (fun c24 => ?_)
      · have hm := qt_i hm c24
        exact hj22 x6 x7 hm
      · have hm := qf_i hm c24
        refine z_aload_n C dX3_suspect_76 0 rfl ?_
        refine gf_X3_29 C rfl dX3_suspect_77 ?_
        refine gf_X3_91 C rfl dX3_suspect_80 ?_
        obtain ⟨x25, e26, hm⟩ := ql_i hm
        refine z_topi e26 ?_
        refine z_istore_n (L' := [(1, .int (qI x25)), (0, .ref (qad g 0)), (2, .int (qI x7)), (3, .int (qI x8))]) C dX3_suspect_83 (by decide) rfl ?_
        refine z_iload_n C dX3_suspect_84 3 rfl ?_
        refine z_istore_n (L' := [(2, .int (qI x8)), (1, .int (qI x25)), (0, .ref (qad g 0)), (3, .int (qI x8))]) C dX3_suspect_85 (by decide) rfl ?_
        refine z_sub (L' := [(0, .ref (qad g 0)), (1, .int (qI x25)), (2, .int (qI x8)), (3, .int (qI x8))]) [2, 1, 0, 3] rfl ?_
        exact hj22 x25 x8 hm

set_option maxHeartbeats 4000000 in
set_option maxRecDepth 100000 in
theorem met_X3_suspect (l : Launch) (g : qG) (hl : l.stackTraces = false) (hA : qAd g) (n9 : Nat) (S : qS) (r : Int × qS) (hm : MX3_suspect n9 S  = some r) : qM l g yX3_suspect (.code yX3_suspect cX3_suspect 4 (some .int)) rmX3_suspect qkI [.ref (qad g 0)] S (.inr r.1) r.2 := by
  rw [MX3_suspect] at hm
  refine qM_of (L := [(0, .ref (qad g 0))]) (by decide +kernel) rfl (Nat.le_of_ble_eq_true rfl) hl hA ?_
  intro p e s m below meth c C hr hT
  have C : qC g p l s m ([.ref (qad g 0)] : List Value).toArray meth c RX3 cX3_suspect 4 := C
  refine z_aload_n C dX3_suspect_0 0 rfl ?_
  refine gf_X3_29 C rfl dX3_suspect_1 ?_
  refine z_aload_n C dX3_suspect_4 0 rfl ?_
  refine gf_X3_19 C rfl dX3_suspect_5 ?_
  obtain ⟨a1, h2, hm⟩ := qb_i hm
  refine iv_X3_75 C (met_X0_workOut l g hl hA n9 S 7 _ h2) rfl ⟨by decide, by decide⟩ ⟨by decide, by decide⟩ (Nat.le_of_ble_eq_true rfl) dX3_suspect_8 ?_
  refine z_aload_n C dX3_suspect_11 0 rfl ?_
  refine gf_X3_29 C rfl dX3_suspect_12 ?_
  refine gf_X3_91 C rfl dX3_suspect_15 ?_
  obtain ⟨x3, e4, hm⟩ := ql_i hm
  refine z_topi e4 ?_
  refine z_istore_n (L' := [(1, .int (qI x3)), (0, .ref (qad g 0))]) C dX3_suspect_18 (by decide) rfl ?_
  refine z_iconst (x := (-1)) C dX3_suspect_19 rfl ?_
  refine z_istore_n (L' := [(2, .int (qI (-1))), (1, .int (qI x3)), (0, .ref (qad g 0))]) C dX3_suspect_20 (by decide) rfl ?_
  refine z_iconst (x := 0) C dX3_suspect_21 rfl ?_
  refine z_istore_n (L' := [(3, .int (qI 0)), (2, .int (qI (-1))), (1, .int (qI x3)), (0, .ref (qad g 0))]) C dX3_suspect_22 (by decide) rfl ?_
  refine z_sub (L' := [(0, .ref (qad g 0)), (1, .int (qI x3)), (2, .int (qI (-1))), (3, .int (qI 0))]) [3, 2, 1, 0] rfl ?_
  exact met_X3_suspect_l23 C hr hT n9  n9 a1 x3 (-1) 0 hm

set_option maxHeartbeats 4000000 in
set_option maxRecDepth 100000 in
theorem met_X3_bestBase_l21 {g : qG} {p : Program} {l : Launch} {e : Env} {s : State} {m : MethodId} {args : Array Value} {below : List Frame} {meth : Method} {c : Code} (C : qC g p l s m args meth c RX3 cX3_bestBase 4) (hr : meth.sig.returnType = (some .int)) (hT : ∀ x ∈ c.exceptionTable.toList, False) (n9 : Nat) {r : Int × qS}  : ∀ (f : Nat) (S6 : qS) (x7 : Int) (x8 : Int) (x9 : Int), MX3_bestBase_l21 n9 f S6 x7 x8 x9 = some r → qZ g p l e rmX3_bestBase s m args below meth c (qQ g below qkI (.inr r.1) r.2 args s rmX3_bestBase) 4 S6 [(0, .ref (qad g 0)), (1, .int (qI x7)), (2, .int (qI x8)), (3, .int (qI x9))] 21 [] 0 0 := by
  intro f
  induction f with
  | zero => intro S6 x7 x8 x9 hm; rw [MX3_bestBase_l21] at hm; cases hm
  | succ f ih =>
    intro S6 x7 x8 x9 hm
    rw [MX3_bestBase_l21] at hm
    have hl := C.2.2.2.2.2.2.2.2
    have hA := C.2.2.2.2.2.2.1
    refine z_iload_n C dX3_bestBase_21 3 rfl ?_
    refine z_gs2 C qsl_242 dX3_bestBase_22 ?_
    refine z_iconst (x := 0) C dX3_bestBase_25 rfl ?_
    obtain ⟨h10, hm⟩ := qg_i hm
    refine z_ti2 C h10 dX3_bestBase_26 ?_
    obtain ⟨h11, hm⟩ := qg_i hm
    obtain ⟨h12, hm⟩ := qg_i hm
    refine z_icmp_gt (tgt := 83) C dX3_bestBase_27 (by decide) ⟨h11, h12⟩ (fun c13 => ?_) (fun c13 => ?_)
    · have hm := qt_i hm c13
      refine z_iload_n C dX3_bestBase_83 1 rfl ?_
      exact z_iret C hr (by decide) (by decide) (by cases hm; rfl) dX3_bestBase_84
    · have hm := qf_i hm c13
      refine z_aload_n C dX3_bestBase_30 0 rfl ?_
      refine gf_X3_23 C rfl dX3_bestBase_31 ?_
      refine z_iconst (x := 0) C dX3_bestBase_34 rfl ?_
      refine z_iload_n C dX3_bestBase_35 3 rfl ?_
      obtain ⟨a14, h15, hm⟩ := qb_i hm
      refine iv_X3_218 C (met_X1_putSetting l g hl hA n9 S6 12 0 x9 _ h15) rfl ⟨by decide, by decide⟩ ⟨by decide, by decide⟩ (Nat.le_of_ble_eq_true rfl) dX3_bestBase_36 ?_
      refine z_pop C dX3_bestBase_39 rfl ?_
      refine z_aload_n C dX3_bestBase_40 0 rfl ?_
      refine gf_X3_29 C rfl dX3_bestBase_41 ?_
      refine z_aload_n C dX3_bestBase_44 0 rfl ?_
      refine gf_X3_23 C rfl dX3_bestBase_45 ?_
      obtain ⟨a16, h17, hm⟩ := qb_i hm
      refine iv_X3_75 C (met_X0_workOut l g hl hA n9 a14.2 12 _ h17) rfl ⟨by decide, by decide⟩ ⟨by decide, by decide⟩ (Nat.le_of_ble_eq_true rfl) dX3_bestBase_48 ?_
      refine z_iload_n C dX3_bestBase_51 1 rfl ?_
      refine z_iconst (x := (-1)) C dX3_bestBase_52 rfl ?_
      obtain ⟨h18, hm⟩ := qg_i hm
      obtain ⟨j21, e22, hm⟩ := ql_i hm
      have hj21 : ∀ (x19 : Int) (x20 : Int), j21 x19 x20 = some r → qZ g p l e rmX3_bestBase s m args below meth c (qQ g below qkI (.inr r.1) r.2 args s rmX3_bestBase) 4 a16 [(0, .ref (qad g 0)), (1, .int (qI x19)), (2, .int (qI x20)), (3, .int (qI x9))] 77 [] 0 0 := by
        intro x19 x20 hm
        rw [e22] at hm
        refine z_iinc (L' := [(3, .int (qI (x9 + 1))), (0, .ref (qad g 0)), (1, .int (qI x19)), (2, .int (qI x20))]) C dX3_bestBase_77 3 rfl (by decide) rfl ?_
        refine z_goto (tgt := 21) C dX3_bestBase_80 (by decide) ?_
        refine z_sub (L' := [(0, .ref (qad g 0)), (1, .int (qI x19)), (2, .int (qI x20)), (3, .int (qI (x9 + 1)))]) [1, 2, 3, 0] rfl ?_
        exact ih a16 x19 x20 (x9 + 1) hm
      clear e22
      obtain ⟨j23, e26, hm⟩ := ql_i hm
      have hj23 : j23 = some r → qZ g p l e rmX3_bestBase s m args below meth c (qQ g below qkI (.inr r.1) r.2 args s rmX3_bestBase) 4 a16 [(0, .ref (qad g 0)), (3, .int (qI x9))] 67 [] 0 0 := by
        intro  hm
        rw [e26] at hm
        refine z_aload_n C dX3_bestBase_67 0 rfl ?_
        refine gf_X3_29 C rfl dX3_bestBase_68 ?_
        refine gf_X3_91 C rfl dX3_bestBase_71 ?_
        obtain ⟨x24, e25, hm⟩ := ql_i hm
        refine z_topi e25 ?_
        refine z_istore_n (L' := [(2, .int (qI x24)), (0, .ref (qad g 0)), (3, .int (qI x9))]) C dX3_bestBase_74 (by decide) rfl ?_
        refine z_iload_n C dX3_bestBase_75 2 rfl ?_
        refine z_istore_n (L' := [(1, .int (qI x9)), (2, .int (qI x24)), (0, .ref (qad g 0)), (3, .int (qI x9))]) C dX3_bestBase_76 (by decide) rfl ?_
        refine z_sub (L' := [(0, .ref (qad g 0)), (1, .int (qI x9)), (2, .int (qI x24)), (3, .int (qI x9))]) [2, 0, 1, 3] rfl ?_
        exact hj21 x9 x24 hm
      clear e26
      refine z_icmp_eq (tgt := 67) C dX3_bestBase_53 (by decide) ⟨h18, (by decide)⟩ (fun c27 => ?_) (fun c27 => ?_)
      · have hm := qt_i hm c27
        refine z_sub (L' := [(0, .ref (qad g 0)), (3, .int (qI x9))]) [0, 3] rfl ?_
        exact hj23  hm
      · have hm := qf_i hm c27
        refine z_aload_n C dX3_bestBase_56 0 rfl ?_
        refine gf_X3_29 C rfl dX3_bestBase_57 ?_
        refine gf_X3_91 C rfl dX3_bestBase_60 ?_
        refine z_iload_n C dX3_bestBase_63 2 rfl ?_
        obtain ⟨h28, hm⟩ := qg_i hm
        obtain ⟨h29, hm⟩ := qg_i hm
        refine z_icmp_ge (tgt := 77) C dX3_bestBase_64 (by decide) ⟨h28, h29⟩ (fun c30 => ?_) (fun c30 => ?_)
        · have hm := qt_i hm c30
          exact hj21 x7 x8 hm
        · have hm := qf_i hm c30
          refine z_sub (L' := [(0, .ref (qad g 0)), (3, .int (qI x9))]) [0, 3] rfl ?_
          exact hj23  hm

set_option maxHeartbeats 4000000 in
set_option maxRecDepth 100000 in
theorem met_X3_bestBase (l : Launch) (g : qG) (hl : l.stackTraces = false) (hA : qAd g) (n9 : Nat) (S : qS) (r : Int × qS) (hm : MX3_bestBase n9 S  = some r) : qM l g yX3_bestBase (.code yX3_bestBase cX3_bestBase 4 (some .int)) rmX3_bestBase qkI [.ref (qad g 0)] S (.inr r.1) r.2 := by
  rw [MX3_bestBase] at hm
  refine qM_of (L := [(0, .ref (qad g 0))]) (by decide +kernel) rfl (Nat.le_of_ble_eq_true rfl) hl hA ?_
  intro p e s m below meth c C hr hT
  have C : qC g p l s m ([.ref (qad g 0)] : List Value).toArray meth c RX3 cX3_bestBase 4 := C
  refine z_iconst (x := (-1)) C dX3_bestBase_0 rfl ?_
  refine z_istore_n (L' := [(1, .int (qI (-1))), (0, .ref (qad g 0))]) C dX3_bestBase_1 (by decide) rfl ?_
  refine z_iconst (x := 0) C dX3_bestBase_2 rfl ?_
  refine z_istore_n (L' := [(2, .int (qI 0)), (1, .int (qI (-1))), (0, .ref (qad g 0))]) C dX3_bestBase_3 (by decide) rfl ?_
  refine z_aload_n C dX3_bestBase_4 2 rfl ?_
  refine gf_X3_19 C rfl dX3_bestBase_5 ?_
  refine z_aload_n C dX3_bestBase_8 2 rfl ?_
  refine gf_X3_23 C rfl dX3_bestBase_9 ?_
  obtain ⟨a1, h2, hm⟩ := qb_i hm
  refine iv_X3_235 C (met_X3_copy l g hl hA n9 S 7 12 _ h2) ⟨by decide, by decide⟩ ⟨by decide, by decide⟩ (Nat.le_of_ble_eq_true rfl) dX3_bestBase_12 ?_
  refine z_gs1 C qsl_239 dX3_bestBase_15 ?_
  refine z_iconst (x := 0) C dX3_bestBase_18 rfl ?_
  obtain ⟨h3, hm⟩ := qg_i hm
  refine z_ti1 C h3 dX3_bestBase_19 ?_
  obtain ⟨x4, e5, hm⟩ := ql_i hm
  refine z_topi e5 ?_
  refine z_istore_n (L' := [(3, .int (qI x4)), (2, .int (qI 0)), (1, .int (qI (-1))), (0, .ref (qad g 0))]) C dX3_bestBase_20 (by decide) rfl ?_
  refine z_sub (L' := [(0, .ref (qad g 0)), (1, .int (qI (-1))), (2, .int (qI 0)), (3, .int (qI x4))]) [3, 2, 1, 0] rfl ?_
  exact met_X3_bestBase_l21 C hr hT n9  n9 a1 (-1) 0 x4 hm

set_option maxHeartbeats 4000000 in
set_option maxRecDepth 100000 in
theorem met_X3_sureness (l : Launch) (g : qG) (hl : l.stackTraces = false) (hA : qAd g) (n9 : Nat) (S : qS) (p1 : Int) (r : qO × qS) (hm : MX3_sureness n9 S p1 = some r) : qM l g yX3_sureness (.code yX3_sureness cX3_sureness 3 (some .int)) rmX3_sureness qkI [.ref (qad g 0), .int (qI p1)] S r.1 r.2 := by
  rw [MX3_sureness] at hm
  refine qM_of (L := [(0, .ref (qad g 0)), (1, .int (qI p1))]) (by decide +kernel) rfl (Nat.le_of_ble_eq_true rfl) hl hA ?_
  intro p e s m below meth c C hr hT
  have C : qC g p l s m ([.ref (qad g 0), .int (qI p1)] : List Value).toArray meth c RX3 cX3_sureness 3 := C
  refine z_aload_n C dX3_sureness_0 0 rfl ?_
  refine z_iload_n C dX3_sureness_1 1 rfl ?_
  obtain ⟨a1, h2, hm⟩ := qb_i hm
  refine iv_X3_98 C (met_X3_demandAxle l g hl hA n9 S p1 _ h2) rfl ⟨by decide, by decide⟩ ⟨by decide, by decide⟩ (Nat.le_of_ble_eq_true rfl) dX3_sureness_2 (fun E he => z_thr C hT (by decide) (by decide) (by have hm := qy_l hm he; cases hm; rfl)) (fun v3 h4 => ?_)
  have hm := qy_r hm h4
  refine z_aload_n C dX3_sureness_5 0 rfl ?_
  refine gf_X3_29 C rfl dX3_sureness_6 ?_
  refine z_aload_n C dX3_sureness_9 0 rfl ?_
  refine gf_X3_19 C rfl dX3_sureness_10 ?_
  obtain ⟨a5, h6, hm⟩ := qb_i hm
  refine iv_X3_75 C (met_X0_workOut l g hl hA n9 S 7 _ h6) rfl ⟨by decide, by decide⟩ ⟨by decide, by decide⟩ (Nat.le_of_ble_eq_true rfl) dX3_sureness_13 ?_
  refine z_aload_n C dX3_sureness_16 0 rfl ?_
  refine gf_X3_29 C rfl dX3_sureness_17 ?_
  refine gf_X3_115 C rfl dX3_sureness_20 ?_
  refine z_iload_n C dX3_sureness_23 1 rfl ?_
  obtain ⟨a7, h8, hm⟩ := qb_i hm
  refine iv_X3_108 C (met_X3_at l g hl hA n9 a5 21 p1 _ h8) ⟨by decide, by decide⟩ ⟨by decide, by decide⟩ (Nat.le_of_ble_eq_true rfl) dX3_sureness_24 ?_
  refine z_istore_n (L' := [(2, .int (qI a7)), (0, .ref (qad g 0)), (1, .int (qI p1))]) C dX3_sureness_27 (by decide) rfl ?_
  refine z_aload_n C dX3_sureness_28 1 rfl ?_
  refine gf_X3_29 C rfl dX3_sureness_29 ?_
  refine z_aload_n C dX3_sureness_32 1 rfl ?_
  refine gf_X3_19 C rfl dX3_sureness_33 ?_
  refine z_iload_n C dX3_sureness_36 0 rfl ?_
  refine z_iload_n C dX3_sureness_37 2 rfl ?_
  obtain ⟨a9, h10, hm⟩ := qb_i hm
  refine iv_X3_245 C (met_X0_costWithStray l g hl hA n9 a5 7 a7 p1 _ h10) rfl ⟨by decide, by decide⟩ ⟨by decide, by decide⟩ (Nat.le_of_ble_eq_true rfl) dX3_sureness_38 ?_
  refine z_aload_n C dX3_sureness_41 1 rfl ?_
  refine gf_X3_29 C rfl dX3_sureness_42 ?_
  refine gf_X3_159 C rfl dX3_sureness_45 ?_
  refine z_iload_n C dX3_sureness_48 0 rfl ?_
  obtain ⟨a11, h12, hm⟩ := qb_i hm
  refine iv_X3_108 C (met_X3_at l g hl hA n9 a9.2 20 a7 _ h12) ⟨by decide, by decide⟩ ⟨by decide, by decide⟩ (Nat.le_of_ble_eq_true rfl) dX3_sureness_49 ?_
  refine z_isub C dX3_sureness_52 ?_
  exact z_iret C hr (by decide) (by decide) (by cases hm; rfl) dX3_sureness_53

set_option maxHeartbeats 4000000 in
set_option maxRecDepth 100000 in
theorem met_X3_plans_l33 {g : qG} {p : Program} {l : Launch} {e : Env} {s : State} {m : MethodId} {args : Array Value} {below : List Frame} {meth : Method} {c : Code} (C : qC g p l s m args meth c RX3 cX3_plans 7) (hr : meth.sig.returnType = (some .int)) (hT : ∀ x ∈ c.exceptionTable.toList, False) (a1 : qS) (a7 : Int) {r : qO × qS} (k58 : Int → Option (qO × qS)) (hk58 : ∀ (y1 : Int), k58 y1 = some r → qZ g p l e rmX3_plans s m args below meth c (qQ g below qkI r.1 r.2 args s rmX3_plans) 7 a1 [(4, .int (qI y1))] 58 [] 1 6) : ∀ (f : Nat) (x13 : Int) (x14 : Int) (x15 : Int), MX3_plans_l33 a1 a7 k58 f x13 x14 x15 = some r → qZ g p l e rmX3_plans s m args below meth c (qQ g below qkI r.1 r.2 args s rmX3_plans) 7 a1 [(2, .int (qI a7)), (3, .int (qI x13)), (4, .int (qI x14)), (5, .int (qI x15))] 33 [] 1 6 := by
  intro f
  induction f with
  | zero => intro x13 x14 x15 hm; rw [MX3_plans_l33] at hm; cases hm
  | succ f ih =>
    intro x13 x14 x15 hm
    rw [MX3_plans_l33] at hm
    have hl := C.2.2.2.2.2.2.2.2
    have hA := C.2.2.2.2.2.2.1
    refine z_iload C dX3_plans_33 3 rfl ?_
    refine z_iload_n C dX3_plans_35 0 rfl ?_
    obtain ⟨h16, hm⟩ := qg_i hm
    obtain ⟨h17, hm⟩ := qg_i hm
    refine z_icmp_gt (tgt := 58) C dX3_plans_36 (by decide) ⟨h16, h17⟩ (fun c18 => ?_) (fun c18 => ?_)
    · have hm := qt_i hm c18
      refine z_sub (L' := [(4, .int (qI x14))]) [2] rfl ?_
      exact hk58 x14 hm
    · have hm := qf_i hm c18
      refine z_iload_n C dX3_plans_39 1 rfl ?_
      refine z_iload C dX3_plans_40 2 rfl ?_
      refine z_iadd C dX3_plans_42 ?_
      obtain ⟨x19, e20, hm⟩ := ql_i hm
      refine z_topi e20 ?_
      refine z_istore (L' := [(6, .int (qI x19)), (2, .int (qI a7)), (3, .int (qI x13)), (4, .int (qI x14)), (5, .int (qI x15))]) C dX3_plans_43 (by decide) rfl ?_
      refine z_iload C dX3_plans_45 3 rfl ?_
      refine z_istore_n (L' := [(3, .int (qI x14)), (6, .int (qI x19)), (2, .int (qI a7)), (4, .int (qI x14)), (5, .int (qI x15))]) C dX3_plans_47 (by decide) rfl ?_
      refine z_iload C dX3_plans_48 1 rfl ?_
      refine z_istore (L' := [(4, .int (qI x19)), (3, .int (qI x14)), (6, .int (qI x19)), (2, .int (qI a7)), (5, .int (qI x15))]) C dX3_plans_50 (by decide) rfl ?_
      refine z_iinc (L' := [(5, .int (qI (x15 + 1))), (4, .int (qI x19)), (3, .int (qI x14)), (6, .int (qI x19)), (2, .int (qI a7))]) C dX3_plans_52 4 rfl (by decide) rfl ?_
      refine z_goto (tgt := 33) C dX3_plans_55 (by decide) ?_
      refine z_sub (L' := [(2, .int (qI a7)), (3, .int (qI x14)), (4, .int (qI x19)), (5, .int (qI (x15 + 1)))]) [4, 2, 1, 0] rfl ?_
      exact ih x14 x19 (x15 + 1) hm

set_option maxHeartbeats 4000000 in
set_option maxRecDepth 100000 in
theorem met_X3_plans (l : Launch) (g : qG) (hl : l.stackTraces = false) (hA : qAd g) (n9 : Nat) (S : qS) (p1 : Int) (r : qO × qS) (hm : MX3_plans n9 S p1 = some r) : qM l g yX3_plans (.code yX3_plans cX3_plans 7 (some .int)) rmX3_plans qkI [.ref (qad g 0), .int (qI p1)] S r.1 r.2 := by
  rw [MX3_plans] at hm
  refine qM_of (L := [(0, .ref (qad g 0)), (1, .int (qI p1))]) (by decide +kernel) rfl (Nat.le_of_ble_eq_true rfl) hl hA ?_
  intro p e s m below meth c C hr hT
  have C : qC g p l s m ([.ref (qad g 0), .int (qI p1)] : List Value).toArray meth c RX3 cX3_plans 7 := C
  refine z_aload_n C dX3_plans_0 0 rfl ?_
  refine gf_X3_29 C rfl dX3_plans_1 ?_
  refine z_aload_n C dX3_plans_4 0 rfl ?_
  refine gf_X3_19 C rfl dX3_plans_5 ?_
  obtain ⟨a1, h2, hm⟩ := qb_i hm
  refine iv_X3_75 C (met_X0_workOut l g hl hA n9 S 7 _ h2) rfl ⟨by decide, by decide⟩ ⟨by decide, by decide⟩ (Nat.le_of_ble_eq_true rfl) dX3_plans_8 ?_
  refine z_aload_n C dX3_plans_11 0 rfl ?_
  refine z_iload_n C dX3_plans_12 1 rfl ?_
  obtain ⟨a3, h4, hm⟩ := qb_i hm
  refine iv_X3_142 C (met_X3_demandTrain l g hl hA n9 a1 p1 _ h4) rfl ⟨by decide, by decide⟩ ⟨by decide, by decide⟩ (Nat.le_of_ble_eq_true rfl) dX3_plans_13 (fun E he => z_thr C hT (by decide) (by decide) (by have hm := qy_l hm he; cases hm; rfl)) (fun v5 h6 => ?_)
  have hm := qy_r hm h6
  refine z_aload_n C dX3_plans_16 0 rfl ?_
  refine gf_X3_29 C rfl dX3_plans_17 ?_
  refine z_iload_n C dX3_plans_20 1 rfl ?_
  obtain ⟨a7, h8, hm⟩ := qb_i hm
  refine iv_X3_150 C (met_X0_axlesOfTrain l g hl hA n9 a1 p1 _ h8) rfl ⟨by decide, by decide⟩ ⟨by decide, by decide⟩ (Nat.le_of_ble_eq_true rfl) dX3_plans_21 ?_
  refine z_istore_n (L' := [(2, .int (qI a7)), (0, .ref (qad g 0)), (1, .int (qI p1))]) C dX3_plans_24 (by decide) rfl ?_
  refine z_iconst (x := 1) C dX3_plans_25 rfl ?_
  refine z_istore_n (L' := [(3, .int (qI 1)), (2, .int (qI a7)), (0, .ref (qad g 0)), (1, .int (qI p1))]) C dX3_plans_26 (by decide) rfl ?_
  refine z_iconst (x := 1) C dX3_plans_27 rfl ?_
  refine z_istore (L' := [(4, .int (qI 1)), (3, .int (qI 1)), (2, .int (qI a7)), (0, .ref (qad g 0)), (1, .int (qI p1))]) C dX3_plans_28 (by decide) rfl ?_
  refine z_iconst (x := 2) C dX3_plans_30 rfl ?_
  refine z_istore (L' := [(5, .int (qI 2)), (4, .int (qI 1)), (3, .int (qI 1)), (2, .int (qI a7)), (0, .ref (qad g 0)), (1, .int (qI p1))]) C dX3_plans_31 (by decide) rfl ?_
  obtain ⟨j10, e12, hm⟩ := ql_i hm
  have hj10 : ∀ (x9 : Int), j10 x9 = some r → qZ g p l e rmX3_plans s m ([.ref (qad g 0), .int (qI p1)] : List Value).toArray below meth c (qQ g below qkI r.1 r.2 ([.ref (qad g 0), .int (qI p1)] : List Value).toArray s rmX3_plans) 7 a1 [(4, .int (qI x9))] 58 [] 1 6 := by
    intro x9 hm
    rw [e12] at hm
    refine z_iload C dX3_plans_58 0 rfl ?_
    refine z_ldc (x := 999999) C dX3_plans_60 qct_X3_249 (by decide +kernel) ?_
    obtain ⟨h11, hm⟩ := qg_i hm
    refine iv_X3_250 C ⟨by decide, Nat.le_of_ble_eq_true rfl⟩ ⟨by decide, by decide⟩ ⟨h11, (by decide)⟩ dX3_plans_62 ?_
    exact z_iret C hr (by decide) (by decide) (by cases hm; rfl) dX3_plans_65
  clear e12
  refine z_sub (L' := [(2, .int (qI a7)), (3, .int (qI 1)), (4, .int (qI 1)), (5, .int (qI 2))]) [3, 2, 1, 0] rfl ?_
  exact met_X3_plans_l33 C hr hT a1 a7 j10 hj10 n9 1 1 2 hm

set_option maxHeartbeats 4000000 in
set_option maxRecDepth 100000 in
theorem met_X3_heavy_l30 {g : qG} {p : Program} {l : Launch} {e : Env} {s : State} {m : MethodId} {args : Array Value} {below : List Frame} {meth : Method} {c : Code} (C : qC g p l s m args meth c RX3 cX3_heavy 5) (hr : meth.sig.returnType = (some .int)) (hT : ∀ x ∈ c.exceptionTable.toList, False) (n9 : Nat) (p1 : Int) (a3 : qS) {r : qO × qS}  : ∀ (f : Nat) (x5 : Int) (x6 : Int), MX3_heavy_l30 n9 p1 a3 f x5 x6 = some r → qZ g p l e rmX3_heavy s m args below meth c (qQ g below qkI r.1 r.2 args s rmX3_heavy) 5 a3 [(0, .ref (qad g 0)), (1, .int (qI p1)), (2, .int (qI x5)), (3, .int (qI x6))] 30 [] 0 0 := by
  intro f
  induction f with
  | zero => intro x5 x6 hm; rw [MX3_heavy_l30] at hm; cases hm
  | succ f ih =>
    intro x5 x6 hm
    rw [MX3_heavy_l30] at hm
    have hl := C.2.2.2.2.2.2.2.2
    have hA := C.2.2.2.2.2.2.1
    refine z_iload_n C dX3_heavy_30 3 rfl ?_
    refine z_aload_n C dX3_heavy_31 0 rfl ?_
    refine gf_X3_29 C rfl dX3_heavy_32 ?_
    refine gf_X3_85 C rfl dX3_heavy_35 ?_
    obtain ⟨h7, hm⟩ := qg_i hm
    obtain ⟨h8, hm⟩ := qg_i hm
    refine z_icmp_ge (tgt := 80) C dX3_heavy_38 (by decide) ⟨h7, h8⟩ (fun c9 => ?_) (fun c9 => ?_)
    · have hm := qt_i hm c9
      refine z_iload_n C dX3_heavy_80 2 rfl ?_
      exact z_iret C hr (by decide) (by decide) (by cases hm; rfl) dX3_heavy_81
    · have hm := qf_i hm c9
      refine z_aload_n C dX3_heavy_41 0 rfl ?_
      refine gf_X3_29 C rfl dX3_heavy_42 ?_
      refine gf_X3_128 C rfl dX3_heavy_45 ?_
      refine z_iload_n C dX3_heavy_48 3 rfl ?_
      obtain ⟨a10, h11, hm⟩ := qb_i hm
      refine iv_X3_108 C (met_X3_at l g hl hA n9 a3 23 x6 _ h11) ⟨by decide, by decide⟩ ⟨by decide, by decide⟩ (Nat.le_of_ble_eq_true rfl) dX3_heavy_49 ?_
      refine z_istore (L' := [(4, .int (qI a10)), (0, .ref (qad g 0)), (1, .int (qI p1)), (2, .int (qI x5)), (3, .int (qI x6))]) C dX3_heavy_52 (by decide) rfl ?_
      refine z_aload_n C dX3_heavy_54 1 rfl ?_
      refine gf_X3_19 C rfl dX3_heavy_55 ?_
      refine z_iload C dX3_heavy_58 0 rfl ?_
      obtain ⟨a12, h13, hm⟩ := qb_i hm
      refine iv_X3_131 C (met_X1_carWeight l g hl hA n9 a3 7 a10 _ h13) rfl ⟨by decide, by decide⟩ ⟨by decide, by decide⟩ (Nat.le_of_ble_eq_true rfl) dX3_heavy_60 ?_
      refine z_iload_n C dX3_heavy_63 2 rfl ?_
      obtain ⟨h14, hm⟩ := qg_i hm
      obtain ⟨h15, hm⟩ := qg_i hm
      obtain ⟨j17, e18, hm⟩ := ql_i hm
      have hj17 : ∀ (x16 : Int), j17 x16 = some r → qZ g p l e rmX3_heavy s m args below meth c (qQ g below qkI r.1 r.2 args s rmX3_heavy) 5 a3 [(0, .ref (qad g 0)), (1, .int (qI p1)), (2, .int (qI x16)), (3, .int (qI x6))] 74 [] 0 0 := by
        intro x16 hm
        rw [e18] at hm
        refine z_iinc (L' := [(3, .int (qI (x6 + 1))), (0, .ref (qad g 0)), (1, .int (qI p1)), (2, .int (qI x16))]) C dX3_heavy_74 3 rfl (by decide) rfl ?_
        refine z_goto (tgt := 30) C dX3_heavy_77 (by decide) ?_
        refine z_sub (L' := [(0, .ref (qad g 0)), (1, .int (qI p1)), (2, .int (qI x16)), (3, .int (qI (x6 + 1)))]) [1, 2, 3, 0] rfl ?_
        exact ih x16 (x6 + 1) hm
      clear e18
      refine z_icmp_lt (tgt := 74) C dX3_heavy_64 (by decide) ⟨h14, h15⟩ (fun c19 => ?_) (fun c19 => ?_)
      · have hm := qt_i hm c19
        refine z_sub (L' := [(0, .ref (qad g 0)), (1, .int (qI p1)), (2, .int (qI x5)), (3, .int (qI x6))]) [1, 2, 3, 4] rfl ?_
        exact hj17 x5 hm
      · have hm := qf_i hm c19
        refine z_iload_n C dX3_heavy_67 3 rfl ?_
        refine z_iconst (x := 3) C dX3_heavy_68 rfl ?_
        refine z_iload C dX3_heavy_69 0 rfl ?_
        refine z_ishl C dX3_heavy_71 ?_
        refine z_ior C dX3_heavy_72 ?_
        obtain ⟨x20, e21, hm⟩ := ql_i hm
        refine z_topi e21 ?_
        refine z_istore_n (L' := [(2, .int (qI x20)), (4, .int (qI a10)), (0, .ref (qad g 0)), (1, .int (qI p1)), (3, .int (qI x6))]) C dX3_heavy_73 (by decide) rfl ?_
        refine z_sub (L' := [(0, .ref (qad g 0)), (1, .int (qI p1)), (2, .int (qI x20)), (3, .int (qI x6))]) [2, 3, 0, 4] rfl ?_
        exact hj17 x20 hm

set_option maxHeartbeats 4000000 in
set_option maxRecDepth 100000 in
theorem met_X3_heavy (l : Launch) (g : qG) (hl : l.stackTraces = false) (hA : qAd g) (n9 : Nat) (S : qS) (p1 : Int) (r : qO × qS) (hm : MX3_heavy n9 S p1 = some r) : qM l g yX3_heavy (.code yX3_heavy cX3_heavy 5 (some .int)) rmX3_heavy qkI [.ref (qad g 0), .int (qI p1)] S r.1 r.2 := by
  rw [MX3_heavy] at hm
  refine qM_of (L := [(0, .ref (qad g 0)), (1, .int (qI p1))]) (by decide +kernel) rfl (Nat.le_of_ble_eq_true rfl) hl hA ?_
  intro p e s m below meth c C hr hT
  have C : qC g p l s m ([.ref (qad g 0), .int (qI p1)] : List Value).toArray meth c RX3 cX3_heavy 5 := C
  refine z_iload_n C dX3_heavy_0 1 rfl ?_
  obtain ⟨h1, hm⟩ := qg_i hm
  refine z_if_ge (tgt := 15) C dX3_heavy_1 (by decide) h1 (fun c2 => ?_) (fun c2 => ?_)
  · have hm := qt_i hm c2
    refine z_aload_n C dX3_heavy_15 0 rfl ?_
    refine gf_X3_29 C rfl dX3_heavy_16 ?_
    refine z_aload_n C dX3_heavy_19 0 rfl ?_
    refine gf_X3_19 C rfl dX3_heavy_20 ?_
    obtain ⟨a3, h4, hm⟩ := qb_i hm
    refine iv_X3_75 C (met_X0_workOut l g hl hA n9 S 7 _ h4) rfl ⟨by decide, by decide⟩ ⟨by decide, by decide⟩ (Nat.le_of_ble_eq_true rfl) dX3_heavy_23 ?_
    refine z_iconst (x := 0) C dX3_heavy_26 rfl ?_
    refine z_istore_n (L' := [(2, .int (qI 0)), (0, .ref (qad g 0)), (1, .int (qI p1))]) C dX3_heavy_27 (by decide) rfl ?_
    refine z_iconst (x := 0) C dX3_heavy_28 rfl ?_
    refine z_istore_n (L' := [(3, .int (qI 0)), (2, .int (qI 0)), (0, .ref (qad g 0)), (1, .int (qI p1))]) C dX3_heavy_29 (by decide) rfl ?_
    refine z_sub (L' := [(0, .ref (qad g 0)), (1, .int (qI p1)), (2, .int (qI 0)), (3, .int (qI 0))]) [2, 3, 1, 0] rfl ?_
    exact met_X3_heavy_l30 C hr hT n9 p1 a3  n9 0 0 hm
  · have hm := qf_i hm c2
    exact th_iaew C hT (by decide : (256, "a weight is not negative") ∈ qStr) ⟨by decide, Nat.le_of_ble_eq_true rfl⟩ ⟨by decide, by decide⟩ (by decide) (by decide) (by cases hm; rfl) dX3_heavy_4 dX3_heavy_7 dX3_heavy_8 dX3_heavy_11 dX3_heavy_14

set_option maxHeartbeats 4000000 in
set_option maxRecDepth 100000 in
theorem met_X3_withoutLastGroups_l5 {g : qG} {p : Program} {l : Launch} {e : Env} {s : State} {m : MethodId} {args : Array Value} {below : List Frame} {meth : Method} {c : Code} (C : qC g p l s m args meth c RX3 cX3_withoutLastGroups 6) (hr : meth.sig.returnType = (some .long)) (hT : ∀ x ∈ c.exceptionTable.toList, False) (S : qS) (p2 : Int) {r : Int}  : ∀ (f : Nat) (x1 : Int) (x2 : Int), MX3_withoutLastGroups_l5 S p2 f x1 x2 = some r → qZ g p l e rmX3_withoutLastGroups s m args below meth c (qQ g below qkL (.inr r) S args s rmX3_withoutLastGroups) 6 S [(2, .int (qI p2)), (3, .long (qL x1)), (5, .int (qI x2))] 5 [] 0 0 := by
  intro f
  induction f with
  | zero => intro x1 x2 hm; rw [MX3_withoutLastGroups_l5] at hm; cases hm
  | succ f ih =>
    intro x1 x2 hm
    rw [MX3_withoutLastGroups_l5] at hm
    have hl := C.2.2.2.2.2.2.2.2
    have hA := C.2.2.2.2.2.2.1
    refine z_iload C dX3_withoutLastGroups_5 2 rfl ?_
    refine z_iload_n C dX3_withoutLastGroups_7 0 rfl ?_
    obtain ⟨h3, hm⟩ := qg_i hm
    obtain ⟨h4, hm⟩ := qg_i hm
    refine z_icmp_ge (tgt := 23) C dX3_withoutLastGroups_8 (by decide) ⟨h3, h4⟩ (fun c5 => ?_) (fun c5 => ?_)
    · have hm := qt_i hm c5
      refine z_lload_n C dX3_withoutLastGroups_23 1 rfl ?_
      exact z_lret C hr (by decide) (by decide) (by cases hm; rfl) dX3_withoutLastGroups_24
    · have hm := qf_i hm c5
      refine z_lload_n C dX3_withoutLastGroups_11 1 rfl ?_
      refine z_ldc2 (x := 100000) C dX3_withoutLastGroups_12 qct_X3_266 (by decide +kernel) ?_
      obtain ⟨h6, hm⟩ := qg_i hm
      refine z_ldiv C dX3_withoutLastGroups_15 h6 ?_
      obtain ⟨x7, e8, hm⟩ := ql_i hm
      refine z_topl e8 ?_
      refine z_lstore_n (L' := [(3, .long (qL x7)), (2, .int (qI p2)), (5, .int (qI x2))]) C dX3_withoutLastGroups_16 (by decide) rfl ?_
      refine z_iinc (L' := [(5, .int (qI (x2 + 1))), (3, .long (qL x7)), (2, .int (qI p2))]) C dX3_withoutLastGroups_17 2 rfl (by decide) rfl ?_
      refine z_goto (tgt := 5) C dX3_withoutLastGroups_20 (by decide) ?_
      refine z_sub (L' := [(2, .int (qI p2)), (3, .long (qL x7)), (5, .int (qI (x2 + 1)))]) [2, 1, 0] rfl ?_
      exact ih x7 (x2 + 1) hm

set_option maxHeartbeats 4000000 in
set_option maxRecDepth 100000 in
theorem met_X3_withoutLastGroups (l : Launch) (g : qG) (hl : l.stackTraces = false) (hA : qAd g) (n9 : Nat) (S : qS) (p0 : Int) (p2 : Int) (r : Int) (hm : MX3_withoutLastGroups n9 S p0 p2 = some r) : qM l g yX3_withoutLastGroups (.code yX3_withoutLastGroups cX3_withoutLastGroups 6 (some .long)) rmX3_withoutLastGroups qkL [.long (qL p0), .int (qI p2)] S (.inr r) S := by
  rw [MX3_withoutLastGroups] at hm
  refine qM_of (L := [(0, .long (qL p0)), (2, .int (qI p2))]) (by decide +kernel) rfl (Nat.le_of_ble_eq_true rfl) hl hA ?_
  intro p e s m below meth c C hr hT
  have C : qC g p l s m ([.long (qL p0), .int (qI p2)] : List Value).toArray meth c RX3 cX3_withoutLastGroups 6 := C
  refine z_lload_n C dX3_withoutLastGroups_0 0 rfl ?_
  refine z_lstore_n (L' := [(3, .long (qL p0)), (0, .long (qL p0)), (2, .int (qI p2))]) C dX3_withoutLastGroups_1 (by decide) rfl ?_
  refine z_iconst (x := 0) C dX3_withoutLastGroups_2 rfl ?_
  refine z_istore (L' := [(5, .int (qI 0)), (3, .long (qL p0)), (0, .long (qL p0)), (2, .int (qI p2))]) C dX3_withoutLastGroups_3 (by decide) rfl ?_
  refine z_sub (L' := [(2, .int (qI p2)), (3, .long (qL p0)), (5, .int (qI 0))]) [3, 1, 0] rfl ?_
  exact met_X3_withoutLastGroups_l5 C hr hT S p2  n9 p0 0 hm

set_option maxHeartbeats 4000000 in
set_option maxRecDepth 100000 in
theorem met_X3_conditionHolds (l : Launch) (g : qG) (hl : l.stackTraces = false) (hA : qAd g) (n9 : Nat) (S : qS) (p1 : Int) (r : Int × qS) (hm : MX3_conditionHolds n9 S p1 = some r) : qM l g yX3_conditionHolds (.code yX3_conditionHolds cX3_conditionHolds 4 (some .boolean)) rmX3_conditionHolds qkI [.ref (qad g 0), .int (qI p1)] S (.inr r.1) r.2 := by
  rw [MX3_conditionHolds] at hm
  refine qM_of (L := [(0, .ref (qad g 0)), (1, .int (qI p1))]) (by decide +kernel) rfl (Nat.le_of_ble_eq_true rfl) hl hA ?_
  intro p e s m below meth c C hr hT
  have C : qC g p l s m ([.ref (qad g 0), .int (qI p1)] : List Value).toArray meth c RX3 cX3_conditionHolds 4 := C
  refine z_iload_n C dX3_conditionHolds_0 1 rfl ?_
  refine z_bipush (x := 100) C dX3_conditionHolds_1 (by decide +kernel) ?_
  obtain ⟨h1, hm⟩ := qg_i hm
  refine z_idiv C dX3_conditionHolds_3 h1 ?_
  refine z_bipush (x := 100) C dX3_conditionHolds_4 (by decide +kernel) ?_
  obtain ⟨h2, hm⟩ := qg_i hm
  refine z_irem C dX3_conditionHolds_6 h2 ?_
  obtain ⟨x3, e4, hm⟩ := ql_i hm
  refine z_topi e4 ?_
  refine z_istore_n (L' := [(2, .int (qI x3)), (0, .ref (qad g 0)), (1, .int (qI p1))]) C dX3_conditionHolds_7 (by decide) rfl ?_
  refine z_iload_n C dX3_conditionHolds_8 2 rfl ?_
  refine z_bipush (x := 100) C dX3_conditionHolds_9 (by decide +kernel) ?_
  obtain ⟨h5, hm⟩ := qg_i hm
  refine z_irem C dX3_conditionHolds_11 h5 ?_
  obtain ⟨x6, e7, hm⟩ := ql_i hm
  refine z_topi e7 ?_
  refine z_istore_n (L' := [(3, .int (qI x6)), (2, .int (qI x3)), (0, .ref (qad g 0)), (1, .int (qI p1))]) C dX3_conditionHolds_12 (by decide) rfl ?_
  refine z_aload_n C dX3_conditionHolds_13 2 rfl ?_
  refine gf_X3_29 C rfl dX3_conditionHolds_14 ?_
  refine z_aload_n C dX3_conditionHolds_17 2 rfl ?_
  refine gf_X3_23 C rfl dX3_conditionHolds_18 ?_
  obtain ⟨a8, h9, hm⟩ := qb_i hm
  refine iv_X3_75 C (met_X0_workOut l g hl hA n9 S 12 _ h9) rfl ⟨by decide, by decide⟩ ⟨by decide, by decide⟩ (Nat.le_of_ble_eq_true rfl) dX3_conditionHolds_21 ?_
  refine z_iload_n C dX3_conditionHolds_24 3 rfl ?_
  refine z_sipush (x := 10000) C dX3_conditionHolds_25 (by decide +kernel) ?_
  obtain ⟨h10, hm⟩ := qg_i hm
  refine z_idiv C dX3_conditionHolds_28 h10 ?_
  obtain ⟨h11, hm⟩ := qg_i hm
  rcases Classical.em ((p1 / 10000) = 6) with c12 | c12
  · have hm := qt_i hm c12
    refine z_tableIn (tgt := 60) C dX3_conditionHolds_29 h11 (by omega) (by omega) (by rw [c12]; rfl) (by decide) ?_
    refine z_iload_n C dX3_conditionHolds_60 1 rfl ?_
    obtain ⟨h13, hm⟩ := qg_i hm
    refine z_if_ne (tgt := 79) C dX3_conditionHolds_61 (by decide) h13 (fun c14 => ?_) (fun c14 => ?_)
    · have hm := qt_i hm c14
      refine z_aload_n C dX3_conditionHolds_64 2 rfl ?_
      refine gf_X3_29 C rfl dX3_conditionHolds_65 ?_
      refine gf_X3_85 C rfl dX3_conditionHolds_68 ?_
      refine z_iload_n C dX3_conditionHolds_71 0 rfl ?_
      obtain ⟨h15, hm⟩ := qg_i hm
      obtain ⟨h16, hm⟩ := qg_i hm
      refine z_icmp_lt (tgt := 79) C dX3_conditionHolds_72 (by decide) ⟨h15, h16⟩ (fun c17 => ?_) (fun c17 => ?_)
      · have hm := qt_i hm c17
        refine z_iconst (x := 0) C dX3_conditionHolds_79 rfl ?_
        exact z_zret C hr (by decide) (by decide) (by decide) (by cases hm; rfl) dX3_conditionHolds_80
      · have hm := qf_i hm c17
        refine z_iconst (x := 1) C dX3_conditionHolds_75 rfl ?_
        refine z_goto (tgt := 80) C dX3_conditionHolds_76 (by decide) ?_
        exact z_zret C hr (by decide) (by decide) (by decide) (by cases hm; rfl) dX3_conditionHolds_80
    · have hm := qf_i hm c14
      refine z_iconst (x := 0) C dX3_conditionHolds_79 rfl ?_
      exact z_zret C hr (by decide) (by decide) (by decide) (by cases hm; rfl) dX3_conditionHolds_80
  have hm := qf_i hm c12
  rcases Classical.em ((p1 / 10000) = 7) with c18 | c18
  · have hm := qt_i hm c18
    refine z_tableIn (tgt := 81) C dX3_conditionHolds_29 h11 (by omega) (by omega) (by rw [c18]; rfl) (by decide) ?_
    refine z_iload_n C dX3_conditionHolds_81 1 rfl ?_
    obtain ⟨h19, hm⟩ := qg_i hm
    refine z_if_ne (tgt := 110) C dX3_conditionHolds_82 (by decide) h19 (fun c20 => ?_) (fun c20 => ?_)
    · have hm := qt_i hm c20
      refine z_aload_n C dX3_conditionHolds_85 2 rfl ?_
      refine gf_X3_23 C rfl dX3_conditionHolds_86 ?_
      refine gf_X3_79 C rfl dX3_conditionHolds_89 ?_
      refine z_iconst (x := 2) C dX3_conditionHolds_92 rfl ?_
      refine z_aload_n C dX3_conditionHolds_93 2 rfl ?_
      refine gf_X3_29 C rfl dX3_conditionHolds_94 ?_
      refine gf_X3_85 C rfl dX3_conditionHolds_97 ?_
      refine z_imul C dX3_conditionHolds_100 ?_
      refine z_isub C dX3_conditionHolds_101 ?_
      refine z_iload_n C dX3_conditionHolds_102 0 rfl ?_
      obtain ⟨h21, hm⟩ := qg_i hm
      obtain ⟨h22, hm⟩ := qg_i hm
      refine z_icmp_gt (tgt := 110) C dX3_conditionHolds_103 (by decide) ⟨h21, h22⟩ (fun c23 => ?_) (fun c23 => ?_)
      · have hm := qt_i hm c23
        refine z_iconst (x := 0) C dX3_conditionHolds_110 rfl ?_
        exact z_zret C hr (by decide) (by decide) (by decide) (by cases hm; rfl) dX3_conditionHolds_111
      · have hm := qf_i hm c23
        refine z_iconst (x := 1) C dX3_conditionHolds_106 rfl ?_
        refine z_goto (tgt := 111) C dX3_conditionHolds_107 (by decide) ?_
        exact z_zret C hr (by decide) (by decide) (by decide) (by cases hm; rfl) dX3_conditionHolds_111
    · have hm := qf_i hm c20
      refine z_iconst (x := 0) C dX3_conditionHolds_110 rfl ?_
      exact z_zret C hr (by decide) (by decide) (by decide) (by cases hm; rfl) dX3_conditionHolds_111
  have hm := qf_i hm c18
  rcases Classical.em ((p1 / 10000) = 8) with c24 | c24
  · have hm := qt_i hm c24
    refine z_tableIn (tgt := 112) C dX3_conditionHolds_29 h11 (by omega) (by omega) (by rw [c24]; rfl) (by decide) ?_
    refine z_aload_n C dX3_conditionHolds_112 2 rfl ?_
    refine gf_X3_29 C rfl dX3_conditionHolds_113 ?_
    refine gf_X3_88 C rfl dX3_conditionHolds_116 ?_
    refine z_iload_n C dX3_conditionHolds_119 3 rfl ?_
    refine z_sipush (x := 10000) C dX3_conditionHolds_120 (by decide +kernel) ?_
    obtain ⟨h25, hm⟩ := qg_i hm
    refine z_irem C dX3_conditionHolds_123 h25 ?_
    obtain ⟨h26, hm⟩ := qg_i hm
    obtain ⟨h27, hm⟩ := qg_i hm
    refine z_icmp_lt (tgt := 131) C dX3_conditionHolds_124 (by decide) ⟨h26, h27⟩ (fun c28 => ?_) (fun c28 => ?_)
    · have hm := qt_i hm c28
      refine z_iconst (x := 0) C dX3_conditionHolds_131 rfl ?_
      exact z_zret C hr (by decide) (by decide) (by decide) (by cases hm; rfl) dX3_conditionHolds_132
    · have hm := qf_i hm c28
      refine z_iconst (x := 1) C dX3_conditionHolds_127 rfl ?_
      refine z_goto (tgt := 132) C dX3_conditionHolds_128 (by decide) ?_
      exact z_zret C hr (by decide) (by decide) (by decide) (by cases hm; rfl) dX3_conditionHolds_132
  have hm := qf_i hm c24
  rcases Classical.em ((p1 / 10000) = 9) with c29 | c29
  · have hm := qt_i hm c29
    refine z_tableIn (tgt := 133) C dX3_conditionHolds_29 h11 (by omega) (by omega) (by rw [c29]; rfl) (by decide) ?_
    refine z_aload_n C dX3_conditionHolds_133 2 rfl ?_
    refine gf_X3_23 C rfl dX3_conditionHolds_134 ?_
    refine z_iload_n C dX3_conditionHolds_137 1 rfl ?_
    obtain ⟨a30, h31, hm⟩ := qb_i hm
    refine iv_X3_285 C (met_X1_has l g hl hA n9 a8 12 x3 _ h31) rfl ⟨by decide, by decide⟩ ⟨by decide, by decide⟩ (Nat.le_of_ble_eq_true rfl) dX3_conditionHolds_138 ?_
    obtain ⟨h32, hm⟩ := qg_i hm
    refine z_if_eq (tgt := 172) C dX3_conditionHolds_141 (by decide) h32 (fun c33 => ?_) (fun c33 => ?_)
    · have hm := qt_i hm c33
      refine z_iconst (x := 0) C dX3_conditionHolds_172 rfl ?_
      exact z_zret C hr (by decide) (by decide) (by decide) (by cases hm; rfl) dX3_conditionHolds_173
    · have hm := qf_i hm c33
      refine z_iload_n C dX3_conditionHolds_144 0 rfl ?_
      refine z_aload_n C dX3_conditionHolds_145 2 rfl ?_
      refine gf_X3_29 C rfl dX3_conditionHolds_146 ?_
      refine gf_X3_118 C rfl dX3_conditionHolds_149 ?_
      refine z_iload_n C dX3_conditionHolds_152 1 rfl ?_
      obtain ⟨a34, h35, hm⟩ := qb_i hm
      refine iv_X3_108 C (met_X3_at l g hl hA n9 a8 22 x3 _ h35) ⟨by decide, by decide⟩ ⟨by decide, by decide⟩ (Nat.le_of_ble_eq_true rfl) dX3_conditionHolds_153 ?_
      refine z_iconst (x := (-1)) C dX3_conditionHolds_156 rfl ?_
      obtain ⟨h36, hm⟩ := qg_i hm
      obtain ⟨j38, e42, hm⟩ := ql_i hm
      have hj38 : ∀ (v37 : Int), j38 v37 = some r → qZ g p l e rmX3_conditionHolds s m ([.ref (qad g 0), .int (qI p1)] : List Value).toArray below meth c (qQ g below qkI (.inr r.1) r.2 ([.ref (qad g 0), .int (qI p1)] : List Value).toArray s rmX3_conditionHolds) 4 a8 [] 165 [.int (qI v37), .int (qI x6)] 0 0 := by
        intro v37 hm
        rw [e42] at hm
        obtain ⟨h39, hm⟩ := qg_i hm
        obtain ⟨h40, hm⟩ := qg_i hm
        refine z_icmp_ne (tgt := 172) C dX3_conditionHolds_165 (by decide) ⟨h39, h40⟩ (fun c41 => ?_) (fun c41 => ?_)
        · have hm := qt_i hm c41
          refine z_iconst (x := 1) C dX3_conditionHolds_168 rfl ?_
          refine z_goto (tgt := 173) C dX3_conditionHolds_169 (by decide) ?_
          exact z_zret C hr (by decide) (by decide) (by decide) (by cases hm; rfl) dX3_conditionHolds_173
        · have hm := qf_i hm c41
          refine z_iconst (x := 0) C dX3_conditionHolds_172 rfl ?_
          exact z_zret C hr (by decide) (by decide) (by decide) (by cases hm; rfl) dX3_conditionHolds_173
      clear e42
      refine z_icmp_ne (tgt := 164) C dX3_conditionHolds_157 (by decide) ⟨h36, (by decide)⟩ (fun c43 => ?_) (fun c43 => ?_)
      · have hm := qt_i hm c43
        refine z_iconst (x := 0) C dX3_conditionHolds_160 rfl ?_
        refine z_goto (tgt := 165) C dX3_conditionHolds_161 (by decide) ?_
        refine z_sub (L' := []) [] rfl ?_
        exact hj38 0 hm
      · have hm := qf_i hm c43
        refine z_iconst (x := 1) C dX3_conditionHolds_164 rfl ?_
        refine z_sub (L' := []) [] rfl ?_
        exact hj38 1 hm
  have hm := qf_i hm c29
  refine z_tableOut (tgt := 174) C dX3_conditionHolds_29 h11 (by omega) (by decide) ?_
  refine z_iconst (x := 0) C dX3_conditionHolds_174 rfl ?_
  exact z_zret C hr (by decide) (by decide) (by decide) (by cases hm; rfl) dX3_conditionHolds_175

set_option maxHeartbeats 4000000 in
set_option maxRecDepth 100000 in
theorem met_X3_commandSucceeds (l : Launch) (g : qG) (hl : l.stackTraces = false) (hA : qAd g) (n9 : Nat) (S : qS) (p1 : Int) (r : Int × qS) (hm : MX3_commandSucceeds n9 S p1 = some r) : qM l g yX3_commandSucceeds (.code yX3_commandSucceeds cX3_commandSucceeds 4 (some .boolean)) rmX3_commandSucceeds qkI [.ref (qad g 0), .int (qI p1)] S (.inr r.1) r.2 := by
  rw [MX3_commandSucceeds] at hm
  refine qM_of (L := [(0, .ref (qad g 0)), (1, .int (qI p1))]) (by decide +kernel) rfl (Nat.le_of_ble_eq_true rfl) hl hA ?_
  intro p e s m below meth c C hr hT
  have C : qC g p l s m ([.ref (qad g 0), .int (qI p1)] : List Value).toArray meth c RX3 cX3_commandSucceeds 4 := C
  refine z_iload_n C dX3_commandSucceeds_0 1 rfl ?_
  refine z_bipush (x := 100) C dX3_commandSucceeds_1 (by decide +kernel) ?_
  obtain ⟨h1, hm⟩ := qg_i hm
  refine z_idiv C dX3_commandSucceeds_3 h1 ?_
  refine z_bipush (x := 100) C dX3_commandSucceeds_4 (by decide +kernel) ?_
  obtain ⟨h2, hm⟩ := qg_i hm
  refine z_irem C dX3_commandSucceeds_6 h2 ?_
  obtain ⟨x3, e4, hm⟩ := ql_i hm
  refine z_topi e4 ?_
  refine z_istore_n (L' := [(2, .int (qI x3)), (0, .ref (qad g 0)), (1, .int (qI p1))]) C dX3_commandSucceeds_7 (by decide) rfl ?_
  refine z_iload_n C dX3_commandSucceeds_8 2 rfl ?_
  refine z_bipush (x := 100) C dX3_commandSucceeds_9 (by decide +kernel) ?_
  obtain ⟨h5, hm⟩ := qg_i hm
  refine z_irem C dX3_commandSucceeds_11 h5 ?_
  obtain ⟨x6, e7, hm⟩ := ql_i hm
  refine z_topi e7 ?_
  refine z_istore_n (L' := [(3, .int (qI x6)), (2, .int (qI x3)), (0, .ref (qad g 0)), (1, .int (qI p1))]) C dX3_commandSucceeds_12 (by decide) rfl ?_
  refine z_iload_n C dX3_commandSucceeds_13 3 rfl ?_
  refine z_sipush (x := 10000) C dX3_commandSucceeds_14 (by decide +kernel) ?_
  obtain ⟨h8, hm⟩ := qg_i hm
  refine z_idiv C dX3_commandSucceeds_17 h8 ?_
  obtain ⟨h9, hm⟩ := qg_i hm
  rcases Classical.em ((p1 / 10000) = 1) with c10 | c10
  · have hm := qt_i hm c10
    refine z_tableIn (tgt := 52) C dX3_commandSucceeds_18 h9 (by omega) (by omega) (by rw [c10]; rfl) (by decide) ?_
    refine z_aload_n C dX3_commandSucceeds_52 2 rfl ?_
    refine gf_X3_23 C rfl dX3_commandSucceeds_53 ?_
    refine z_iload_n C dX3_commandSucceeds_56 1 rfl ?_
    refine z_iload_n C dX3_commandSucceeds_57 0 rfl ?_
    obtain ⟨a11, h12, hm⟩ := qb_i hm
    refine iv_X3_192 C (met_X1_addAxle l g hl hA n9 S 12 x3 x6 _ h12) rfl ⟨by decide, by decide⟩ ⟨by decide, by decide⟩ (Nat.le_of_ble_eq_true rfl) dX3_commandSucceeds_58 ?_
    obtain ⟨h13, hm⟩ := qg_i hm
    exact z_zret C hr h13 (by decide) (by decide) (by cases hm; rfl) dX3_commandSucceeds_61
  have hm := qf_i hm c10
  rcases Classical.em ((p1 / 10000) = 2) with c14 | c14
  · have hm := qt_i hm c14
    refine z_tableIn (tgt := 62) C dX3_commandSucceeds_18 h9 (by omega) (by omega) (by rw [c14]; rfl) (by decide) ?_
    refine z_iload_n C dX3_commandSucceeds_62 0 rfl ?_
    obtain ⟨h15, hm⟩ := qg_i hm
    refine z_if_ne (tgt := 81) C dX3_commandSucceeds_63 (by decide) h15 (fun c16 => ?_) (fun c16 => ?_)
    · have hm := qt_i hm c16
      refine z_aload_n C dX3_commandSucceeds_66 2 rfl ?_
      refine gf_X3_23 C rfl dX3_commandSucceeds_67 ?_
      refine z_iload_n C dX3_commandSucceeds_70 1 rfl ?_
      obtain ⟨a17, h18, hm⟩ := qb_i hm
      refine iv_X3_200 C (met_X1_dropAxle l g hl hA n9 S 12 x3 _ h18) rfl ⟨by decide, by decide⟩ ⟨by decide, by decide⟩ (Nat.le_of_ble_eq_true rfl) dX3_commandSucceeds_71 ?_
      obtain ⟨h19, hm⟩ := qg_i hm
      refine z_if_eq (tgt := 81) C dX3_commandSucceeds_74 (by decide) h19 (fun c20 => ?_) (fun c20 => ?_)
      · have hm := qt_i hm c20
        refine z_iconst (x := 0) C dX3_commandSucceeds_81 rfl ?_
        exact z_zret C hr (by decide) (by decide) (by decide) (by cases hm; rfl) dX3_commandSucceeds_82
      · have hm := qf_i hm c20
        refine z_iconst (x := 1) C dX3_commandSucceeds_77 rfl ?_
        refine z_goto (tgt := 82) C dX3_commandSucceeds_78 (by decide) ?_
        exact z_zret C hr (by decide) (by decide) (by decide) (by cases hm; rfl) dX3_commandSucceeds_82
    · have hm := qf_i hm c16
      refine z_iconst (x := 0) C dX3_commandSucceeds_81 rfl ?_
      exact z_zret C hr (by decide) (by decide) (by decide) (by cases hm; rfl) dX3_commandSucceeds_82
  have hm := qf_i hm c14
  rcases Classical.em ((p1 / 10000) = 3) with c21 | c21
  · have hm := qt_i hm c21
    refine z_tableIn (tgt := 83) C dX3_commandSucceeds_18 h9 (by omega) (by omega) (by rw [c21]; rfl) (by decide) ?_
    refine z_aload_n C dX3_commandSucceeds_83 2 rfl ?_
    refine gf_X3_23 C rfl dX3_commandSucceeds_84 ?_
    refine z_iload_n C dX3_commandSucceeds_87 1 rfl ?_
    refine z_iload_n C dX3_commandSucceeds_88 0 rfl ?_
    obtain ⟨a22, h23, hm⟩ := qb_i hm
    refine iv_X3_205 C (met_X1_putWeight l g hl hA n9 S 12 x3 x6 _ h23) rfl ⟨by decide, by decide⟩ ⟨by decide, by decide⟩ (Nat.le_of_ble_eq_true rfl) dX3_commandSucceeds_89 ?_
    obtain ⟨h24, hm⟩ := qg_i hm
    exact z_zret C hr h24 (by decide) (by decide) (by cases hm; rfl) dX3_commandSucceeds_92
  have hm := qf_i hm c21
  rcases Classical.em ((p1 / 10000) = 4) with c25 | c25
  · have hm := qt_i hm c25
    refine z_tableIn (tgt := 93) C dX3_commandSucceeds_18 h9 (by omega) (by omega) (by rw [c25]; rfl) (by decide) ?_
    refine z_iload_n C dX3_commandSucceeds_93 0 rfl ?_
    refine z_bipush (x := 10) C dX3_commandSucceeds_94 (by decide +kernel) ?_
    obtain ⟨h26, hm⟩ := qg_i hm
    refine z_irem C dX3_commandSucceeds_96 h26 ?_
    obtain ⟨h27, hm⟩ := qg_i hm
    refine z_if_ne (tgt := 125) C dX3_commandSucceeds_97 (by decide) h27 (fun c28 => ?_) (fun c28 => ?_)
    · have hm := qt_i hm c28
      refine z_aload_n C dX3_commandSucceeds_100 2 rfl ?_
      refine gf_X3_23 C rfl dX3_commandSucceeds_101 ?_
      refine z_iload_n C dX3_commandSucceeds_104 1 rfl ?_
      refine z_bipush (x := 10) C dX3_commandSucceeds_105 (by decide +kernel) ?_
      obtain ⟨h29, hm⟩ := qg_i hm
      refine z_idiv C dX3_commandSucceeds_107 h29 ?_
      refine z_iload_n C dX3_commandSucceeds_108 3 rfl ?_
      refine z_bipush (x := 10) C dX3_commandSucceeds_109 (by decide +kernel) ?_
      obtain ⟨h30, hm⟩ := qg_i hm
      refine z_idiv C dX3_commandSucceeds_111 h30 ?_
      refine z_bipush (x := 100) C dX3_commandSucceeds_112 (by decide +kernel) ?_
      obtain ⟨h31, hm⟩ := qg_i hm
      refine z_irem C dX3_commandSucceeds_114 h31 ?_
      obtain ⟨a32, h33, hm⟩ := qb_i hm
      refine iv_X3_218 C (met_X1_putSetting l g hl hA n9 S 12 (x3 / 10) ((p1 / 10) % 100) _ h33) rfl ⟨by decide, by decide⟩ ⟨by decide, by decide⟩ (Nat.le_of_ble_eq_true rfl) dX3_commandSucceeds_115 ?_
      obtain ⟨h34, hm⟩ := qg_i hm
      refine z_if_eq (tgt := 125) C dX3_commandSucceeds_118 (by decide) h34 (fun c35 => ?_) (fun c35 => ?_)
      · have hm := qt_i hm c35
        refine z_iconst (x := 0) C dX3_commandSucceeds_125 rfl ?_
        exact z_zret C hr (by decide) (by decide) (by decide) (by cases hm; rfl) dX3_commandSucceeds_126
      · have hm := qf_i hm c35
        refine z_iconst (x := 1) C dX3_commandSucceeds_121 rfl ?_
        refine z_goto (tgt := 126) C dX3_commandSucceeds_122 (by decide) ?_
        exact z_zret C hr (by decide) (by decide) (by decide) (by cases hm; rfl) dX3_commandSucceeds_126
    · have hm := qf_i hm c28
      refine z_iconst (x := 0) C dX3_commandSucceeds_125 rfl ?_
      exact z_zret C hr (by decide) (by decide) (by decide) (by cases hm; rfl) dX3_commandSucceeds_126
  have hm := qf_i hm c25
  rcases Classical.em ((p1 / 10000) = 5) with c36 | c36
  · have hm := qt_i hm c36
    refine z_tableIn (tgt := 127) C dX3_commandSucceeds_18 h9 (by omega) (by omega) (by rw [c36]; rfl) (by decide) ?_
    refine z_iload_n C dX3_commandSucceeds_127 1 rfl ?_
    obtain ⟨h37, hm⟩ := qg_i hm
    refine z_if_ne (tgt := 149) C dX3_commandSucceeds_128 (by decide) h37 (fun c38 => ?_) (fun c38 => ?_)
    · have hm := qt_i hm c38
      refine z_iload_n C dX3_commandSucceeds_131 0 rfl ?_
      obtain ⟨h39, hm⟩ := qg_i hm
      refine z_if_ne (tgt := 149) C dX3_commandSucceeds_132 (by decide) h39 (fun c40 => ?_) (fun c40 => ?_)
      · have hm := qt_i hm c40
        refine z_aload_n C dX3_commandSucceeds_135 2 rfl ?_
        refine gf_X3_23 C rfl dX3_commandSucceeds_136 ?_
        obtain ⟨a41, h42, hm⟩ := qb_i hm
        refine iv_X3_223 C (met_X1_dropFirstTrain l g hl hA n9 S 12 _ h42) rfl ⟨by decide, by decide⟩ ⟨by decide, by decide⟩ (Nat.le_of_ble_eq_true rfl) dX3_commandSucceeds_139 ?_
        obtain ⟨h43, hm⟩ := qg_i hm
        refine z_if_eq (tgt := 149) C dX3_commandSucceeds_142 (by decide) h43 (fun c44 => ?_) (fun c44 => ?_)
        · have hm := qt_i hm c44
          refine z_iconst (x := 0) C dX3_commandSucceeds_149 rfl ?_
          exact z_zret C hr (by decide) (by decide) (by decide) (by cases hm; rfl) dX3_commandSucceeds_150
        · have hm := qf_i hm c44
          refine z_iconst (x := 1) C dX3_commandSucceeds_145 rfl ?_
          refine z_goto (tgt := 150) C dX3_commandSucceeds_146 (by decide) ?_
          exact z_zret C hr (by decide) (by decide) (by decide) (by cases hm; rfl) dX3_commandSucceeds_150
      · have hm := qf_i hm c40
        refine z_iconst (x := 0) C dX3_commandSucceeds_149 rfl ?_
        exact z_zret C hr (by decide) (by decide) (by decide) (by cases hm; rfl) dX3_commandSucceeds_150
    · have hm := qf_i hm c38
      refine z_iconst (x := 0) C dX3_commandSucceeds_149 rfl ?_
      exact z_zret C hr (by decide) (by decide) (by decide) (by cases hm; rfl) dX3_commandSucceeds_150
  have hm := qf_i hm c36
  refine z_tableOut (tgt := 151) C dX3_commandSucceeds_18 h9 (by omega) (by decide) ?_
  refine z_aload_n C dX3_commandSucceeds_151 2 rfl ?_
  refine z_iload_n C dX3_commandSucceeds_152 3 rfl ?_
  obtain ⟨a45, h46, hm⟩ := qb_i hm
  refine iv_X3_294 C (met_X3_conditionHolds l g hl hA n9 S p1 _ h46) rfl ⟨by decide, by decide⟩ ⟨by decide, by decide⟩ (Nat.le_of_ble_eq_true rfl) dX3_commandSucceeds_153 ?_
  obtain ⟨h47, hm⟩ := qg_i hm
  exact z_zret C hr h47 (by decide) (by decide) (by cases hm; rfl) dX3_commandSucceeds_156

set_option maxHeartbeats 4000000 in
set_option maxRecDepth 100000 in
theorem met_X3_runScript_l62 {g : qG} {p : Program} {l : Launch} {e : Env} {s : State} {m : MethodId} {args : Array Value} {below : List Frame} {meth : Method} {c : Code} (C : qC g p l s m args meth c RX3 cX3_runScript 5) (hr : meth.sig.returnType = (some .int)) (hT : ∀ x ∈ c.exceptionTable.toList, False) (n9 : Nat) (p1 : Int) (p2 : Int) {r : qO × qS}  : ∀ (f : Nat) (S16 : qS) (x17 : Int), MX3_runScript_l62 n9 p1 p2 f S16 x17 = some r → qZ g p l e rmX3_runScript s m args below meth c (qQ g below qkI r.1 r.2 args s rmX3_runScript) 5 S16 [(0, .ref (qad g 0)), (1, .int (qI p1)), (2, .long (qL p2)), (4, .int (qI x17))] 62 [] 0 0 := by
  intro f
  induction f with
  | zero => intro S16 x17 hm; rw [MX3_runScript_l62] at hm; cases hm
  | succ f ih =>
    intro S16 x17 hm
    rw [MX3_runScript_l62] at hm
    have hl := C.2.2.2.2.2.2.2.2
    have hA := C.2.2.2.2.2.2.1
    refine z_iload C dX3_runScript_62 3 rfl ?_
    refine z_iload_n C dX3_runScript_64 1 rfl ?_
    obtain ⟨h18, hm⟩ := qg_i hm
    obtain ⟨h19, hm⟩ := qg_i hm
    refine z_icmp_ge (tgt := 99) C dX3_runScript_65 (by decide) ⟨h18, h19⟩ (fun c20 => ?_) (fun c20 => ?_)
    · have hm := qt_i hm c20
      refine z_iconst (x := (-1)) C dX3_runScript_99 rfl ?_
      exact z_iret C hr (by decide) (by decide) (by cases hm; rfl) dX3_runScript_100
    · have hm := qf_i hm c20
      refine z_aload_n C dX3_runScript_68 0 rfl ?_
      refine z_lload_n C dX3_runScript_69 2 rfl ?_
      refine z_iload_n C dX3_runScript_70 1 rfl ?_
      refine z_iconst (x := 1) C dX3_runScript_71 rfl ?_
      refine z_isub C dX3_runScript_72 ?_
      refine z_iload C dX3_runScript_73 3 rfl ?_
      refine z_isub C dX3_runScript_75 ?_
      obtain ⟨a21, h22, hm⟩ := qb_i hm
      refine iv_X3_260 C (met_X3_withoutLastGroups l g hl hA n9 S16 p2 ((p1 - 1) - x17) _ h22) ⟨by decide, by decide⟩ ⟨by decide, by decide⟩ (Nat.le_of_ble_eq_true rfl) dX3_runScript_76 ?_
      refine z_ldc2 (x := 100000) C dX3_runScript_79 qct_X3_266 (by decide +kernel) ?_
      obtain ⟨h23, hm⟩ := qg_i hm
      refine z_lrem C dX3_runScript_82 h23 ?_
      refine z_l2i C dX3_runScript_83 ?_
      obtain ⟨a24, h25, hm⟩ := qb_i hm
      refine iv_X3_268 C (met_X3_commandSucceeds l g hl hA n9 S16 (a21 % 100000) _ h25) rfl ⟨by decide, by decide⟩ ⟨by decide, by decide⟩ (Nat.le_of_ble_eq_true rfl) dX3_runScript_84 ?_
      obtain ⟨h26, hm⟩ := qg_i hm
      refine z_if_ne (tgt := 93) C dX3_runScript_87 (by decide) h26 (fun c27 => ?_) (fun c27 => ?_)
      · have hm := qt_i hm c27
        refine z_iload C dX3_runScript_90 3 rfl ?_
        exact z_iret C hr (by decide) (by decide) (by cases hm; rfl) dX3_runScript_92
      · have hm := qf_i hm c27
        refine z_iinc (L' := [(4, .int (qI (x17 + 1))), (0, .ref (qad g 0)), (1, .int (qI p1)), (2, .long (qL p2))]) C dX3_runScript_93 3 rfl (by decide) rfl ?_
        refine z_goto (tgt := 62) C dX3_runScript_96 (by decide) ?_
        refine z_sub (L' := [(0, .ref (qad g 0)), (1, .int (qI p1)), (2, .long (qL p2)), (4, .int (qI (x17 + 1)))]) [1, 2, 3, 0] rfl ?_
        exact ih a24.2 (x17 + 1) hm

set_option maxHeartbeats 4000000 in
set_option maxRecDepth 100000 in
theorem met_X3_runScript (l : Launch) (g : qG) (hl : l.stackTraces = false) (hA : qAd g) (n9 : Nat) (S : qS) (p1 : Int) (p2 : Int) (r : qO × qS) (hm : MX3_runScript n9 S p1 p2 = some r) : qM l g yX3_runScript (.code yX3_runScript cX3_runScript 5 (some .int)) rmX3_runScript qkI [.ref (qad g 0), .int (qI p1), .long (qL p2)] S r.1 r.2 := by
  rw [MX3_runScript] at hm
  refine qM_of (L := [(0, .ref (qad g 0)), (1, .int (qI p1)), (2, .long (qL p2))]) (by decide +kernel) rfl (Nat.le_of_ble_eq_true rfl) hl hA ?_
  intro p e s m below meth c C hr hT
  have C : qC g p l s m ([.ref (qad g 0), .int (qI p1), .long (qL p2)] : List Value).toArray meth c RX3 cX3_runScript 5 := C
  refine z_iload_n C dX3_runScript_0 1 rfl ?_
  refine z_iconst (x := 1) C dX3_runScript_1 rfl ?_
  obtain ⟨h1, hm⟩ := qg_i hm
  obtain ⟨j2, e3, hm⟩ := ql_i hm
  have hj2 : j2 = some r → qZ g p l e rmX3_runScript s m ([.ref (qad g 0), .int (qI p1), .long (qL p2)] : List Value).toArray below meth c (qQ g below qkI r.1 r.2 ([.ref (qad g 0), .int (qI p1), .long (qL p2)] : List Value).toArray s rmX3_runScript) 5 S [] 10 [] 0 0 := by
    intro  hm
    rw [e3] at hm
    exact th_iaew C hT (by decide : (258, "no such number of commands") ∈ qStr) ⟨by decide, Nat.le_of_ble_eq_true rfl⟩ ⟨by decide, by decide⟩ (by decide) (by decide) (by cases hm; rfl) dX3_runScript_10 dX3_runScript_13 dX3_runScript_14 dX3_runScript_17 dX3_runScript_20
  clear e3
  refine z_icmp_lt (tgt := 10) C dX3_runScript_2 (by decide) ⟨h1, (by decide)⟩ (fun c4 => ?_) (fun c4 => ?_)
  · have hm := qt_i hm c4
    refine z_sub (L' := []) [] rfl ?_
    exact hj2  hm
  · have hm := qf_i hm c4
    refine z_iload_n C dX3_runScript_5 1 rfl ?_
    refine z_iconst (x := 3) C dX3_runScript_6 rfl ?_
    refine z_icmp_le (tgt := 21) C dX3_runScript_7 (by decide) ⟨h1, (by decide)⟩ (fun c5 => ?_) (fun c5 => ?_)
    · have hm := qt_i hm c5
      refine z_lload_n C dX3_runScript_21 2 rfl ?_
      refine z_lconst (x := 0) C dX3_runScript_22 (by decide +kernel) ?_
      obtain ⟨h6, hm⟩ := qg_i hm
      refine z_lcmp C dX3_runScript_23 ⟨h6, (by decide)⟩ ?_
      obtain ⟨j7, e8, hm⟩ := ql_i hm
      have hj7 : j7 = some r → qZ g p l e rmX3_runScript s m ([.ref (qad g 0), .int (qI p1), .long (qL p2)] : List Value).toArray below meth c (qQ g below qkI r.1 r.2 ([.ref (qad g 0), .int (qI p1), .long (qL p2)] : List Value).toArray s rmX3_runScript) 5 S [] 37 [] 0 0 := by
        intro  hm
        rw [e8] at hm
        exact th_iaew C hT (by decide : (264, "no script of so many commands") ∈ qStr) ⟨by decide, Nat.le_of_ble_eq_true rfl⟩ ⟨by decide, by decide⟩ (by decide) (by decide) (by cases hm; rfl) dX3_runScript_37 dX3_runScript_40 dX3_runScript_41 dX3_runScript_44 dX3_runScript_47
      clear e8
      refine z_if_lt (tgt := 37) C dX3_runScript_24 (by decide) (qcmp_R _ _) (fun c9 => ?_) (fun c9 => ?_)
      · have hm := qt_i hm c9
        refine z_sub (L' := []) [] rfl ?_
        exact hj7  hm
      · have hm := qf_i hm c9
        refine z_lload_n C dX3_runScript_27 2 rfl ?_
        refine z_iload_n C dX3_runScript_28 1 rfl ?_
        obtain ⟨a10, h11, hm⟩ := qb_i hm
        refine iv_X3_260 C (met_X3_withoutLastGroups l g hl hA n9 S p2 p1 _ h11) ⟨by decide, by decide⟩ ⟨by decide, by decide⟩ (Nat.le_of_ble_eq_true rfl) dX3_runScript_29 ?_
        refine z_lconst (x := 0) C dX3_runScript_32 (by decide +kernel) ?_
        obtain ⟨h12, hm⟩ := qg_i hm
        refine z_lcmp C dX3_runScript_33 ⟨h12, (by decide)⟩ ?_
        refine z_if_eq (tgt := 48) C dX3_runScript_34 (by decide) (qcmp_R _ _) (fun c13 => ?_) (fun c13 => ?_)
        · have hm := qt_i hm c13
          refine z_aload_n C dX3_runScript_48 0 rfl ?_
          refine gf_X3_19 C rfl dX3_runScript_49 ?_
          refine z_aload_n C dX3_runScript_52 0 rfl ?_
          refine gf_X3_23 C rfl dX3_runScript_53 ?_
          obtain ⟨a14, h15, hm⟩ := qb_i hm
          refine iv_X3_235 C (met_X3_copy l g hl hA n9 S 7 12 _ h15) ⟨by decide, by decide⟩ ⟨by decide, by decide⟩ (Nat.le_of_ble_eq_true rfl) dX3_runScript_56 ?_
          refine z_iconst (x := 0) C dX3_runScript_59 rfl ?_
          refine z_istore (L' := [(4, .int (qI 0)), (0, .ref (qad g 0)), (1, .int (qI p1)), (2, .long (qL p2))]) C dX3_runScript_60 (by decide) rfl ?_
          refine z_sub (L' := [(0, .ref (qad g 0)), (1, .int (qI p1)), (2, .long (qL p2)), (4, .int (qI 0))]) [1, 2, 3, 0] rfl ?_
          exact met_X3_runScript_l62 C hr hT n9 p1 p2  n9 a14 0 hm
        · have hm := qf_i hm c13
          refine z_sub (L' := []) [] rfl ?_
          exact hj7  hm
    · have hm := qf_i hm c5
      refine z_sub (L' := []) [] rfl ?_
      exact hj2  hm

set_option maxHeartbeats 4000000 in
set_option maxRecDepth 100000 in
theorem met_X3_simulatedPause (l : Launch) (g : qG) (hl : l.stackTraces = false) (hA : qAd g) (n9 : Nat) (S : qS) (p1 : Int) (r : Int) (hm : MX3_simulatedPause n9 S p1 = some r) : qM l g yX3_simulatedPause (.code yX3_simulatedPause cX3_simulatedPause 2 (some .int)) rmX3_simulatedPause qkI [.ref (qad g 0), .int (qI p1)] S (.inr r) S := by
  rw [MX3_simulatedPause] at hm
  refine qM_of (L := [(0, .ref (qad g 0)), (1, .int (qI p1))]) (by decide +kernel) rfl (Nat.le_of_ble_eq_true rfl) hl hA ?_
  intro p e s m below meth c C hr hT
  have C : qC g p l s m ([.ref (qad g 0), .int (qI p1)] : List Value).toArray meth c RX3 cX3_simulatedPause 2 := C
  refine z_iload_n C dX3_simulatedPause_0 1 rfl ?_
  refine z_bipush (x := 8) C dX3_simulatedPause_1 (by decide +kernel) ?_
  obtain ⟨h1, hm⟩ := qg_i hm
  refine z_irem C dX3_simulatedPause_3 h1 ?_
  obtain ⟨h2, hm⟩ := qg_i hm
  refine z_if_ne (tgt := 18) C dX3_simulatedPause_4 (by decide) h2 (fun c3 => ?_) (fun c3 => ?_)
  · have hm := qt_i hm c3
    refine z_iconst (x := 1) C dX3_simulatedPause_7 rfl ?_
    refine z_iload_n C dX3_simulatedPause_8 1 rfl ?_
    refine z_sipush (x := 2048) C dX3_simulatedPause_9 (by decide +kernel) ?_
    obtain ⟨h4, hm⟩ := qg_i hm
    refine z_idiv C dX3_simulatedPause_12 h4 ?_
    refine z_bipush (x := 60) C dX3_simulatedPause_13 (by decide +kernel) ?_
    obtain ⟨h5, hm⟩ := qg_i hm
    refine z_irem C dX3_simulatedPause_15 h5 ?_
    refine z_iadd C dX3_simulatedPause_16 ?_
    exact z_iret C hr (by decide) (by decide) (by cases hm; rfl) dX3_simulatedPause_17
  · have hm := qf_i hm c3
    refine z_iload_n C dX3_simulatedPause_18 1 rfl ?_
    refine z_iconst (x := 2) C dX3_simulatedPause_19 rfl ?_
    obtain ⟨h6, hm⟩ := qg_i hm
    refine z_irem C dX3_simulatedPause_20 h6 ?_
    obtain ⟨h7, hm⟩ := qg_i hm
    refine z_if_eq (tgt := 36) C dX3_simulatedPause_21 (by decide) h7 (fun c8 => ?_) (fun c8 => ?_)
    · have hm := qt_i hm c8
      refine z_aload_n C dX3_simulatedPause_36 0 rfl ?_
      refine gf_X3_23 C rfl dX3_simulatedPause_37 ?_
      refine gf_X3_176 C rfl dX3_simulatedPause_40 ?_
      refine z_iconst (x := 1) C dX3_simulatedPause_43 rfl ?_
      obtain ⟨a9, h10, hm⟩ := qb_i hm
      refine iv_X3_108 C (met_X3_at l g hl hA n9 S (12 + 4) 1 _ h10) ⟨by decide, by decide⟩ ⟨by decide, by decide⟩ (Nat.le_of_ble_eq_true rfl) dX3_simulatedPause_44 ?_
      refine z_iload_n C dX3_simulatedPause_47 1 rfl ?_
      refine z_sipush (x := 2048) C dX3_simulatedPause_48 (by decide +kernel) ?_
      obtain ⟨h11, hm⟩ := qg_i hm
      refine z_idiv C dX3_simulatedPause_51 h11 ?_
      refine z_iconst (x := 4) C dX3_simulatedPause_52 rfl ?_
      obtain ⟨h12, hm⟩ := qg_i hm
      refine z_irem C dX3_simulatedPause_53 h12 ?_
      refine z_iadd C dX3_simulatedPause_54 ?_
      refine z_bipush (x := 60) C dX3_simulatedPause_55 (by decide +kernel) ?_
      obtain ⟨h13, hm⟩ := qg_i hm
      refine iv_X3_250 C ⟨by decide, Nat.le_of_ble_eq_true rfl⟩ ⟨by decide, by decide⟩ ⟨h13, (by decide)⟩ dX3_simulatedPause_57 ?_
      exact z_iret C hr (by decide) (by decide) (by cases hm; rfl) dX3_simulatedPause_60
    · have hm := qf_i hm c8
      refine z_aload_n C dX3_simulatedPause_24 0 rfl ?_
      refine gf_X3_23 C rfl dX3_simulatedPause_25 ?_
      refine gf_X3_176 C rfl dX3_simulatedPause_28 ?_
      refine z_iconst (x := 0) C dX3_simulatedPause_31 rfl ?_
      obtain ⟨a14, h15, hm⟩ := qb_i hm
      refine iv_X3_108 C (met_X3_at l g hl hA n9 S (12 + 4) 0 _ h15) ⟨by decide, by decide⟩ ⟨by decide, by decide⟩ (Nat.le_of_ble_eq_true rfl) dX3_simulatedPause_32 ?_
      exact z_iret C hr (by decide) (by decide) (by cases hm; rfl) dX3_simulatedPause_35

set_option maxHeartbeats 4000000 in
set_option maxRecDepth 100000 in
theorem met_X3_simulate_l43 {g : qG} {p : Program} {l : Launch} {e : Env} {s : State} {m : MethodId} {args : Array Value} {below : List Frame} {meth : Method} {c : Code} (C : qC g p l s m args meth c RX3 cX3_simulate 9) (hr : meth.sig.returnType = (some .int)) (hT : ∀ x ∈ c.exceptionTable.toList, False) (n9 : Nat) (p3 : Int) {r : qO × qS} (k133 : qS → Option (qO × qS)) (hk133 : ∀ (y1 : qS), k133 y1 = some r → qZ g p l e rmX3_simulate s m args below meth c (qQ g below qkI r.1 r.2 args s rmX3_simulate) 9 y1 [(0, .ref (qad g 0))] 133 [] 0 0) : ∀ (f : Nat) (S14 : qS) (x15 : Int) (x16 : Int) (x17 : Int), MX3_simulate_l43 n9 p3 k133 f S14 x15 x16 x17 = some r → qZ g p l e rmX3_simulate s m args below meth c (qQ g below qkI r.1 r.2 args s rmX3_simulate) 9 S14 [(0, .ref (qad g 0)), (3, .int (qI p3)), (4, .long (qL x15)), (6, .int (qI x16)), (7, .int (qI x17))] 43 [] 0 0 := by
  intro f
  induction f with
  | zero => intro S14 x15 x16 x17 hm; rw [MX3_simulate_l43] at hm; cases hm
  | succ f ih =>
    intro S14 x15 x16 x17 hm
    rw [MX3_simulate_l43] at hm
    have hl := C.2.2.2.2.2.2.2.2
    have hA := C.2.2.2.2.2.2.1
    refine z_iload C dX3_simulate_43 4 rfl ?_
    refine z_iload_n C dX3_simulate_45 1 rfl ?_
    obtain ⟨h18, hm⟩ := qg_i hm
    obtain ⟨h19, hm⟩ := qg_i hm
    refine z_icmp_ge (tgt := 133) C dX3_simulate_46 (by decide) ⟨h18, h19⟩ (fun c20 => ?_) (fun c20 => ?_)
    · have hm := qt_i hm c20
      refine z_sub (L' := [(0, .ref (qad g 0))]) [0] rfl ?_
      exact hk133 S14 hm
    · have hm := qf_i hm c20
      refine z_lload C dX3_simulate_49 2 rfl ?_
      refine z_ldc2 (x := 6364136223846793005) C dX3_simulate_51 qct_X3_273 (by decide +kernel) ?_
      refine z_lmul C dX3_simulate_54 ?_
      refine z_ldc2 (x := 1442695040888963407) C dX3_simulate_55 qct_X3_275 (by decide +kernel) ?_
      refine z_ladd C dX3_simulate_58 ?_
      obtain ⟨x21, e22, hm⟩ := ql_i hm
      refine z_topl e22 ?_
      refine z_lstore (L' := [(4, .long (qL x21)), (0, .ref (qad g 0)), (3, .int (qI p3)), (6, .int (qI x16)), (7, .int (qI x17))]) C dX3_simulate_59 (by decide) rfl ?_
      refine z_lload C dX3_simulate_61 0 rfl ?_
      refine z_bipush (x := 33) C dX3_simulate_63 (by decide +kernel) ?_
      refine z_lushr C dX3_simulate_65 ?_
      refine z_l2i C dX3_simulate_66 ?_
      obtain ⟨x23, e24, hm⟩ := ql_i hm
      refine z_topi e24 ?_
      refine z_istore (L' := [(8, .int (qI x23)), (4, .long (qL x21)), (0, .ref (qad g 0)), (3, .int (qI p3)), (6, .int (qI x16)), (7, .int (qI x17))]) C dX3_simulate_67 (by decide) rfl ?_
      refine z_iload C dX3_simulate_69 0 rfl ?_
      refine z_bipush (x := 8) C dX3_simulate_71 (by decide +kernel) ?_
      obtain ⟨h25, hm⟩ := qg_i hm
      refine z_idiv C dX3_simulate_73 h25 ?_
      refine z_iconst (x := 2) C dX3_simulate_74 rfl ?_
      obtain ⟨h26, hm⟩ := qg_i hm
      refine z_irem C dX3_simulate_75 h26 ?_
      obtain ⟨h27, hm⟩ := qg_i hm
      obtain ⟨j29, e41, hm⟩ := ql_i hm
      have hj29 : ∀ (x28 : Int), j29 x28 = some r → qZ g p l e rmX3_simulate s m args below meth c (qQ g below qkI r.1 r.2 args s rmX3_simulate) 9 S14 [(0, .ref (qad g 0)), (3, .int (qI p3)), (4, .long (qL x21)), (6, .int (qI x28)), (7, .int (qI x17)), (8, .int (qI x23))] 91 [] 0 0 := by
        intro x28 hm
        rw [e41] at hm
        refine z_aload_n C dX3_simulate_91 0 rfl ?_
        refine gf_X3_23 C rfl dX3_simulate_92 ?_
        refine gf_X3_79 C rfl dX3_simulate_95 ?_
        refine z_bipush (x := 30) C dX3_simulate_98 (by decide +kernel) ?_
        obtain ⟨h30, hm⟩ := qg_i hm
        obtain ⟨j32, e37, hm⟩ := ql_i hm
        have hj32 : ∀ (S31 : qS), j32 S31 = some r → qZ g p l e rmX3_simulate s m args below meth c (qQ g below qkI r.1 r.2 args s rmX3_simulate) 9 S31 [(0, .ref (qad g 0)), (3, .int (qI p3)), (4, .long (qL x21)), (6, .int (qI x28)), (7, .int (qI x17)), (8, .int (qI x23))] 111 [] 0 0 := by
          intro S31 hm
          rw [e37] at hm
          refine z_aload_n C dX3_simulate_111 0 rfl ?_
          refine gf_X3_23 C rfl dX3_simulate_112 ?_
          refine z_aload_n C dX3_simulate_115 0 rfl ?_
          refine z_iload C dX3_simulate_116 5 rfl ?_
          obtain ⟨a33, h34, hm⟩ := qb_i hm
          refine iv_X3_277 C (met_X3_simulatedPause l g hl hA n9 S31 x23 _ h34) rfl ⟨by decide, by decide⟩ ⟨by decide, by decide⟩ (Nat.le_of_ble_eq_true rfl) dX3_simulate_118 ?_
          refine z_iload C dX3_simulate_121 3 rfl ?_
          obtain ⟨a35, h36, hm⟩ := qb_i hm
          refine iv_X3_192 C (met_X1_addAxle l g hl hA n9 S31 12 a33 x28 _ h36) rfl ⟨by decide, by decide⟩ ⟨by decide, by decide⟩ (Nat.le_of_ble_eq_true rfl) dX3_simulate_123 ?_
          refine z_pop C dX3_simulate_126 rfl ?_
          refine z_iinc (L' := [(7, .int (qI (x17 + 1))), (0, .ref (qad g 0)), (3, .int (qI p3)), (4, .long (qL x21)), (6, .int (qI x28)), (8, .int (qI x23))]) C dX3_simulate_127 4 rfl (by decide) rfl ?_
          refine z_goto (tgt := 43) C dX3_simulate_130 (by decide) ?_
          refine z_sub (L' := [(0, .ref (qad g 0)), (3, .int (qI p3)), (4, .long (qL x21)), (6, .int (qI x28)), (7, .int (qI (x17 + 1)))]) [1, 2, 3, 4, 0] rfl ?_
          exact ih a35.2 x21 x28 (x17 + 1) hm
        clear e37
        refine z_icmp_lt (tgt := 111) C dX3_simulate_100 (by decide) ⟨h30, (by decide)⟩ (fun c38 => ?_) (fun c38 => ?_)
        · have hm := qt_i hm c38
          exact hj32 S14 hm
        · have hm := qf_i hm c38
          refine z_aload_n C dX3_simulate_103 0 rfl ?_
          refine gf_X3_23 C rfl dX3_simulate_104 ?_
          obtain ⟨a39, h40, hm⟩ := qb_i hm
          refine iv_X3_223 C (met_X1_dropFirstTrain l g hl hA n9 S14 12 _ h40) rfl ⟨by decide, by decide⟩ ⟨by decide, by decide⟩ (Nat.le_of_ble_eq_true rfl) dX3_simulate_107 ?_
          refine z_pop C dX3_simulate_110 rfl ?_
          exact hj32 a39.2 hm
      clear e41
      refine z_if_ne (tgt := 91) C dX3_simulate_76 (by decide) h27 (fun c42 => ?_) (fun c42 => ?_)
      · have hm := qt_i hm c42
        refine z_iconst (x := 1) C dX3_simulate_79 rfl ?_
        refine z_iload C dX3_simulate_80 0 rfl ?_
        refine z_bipush (x := 16) C dX3_simulate_82 (by decide +kernel) ?_
        obtain ⟨h43, hm⟩ := qg_i hm
        refine z_idiv C dX3_simulate_84 h43 ?_
        refine z_bipush (x := 99) C dX3_simulate_85 (by decide +kernel) ?_
        obtain ⟨h44, hm⟩ := qg_i hm
        refine z_irem C dX3_simulate_87 h44 ?_
        refine z_iadd C dX3_simulate_88 ?_
        obtain ⟨x45, e46, hm⟩ := ql_i hm
        refine z_topi e46 ?_
        refine z_istore (L' := [(6, .int (qI x45)), (8, .int (qI x23)), (4, .long (qL x21)), (0, .ref (qad g 0)), (3, .int (qI p3)), (7, .int (qI x17))]) C dX3_simulate_89 (by decide) rfl ?_
        refine z_sub (L' := [(0, .ref (qad g 0)), (3, .int (qI p3)), (4, .long (qL x21)), (6, .int (qI x45)), (7, .int (qI x17)), (8, .int (qI x23))]) [3, 4, 2, 0, 5, 1] rfl ?_
        exact hj29 x45 hm
      · have hm := qf_i hm c42
        refine z_sub (L' := [(0, .ref (qad g 0)), (3, .int (qI p3)), (4, .long (qL x21)), (6, .int (qI x16)), (7, .int (qI x17)), (8, .int (qI x23))]) [2, 3, 1, 4, 5, 0] rfl ?_
        exact hj29 x16 hm

set_option maxHeartbeats 4000000 in
set_option maxRecDepth 100000 in
theorem met_X3_simulate (l : Launch) (g : qG) (hl : l.stackTraces = false) (hA : qAd g) (n9 : Nat) (S : qS) (p1 : Int) (p3 : Int) (r : qO × qS) (hm : MX3_simulate n9 S p1 p3 = some r) : qM l g yX3_simulate (.code yX3_simulate cX3_simulate 9 (some .int)) rmX3_simulate qkI [.ref (qad g 0), .long (qL p1), .int (qI p3)] S r.1 r.2 := by
  rw [MX3_simulate] at hm
  refine qM_of (L := [(0, .ref (qad g 0)), (1, .long (qL p1)), (3, .int (qI p3))]) (by decide +kernel) rfl (Nat.le_of_ble_eq_true rfl) hl hA ?_
  intro p e s m below meth c C hr hT
  have C : qC g p l s m ([.ref (qad g 0), .long (qL p1), .int (qI p3)] : List Value).toArray meth c RX3 cX3_simulate 9 := C
  refine z_iload_n C dX3_simulate_0 2 rfl ?_
  refine z_iconst (x := 1) C dX3_simulate_1 rfl ?_
  obtain ⟨h1, hm⟩ := qg_i hm
  obtain ⟨j2, e3, hm⟩ := ql_i hm
  have hj2 : j2 = some r → qZ g p l e rmX3_simulate s m ([.ref (qad g 0), .long (qL p1), .int (qI p3)] : List Value).toArray below meth c (qQ g below qkI r.1 r.2 ([.ref (qad g 0), .long (qL p1), .int (qI p3)] : List Value).toArray s rmX3_simulate) 9 S [] 11 [] 0 0 := by
    intro  hm
    rw [e3] at hm
    exact th_iaew C hT (by decide : (271, "no such number of axles") ∈ qStr) ⟨by decide, Nat.le_of_ble_eq_true rfl⟩ ⟨by decide, by decide⟩ (by decide) (by decide) (by cases hm; rfl) dX3_simulate_11 dX3_simulate_14 dX3_simulate_15 dX3_simulate_18 dX3_simulate_21
  clear e3
  refine z_icmp_lt (tgt := 11) C dX3_simulate_2 (by decide) ⟨h1, (by decide)⟩ (fun c4 => ?_) (fun c4 => ?_)
  · have hm := qt_i hm c4
    refine z_sub (L' := []) [] rfl ?_
    exact hj2  hm
  · have hm := qf_i hm c4
    refine z_iload_n C dX3_simulate_5 2 rfl ?_
    refine z_bipush (x := 60) C dX3_simulate_6 (by decide +kernel) ?_
    refine z_icmp_le (tgt := 22) C dX3_simulate_8 (by decide) ⟨h1, (by decide)⟩ (fun c5 => ?_) (fun c5 => ?_)
    · have hm := qt_i hm c5
      refine z_aload_n C dX3_simulate_22 0 rfl ?_
      refine gf_X3_19 C rfl dX3_simulate_23 ?_
      refine z_aload_n C dX3_simulate_26 0 rfl ?_
      refine gf_X3_23 C rfl dX3_simulate_27 ?_
      obtain ⟨a6, h7, hm⟩ := qb_i hm
      refine iv_X3_235 C (met_X3_copy l g hl hA n9 S 7 12 _ h7) ⟨by decide, by decide⟩ ⟨by decide, by decide⟩ (Nat.le_of_ble_eq_true rfl) dX3_simulate_30 ?_
      refine z_lload_n C dX3_simulate_33 1 rfl ?_
      refine z_lstore (L' := [(4, .long (qL p1)), (0, .ref (qad g 0)), (1, .long (qL p1)), (3, .int (qI p3))]) C dX3_simulate_34 (by decide) rfl ?_
      refine z_bipush (x := 40) C dX3_simulate_36 (by decide +kernel) ?_
      refine z_istore (L' := [(6, .int (qI 40)), (4, .long (qL p1)), (0, .ref (qad g 0)), (1, .long (qL p1)), (3, .int (qI p3))]) C dX3_simulate_38 (by decide) rfl ?_
      refine z_iconst (x := 0) C dX3_simulate_40 rfl ?_
      refine z_istore (L' := [(7, .int (qI 0)), (6, .int (qI 40)), (4, .long (qL p1)), (0, .ref (qad g 0)), (1, .long (qL p1)), (3, .int (qI p3))]) C dX3_simulate_41 (by decide) rfl ?_
      obtain ⟨j9, e13, hm⟩ := ql_i hm
      have hj9 : ∀ (S8 : qS), j9 S8 = some r → qZ g p l e rmX3_simulate s m ([.ref (qad g 0), .long (qL p1), .int (qI p3)] : List Value).toArray below meth c (qQ g below qkI r.1 r.2 ([.ref (qad g 0), .long (qL p1), .int (qI p3)] : List Value).toArray s rmX3_simulate) 9 S8 [(0, .ref (qad g 0))] 133 [] 0 0 := by
        intro S8 hm
        rw [e13] at hm
        refine z_aload_n C dX3_simulate_133 0 rfl ?_
        refine gf_X3_29 C rfl dX3_simulate_134 ?_
        refine z_aload_n C dX3_simulate_137 0 rfl ?_
        refine gf_X3_23 C rfl dX3_simulate_138 ?_
        obtain ⟨a10, h11, hm⟩ := qb_i hm
        refine iv_X3_75 C (met_X0_workOut l g hl hA n9 S8 12 _ h11) rfl ⟨by decide, by decide⟩ ⟨by decide, by decide⟩ (Nat.le_of_ble_eq_true rfl) dX3_simulate_141 ?_
        refine z_sipush (x := 1000) C dX3_simulate_144 (by decide +kernel) ?_
        refine z_aload_n C dX3_simulate_147 0 rfl ?_
        refine gf_X3_29 C rfl dX3_simulate_148 ?_
        refine gf_X3_85 C rfl dX3_simulate_151 ?_
        refine z_imul C dX3_simulate_154 ?_
        refine z_aload_n C dX3_simulate_155 0 rfl ?_
        refine gf_X3_29 C rfl dX3_simulate_156 ?_
        refine gf_X3_88 C rfl dX3_simulate_159 ?_
        refine z_sipush (x := 999) C dX3_simulate_162 (by decide +kernel) ?_
        obtain ⟨h12, hm⟩ := qg_i hm
        refine iv_X3_250 C ⟨by decide, Nat.le_of_ble_eq_true rfl⟩ ⟨by decide, by decide⟩ ⟨h12, (by decide)⟩ dX3_simulate_165 ?_
        refine z_iadd C dX3_simulate_168 ?_
        exact z_iret C hr (by decide) (by decide) (by cases hm; rfl) dX3_simulate_169
      clear e13
      refine z_sub (L' := [(0, .ref (qad g 0)), (3, .int (qI p3)), (4, .long (qL p1)), (6, .int (qI 40)), (7, .int (qI 0))]) [3, 5, 2, 1, 0] rfl ?_
      exact met_X3_simulate_l43 C hr hT n9 p3 j9 hj9 n9 a6 p1 40 0 hm
    · have hm := qf_i hm c5
      refine z_sub (L' := []) [] rfl ?_
      exact hj2  hm

set_option maxHeartbeats 4000000 in
set_option maxRecDepth 100000 in
theorem met_X3_demandSlot (l : Launch) (g : qG) (hl : l.stackTraces = false) (hA : qAd g) (n9 : Nat) (S : qS) (p0 : Int) (r : qO) (hm : MX3_demandSlot n9 S p0 = some r) : qM l g yX3_demandSlot (.code yX3_demandSlot cX3_demandSlot 1 none) rmX3_demandSlot qkV [.int (qI p0)] S r S := by
  rw [MX3_demandSlot] at hm
  refine qM_of (L := [(0, .int (qI p0))]) (by decide +kernel) rfl (Nat.le_of_ble_eq_true rfl) hl hA ?_
  intro p e s m below meth c C hr hT
  have C : qC g p l s m ([.int (qI p0)] : List Value).toArray meth c RX3 cX3_demandSlot 1 := C
  refine z_iload_n C dX3_demandSlot_0 0 rfl ?_
  obtain ⟨h1, hm⟩ := qg_i hm
  obtain ⟨j2, e3, hm⟩ := ql_i hm
  have hj2 : j2 = some r → qZ g p l e rmX3_demandSlot s m ([.int (qI p0)] : List Value).toArray below meth c (qQ g below qkV r S ([.int (qI p0)] : List Value).toArray s rmX3_demandSlot) 1 S [] 9 [] 0 0 := by
    intro  hm
    rw [e3] at hm
    exact th_ioow C hT (by decide : (292, "no such save slot") ∈ qStr) ⟨by decide, Nat.le_of_ble_eq_true rfl⟩ ⟨by decide, by decide⟩ (by decide) (by decide) (by cases hm; rfl) dX3_demandSlot_9 dX3_demandSlot_12 dX3_demandSlot_13 dX3_demandSlot_16 dX3_demandSlot_19
  clear e3
  refine z_if_lt (tgt := 9) C dX3_demandSlot_1 (by decide) h1 (fun c4 => ?_) (fun c4 => ?_)
  · have hm := qt_i hm c4
    refine z_sub (L' := []) [] rfl ?_
    exact hj2  hm
  · have hm := qf_i hm c4
    refine z_iload_n C dX3_demandSlot_4 0 rfl ?_
    refine z_iconst (x := 2) C dX3_demandSlot_5 rfl ?_
    refine z_icmp_lt (tgt := 20) C dX3_demandSlot_6 (by decide) ⟨h1, (by decide)⟩ (fun c5 => ?_) (fun c5 => ?_)
    · have hm := qt_i hm c5
      exact z_vret C hr (by decide) (by decide) (by cases hm; rfl) dX3_demandSlot_20
    · have hm := qf_i hm c5
      refine z_sub (L' := []) [] rfl ?_
      exact hj2  hm

set_option maxHeartbeats 4000000 in
set_option maxRecDepth 100000 in
theorem met_X3_save (l : Launch) (g : qG) (hl : l.stackTraces = false) (hA : qAd g) (n9 : Nat) (S : qS) (p1 : Int) (r : qO × qS) (hm : MX3_save n9 S p1 = some r) : qM l g yX3_save (.code yX3_save cX3_save 2 (some .int)) rmX3_save qkI [.ref (qad g 0), .int (qI p1)] S r.1 r.2 := by
  rw [MX3_save] at hm
  refine qM_of (L := [(0, .ref (qad g 0)), (1, .int (qI p1))]) (by decide +kernel) rfl (Nat.le_of_ble_eq_true rfl) hl hA ?_
  intro p e s m below meth c C hr hT
  have C : qC g p l s m ([.ref (qad g 0), .int (qI p1)] : List Value).toArray meth c RX3 cX3_save 2 := C
  refine z_iload_n C dX3_save_0 1 rfl ?_
  obtain ⟨a1, h2, hm⟩ := qb_i hm
  refine iv_X3_280 C (met_X3_demandSlot l g hl hA n9 S p1 _ h2) ⟨by decide, by decide⟩ ⟨by decide, by decide⟩ (Nat.le_of_ble_eq_true rfl) dX3_save_1 (fun E he => z_thr C hT (by decide) (by decide) (by have hm := qy_l hm he; cases hm; rfl)) (fun v3 h4 => ?_)
  have hm := qy_r hm h4
  refine z_aload_n C dX3_save_4 0 rfl ?_
  refine gf_X3_19 C rfl dX3_save_5 ?_
  refine z_aload_n C dX3_save_8 0 rfl ?_
  refine gf_X3_37 C rfl dX3_save_9 ?_
  refine z_iload_n C dX3_save_12 1 rfl ?_
  obtain ⟨h5, hm⟩ := qg_i hm
  refine z_asl C rfl h5 dX3_save_13 ?_
  obtain ⟨a6, h7, hm⟩ := qb_i hm
  refine iv_X3_235 C (met_X3_copy l g hl hA n9 S 7 (100 + 5 * p1.toNat) _ h7) ⟨by decide, by decide⟩ ⟨by decide, by decide⟩ (Nat.le_of_ble_eq_true rfl) dX3_save_14 ?_
  refine z_aload_n C dX3_save_17 0 rfl ?_
  refine gf_X3_40 C rfl dX3_save_18 ?_
  refine z_iload_n C dX3_save_21 1 rfl ?_
  refine z_iconst (x := 1) C dX3_save_22 rfl ?_
  obtain ⟨h8, hm⟩ := qg_i hm
  refine z_zast C rfl h8 (by decide) dX3_save_23 ?_
  obtain ⟨S9, e10, hm⟩ := ql_i hm
  refine z_S e10 ?_
  refine z_aload_n C dX3_save_24 0 rfl ?_
  refine gf_X3_19 C rfl dX3_save_25 ?_
  refine gf_X3_79 C rfl dX3_save_28 ?_
  exact z_iret C hr (by decide) (by decide) (by cases hm; rfl) dX3_save_31

set_option maxHeartbeats 4000000 in
set_option maxRecDepth 100000 in
theorem met_X3_restore (l : Launch) (g : qG) (hl : l.stackTraces = false) (hA : qAd g) (n9 : Nat) (S : qS) (p1 : Int) (r : qO × qS) (hm : MX3_restore n9 S p1 = some r) : qM l g yX3_restore (.code yX3_restore cX3_restore 2 (some .int)) rmX3_restore qkI [.ref (qad g 0), .int (qI p1)] S r.1 r.2 := by
  rw [MX3_restore] at hm
  refine qM_of (L := [(0, .ref (qad g 0)), (1, .int (qI p1))]) (by decide +kernel) rfl (Nat.le_of_ble_eq_true rfl) hl hA ?_
  intro p e s m below meth c C hr hT
  have C : qC g p l s m ([.ref (qad g 0), .int (qI p1)] : List Value).toArray meth c RX3 cX3_restore 2 := C
  refine z_iload_n C dX3_restore_0 1 rfl ?_
  obtain ⟨a1, h2, hm⟩ := qb_i hm
  refine iv_X3_280 C (met_X3_demandSlot l g hl hA n9 S p1 _ h2) ⟨by decide, by decide⟩ ⟨by decide, by decide⟩ (Nat.le_of_ble_eq_true rfl) dX3_restore_1 (fun E he => z_thr C hT (by decide) (by decide) (by have hm := qy_l hm he; cases hm; rfl)) (fun v3 h4 => ?_)
  have hm := qy_r hm h4
  refine z_aload_n C dX3_restore_4 0 rfl ?_
  refine gf_X3_40 C rfl dX3_restore_5 ?_
  refine z_iload_n C dX3_restore_8 1 rfl ?_
  obtain ⟨h5, hm⟩ := qg_i hm
  refine z_zald C rfl h5 dX3_restore_9 ?_
  obtain ⟨h6, hm⟩ := qg_i hm
  refine z_if_ne (tgt := 24) C dX3_restore_10 (by decide) h6 (fun c7 => ?_) (fun c7 => ?_)
  · have hm := qt_i hm c7
    exact th_isew C hT (by decide : (283, "nothing has been saved there") ∈ qStr) ⟨by decide, Nat.le_of_ble_eq_true rfl⟩ ⟨by decide, by decide⟩ (by decide) (by decide) (by cases hm; rfl) dX3_restore_13 dX3_restore_16 dX3_restore_17 dX3_restore_20 dX3_restore_23
  · have hm := qf_i hm c7
    refine z_aload_n C dX3_restore_24 0 rfl ?_
    refine gf_X3_37 C rfl dX3_restore_25 ?_
    refine z_iload_n C dX3_restore_28 1 rfl ?_
    obtain ⟨h8, hm⟩ := qg_i hm
    refine z_asl C rfl h8 dX3_restore_29 ?_
    refine z_aload_n C dX3_restore_30 0 rfl ?_
    refine gf_X3_19 C rfl dX3_restore_31 ?_
    obtain ⟨a9, h10, hm⟩ := qb_i hm
    refine iv_X3_235 C (met_X3_copy l g hl hA n9 S (100 + 5 * p1.toNat) 7 _ h10) ⟨by decide, by decide⟩ ⟨by decide, by decide⟩ (Nat.le_of_ble_eq_true rfl) dX3_restore_34 ?_
    refine z_aload_n C dX3_restore_37 0 rfl ?_
    refine z_iconst (x := 0) C dX3_restore_38 rfl ?_
    refine pf_X3_227 C rfl dX3_restore_39 ?_
    obtain ⟨S11, e12, hm⟩ := ql_i hm
    refine z_S e12 ?_
    refine z_aload_n C dX3_restore_42 0 rfl ?_
    refine gf_X3_19 C rfl dX3_restore_43 ?_
    refine gf_X3_79 C rfl dX3_restore_46 ?_
    exact z_iret C hr (by decide) (by decide) (by cases hm; rfl) dX3_restore_49
