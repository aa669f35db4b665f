def qz : Nat → Int := fun _ => 0
theorem qcw_60 : (Jvm.Cond.initialized "AxleScale$Text") ∈ qAW := qAWi 60 (by decide +kernel) (by decide +kernel)
theorem qcw_61 : (Jvm.Cond.initialized "AxleScale$Recording") ∈ qAW := qAWi 61 (by decide +kernel) (by decide +kernel)
theorem qcw_62 : (Jvm.Cond.initialized "AxleScale$Plan") ∈ qAW := qAWi 62 (by decide +kernel) (by decide +kernel)
theorem qcw_76 : (Jvm.Cond.methodLink "AxleScale" (1 : Nat) ({ cls := "java/lang/Object", name := "<init>", desc := "()V" } : Jvm.MethodName)) ∈ qAW := qAWi 76 (by decide +kernel) (by decide +kernel)
theorem qcw_77 : (Jvm.Cond.instanceMethod ({ cls := "java/lang/Object", name := "<init>", desc := "()V" } : Jvm.MethodName)) ∈ qAW := qAWi 77 (by decide +kernel) (by decide +kernel)
theorem qcw_78 : (Jvm.Cond.code ({ cls := "java/lang/Object", name := "<init>", desc := "()V" } : Jvm.MethodName) object_method_1_code (1 : Nat) (Option.none : Option Jvm.ClassFile.FieldType)) ∈ qAW := qAWi 78 (by decide +kernel) (by decide +kernel)
theorem qcw_79 : (Jvm.Cond.classLink "AxleScale" (7 : Nat) "AxleScale$Text") ∈ qAW := qAWi 79 (by decide +kernel) (by decide +kernel)
theorem qcw_80 : (Jvm.Cond.instantiable "AxleScale$Text" (9 : Nat)) ∈ qAW := qAWi 80 (by decide +kernel) (by decide +kernel)
theorem qcw_82 : (Jvm.Cond.instanceMethod ({ cls := "AxleScale$Text", name := "<init>", desc := "()V" } : Jvm.MethodName)) ∈ qAW := qAWi 82 (by decide +kernel) (by decide +kernel)
theorem qcw_83 : (Jvm.Cond.code ({ cls := "AxleScale$Text", name := "<init>", desc := "()V" } : Jvm.MethodName) prog_4_method_1_code (1 : Nat) (Option.none : Option Jvm.ClassFile.FieldType)) ∈ qAW := qAWi 83 (by decide +kernel) (by decide +kernel)
theorem qcw_84 : (Jvm.Cond.methodLink "AxleScale$Text" (3 : Nat) ({ cls := "java/lang/Object", name := "<init>", desc := "()V" } : Jvm.MethodName)) ∈ qAW := qAWi 84 (by decide +kernel) (by decide +kernel)
theorem qcw_85 : (Jvm.Cond.fieldLink "AxleScale$Text" (9 : Nat) "AxleScale$Text" "characters" "[I") ∈ qAW := qAWi 85 (by decide +kernel) (by decide +kernel)
theorem qcw_88 : (Jvm.Cond.fieldLink "AxleScale$Text" (15 : Nat) "AxleScale$Text" "pauses" "[I") ∈ qAW := qAWi 88 (by decide +kernel) (by decide +kernel)
theorem qcw_90 : (Jvm.Cond.fieldLink "AxleScale$Text" (18 : Nat) "AxleScale$Text" "weights" "[I") ∈ qAW := qAWi 90 (by decide +kernel) (by decide +kernel)
theorem qcw_96 : (Jvm.Cond.fieldLink "AxleScale$Text" (21 : Nat) "AxleScale$Text" "times" "[I") ∈ qAW := qAWi 96 (by decide +kernel) (by decide +kernel)
theorem qcw_97 : (Jvm.Cond.fieldLink "AxleScale$Text" (24 : Nat) "AxleScale$Text" "toldBefore" "[I") ∈ qAW := qAWi 97 (by decide +kernel) (by decide +kernel)
theorem qcw_118 : (Jvm.Cond.arrayClass Jvm.ClassFile.FieldType.int) ∈ qAW := qAWi 118 (by decide +kernel) (by decide +kernel)
theorem qcw_119 : (Jvm.Cond.classLink "AxleScale" (16 : Nat) "AxleScale$Recording") ∈ qAW := qAWi 119 (by decide +kernel) (by decide +kernel)
theorem qcw_120 : (Jvm.Cond.instantiable "AxleScale$Recording" (5 : Nat)) ∈ qAW := qAWi 120 (by decide +kernel) (by decide +kernel)
theorem qcw_121 : (Jvm.Cond.methodLink "AxleScale" (18 : Nat) ({ cls := "AxleScale$Recording", name := "<init>", desc := "()V" } : Jvm.MethodName)) ∈ qAW := qAWi 121 (by decide +kernel) (by decide +kernel)
theorem qcw_122 : (Jvm.Cond.instanceMethod ({ cls := "AxleScale$Recording", name := "<init>", desc := "()V" } : Jvm.MethodName)) ∈ qAW := qAWi 122 (by decide +kernel) (by decide +kernel)
theorem qcw_123 : (Jvm.Cond.code ({ cls := "AxleScale$Recording", name := "<init>", desc := "()V" } : Jvm.MethodName) prog_3_method_1_code (2 : Nat) (Option.none : Option Jvm.ClassFile.FieldType)) ∈ qAW := qAWi 123 (by decide +kernel) (by decide +kernel)
theorem qcw_124 : (Jvm.Cond.methodLink "AxleScale$Recording" (3 : Nat) ({ cls := "java/lang/Object", name := "<init>", desc := "()V" } : Jvm.MethodName)) ∈ qAW := qAWi 124 (by decide +kernel) (by decide +kernel)
theorem qcw_127 : (Jvm.Cond.fieldLink "AxleScale$Recording" (9 : Nat) "AxleScale$Recording" "pauses" "[I") ∈ qAW := qAWi 127 (by decide +kernel) (by decide +kernel)
theorem qcw_130 : (Jvm.Cond.fieldLink "AxleScale$Recording" (15 : Nat) "AxleScale$Recording" "weights" "[I") ∈ qAW := qAWi 130 (by decide +kernel) (by decide +kernel)
theorem qcw_132 : (Jvm.Cond.fieldLink "AxleScale$Recording" (18 : Nat) "AxleScale$Recording" "bills" "[I") ∈ qAW := qAWi 132 (by decide +kernel) (by decide +kernel)
theorem qcw_134 : (Jvm.Cond.fieldLink "AxleScale$Recording" (24 : Nat) "AxleScale$Recording" "settings" "[I") ∈ qAW := qAWi 134 (by decide +kernel) (by decide +kernel)
theorem qcw_151 : (Jvm.Cond.classLink "AxleScale" (26 : Nat) "AxleScale$Plan") ∈ qAW := qAWi 151 (by decide +kernel) (by decide +kernel)
theorem qcw_152 : (Jvm.Cond.instantiable "AxleScale$Plan" (13 : Nat)) ∈ qAW := qAWi 152 (by decide +kernel) (by decide +kernel)
theorem qcw_154 : (Jvm.Cond.instanceMethod ({ cls := "AxleScale$Plan", name := "<init>", desc := "()V" } : Jvm.MethodName)) ∈ qAW := qAWi 154 (by decide +kernel) (by decide +kernel)
theorem qcw_155 : (Jvm.Cond.code ({ cls := "AxleScale$Plan", name := "<init>", desc := "()V" } : Jvm.MethodName) prog_2_method_1_code (1 : Nat) (Option.none : Option Jvm.ClassFile.FieldType)) ∈ qAW := qAWi 155 (by decide +kernel) (by decide +kernel)
theorem qcw_156 : (Jvm.Cond.methodLink "AxleScale$Plan" (3 : Nat) ({ cls := "java/lang/Object", name := "<init>", desc := "()V" } : Jvm.MethodName)) ∈ qAW := qAWi 156 (by decide +kernel) (by decide +kernel)
theorem qcw_157 : (Jvm.Cond.fieldLink "AxleScale$Plan" (9 : Nat) "AxleScale$Plan" "firstAxleOfTrain" "[I") ∈ qAW := qAWi 157 (by decide +kernel) (by decide +kernel)
theorem qcw_159 : (Jvm.Cond.fieldLink "AxleScale$Plan" (15 : Nat) "AxleScale$Plan" "firstCarOfTrain" "[I") ∈ qAW := qAWi 159 (by decide +kernel) (by decide +kernel)
theorem qcw_160 : (Jvm.Cond.fieldLink "AxleScale$Plan" (18 : Nat) "AxleScale$Plan" "costOfTrain" "[I") ∈ qAW := qAWi 160 (by decide +kernel) (by decide +kernel)
theorem qcw_162 : (Jvm.Cond.fieldLink "AxleScale$Plan" (21 : Nat) "AxleScale$Plan" "trainOfAxle" "[I") ∈ qAW := qAWi 162 (by decide +kernel) (by decide +kernel)
theorem qcw_164 : (Jvm.Cond.fieldLink "AxleScale$Plan" (24 : Nat) "AxleScale$Plan" "carOfAxle" "[I") ∈ qAW := qAWi 164 (by decide +kernel) (by decide +kernel)
theorem qcw_166 : (Jvm.Cond.fieldLink "AxleScale$Plan" (27 : Nat) "AxleScale$Plan" "firstAxleOfCar" "[I") ∈ qAW := qAWi 166 (by decide +kernel) (by decide +kernel)
theorem qcw_168 : (Jvm.Cond.fieldLink "AxleScale$Plan" (30 : Nat) "AxleScale$Plan" "valueWithCar" "[I") ∈ qAW := qAWi 168 (by decide +kernel) (by decide +kernel)
theorem qcw_169 : (Jvm.Cond.fieldLink "AxleScale$Plan" (33 : Nat) "AxleScale$Plan" "valueFrom" "[I") ∈ qAW := qAWi 169 (by decide +kernel) (by decide +kernel)
theorem qcw_170 : (Jvm.Cond.fieldLink "AxleScale$Plan" (36 : Nat) "AxleScale$Plan" "carFrom" "[I") ∈ qAW := qAWi 170 (by decide +kernel) (by decide +kernel)
theorem qcw_207 : (Jvm.Cond.fieldLink "AxleScale" (10 : Nat) "AxleScale" "text" "LAxleScale$Text;") ∈ qAW := qAWi 207 (by decide +kernel) (by decide +kernel)
theorem qcw_208 : (Jvm.Cond.fieldLink "AxleScale" (19 : Nat) "AxleScale" "now" "LAxleScale$Recording;") ∈ qAW := qAWi 208 (by decide +kernel) (by decide +kernel)
theorem qcw_209 : (Jvm.Cond.fieldLink "AxleScale" (23 : Nat) "AxleScale" "trial" "LAxleScale$Recording;") ∈ qAW := qAWi 209 (by decide +kernel) (by decide +kernel)
theorem qcw_210 : (Jvm.Cond.fieldLink "AxleScale" (29 : Nat) "AxleScale" "plan" "LAxleScale$Plan;") ∈ qAW := qAWi 210 (by decide +kernel) (by decide +kernel)
theorem qcw_211 : (Jvm.Cond.fieldLink "AxleScale" (33 : Nat) "AxleScale" "states" "[LAxleScale$Recording;") ∈ qAW := qAWi 211 (by decide +kernel) (by decide +kernel)
theorem qcw_212 : (Jvm.Cond.fieldLink "AxleScale" (37 : Nat) "AxleScale" "slots" "[LAxleScale$Recording;") ∈ qAW := qAWi 212 (by decide +kernel) (by decide +kernel)
theorem qcw_213 : (Jvm.Cond.fieldLink "AxleScale" (40 : Nat) "AxleScale" "saved" "[Z") ∈ qAW := qAWi 213 (by decide +kernel) (by decide +kernel)
theorem qcw_235 : (Jvm.Cond.arrayClass Jvm.ClassFile.FieldType.boolean) ∈ qAW := qAWi 235 (by decide +kernel) (by decide +kernel)
theorem qcw_758 : (Jvm.Cond.methodLink "AxleScaleModel" (1 : Nat) ({ cls := "java/lang/Object", name := "<init>", desc := "()V" } : Jvm.MethodName)) ∈ qAW := qAWi 758 (by decide +kernel) (by decide +kernel)
theorem qcw_760 : (Jvm.Cond.fieldLink "AxleScaleModel" (7 : Nat) "AxleScaleModel" "script" "[I") ∈ qAW := qAWi 760 (by decide +kernel) (by decide +kernel)
theorem qcw_764 : (Jvm.Cond.fieldLink "AxleScaleModel" (13 : Nat) "AxleScaleModel" "readPause" "[I") ∈ qAW := qAWi 764 (by decide +kernel) (by decide +kernel)
theorem qcw_765 : (Jvm.Cond.fieldLink "AxleScaleModel" (16 : Nat) "AxleScaleModel" "readWeight" "[I") ∈ qAW := qAWi 765 (by decide +kernel) (by decide +kernel)
theorem qcw_767 : (Jvm.Cond.fieldLink "AxleScaleModel" (19 : Nat) "AxleScaleModel" "begun" "[I") ∈ qAW := qAWi 767 (by decide +kernel) (by decide +kernel)
theorem qcw_768 : (Jvm.Cond.fieldLink "AxleScaleModel" (22 : Nat) "AxleScaleModel" "times" "[I") ∈ qAW := qAWi 768 (by decide +kernel) (by decide +kernel)
theorem qcw_769 : (Jvm.Cond.fieldLink "AxleScaleModel" (25 : Nat) "AxleScaleModel" "parts" "[I") ∈ qAW := qAWi 769 (by decide +kernel) (by decide +kernel)
theorem qcw_771 : (Jvm.Cond.fieldLink "AxleScaleModel" (28 : Nat) "AxleScaleModel" "now" "[I") ∈ qAW := qAWi 771 (by decide +kernel) (by decide +kernel)
theorem qcw_772 : (Jvm.Cond.fieldLink "AxleScaleModel" (31 : Nat) "AxleScaleModel" "trial" "[I") ∈ qAW := qAWi 772 (by decide +kernel) (by decide +kernel)
theorem qcw_773 : (Jvm.Cond.fieldLink "AxleScaleModel" (34 : Nat) "AxleScaleModel" "diary" "[I") ∈ qAW := qAWi 773 (by decide +kernel) (by decide +kernel)
theorem qcw_775 : (Jvm.Cond.fieldLink "AxleScaleModel" (37 : Nat) "AxleScaleModel" "kept" "[I") ∈ qAW := qAWi 775 (by decide +kernel) (by decide +kernel)
theorem qcw_776 : (Jvm.Cond.fieldLink "AxleScaleModel" (40 : Nat) "AxleScaleModel" "isKept" "[Z") ∈ qAW := qAWi 776 (by decide +kernel) (by decide +kernel)
theorem qcw_777 : (Jvm.Cond.fieldLink "AxleScaleModel" (44 : Nat) "AxleScaleModel" "rest" "[I") ∈ qAW := qAWi 777 (by decide +kernel) (by decide +kernel)
theorem qcw_778 : (Jvm.Cond.fieldLink "AxleScaleModel" (47 : Nat) "AxleScaleModel" "sum" "[I") ∈ qAW := qAWi 778 (by decide +kernel) (by decide +kernel)
theorem qcw_779 : (Jvm.Cond.fieldLink "AxleScaleModel" (50 : Nat) "AxleScaleModel" "trainFirst" "[I") ∈ qAW := qAWi 779 (by decide +kernel) (by decide +kernel)
theorem qcw_780 : (Jvm.Cond.fieldLink "AxleScaleModel" (53 : Nat) "AxleScaleModel" "trainCost" "[I") ∈ qAW := qAWi 780 (by decide +kernel) (by decide +kernel)
theorem qcw_782 : (Jvm.Cond.fieldLink "AxleScaleModel" (56 : Nat) "AxleScaleModel" "carFirst" "[I") ∈ qAW := qAWi 782 (by decide +kernel) (by decide +kernel)
theorem qcn_81 : (Jvm.Cond.methodLinkNest "AxleScale" (9 : Nat) ({ cls := "AxleScale$Text", name := "<init>", desc := "()V" } : Jvm.MethodName) "AxleScale") ∈ qNW := qNWi 81 (by decide +kernel) (by decide +kernel)
theorem qcn_125 : (Jvm.Cond.fieldLinkNest "AxleScale$Recording" (21 : Nat) "AxleScale" "FIRST_SETTINGS" "[I" "AxleScale") ∈ qNW := qNWi 125 (by decide +kernel) (by decide +kernel)
theorem qcn_153 : (Jvm.Cond.methodLinkNest "AxleScale" (28 : Nat) ({ cls := "AxleScale$Plan", name := "<init>", desc := "()V" } : Jvm.MethodName) "AxleScale") ∈ qNW := qNWi 153 (by decide +kernel) (by decide +kernel)
def rmiX1 : Room := { frames := 2, cells := 4, slots := 94, locals := 60 }
def qzX1 : va_E := .inr (1, [.null, .null, .null, .null, .int (qI 0)])
def qX1w (g : qG) (a : Nat → Nat) : va_W := [(a 0, .inr (1, [.ref (a 1), .ref (a 2), .ref (a 3), .ref (a 4), .int (qI 0)])), (a 1, qAr g 30 qz), (a 2, qAr g 30 qz), (a 3, qAr g 30 qz), (a 4, qAr g 4 (fun i => if i = 3 then qF0i 3 else (fun i => if i = 2 then qF0i 2 else (fun i => if i = 1 then qF0i 1 else (fun i => if i = 0 then qF0i 0 else qz i) i) i) i))]
set_option maxHeartbeats 4000000 in
set_option maxRecDepth 100000 in
theorem ctor_X1 (l : Launch) (g : qG) (h0 : Nat) : qN l g yX1_init (.code yX1_init cX1_init 2 none) rmiX1 h0 (qzX1) (fun w1 => ∃ a : Nat → Nat, a 0 = h0 ∧ w1 = qX1w g a) := by
  refine qN_of (by decide +kernel) (by decide) ?_
  intro p e s m below meth c A C hN hr
  have C : qCv g p s m ([.ref h0] : List Value).toArray meth c A RX1 cX1_init 2 := C
  refine v_aload_n C dX1_init_0 0 rfl ?_
  refine v_objInit C (qin3 qcw_124 qcw_77 qcw_78) (by decide) dX1_init_1 ?_
  refine v_aload_n C dX1_init_4 0 rfl ?_
  refine v_bipush (x := 30) C dX1_init_5 rfl ?_
  refine v_newaI (N := 30) C rfl (by decide) qcw_118 (by decide) dX1_init_7 (fun q0 => ?_)
  refine v_putF (q0 := 0) (Cn := RX1) (T := TX1) (kf := 0) (ws' := [(h0, .inr (1, [.ref q0, .null, .null, .null, .int (qI 0)])), (q0, qAr g 30 qz)]) C hN rfl rfl qin_X1 tyX1_ok nmX1 (by decide) (Nat.le_of_ble_eq_true rfl) qcw_127 rfl rfl (tyX1_ok 0 (by decide)) rfl rfl dX1_init_9 rfl ?_
  refine v_aload_n C dX1_init_12 0 rfl ?_
  refine v_bipush (x := 30) C dX1_init_13 rfl ?_
  refine v_newaI (N := 30) C rfl (by decide) qcw_118 (by decide) dX1_init_15 (fun q1 => ?_)
  refine v_putF (q0 := 0) (Cn := RX1) (T := TX1) (kf := 1) (ws' := [(h0, .inr (1, [.ref q0, .ref q1, .null, .null, .int (qI 0)])), (q0, qAr g 30 qz), (q1, qAr g 30 qz)]) C hN rfl rfl qin_X1 tyX1_ok nmX1 (by decide) (Nat.le_of_ble_eq_true rfl) qcw_130 rfl rfl (tyX1_ok 1 (by decide)) rfl rfl dX1_init_17 rfl ?_
  refine v_aload_n C dX1_init_20 0 rfl ?_
  refine v_bipush (x := 30) C dX1_init_21 rfl ?_
  refine v_newaI (N := 30) C rfl (by decide) qcw_118 (by decide) dX1_init_23 (fun q2 => ?_)
  refine v_putF (q0 := 0) (Cn := RX1) (T := TX1) (kf := 2) (ws' := [(h0, .inr (1, [.ref q0, .ref q1, .ref q2, .null, .int (qI 0)])), (q0, qAr g 30 qz), (q1, qAr g 30 qz), (q2, qAr g 30 qz)]) C hN rfl rfl qin_X1 tyX1_ok nmX1 (by decide) (Nat.le_of_ble_eq_true rfl) qcw_132 rfl rfl (tyX1_ok 2 (by decide)) rfl rfl dX1_init_25 rfl ?_
  refine v_aload_n C dX1_init_28 0 rfl ?_
  refine v_gs0 C qcn_125 dX1_init_29 ?_
  refine v_tl0 C dX1_init_32 ?_
  refine v_newaI (N := 4) C rfl (by decide) qcw_118 (by decide) dX1_init_33 (fun q3 => ?_)
  refine v_putF (q0 := 0) (Cn := RX1) (T := TX1) (kf := 3) (ws' := [(h0, .inr (1, [.ref q0, .ref q1, .ref q2, .ref q3, .int (qI 0)])), (q0, qAr g 30 qz), (q1, qAr g 30 qz), (q2, qAr g 30 qz), (q3, qAr g 4 qz)]) C hN rfl rfl qin_X1 tyX1_ok nmX1 (by decide) (Nat.le_of_ble_eq_true rfl) qcw_134 rfl rfl (tyX1_ok 3 (by decide)) rfl rfl dX1_init_35 rfl ?_
  refine v_iconst (x := 0) C dX1_init_38 rfl ?_
  refine v_istore_n (L' := [(1, .int (qI 0)), (0, .ref h0)]) C dX1_init_39 (by decide) rfl ?_
  refine v_iload_n C dX1_init_40 0 rfl ?_
  refine v_gs0 C qcn_125 dX1_init_41 ?_
  refine v_tl0 C dX1_init_44 ?_
  refine v_icmp_ge (tgt := 65) C dX1_init_45 (by decide) (by decide) (fun h => absurd h (by decide)) (fun _ => ?_)
  refine v_aload_n C dX1_init_48 1 rfl ?_
  refine v_get (q0 := 0) (Cn := RX1) (T := TX1) (kf := 3) C rfl rfl qin_X1 (by decide) qcw_134 rfl rfl dX1_init_49 ?_
  refine v_iload_n C dX1_init_52 0 rfl ?_
  refine v_gs0 C qcn_125 dX1_init_53 ?_
  refine v_iload_n C dX1_init_56 0 rfl ?_
  refine v_ti0 C (by decide) dX1_init_57 ?_
  refine v_iast (q0 := 4) (v := qF0i 0) (ws' := [(h0, .inr (1, [.ref q0, .ref q1, .ref q2, .ref q3, .int (qI 0)])), (q0, qAr g 30 qz), (q1, qAr g 30 qz), (q2, qAr g 30 qz), (q3, qAr g 4 (fun i => if i = 0 then qF0i 0 else qz i))]) C rfl (by decide) (by decide) dX1_init_58 rfl ?_
  refine v_iinc (y := 1) (L' := [(1, .int (qI 1)), (0, .ref h0)]) C dX1_init_59 0 rfl rfl (by decide) rfl ?_
  refine v_goto (tgt := 40) C dX1_init_62 (by decide) ?_
  refine v_iload_n C dX1_init_40 0 rfl ?_
  refine v_gs0 C qcn_125 dX1_init_41 ?_
  refine v_tl0 C dX1_init_44 ?_
  refine v_icmp_ge (tgt := 65) C dX1_init_45 (by decide) (by decide) (fun h => absurd h (by decide)) (fun _ => ?_)
  refine v_aload_n C dX1_init_48 1 rfl ?_
  refine v_get (q0 := 0) (Cn := RX1) (T := TX1) (kf := 3) C rfl rfl qin_X1 (by decide) qcw_134 rfl rfl dX1_init_49 ?_
  refine v_iload_n C dX1_init_52 0 rfl ?_
  refine v_gs0 C qcn_125 dX1_init_53 ?_
  refine v_iload_n C dX1_init_56 0 rfl ?_
  refine v_ti0 C (by decide) dX1_init_57 ?_
  refine v_iast (q0 := 4) (v := qF0i 1) (ws' := [(h0, .inr (1, [.ref q0, .ref q1, .ref q2, .ref q3, .int (qI 0)])), (q0, qAr g 30 qz), (q1, qAr g 30 qz), (q2, qAr g 30 qz), (q3, qAr g 4 (fun i => if i = 1 then qF0i 1 else (fun i => if i = 0 then qF0i 0 else qz i) i))]) C rfl (by decide) (by decide) dX1_init_58 rfl ?_
  refine v_iinc (y := 2) (L' := [(1, .int (qI 2)), (0, .ref h0)]) C dX1_init_59 0 rfl rfl (by decide) rfl ?_
  refine v_goto (tgt := 40) C dX1_init_62 (by decide) ?_
  refine v_iload_n C dX1_init_40 0 rfl ?_
  refine v_gs0 C qcn_125 dX1_init_41 ?_
  refine v_tl0 C dX1_init_44 ?_
  refine v_icmp_ge (tgt := 65) C dX1_init_45 (by decide) (by decide) (fun h => absurd h (by decide)) (fun _ => ?_)
  refine v_aload_n C dX1_init_48 1 rfl ?_
  refine v_get (q0 := 0) (Cn := RX1) (T := TX1) (kf := 3) C rfl rfl qin_X1 (by decide) qcw_134 rfl rfl dX1_init_49 ?_
  refine v_iload_n C dX1_init_52 0 rfl ?_
  refine v_gs0 C qcn_125 dX1_init_53 ?_
  refine v_iload_n C dX1_init_56 0 rfl ?_
  refine v_ti0 C (by decide) dX1_init_57 ?_
  refine v_iast (q0 := 4) (v := qF0i 2) (ws' := [(h0, .inr (1, [.ref q0, .ref q1, .ref q2, .ref q3, .int (qI 0)])), (q0, qAr g 30 qz), (q1, qAr g 30 qz), (q2, qAr g 30 qz), (q3, qAr g 4 (fun i => if i = 2 then qF0i 2 else (fun i => if i = 1 then qF0i 1 else (fun i => if i = 0 then qF0i 0 else qz i) i) i))]) C rfl (by decide) (by decide) dX1_init_58 rfl ?_
  refine v_iinc (y := 3) (L' := [(1, .int (qI 3)), (0, .ref h0)]) C dX1_init_59 0 rfl rfl (by decide) rfl ?_
  refine v_goto (tgt := 40) C dX1_init_62 (by decide) ?_
  refine v_iload_n C dX1_init_40 0 rfl ?_
  refine v_gs0 C qcn_125 dX1_init_41 ?_
  refine v_tl0 C dX1_init_44 ?_
  refine v_icmp_ge (tgt := 65) C dX1_init_45 (by decide) (by decide) (fun h => absurd h (by decide)) (fun _ => ?_)
  refine v_aload_n C dX1_init_48 1 rfl ?_
  refine v_get (q0 := 0) (Cn := RX1) (T := TX1) (kf := 3) C rfl rfl qin_X1 (by decide) qcw_134 rfl rfl dX1_init_49 ?_
  refine v_iload_n C dX1_init_52 0 rfl ?_
  refine v_gs0 C qcn_125 dX1_init_53 ?_
  refine v_iload_n C dX1_init_56 0 rfl ?_
  refine v_ti0 C (by decide) dX1_init_57 ?_
  refine v_iast (q0 := 4) (v := qF0i 3) (ws' := [(h0, .inr (1, [.ref q0, .ref q1, .ref q2, .ref q3, .int (qI 0)])), (q0, qAr g 30 qz), (q1, qAr g 30 qz), (q2, qAr g 30 qz), (q3, qAr g 4 (fun i => if i = 3 then qF0i 3 else (fun i => if i = 2 then qF0i 2 else (fun i => if i = 1 then qF0i 1 else (fun i => if i = 0 then qF0i 0 else qz i) i) i) i))]) C rfl (by decide) (by decide) dX1_init_58 rfl ?_
  refine v_iinc (y := 4) (L' := [(1, .int (qI 4)), (0, .ref h0)]) C dX1_init_59 0 rfl rfl (by decide) rfl ?_
  refine v_goto (tgt := 40) C dX1_init_62 (by decide) ?_
  refine v_iload_n C dX1_init_40 0 rfl ?_
  refine v_gs0 C qcn_125 dX1_init_41 ?_
  refine v_tl0 C dX1_init_44 ?_
  refine v_icmp_ge (tgt := 65) C dX1_init_45 (by decide) (by decide) (fun _ => ?_) (fun h => absurd (by decide) h)
  exact v_ret C hr (by decide) (by decide) ⟨fun k => [h0, q0, q1, q2, q3].getD k 0, rfl, rfl⟩ dX1_init_65
def rmiX2 : Room := { frames := 2, cells := 5, slots := 186, locals := 60 }
def qzX2 : va_E := .inr (2, [.null, .int (qI 0), .null, .null, .int (qI 0), .int (qI 0), .null, .null, .int (qI 0)])
def qX2w (g : qG) (a : Nat → Nat) : va_W := [(a 0, .inr (2, [.ref (a 1), .int (qI 0), .ref (a 2), .ref (a 3), .int (qI 0), .int (qI 0), .ref (a 4), .ref (a 5), .int (qI 0)])), (a 1, qAr g 120 qz), (a 2, qAr g 30 qz), (a 3, qAr g 30 qz), (a 4, qAr g 3 qz), (a 5, qAr g 3 qz)]
set_option maxHeartbeats 4000000 in
set_option maxRecDepth 100000 in
theorem ctor_X2 (l : Launch) (g : qG) (h0 : Nat) : qN l g yX2_init (.code yX2_init cX2_init 1 none) rmiX2 h0 (qzX2) (fun w1 => ∃ a : Nat → Nat, a 0 = h0 ∧ w1 = qX2w g a) := by
  refine qN_of (by decide +kernel) (by decide) ?_
  intro p e s m below meth c A C hN hr
  have C : qCv g p s m ([.ref h0] : List Value).toArray meth c A RX2 cX2_init 1 := C
  refine v_aload_n C dX2_init_0 0 rfl ?_
  refine v_objInit C (qin3 qcw_84 qcw_77 qcw_78) (by decide) dX2_init_1 ?_
  refine v_aload_n C dX2_init_4 0 rfl ?_
  refine v_bipush (x := 120) C dX2_init_5 rfl ?_
  refine v_newaI (N := 120) C rfl (by decide) qcw_118 (by decide) dX2_init_7 (fun q0 => ?_)
  refine v_putF (q0 := 0) (Cn := RX2) (T := TX2) (kf := 0) (ws' := [(h0, .inr (2, [.ref q0, .int (qI 0), .null, .null, .int (qI 0), .int (qI 0), .null, .null, .int (qI 0)])), (q0, qAr g 120 qz)]) C hN rfl rfl qin_X2 tyX2_ok nmX2 (by decide) (Nat.le_of_ble_eq_true rfl) qcw_85 rfl rfl (tyX2_ok 0 (by decide)) rfl rfl dX2_init_9 rfl ?_
  refine v_aload_n C dX2_init_12 0 rfl ?_
  refine v_bipush (x := 30) C dX2_init_13 rfl ?_
  refine v_newaI (N := 30) C rfl (by decide) qcw_118 (by decide) dX2_init_15 (fun q1 => ?_)
  refine v_putF (q0 := 0) (Cn := RX2) (T := TX2) (kf := 2) (ws' := [(h0, .inr (2, [.ref q0, .int (qI 0), .ref q1, .null, .int (qI 0), .int (qI 0), .null, .null, .int (qI 0)])), (q0, qAr g 120 qz), (q1, qAr g 30 qz)]) C hN rfl rfl qin_X2 tyX2_ok nmX2 (by decide) (Nat.le_of_ble_eq_true rfl) qcw_88 rfl rfl (tyX2_ok 2 (by decide)) rfl rfl dX2_init_17 rfl ?_
  refine v_aload_n C dX2_init_20 0 rfl ?_
  refine v_bipush (x := 30) C dX2_init_21 rfl ?_
  refine v_newaI (N := 30) C rfl (by decide) qcw_118 (by decide) dX2_init_23 (fun q2 => ?_)
  refine v_putF (q0 := 0) (Cn := RX2) (T := TX2) (kf := 3) (ws' := [(h0, .inr (2, [.ref q0, .int (qI 0), .ref q1, .ref q2, .int (qI 0), .int (qI 0), .null, .null, .int (qI 0)])), (q0, qAr g 120 qz), (q1, qAr g 30 qz), (q2, qAr g 30 qz)]) C hN rfl rfl qin_X2 tyX2_ok nmX2 (by decide) (Nat.le_of_ble_eq_true rfl) qcw_90 rfl rfl (tyX2_ok 3 (by decide)) rfl rfl dX2_init_25 rfl ?_
  refine v_aload_n C dX2_init_28 0 rfl ?_
  refine v_iconst (x := 3) C dX2_init_29 rfl ?_
  refine v_newaI (N := 3) C rfl (by decide) qcw_118 (by decide) dX2_init_30 (fun q3 => ?_)
  refine v_putF (q0 := 0) (Cn := RX2) (T := TX2) (kf := 6) (ws' := [(h0, .inr (2, [.ref q0, .int (qI 0), .ref q1, .ref q2, .int (qI 0), .int (qI 0), .ref q3, .null, .int (qI 0)])), (q0, qAr g 120 qz), (q1, qAr g 30 qz), (q2, qAr g 30 qz), (q3, qAr g 3 qz)]) C hN rfl rfl qin_X2 tyX2_ok nmX2 (by decide) (Nat.le_of_ble_eq_true rfl) qcw_96 rfl rfl (tyX2_ok 6 (by decide)) rfl rfl dX2_init_32 rfl ?_
  refine v_aload_n C dX2_init_35 0 rfl ?_
  refine v_iconst (x := 3) C dX2_init_36 rfl ?_
  refine v_newaI (N := 3) C rfl (by decide) qcw_118 (by decide) dX2_init_37 (fun q4 => ?_)
  refine v_putF (q0 := 0) (Cn := RX2) (T := TX2) (kf := 7) (ws' := [(h0, .inr (2, [.ref q0, .int (qI 0), .ref q1, .ref q2, .int (qI 0), .int (qI 0), .ref q3, .ref q4, .int (qI 0)])), (q0, qAr g 120 qz), (q1, qAr g 30 qz), (q2, qAr g 30 qz), (q3, qAr g 3 qz), (q4, qAr g 3 qz)]) C hN rfl rfl qin_X2 tyX2_ok nmX2 (by decide) (Nat.le_of_ble_eq_true rfl) qcw_97 rfl rfl (tyX2_ok 7 (by decide)) rfl rfl dX2_init_39 rfl ?_
  exact v_ret C hr (by decide) (by decide) ⟨fun k => [h0, q0, q1, q2, q3, q4].getD k 0, rfl, rfl⟩ dX2_init_42
def rmiX0 : Room := { frames := 2, cells := 9, slots := 260, locals := 60 }
def qzX0 : va_E := .inr (0, [.null, .null, .null, .null, .null, .null, .null, .null, .null, .int (qI 0), .int (qI 0), .int (qI 0), .int (qI 0)])
def qX0w (g : qG) (a : Nat → Nat) : va_W := [(a 0, .inr (0, [.ref (a 1), .ref (a 2), .ref (a 3), .ref (a 4), .ref (a 5), .ref (a 6), .ref (a 7), .ref (a 8), .ref (a 9), .int (qI 0), .int (qI 0), .int (qI 0), .int (qI 0)])), (a 1, qAr g 31 qz), (a 2, qAr g 31 qz), (a 3, qAr g 30 qz), (a 4, qAr g 30 qz), (a 5, qAr g 30 qz), (a 6, qAr g 15 qz), (a 7, qAr g 31 qz), (a 8, qAr g 31 qz), (a 9, qAr g 31 qz)]
set_option maxHeartbeats 4000000 in
set_option maxRecDepth 100000 in
theorem ctor_X0 (l : Launch) (g : qG) (h0 : Nat) : qN l g yX0_init (.code yX0_init cX0_init 1 none) rmiX0 h0 (qzX0) (fun w1 => ∃ a : Nat → Nat, a 0 = h0 ∧ w1 = qX0w g a) := by
  refine qN_of (by decide +kernel) (by decide) ?_
  intro p e s m below meth c A C hN hr
  have C : qCv g p s m ([.ref h0] : List Value).toArray meth c A RX0 cX0_init 1 := C
  refine v_aload_n C dX0_init_0 0 rfl ?_
  refine v_objInit C (qin3 qcw_156 qcw_77 qcw_78) (by decide) dX0_init_1 ?_
  refine v_aload_n C dX0_init_4 0 rfl ?_
  refine v_bipush (x := 31) C dX0_init_5 rfl ?_
  refine v_newaI (N := 31) C rfl (by decide) qcw_118 (by decide) dX0_init_7 (fun q0 => ?_)
  refine v_putF (q0 := 0) (Cn := RX0) (T := TX0) (kf := 0) (ws' := [(h0, .inr (0, [.ref q0, .null, .null, .null, .null, .null, .null, .null, .null, .int (qI 0), .int (qI 0), .int (qI 0), .int (qI 0)])), (q0, qAr g 31 qz)]) C hN rfl rfl qin_X0 tyX0_ok nmX0 (by decide) (Nat.le_of_ble_eq_true rfl) qcw_157 rfl rfl (tyX0_ok 0 (by decide)) rfl rfl dX0_init_9 rfl ?_
  refine v_aload_n C dX0_init_12 0 rfl ?_
  refine v_bipush (x := 31) C dX0_init_13 rfl ?_
  refine v_newaI (N := 31) C rfl (by decide) qcw_118 (by decide) dX0_init_15 (fun q1 => ?_)
  refine v_putF (q0 := 0) (Cn := RX0) (T := TX0) (kf := 1) (ws' := [(h0, .inr (0, [.ref q0, .ref q1, .null, .null, .null, .null, .null, .null, .null, .int (qI 0), .int (qI 0), .int (qI 0), .int (qI 0)])), (q0, qAr g 31 qz), (q1, qAr g 31 qz)]) C hN rfl rfl qin_X0 tyX0_ok nmX0 (by decide) (Nat.le_of_ble_eq_true rfl) qcw_159 rfl rfl (tyX0_ok 1 (by decide)) rfl rfl dX0_init_17 rfl ?_
  refine v_aload_n C dX0_init_20 0 rfl ?_
  refine v_bipush (x := 30) C dX0_init_21 rfl ?_
  refine v_newaI (N := 30) C rfl (by decide) qcw_118 (by decide) dX0_init_23 (fun q2 => ?_)
  refine v_putF (q0 := 0) (Cn := RX0) (T := TX0) (kf := 2) (ws' := [(h0, .inr (0, [.ref q0, .ref q1, .ref q2, .null, .null, .null, .null, .null, .null, .int (qI 0), .int (qI 0), .int (qI 0), .int (qI 0)])), (q0, qAr g 31 qz), (q1, qAr g 31 qz), (q2, qAr g 30 qz)]) C hN rfl rfl qin_X0 tyX0_ok nmX0 (by decide) (Nat.le_of_ble_eq_true rfl) qcw_160 rfl rfl (tyX0_ok 2 (by decide)) rfl rfl dX0_init_25 rfl ?_
  refine v_aload_n C dX0_init_28 0 rfl ?_
  refine v_bipush (x := 30) C dX0_init_29 rfl ?_
  refine v_newaI (N := 30) C rfl (by decide) qcw_118 (by decide) dX0_init_31 (fun q3 => ?_)
  refine v_putF (q0 := 0) (Cn := RX0) (T := TX0) (kf := 3) (ws' := [(h0, .inr (0, [.ref q0, .ref q1, .ref q2, .ref q3, .null, .null, .null, .null, .null, .int (qI 0), .int (qI 0), .int (qI 0), .int (qI 0)])), (q0, qAr g 31 qz), (q1, qAr g 31 qz), (q2, qAr g 30 qz), (q3, qAr g 30 qz)]) C hN rfl rfl qin_X0 tyX0_ok nmX0 (by decide) (Nat.le_of_ble_eq_true rfl) qcw_162 rfl rfl (tyX0_ok 3 (by decide)) rfl rfl dX0_init_33 rfl ?_
  refine v_aload_n C dX0_init_36 0 rfl ?_
  refine v_bipush (x := 30) C dX0_init_37 rfl ?_
  refine v_newaI (N := 30) C rfl (by decide) qcw_118 (by decide) dX0_init_39 (fun q4 => ?_)
  refine v_putF (q0 := 0) (Cn := RX0) (T := TX0) (kf := 4) (ws' := [(h0, .inr (0, [.ref q0, .ref q1, .ref q2, .ref q3, .ref q4, .null, .null, .null, .null, .int (qI 0), .int (qI 0), .int (qI 0), .int (qI 0)])), (q0, qAr g 31 qz), (q1, qAr g 31 qz), (q2, qAr g 30 qz), (q3, qAr g 30 qz), (q4, qAr g 30 qz)]) C hN rfl rfl qin_X0 tyX0_ok nmX0 (by decide) (Nat.le_of_ble_eq_true rfl) qcw_164 rfl rfl (tyX0_ok 4 (by decide)) rfl rfl dX0_init_41 rfl ?_
  refine v_aload_n C dX0_init_44 0 rfl ?_
  refine v_bipush (x := 15) C dX0_init_45 rfl ?_
  refine v_newaI (N := 15) C rfl (by decide) qcw_118 (by decide) dX0_init_47 (fun q5 => ?_)
  refine v_putF (q0 := 0) (Cn := RX0) (T := TX0) (kf := 5) (ws' := [(h0, .inr (0, [.ref q0, .ref q1, .ref q2, .ref q3, .ref q4, .ref q5, .null, .null, .null, .int (qI 0), .int (qI 0), .int (qI 0), .int (qI 0)])), (q0, qAr g 31 qz), (q1, qAr g 31 qz), (q2, qAr g 30 qz), (q3, qAr g 30 qz), (q4, qAr g 30 qz), (q5, qAr g 15 qz)]) C hN rfl rfl qin_X0 tyX0_ok nmX0 (by decide) (Nat.le_of_ble_eq_true rfl) qcw_166 rfl rfl (tyX0_ok 5 (by decide)) rfl rfl dX0_init_49 rfl ?_
  refine v_aload_n C dX0_init_52 0 rfl ?_
  refine v_bipush (x := 31) C dX0_init_53 rfl ?_
  refine v_newaI (N := 31) C rfl (by decide) qcw_118 (by decide) dX0_init_55 (fun q6 => ?_)
  refine v_putF (q0 := 0) (Cn := RX0) (T := TX0) (kf := 6) (ws' := [(h0, .inr (0, [.ref q0, .ref q1, .ref q2, .ref q3, .ref q4, .ref q5, .ref q6, .null, .null, .int (qI 0), .int (qI 0), .int (qI 0), .int (qI 0)])), (q0, qAr g 31 qz), (q1, qAr g 31 qz), (q2, qAr g 30 qz), (q3, qAr g 30 qz), (q4, qAr g 30 qz), (q5, qAr g 15 qz), (q6, qAr g 31 qz)]) C hN rfl rfl qin_X0 tyX0_ok nmX0 (by decide) (Nat.le_of_ble_eq_true rfl) qcw_168 rfl rfl (tyX0_ok 6 (by decide)) rfl rfl dX0_init_57 rfl ?_
  refine v_aload_n C dX0_init_60 0 rfl ?_
  refine v_bipush (x := 31) C dX0_init_61 rfl ?_
  refine v_newaI (N := 31) C rfl (by decide) qcw_118 (by decide) dX0_init_63 (fun q7 => ?_)
  refine v_putF (q0 := 0) (Cn := RX0) (T := TX0) (kf := 7) (ws' := [(h0, .inr (0, [.ref q0, .ref q1, .ref q2, .ref q3, .ref q4, .ref q5, .ref q6, .ref q7, .null, .int (qI 0), .int (qI 0), .int (qI 0), .int (qI 0)])), (q0, qAr g 31 qz), (q1, qAr g 31 qz), (q2, qAr g 30 qz), (q3, qAr g 30 qz), (q4, qAr g 30 qz), (q5, qAr g 15 qz), (q6, qAr g 31 qz), (q7, qAr g 31 qz)]) C hN rfl rfl qin_X0 tyX0_ok nmX0 (by decide) (Nat.le_of_ble_eq_true rfl) qcw_169 rfl rfl (tyX0_ok 7 (by decide)) rfl rfl dX0_init_65 rfl ?_
  refine v_aload_n C dX0_init_68 0 rfl ?_
  refine v_bipush (x := 31) C dX0_init_69 rfl ?_
  refine v_newaI (N := 31) C rfl (by decide) qcw_118 (by decide) dX0_init_71 (fun q8 => ?_)
  refine v_putF (q0 := 0) (Cn := RX0) (T := TX0) (kf := 8) (ws' := [(h0, .inr (0, [.ref q0, .ref q1, .ref q2, .ref q3, .ref q4, .ref q5, .ref q6, .ref q7, .ref q8, .int (qI 0), .int (qI 0), .int (qI 0), .int (qI 0)])), (q0, qAr g 31 qz), (q1, qAr g 31 qz), (q2, qAr g 30 qz), (q3, qAr g 30 qz), (q4, qAr g 30 qz), (q5, qAr g 15 qz), (q6, qAr g 31 qz), (q7, qAr g 31 qz), (q8, qAr g 31 qz)]) C hN rfl rfl qin_X0 tyX0_ok nmX0 (by decide) (Nat.le_of_ble_eq_true rfl) qcw_170 rfl rfl (tyX0_ok 8 (by decide)) rfl rfl dX0_init_73 rfl ?_
  exact v_ret C hr (by decide) (by decide) ⟨fun k => [h0, q0, q1, q2, q3, q4, q5, q6, q7, q8].getD k 0, rfl, rfl⟩ dX0_init_76
def rmiX4 : Room := { frames := 2, cells := 16, slots := 3035, locals := 60 }
def qzX4 : va_E := .inr (4, [.int (qI 0), .null, .int (qI 0), .int (qI 0), .int (qI 0), .null, .null, .int (qI 0), .null, .null, .null, .int (qI 0), .null, .null, .null, .int (qI 0), .null, .null, .null, .null, .null, .null, .int (qI 0), .null, .int (qI 0), .int (qI 0)])
def qX4w (g : qG) (a : Nat → Nat) : va_W := [(a 0, .inr (4, [.int (qI 0), .ref (a 1), .int (qI 0), .int (qI 0), .int (qI 0), .ref (a 2), .ref (a 3), .int (qI 0), .ref (a 4), .ref (a 5), .ref (a 6), .int (qI 0), .ref (a 7), .ref (a 8), .ref (a 9), .int (qI 0), .ref (a 10), .ref (a 11), .ref (a 12), .ref (a 13), .ref (a 14), .ref (a 15), .int (qI 0), .ref (a 16), .int (qI 0), .int (qI 0)])), (a 1, qAr g 120 qz), (a 2, qAr g 30 qz), (a 3, qAr g 30 qz), (a 4, qAr g 4 qz), (a 5, qAr g 4 qz), (a 6, qAr g 4 qz), (a 7, qAr g 95 (fun i => if i = 4 then 40 else (fun i => if i = 3 then 15 else (fun i => if i = 2 then 6 else (fun i => if i = 1 then 4 else qz i) i) i) i)), (a 8, qAr g 95 qz), (a 9, qAr g 1330 qz), (a 10, qAr g 190 qz), (a 11, .inl (qcZ g, 2, .inl (qia qz))), (a 12, qAr g 1024 qz), (a 13, qAr g 31 qz), (a 14, qAr g 31 qz), (a 15, qAr g 30 qz), (a 16, qAr g 15 qz)]
set_option maxHeartbeats 4000000 in
set_option maxRecDepth 100000 in
theorem ctor_X4 (l : Launch) (g : qG) (h0 : Nat) : qN l g yX4_init (.code yX4_init cX4_init 1 none) rmiX4 h0 (qzX4) (fun w1 => ∃ a : Nat → Nat, a 0 = h0 ∧ w1 = qX4w g a) := by
  refine qN_of (by decide +kernel) (by decide) ?_
  intro p e s m below meth c A C hN hr
  have C : qCv g p s m ([.ref h0] : List Value).toArray meth c A RX4 cX4_init 1 := C
  refine v_aload_n C dX4_init_0 0 rfl ?_
  refine v_objInit C (qin3 qcw_758 qcw_77 qcw_78) (by decide) dX4_init_1 ?_
  refine v_aload_n C dX4_init_4 0 rfl ?_
  refine v_bipush (x := 120) C dX4_init_5 rfl ?_
  refine v_newaI (N := 120) C rfl (by decide) qcw_118 (by decide) dX4_init_7 (fun q0 => ?_)
  refine v_putF (q0 := 0) (Cn := RX4) (T := TX4) (kf := 1) (ws' := [(h0, .inr (4, [.int (qI 0), .ref q0, .int (qI 0), .int (qI 0), .int (qI 0), .null, .null, .int (qI 0), .null, .null, .null, .int (qI 0), .null, .null, .null, .int (qI 0), .null, .null, .null, .null, .null, .null, .int (qI 0), .null, .int (qI 0), .int (qI 0)])), (q0, qAr g 120 qz)]) C hN rfl rfl qin_X4 tyX4_ok nmX4 (by decide) (Nat.le_of_ble_eq_true rfl) qcw_760 rfl rfl (tyX4_ok 1 (by decide)) rfl rfl dX4_init_9 rfl ?_
  refine v_aload_n C dX4_init_12 0 rfl ?_
  refine v_bipush (x := 30) C dX4_init_13 rfl ?_
  refine v_newaI (N := 30) C rfl (by decide) qcw_118 (by decide) dX4_init_15 (fun q1 => ?_)
  refine v_putF (q0 := 0) (Cn := RX4) (T := TX4) (kf := 5) (ws' := [(h0, .inr (4, [.int (qI 0), .ref q0, .int (qI 0), .int (qI 0), .int (qI 0), .ref q1, .null, .int (qI 0), .null, .null, .null, .int (qI 0), .null, .null, .null, .int (qI 0), .null, .null, .null, .null, .null, .null, .int (qI 0), .null, .int (qI 0), .int (qI 0)])), (q0, qAr g 120 qz), (q1, qAr g 30 qz)]) C hN rfl rfl qin_X4 tyX4_ok nmX4 (by decide) (Nat.le_of_ble_eq_true rfl) qcw_764 rfl rfl (tyX4_ok 5 (by decide)) rfl rfl dX4_init_17 rfl ?_
  refine v_aload_n C dX4_init_20 0 rfl ?_
  refine v_bipush (x := 30) C dX4_init_21 rfl ?_
  refine v_newaI (N := 30) C rfl (by decide) qcw_118 (by decide) dX4_init_23 (fun q2 => ?_)
  refine v_putF (q0 := 0) (Cn := RX4) (T := TX4) (kf := 6) (ws' := [(h0, .inr (4, [.int (qI 0), .ref q0, .int (qI 0), .int (qI 0), .int (qI 0), .ref q1, .ref q2, .int (qI 0), .null, .null, .null, .int (qI 0), .null, .null, .null, .int (qI 0), .null, .null, .null, .null, .null, .null, .int (qI 0), .null, .int (qI 0), .int (qI 0)])), (q0, qAr g 120 qz), (q1, qAr g 30 qz), (q2, qAr g 30 qz)]) C hN rfl rfl qin_X4 tyX4_ok nmX4 (by decide) (Nat.le_of_ble_eq_true rfl) qcw_765 rfl rfl (tyX4_ok 6 (by decide)) rfl rfl dX4_init_25 rfl ?_
  refine v_aload_n C dX4_init_28 0 rfl ?_
  refine v_iconst (x := 4) C dX4_init_29 rfl ?_
  refine v_newaI (N := 4) C rfl (by decide) qcw_118 (by decide) dX4_init_30 (fun q3 => ?_)
  refine v_putF (q0 := 0) (Cn := RX4) (T := TX4) (kf := 8) (ws' := [(h0, .inr (4, [.int (qI 0), .ref q0, .int (qI 0), .int (qI 0), .int (qI 0), .ref q1, .ref q2, .int (qI 0), .ref q3, .null, .null, .int (qI 0), .null, .null, .null, .int (qI 0), .null, .null, .null, .null, .null, .null, .int (qI 0), .null, .int (qI 0), .int (qI 0)])), (q0, qAr g 120 qz), (q1, qAr g 30 qz), (q2, qAr g 30 qz), (q3, qAr g 4 qz)]) C hN rfl rfl qin_X4 tyX4_ok nmX4 (by decide) (Nat.le_of_ble_eq_true rfl) qcw_767 rfl rfl (tyX4_ok 8 (by decide)) rfl rfl dX4_init_32 rfl ?_
  refine v_aload_n C dX4_init_35 0 rfl ?_
  refine v_iconst (x := 4) C dX4_init_36 rfl ?_
  refine v_newaI (N := 4) C rfl (by decide) qcw_118 (by decide) dX4_init_37 (fun q4 => ?_)
  refine v_putF (q0 := 0) (Cn := RX4) (T := TX4) (kf := 9) (ws' := [(h0, .inr (4, [.int (qI 0), .ref q0, .int (qI 0), .int (qI 0), .int (qI 0), .ref q1, .ref q2, .int (qI 0), .ref q3, .ref q4, .null, .int (qI 0), .null, .null, .null, .int (qI 0), .null, .null, .null, .null, .null, .null, .int (qI 0), .null, .int (qI 0), .int (qI 0)])), (q0, qAr g 120 qz), (q1, qAr g 30 qz), (q2, qAr g 30 qz), (q3, qAr g 4 qz), (q4, qAr g 4 qz)]) C hN rfl rfl qin_X4 tyX4_ok nmX4 (by decide) (Nat.le_of_ble_eq_true rfl) qcw_768 rfl rfl (tyX4_ok 9 (by decide)) rfl rfl dX4_init_39 rfl ?_
  refine v_aload_n C dX4_init_42 0 rfl ?_
  refine v_iconst (x := 4) C dX4_init_43 rfl ?_
  refine v_newaI (N := 4) C rfl (by decide) qcw_118 (by decide) dX4_init_44 (fun q5 => ?_)
  refine v_putF (q0 := 0) (Cn := RX4) (T := TX4) (kf := 10) (ws' := [(h0, .inr (4, [.int (qI 0), .ref q0, .int (qI 0), .int (qI 0), .int (qI 0), .ref q1, .ref q2, .int (qI 0), .ref q3, .ref q4, .ref q5, .int (qI 0), .null, .null, .null, .int (qI 0), .null, .null, .null, .null, .null, .null, .int (qI 0), .null, .int (qI 0), .int (qI 0)])), (q0, qAr g 120 qz), (q1, qAr g 30 qz), (q2, qAr g 30 qz), (q3, qAr g 4 qz), (q4, qAr g 4 qz), (q5, qAr g 4 qz)]) C hN rfl rfl qin_X4 tyX4_ok nmX4 (by decide) (Nat.le_of_ble_eq_true rfl) qcw_769 rfl rfl (tyX4_ok 10 (by decide)) rfl rfl dX4_init_46 rfl ?_
  refine v_aload_n C dX4_init_49 0 rfl ?_
  refine v_bipush (x := 95) C dX4_init_50 rfl ?_
  refine v_newaI (N := 95) C rfl (by decide) qcw_118 (by decide) dX4_init_52 (fun q6 => ?_)
  refine v_putF (q0 := 0) (Cn := RX4) (T := TX4) (kf := 12) (ws' := [(h0, .inr (4, [.int (qI 0), .ref q0, .int (qI 0), .int (qI 0), .int (qI 0), .ref q1, .ref q2, .int (qI 0), .ref q3, .ref q4, .ref q5, .int (qI 0), .ref q6, .null, .null, .int (qI 0), .null, .null, .null, .null, .null, .null, .int (qI 0), .null, .int (qI 0), .int (qI 0)])), (q0, qAr g 120 qz), (q1, qAr g 30 qz), (q2, qAr g 30 qz), (q3, qAr g 4 qz), (q4, qAr g 4 qz), (q5, qAr g 4 qz), (q6, qAr g 95 qz)]) C hN rfl rfl qin_X4 tyX4_ok nmX4 (by decide) (Nat.le_of_ble_eq_true rfl) qcw_771 rfl rfl (tyX4_ok 12 (by decide)) rfl rfl dX4_init_54 rfl ?_
  refine v_aload_n C dX4_init_57 0 rfl ?_
  refine v_bipush (x := 95) C dX4_init_58 rfl ?_
  refine v_newaI (N := 95) C rfl (by decide) qcw_118 (by decide) dX4_init_60 (fun q7 => ?_)
  refine v_putF (q0 := 0) (Cn := RX4) (T := TX4) (kf := 13) (ws' := [(h0, .inr (4, [.int (qI 0), .ref q0, .int (qI 0), .int (qI 0), .int (qI 0), .ref q1, .ref q2, .int (qI 0), .ref q3, .ref q4, .ref q5, .int (qI 0), .ref q6, .ref q7, .null, .int (qI 0), .null, .null, .null, .null, .null, .null, .int (qI 0), .null, .int (qI 0), .int (qI 0)])), (q0, qAr g 120 qz), (q1, qAr g 30 qz), (q2, qAr g 30 qz), (q3, qAr g 4 qz), (q4, qAr g 4 qz), (q5, qAr g 4 qz), (q6, qAr g 95 qz), (q7, qAr g 95 qz)]) C hN rfl rfl qin_X4 tyX4_ok nmX4 (by decide) (Nat.le_of_ble_eq_true rfl) qcw_772 rfl rfl (tyX4_ok 13 (by decide)) rfl rfl dX4_init_62 rfl ?_
  refine v_aload_n C dX4_init_65 0 rfl ?_
  refine v_sipush (x := 1330) C dX4_init_66 rfl ?_
  refine v_newaI (N := 1330) C rfl (by decide) qcw_118 (by decide) dX4_init_69 (fun q8 => ?_)
  refine v_putF (q0 := 0) (Cn := RX4) (T := TX4) (kf := 14) (ws' := [(h0, .inr (4, [.int (qI 0), .ref q0, .int (qI 0), .int (qI 0), .int (qI 0), .ref q1, .ref q2, .int (qI 0), .ref q3, .ref q4, .ref q5, .int (qI 0), .ref q6, .ref q7, .ref q8, .int (qI 0), .null, .null, .null, .null, .null, .null, .int (qI 0), .null, .int (qI 0), .int (qI 0)])), (q0, qAr g 120 qz), (q1, qAr g 30 qz), (q2, qAr g 30 qz), (q3, qAr g 4 qz), (q4, qAr g 4 qz), (q5, qAr g 4 qz), (q6, qAr g 95 qz), (q7, qAr g 95 qz), (q8, qAr g 1330 qz)]) C hN rfl rfl qin_X4 tyX4_ok nmX4 (by decide) (Nat.le_of_ble_eq_true rfl) qcw_773 rfl rfl (tyX4_ok 14 (by decide)) rfl rfl dX4_init_71 rfl ?_
  refine v_aload_n C dX4_init_74 0 rfl ?_
  refine v_sipush (x := 190) C dX4_init_75 rfl ?_
  refine v_newaI (N := 190) C rfl (by decide) qcw_118 (by decide) dX4_init_78 (fun q9 => ?_)
  refine v_putF (q0 := 0) (Cn := RX4) (T := TX4) (kf := 16) (ws' := [(h0, .inr (4, [.int (qI 0), .ref q0, .int (qI 0), .int (qI 0), .int (qI 0), .ref q1, .ref q2, .int (qI 0), .ref q3, .ref q4, .ref q5, .int (qI 0), .ref q6, .ref q7, .ref q8, .int (qI 0), .ref q9, .null, .null, .null, .null, .null, .int (qI 0), .null, .int (qI 0), .int (qI 0)])), (q0, qAr g 120 qz), (q1, qAr g 30 qz), (q2, qAr g 30 qz), (q3, qAr g 4 qz), (q4, qAr g 4 qz), (q5, qAr g 4 qz), (q6, qAr g 95 qz), (q7, qAr g 95 qz), (q8, qAr g 1330 qz), (q9, qAr g 190 qz)]) C hN rfl rfl qin_X4 tyX4_ok nmX4 (by decide) (Nat.le_of_ble_eq_true rfl) qcw_775 rfl rfl (tyX4_ok 16 (by decide)) rfl rfl dX4_init_80 rfl ?_
  refine v_aload_n C dX4_init_83 0 rfl ?_
  refine v_iconst (x := 2) C dX4_init_84 rfl ?_
  refine v_newaZ (N := 2) C rfl (by decide) qcw_235 (by decide) dX4_init_85 (fun q10 => ?_)
  refine v_putF (q0 := 0) (Cn := RX4) (T := TX4) (kf := 17) (ws' := [(h0, .inr (4, [.int (qI 0), .ref q0, .int (qI 0), .int (qI 0), .int (qI 0), .ref q1, .ref q2, .int (qI 0), .ref q3, .ref q4, .ref q5, .int (qI 0), .ref q6, .ref q7, .ref q8, .int (qI 0), .ref q9, .ref q10, .null, .null, .null, .null, .int (qI 0), .null, .int (qI 0), .int (qI 0)])), (q0, qAr g 120 qz), (q1, qAr g 30 qz), (q2, qAr g 30 qz), (q3, qAr g 4 qz), (q4, qAr g 4 qz), (q5, qAr g 4 qz), (q6, qAr g 95 qz), (q7, qAr g 95 qz), (q8, qAr g 1330 qz), (q9, qAr g 190 qz), (q10, .inl (qcZ g, 2, .inl (qia qz)))]) C hN rfl rfl qin_X4 tyX4_ok nmX4 (by decide) (Nat.le_of_ble_eq_true rfl) qcw_776 rfl rfl (tyX4_ok 17 (by decide)) rfl rfl dX4_init_87 rfl ?_
  refine v_aload_n C dX4_init_90 0 rfl ?_
  refine v_sipush (x := 1024) C dX4_init_91 rfl ?_
  refine v_newaI (N := 1024) C rfl (by decide) qcw_118 (by decide) dX4_init_94 (fun q11 => ?_)
  refine v_putF (q0 := 0) (Cn := RX4) (T := TX4) (kf := 18) (ws' := [(h0, .inr (4, [.int (qI 0), .ref q0, .int (qI 0), .int (qI 0), .int (qI 0), .ref q1, .ref q2, .int (qI 0), .ref q3, .ref q4, .ref q5, .int (qI 0), .ref q6, .ref q7, .ref q8, .int (qI 0), .ref q9, .ref q10, .ref q11, .null, .null, .null, .int (qI 0), .null, .int (qI 0), .int (qI 0)])), (q0, qAr g 120 qz), (q1, qAr g 30 qz), (q2, qAr g 30 qz), (q3, qAr g 4 qz), (q4, qAr g 4 qz), (q5, qAr g 4 qz), (q6, qAr g 95 qz), (q7, qAr g 95 qz), (q8, qAr g 1330 qz), (q9, qAr g 190 qz), (q10, .inl (qcZ g, 2, .inl (qia qz))), (q11, qAr g 1024 qz)]) C hN rfl rfl qin_X4 tyX4_ok nmX4 (by decide) (Nat.le_of_ble_eq_true rfl) qcw_777 rfl rfl (tyX4_ok 18 (by decide)) rfl rfl dX4_init_96 rfl ?_
  refine v_aload_n C dX4_init_99 0 rfl ?_
  refine v_bipush (x := 31) C dX4_init_100 rfl ?_
  refine v_newaI (N := 31) C rfl (by decide) qcw_118 (by decide) dX4_init_102 (fun q12 => ?_)
  refine v_putF (q0 := 0) (Cn := RX4) (T := TX4) (kf := 19) (ws' := [(h0, .inr (4, [.int (qI 0), .ref q0, .int (qI 0), .int (qI 0), .int (qI 0), .ref q1, .ref q2, .int (qI 0), .ref q3, .ref q4, .ref q5, .int (qI 0), .ref q6, .ref q7, .ref q8, .int (qI 0), .ref q9, .ref q10, .ref q11, .ref q12, .null, .null, .int (qI 0), .null, .int (qI 0), .int (qI 0)])), (q0, qAr g 120 qz), (q1, qAr g 30 qz), (q2, qAr g 30 qz), (q3, qAr g 4 qz), (q4, qAr g 4 qz), (q5, qAr g 4 qz), (q6, qAr g 95 qz), (q7, qAr g 95 qz), (q8, qAr g 1330 qz), (q9, qAr g 190 qz), (q10, .inl (qcZ g, 2, .inl (qia qz))), (q11, qAr g 1024 qz), (q12, qAr g 31 qz)]) C hN rfl rfl qin_X4 tyX4_ok nmX4 (by decide) (Nat.le_of_ble_eq_true rfl) qcw_778 rfl rfl (tyX4_ok 19 (by decide)) rfl rfl dX4_init_104 rfl ?_
  refine v_aload_n C dX4_init_107 0 rfl ?_
  refine v_bipush (x := 31) C dX4_init_108 rfl ?_
  refine v_newaI (N := 31) C rfl (by decide) qcw_118 (by decide) dX4_init_110 (fun q13 => ?_)
  refine v_putF (q0 := 0) (Cn := RX4) (T := TX4) (kf := 20) (ws' := [(h0, .inr (4, [.int (qI 0), .ref q0, .int (qI 0), .int (qI 0), .int (qI 0), .ref q1, .ref q2, .int (qI 0), .ref q3, .ref q4, .ref q5, .int (qI 0), .ref q6, .ref q7, .ref q8, .int (qI 0), .ref q9, .ref q10, .ref q11, .ref q12, .ref q13, .null, .int (qI 0), .null, .int (qI 0), .int (qI 0)])), (q0, qAr g 120 qz), (q1, qAr g 30 qz), (q2, qAr g 30 qz), (q3, qAr g 4 qz), (q4, qAr g 4 qz), (q5, qAr g 4 qz), (q6, qAr g 95 qz), (q7, qAr g 95 qz), (q8, qAr g 1330 qz), (q9, qAr g 190 qz), (q10, .inl (qcZ g, 2, .inl (qia qz))), (q11, qAr g 1024 qz), (q12, qAr g 31 qz), (q13, qAr g 31 qz)]) C hN rfl rfl qin_X4 tyX4_ok nmX4 (by decide) (Nat.le_of_ble_eq_true rfl) qcw_779 rfl rfl (tyX4_ok 20 (by decide)) rfl rfl dX4_init_112 rfl ?_
  refine v_aload_n C dX4_init_115 0 rfl ?_
  refine v_bipush (x := 30) C dX4_init_116 rfl ?_
  refine v_newaI (N := 30) C rfl (by decide) qcw_118 (by decide) dX4_init_118 (fun q14 => ?_)
  refine v_putF (q0 := 0) (Cn := RX4) (T := TX4) (kf := 21) (ws' := [(h0, .inr (4, [.int (qI 0), .ref q0, .int (qI 0), .int (qI 0), .int (qI 0), .ref q1, .ref q2, .int (qI 0), .ref q3, .ref q4, .ref q5, .int (qI 0), .ref q6, .ref q7, .ref q8, .int (qI 0), .ref q9, .ref q10, .ref q11, .ref q12, .ref q13, .ref q14, .int (qI 0), .null, .int (qI 0), .int (qI 0)])), (q0, qAr g 120 qz), (q1, qAr g 30 qz), (q2, qAr g 30 qz), (q3, qAr g 4 qz), (q4, qAr g 4 qz), (q5, qAr g 4 qz), (q6, qAr g 95 qz), (q7, qAr g 95 qz), (q8, qAr g 1330 qz), (q9, qAr g 190 qz), (q10, .inl (qcZ g, 2, .inl (qia qz))), (q11, qAr g 1024 qz), (q12, qAr g 31 qz), (q13, qAr g 31 qz), (q14, qAr g 30 qz)]) C hN rfl rfl qin_X4 tyX4_ok nmX4 (by decide) (Nat.le_of_ble_eq_true rfl) qcw_780 rfl rfl (tyX4_ok 21 (by decide)) rfl rfl dX4_init_120 rfl ?_
  refine v_aload_n C dX4_init_123 0 rfl ?_
  refine v_bipush (x := 15) C dX4_init_124 rfl ?_
  refine v_newaI (N := 15) C rfl (by decide) qcw_118 (by decide) dX4_init_126 (fun q15 => ?_)
  refine v_putF (q0 := 0) (Cn := RX4) (T := TX4) (kf := 23) (ws' := [(h0, .inr (4, [.int (qI 0), .ref q0, .int (qI 0), .int (qI 0), .int (qI 0), .ref q1, .ref q2, .int (qI 0), .ref q3, .ref q4, .ref q5, .int (qI 0), .ref q6, .ref q7, .ref q8, .int (qI 0), .ref q9, .ref q10, .ref q11, .ref q12, .ref q13, .ref q14, .int (qI 0), .ref q15, .int (qI 0), .int (qI 0)])), (q0, qAr g 120 qz), (q1, qAr g 30 qz), (q2, qAr g 30 qz), (q3, qAr g 4 qz), (q4, qAr g 4 qz), (q5, qAr g 4 qz), (q6, qAr g 95 qz), (q7, qAr g 95 qz), (q8, qAr g 1330 qz), (q9, qAr g 190 qz), (q10, .inl (qcZ g, 2, .inl (qia qz))), (q11, qAr g 1024 qz), (q12, qAr g 31 qz), (q13, qAr g 31 qz), (q14, qAr g 30 qz), (q15, qAr g 15 qz)]) C hN rfl rfl qin_X4 tyX4_ok nmX4 (by decide) (Nat.le_of_ble_eq_true rfl) qcw_782 rfl rfl (tyX4_ok 23 (by decide)) rfl rfl dX4_init_128 rfl ?_
  refine v_aload_n C dX4_init_131 0 rfl ?_
  refine v_get (q0 := 0) (Cn := RX4) (T := TX4) (kf := 12) C rfl rfl qin_X4 (by decide) qcw_771 rfl rfl dX4_init_132 ?_
  refine v_iconst (x := 1) C dX4_init_135 rfl ?_
  refine v_iconst (x := 4) C dX4_init_136 rfl ?_
  refine v_iast (q0 := 7) (v := 4) (ws' := [(h0, .inr (4, [.int (qI 0), .ref q0, .int (qI 0), .int (qI 0), .int (qI 0), .ref q1, .ref q2, .int (qI 0), .ref q3, .ref q4, .ref q5, .int (qI 0), .ref q6, .ref q7, .ref q8, .int (qI 0), .ref q9, .ref q10, .ref q11, .ref q12, .ref q13, .ref q14, .int (qI 0), .ref q15, .int (qI 0), .int (qI 0)])), (q0, qAr g 120 qz), (q1, qAr g 30 qz), (q2, qAr g 30 qz), (q3, qAr g 4 qz), (q4, qAr g 4 qz), (q5, qAr g 4 qz), (q6, qAr g 95 (fun i => if i = 1 then 4 else qz i)), (q7, qAr g 95 qz), (q8, qAr g 1330 qz), (q9, qAr g 190 qz), (q10, .inl (qcZ g, 2, .inl (qia qz))), (q11, qAr g 1024 qz), (q12, qAr g 31 qz), (q13, qAr g 31 qz), (q14, qAr g 30 qz), (q15, qAr g 15 qz)]) C rfl (by decide) (by decide) dX4_init_137 rfl ?_
  refine v_aload_n C dX4_init_138 0 rfl ?_
  refine v_get (q0 := 0) (Cn := RX4) (T := TX4) (kf := 12) C rfl rfl qin_X4 (by decide) qcw_771 rfl rfl dX4_init_139 ?_
  refine v_iconst (x := 2) C dX4_init_142 rfl ?_
  refine v_bipush (x := 6) C dX4_init_143 rfl ?_
  refine v_iast (q0 := 7) (v := 6) (ws' := [(h0, .inr (4, [.int (qI 0), .ref q0, .int (qI 0), .int (qI 0), .int (qI 0), .ref q1, .ref q2, .int (qI 0), .ref q3, .ref q4, .ref q5, .int (qI 0), .ref q6, .ref q7, .ref q8, .int (qI 0), .ref q9, .ref q10, .ref q11, .ref q12, .ref q13, .ref q14, .int (qI 0), .ref q15, .int (qI 0), .int (qI 0)])), (q0, qAr g 120 qz), (q1, qAr g 30 qz), (q2, qAr g 30 qz), (q3, qAr g 4 qz), (q4, qAr g 4 qz), (q5, qAr g 4 qz), (q6, qAr g 95 (fun i => if i = 2 then 6 else (fun i => if i = 1 then 4 else qz i) i)), (q7, qAr g 95 qz), (q8, qAr g 1330 qz), (q9, qAr g 190 qz), (q10, .inl (qcZ g, 2, .inl (qia qz))), (q11, qAr g 1024 qz), (q12, qAr g 31 qz), (q13, qAr g 31 qz), (q14, qAr g 30 qz), (q15, qAr g 15 qz)]) C rfl (by decide) (by decide) dX4_init_145 rfl ?_
  refine v_aload_n C dX4_init_146 0 rfl ?_
  refine v_get (q0 := 0) (Cn := RX4) (T := TX4) (kf := 12) C rfl rfl qin_X4 (by decide) qcw_771 rfl rfl dX4_init_147 ?_
  refine v_iconst (x := 3) C dX4_init_150 rfl ?_
  refine v_bipush (x := 15) C dX4_init_151 rfl ?_
  refine v_iast (q0 := 7) (v := 15) (ws' := [(h0, .inr (4, [.int (qI 0), .ref q0, .int (qI 0), .int (qI 0), .int (qI 0), .ref q1, .ref q2, .int (qI 0), .ref q3, .ref q4, .ref q5, .int (qI 0), .ref q6, .ref q7, .ref q8, .int (qI 0), .ref q9, .ref q10, .ref q11, .ref q12, .ref q13, .ref q14, .int (qI 0), .ref q15, .int (qI 0), .int (qI 0)])), (q0, qAr g 120 qz), (q1, qAr g 30 qz), (q2, qAr g 30 qz), (q3, qAr g 4 qz), (q4, qAr g 4 qz), (q5, qAr g 4 qz), (q6, qAr g 95 (fun i => if i = 3 then 15 else (fun i => if i = 2 then 6 else (fun i => if i = 1 then 4 else qz i) i) i)), (q7, qAr g 95 qz), (q8, qAr g 1330 qz), (q9, qAr g 190 qz), (q10, .inl (qcZ g, 2, .inl (qia qz))), (q11, qAr g 1024 qz), (q12, qAr g 31 qz), (q13, qAr g 31 qz), (q14, qAr g 30 qz), (q15, qAr g 15 qz)]) C rfl (by decide) (by decide) dX4_init_153 rfl ?_
  refine v_aload_n C dX4_init_154 0 rfl ?_
  refine v_get (q0 := 0) (Cn := RX4) (T := TX4) (kf := 12) C rfl rfl qin_X4 (by decide) qcw_771 rfl rfl dX4_init_155 ?_
  refine v_iconst (x := 4) C dX4_init_158 rfl ?_
  refine v_bipush (x := 40) C dX4_init_159 rfl ?_
  refine v_iast (q0 := 7) (v := 40) (ws' := [(h0, .inr (4, [.int (qI 0), .ref q0, .int (qI 0), .int (qI 0), .int (qI 0), .ref q1, .ref q2, .int (qI 0), .ref q3, .ref q4, .ref q5, .int (qI 0), .ref q6, .ref q7, .ref q8, .int (qI 0), .ref q9, .ref q10, .ref q11, .ref q12, .ref q13, .ref q14, .int (qI 0), .ref q15, .int (qI 0), .int (qI 0)])), (q0, qAr g 120 qz), (q1, qAr g 30 qz), (q2, qAr g 30 qz), (q3, qAr g 4 qz), (q4, qAr g 4 qz), (q5, qAr g 4 qz), (q6, qAr g 95 (fun i => if i = 4 then 40 else (fun i => if i = 3 then 15 else (fun i => if i = 2 then 6 else (fun i => if i = 1 then 4 else qz i) i) i) i)), (q7, qAr g 95 qz), (q8, qAr g 1330 qz), (q9, qAr g 190 qz), (q10, .inl (qcZ g, 2, .inl (qia qz))), (q11, qAr g 1024 qz), (q12, qAr g 31 qz), (q13, qAr g 31 qz), (q14, qAr g 30 qz), (q15, qAr g 15 qz)]) C rfl (by decide) (by decide) dX4_init_161 rfl ?_
  exact v_ret C hr (by decide) (by decide) ⟨fun k => [h0, q0, q1, q2, q3, q4, q5, q6, q7, q8, q9, q10, q11, q12, q13, q14, q15].getD k 0, rfl, rfl⟩ dX4_init_162
def rmiX3 : Room := { frames := 4, cells := 109, slots := 2268, locals := 120 }
def qzX3 : va_E := .inr (3, [.null, .null, .null, .null, .null, .null, .null, .int (qI 0), .int (qI 0)])
def qFl (g : qG) (bs : List (Nat → Nat)) : va_W := bs.flatMap (qX1w g)
def qRf (bs : List (Nat → Nat)) : Nat → Option Nat := fun i => (bs[i]?).map (fun a => a 0)
def qRe (g : qG) (N : Nat) (bs : List (Nat → Nat)) : va_E := .inl (qcQ g, N, .inr (.inr (.inr (.inr (qRf bs)))))
theorem qFl_snoc {g : qG} {bs : List (Nat → Nat)} {a : Nat → Nat} : qFl g (bs ++ [a]) = qFl g bs ++ qX1w g a := by
  unfold qFl
  rw [List.flatMap_append]
  simp
theorem qRf_snoc {bs : List (Nat → Nat)} {a : Nat → Nat} : va_up (qRf bs) bs.length (some (a 0)) = qRf (bs ++ [a]) := by
  funext j
  unfold va_up qRf
  by_cases h : j = bs.length
  · subst h
    rw [if_pos rfl, List.getElem?_append_right (Nat.le_refl _), Nat.sub_self]
    rfl
  · rw [if_neg h]
    rcases Nat.lt_or_ge j bs.length with h1 | h1
    · rw [List.getElem?_append_left h1]
    · rw [List.getElem?_eq_none h1, List.getElem?_eq_none (by rw [List.length_append, List.length_singleton]; omega)]
theorem qg0 {B X Y : va_W} {x : Nat × va_E} (h : B[0]? = some x) : ((B ++ X) ++ Y)[0]? = some x := by
  have h1 := (List.getElem?_eq_some_iff.mp h).1
  rw [List.getElem?_append_left (by rw [List.length_append]; omega), List.getElem?_append_left h1]
  exact h
theorem qgB {B Y : va_W} {x : Nat × va_E} : ((B ++ [x]) ++ Y)[B.length]? = some x := by
  rw [List.getElem?_append_left (by rw [List.length_append, List.length_singleton]; omega), List.getElem?_append_right (Nat.le_refl _), Nat.sub_self]
  rfl
theorem qgE {B Y : va_W} {x : Nat × va_E} (h : Y[0]? = some x) : (B ++ Y)[B.length]? = some x := by
  rw [List.getElem?_append_right (Nat.le_refl _), Nat.sub_self]
  exact h
theorem qsB {B Y : va_W} {x y : Nat × va_E} : ((B ++ [x]) ++ Y).set B.length y = (B ++ [y]) ++ Y := by
  rw [List.set_append_left _ _ (by rw [List.length_append, List.length_singleton]; omega), List.set_append_right _ _ (Nat.le_refl _), Nat.sub_self]
  rfl
theorem qVk {g : qG} {p : Program} {l : Launch} {e : Env} {R : Room} {s : State} {m : MethodId} {args : Array Value} {below : List Frame} {meth : Method} {c : Code} {Q : State → Prop} {nL : Nat} {A : Nat → Prop} {ws ws' : va_W} {L L' : List (Nat × Value)} {pc : Nat} {st : List Value} {k n k' n' : Nat} (hw : ws = ws') (hL : L = L') (hk : k = k') (hn : n = n') (kk : qV g p l e R s m args below meth c Q nL A ws' L' pc st k' n') : qV g p l e R s m args below meth c Q nL A ws L pc st k n := by
  subst hw; subst hL; subst hk; subst hn; exact kk
set_option maxHeartbeats 4000000 in
set_option maxRecDepth 100000 in
theorem qi_states {g : qG} {p : Program} {l : Launch} {e : Env} {s : State} {m : MethodId} {args : Array Value} {below : List Frame} {meth : Method} {c : Code} {Q : State → Prop} {A : Nat → Prop} {h0 aS k0 n0 : Nat} {B : va_W} {fs : List Value} (C : qCv g p s m args meth c A RX3 cX3_init 2) (hB : B[0]? = some (h0, .inr (3, fs))) (hf : fs[4]? = some (.ref aS)) (hk0 : k0 + 70 ≤ 109 ∧ n0 + 1386 ≤ 2268) (kk : ∀ bs : List (Nat → Nat), bs.length = 14 → qV g p l e rmiX3 s m args below meth c Q 2 A ((B ++ [(aS, qRe g 14 bs)]) ++ qFl g bs) ([(1, .int (qI 14)), (0, .ref h0)]) 84 [] (k0 + 70) (n0 + 1386)) : ∀ (d : Nat) (bs : List (Nat → Nat)) (x : Int) (k n : Nat), bs.length + d = 14 → x = (bs.length : Int) → k = k0 + 5 * bs.length → n = n0 + 99 * bs.length → qV g p l e rmiX3 s m args below meth c Q 2 A ((B ++ [(aS, qRe g 14 bs)]) ++ qFl g bs) ([(1, .int (qI x)), (0, .ref h0)]) 59 [] (k) (n) := by
  intro d
  induction d with
  | zero =>
    intro bs x k n hb hx hk hn
    have hb2 : bs.length = 14 := hb
    have hx2 : x = 14 := by omega
    subst hx2
    refine v_iload_n C dX3_init_59 0 rfl ?_
    refine v_bipush (x := 14) C dX3_init_60 rfl ?_
    refine v_icmp_ge (tgt := 84) C dX3_init_62 (by decide) (by decide) (fun _ => ?_) (fun h => absurd (by decide) h)
    exact qVk rfl rfl (by omega) (by omega) (kk bs hb2)
  | succ d ih =>
    intro bs x k n hb hx hk hn
    refine v_iload_n C dX3_init_59 0 rfl ?_
    refine v_bipush (x := 14) C dX3_init_60 rfl ?_
    refine v_icmp_ge (tgt := 84) C dX3_init_62 (by decide) (by constructor <;> constructor <;> omega) (fun h => absurd h (by omega)) (fun _ => ?_)
    refine v_aload_n C dX3_init_65 1 rfl ?_
    refine v_get (q0 := 0) (Cn := RX3) (T := TX3) (kf := 4) C (qg0 hB) rfl qin_X3 (by decide) qcw_211 rfl hf dX3_init_66 ?_
    refine v_iload_n C dX3_init_69 0 rfl ?_
    refine v_new (ci := 1) (Cn := RX1) (T := TX1) (fs := [.null, .null, .null, .null, .int (qI 0)]) C rfl qin_X1 tyX1_ok (qin3 qcw_119 qcw_120 qcw_61) (by decide +kernel) (by constructor <;> simp only [rmiX3] <;> omega) dX3_init_70 (fun q => ?_)
    refine v_dup C dX3_init_73 rfl ?_
    refine v_callI (y := yX1_init) C (ctor_X1 l g q) rfl (qin4 qcw_123 qcw_61 qcw_121 qcw_122) rfl (by decide +kernel) (by decide) (by constructor <;> simp only [rmiX3, rmiX1] <;> omega) (Nat.le_of_ble_eq_true rfl) dX3_init_74 (fun w1 hw1 => ?_)
    obtain ⟨a, rfl, rfl⟩ := hw1
    refine v_astq (q0 := B.length) (qv := ((B ++ [(aS, qRe g 14 bs)]) ++ qFl g bs).length) (f := qRf bs) (N := 14) (ws' := (B ++ [(aS, qRe g 14 (bs ++ [a]))]) ++ qFl g (bs ++ [a])) C (by rw [List.append_assoc]; exact qgB) (qgE rfl) (by constructor <;> omega) (by decide) dX3_init_77 (by rw [List.append_assoc, qsB, qFl_snoc, hx, Int.toNat_natCast, qRf_snoc]; rfl) ?_
    refine v_iinc (y := x + 1) (L' := [(1, .int (qI (x + 1))), (0, .ref h0)]) C dX3_init_78 0 rfl rfl (by decide) rfl ?_
    refine v_goto (tgt := 59) C dX3_init_81 (by decide) ?_
    exact ih (bs ++ [a]) (x + 1) _ _ (by rw [List.length_append, List.length_singleton]; omega) (by rw [List.length_append, List.length_singleton]; omega) (by rw [List.length_append, List.length_singleton]; simp only [rmiX1]; omega) (by rw [List.length_append, List.length_singleton]; simp only [rmiX1]; omega)
set_option maxHeartbeats 4000000 in
set_option maxRecDepth 100000 in
theorem qi_slots {g : qG} {p : Program} {l : Launch} {e : Env} {s : State} {m : MethodId} {args : Array Value} {below : List Frame} {meth : Method} {c : Code} {Q : State → Prop} {A : Nat → Prop} {h0 aS k0 n0 : Nat} {B : va_W} {fs : List Value} (C : qCv g p s m args meth c A RX3 cX3_init 2) (hB : B[0]? = some (h0, .inr (3, fs))) (hf : fs[5]? = some (.ref aS)) (hk0 : k0 + 10 ≤ 109 ∧ n0 + 198 ≤ 2268) (kk : ∀ bs : List (Nat → Nat), bs.length = 2 → qV g p l e rmiX3 s m args below meth c Q 2 A ((B ++ [(aS, qRe g 2 bs)]) ++ qFl g bs) ([(1, .int (qI 2)), (0, .ref h0)]) 118 [] (k0 + 10) (n0 + 198)) : ∀ (d : Nat) (bs : List (Nat → Nat)) (x : Int) (k n : Nat), bs.length + d = 2 → x = (bs.length : Int) → k = k0 + 5 * bs.length → n = n0 + 99 * bs.length → qV g p l e rmiX3 s m args below meth c Q 2 A ((B ++ [(aS, qRe g 2 bs)]) ++ qFl g bs) ([(1, .int (qI x)), (0, .ref h0)]) 94 [] (k) (n) := by
  intro d
  induction d with
  | zero =>
    intro bs x k n hb hx hk hn
    have hb2 : bs.length = 2 := hb
    have hx2 : x = 2 := by omega
    subst hx2
    refine v_iload_n C dX3_init_94 0 rfl ?_
    refine v_iconst (x := 2) C dX3_init_95 rfl ?_
    refine v_icmp_ge (tgt := 118) C dX3_init_96 (by decide) (by decide) (fun _ => ?_) (fun h => absurd (by decide) h)
    exact qVk rfl rfl (by omega) (by omega) (kk bs hb2)
  | succ d ih =>
    intro bs x k n hb hx hk hn
    refine v_iload_n C dX3_init_94 0 rfl ?_
    refine v_iconst (x := 2) C dX3_init_95 rfl ?_
    refine v_icmp_ge (tgt := 118) C dX3_init_96 (by decide) (by constructor <;> constructor <;> omega) (fun h => absurd h (by omega)) (fun _ => ?_)
    refine v_aload_n C dX3_init_99 1 rfl ?_
    refine v_get (q0 := 0) (Cn := RX3) (T := TX3) (kf := 5) C (qg0 hB) rfl qin_X3 (by decide) qcw_212 rfl hf dX3_init_100 ?_
    refine v_iload_n C dX3_init_103 0 rfl ?_
    refine v_new (ci := 1) (Cn := RX1) (T := TX1) (fs := [.null, .null, .null, .null, .int (qI 0)]) C rfl qin_X1 tyX1_ok (qin3 qcw_119 qcw_120 qcw_61) (by decide +kernel) (by constructor <;> simp only [rmiX3] <;> omega) dX3_init_104 (fun q => ?_)
    refine v_dup C dX3_init_107 rfl ?_
    refine v_callI (y := yX1_init) C (ctor_X1 l g q) rfl (qin4 qcw_123 qcw_61 qcw_121 qcw_122) rfl (by decide +kernel) (by decide) (by constructor <;> simp only [rmiX3, rmiX1] <;> omega) (Nat.le_of_ble_eq_true rfl) dX3_init_108 (fun w1 hw1 => ?_)
    obtain ⟨a, rfl, rfl⟩ := hw1
    refine v_astq (q0 := B.length) (qv := ((B ++ [(aS, qRe g 2 bs)]) ++ qFl g bs).length) (f := qRf bs) (N := 2) (ws' := (B ++ [(aS, qRe g 2 (bs ++ [a]))]) ++ qFl g (bs ++ [a])) C (by rw [List.append_assoc]; exact qgB) (qgE rfl) (by constructor <;> omega) (by decide) dX3_init_111 (by rw [List.append_assoc, qsB, qFl_snoc, hx, Int.toNat_natCast, qRf_snoc]; rfl) ?_
    refine v_iinc (y := x + 1) (L' := [(1, .int (qI (x + 1))), (0, .ref h0)]) C dX3_init_112 0 rfl rfl (by decide) rfl ?_
    refine v_goto (tgt := 94) C dX3_init_115 (by decide) ?_
    exact ih (bs ++ [a]) (x + 1) _ _ (by rw [List.length_append, List.length_singleton]; omega) (by rw [List.length_append, List.length_singleton]; omega) (by rw [List.length_append, List.length_singleton]; simp only [rmiX1]; omega) (by rw [List.length_append, List.length_singleton]; simp only [rmiX1]; omega)
def qX3w (g : qG) (a t u v r : Nat → Nat) (bs cs : List (Nat → Nat)) : va_W := ((((((((([(a 0, .inr (3, [.ref (t 0), .ref (u 0), .ref (v 0), .ref (r 0), .ref (a 1), .ref (a 2), .ref (a 3), .int (qI 0), .int (qI 0)]))] ++ qX2w g t) ++ qX1w g u) ++ qX1w g v) ++ qX0w g r) ++ [(a 1, qRe g 14 bs)]) ++ qFl g bs) ++ [(a 2, qRe g 2 cs)]) ++ qFl g cs) ++ [(a 3, .inl (qcZ g, 2, .inl (qia qz)))])
set_option maxHeartbeats 4000000 in
set_option maxRecDepth 100000 in
theorem ctor_X3 (l : Launch) (g : qG) (h0 : Nat) : qN l g yX3_init (.code yX3_init cX3_init 2 none) rmiX3 h0 qzX3 (fun w1 => ∃ (a t u v r : Nat → Nat) (bs cs : List (Nat → Nat)), bs.length = 14 ∧ cs.length = 2 ∧ a 0 = h0 ∧ w1 = qX3w g a t u v r bs cs) := by
  refine qN_of (by decide +kernel) (by decide) ?_
  intro p e s m below meth c A C hN hr
  have C : qCv g p s m ([.ref h0] : List Value).toArray meth c A RX3 cX3_init 2 := C
  refine v_aload_n C dX3_init_0 0 rfl ?_
  refine v_objInit C (qin3 qcw_76 qcw_77 qcw_78) (by decide) dX3_init_1 ?_
  refine v_aload_n C dX3_init_4 0 rfl ?_
  refine v_new (ci := 2) (Cn := RX2) (T := TX2) (fs := [.null, .int (qI 0), .null, .null, .int (qI 0), .int (qI 0), .null, .null, .int (qI 0)]) C rfl qin_X2 tyX2_ok (qin3 qcw_79 qcw_80 qcw_60) (by decide +kernel) (by decide) dX3_init_5 (fun q => ?_)
  refine v_dup C dX3_init_8 rfl ?_
  refine v_callIN (y := yX2_init) C (ctor_X2 l g q) rfl (qin3 qcw_83 qcw_60 qcw_82) qcn_81 rfl (by decide +kernel) (by decide) (by decide) (Nat.le_of_ble_eq_true rfl) dX3_init_9 (fun w1 hw1 => ?_)
  obtain ⟨t, rfl, rfl⟩ := hw1
  refine v_putF (q0 := 0) (Cn := RX3) (T := TX3) (kf := 0) (ws' := ([(h0, .inr (3, [.ref (t 0), .null, .null, .null, .null, .null, .null, .int (qI 0), .int (qI 0)]))] ++ qX2w g t)) C hN rfl rfl qin_X3 tyX3_ok nmX3 (by decide) (Nat.le_of_ble_eq_true rfl) qcw_207 rfl rfl (tyX3_ok 0 (by decide)) rfl rfl dX3_init_12 rfl ?_
  refine v_aload_n C dX3_init_15 0 rfl ?_
  refine v_new (ci := 1) (Cn := RX1) (T := TX1) (fs := [.null, .null, .null, .null, .int (qI 0)]) C rfl qin_X1 tyX1_ok (qin3 qcw_119 qcw_120 qcw_61) (by decide +kernel) (by decide) dX3_init_16 (fun q => ?_)
  refine v_dup C dX3_init_19 rfl ?_
  refine v_callI (y := yX1_init) C (ctor_X1 l g q) rfl (qin4 qcw_123 qcw_61 qcw_121 qcw_122) rfl (by decide +kernel) (by decide) (by decide) (Nat.le_of_ble_eq_true rfl) dX3_init_20 (fun w1 hw1 => ?_)
  obtain ⟨u, rfl, rfl⟩ := hw1
  refine v_putF (q0 := 0) (Cn := RX3) (T := TX3) (kf := 1) (ws' := (([(h0, .inr (3, [.ref (t 0), .ref (u 0), .null, .null, .null, .null, .null, .int (qI 0), .int (qI 0)]))] ++ qX2w g t) ++ qX1w g u)) C hN rfl rfl qin_X3 tyX3_ok nmX3 (by decide) (Nat.le_of_ble_eq_true rfl) qcw_208 rfl rfl (tyX3_ok 1 (by decide)) rfl rfl dX3_init_23 rfl ?_
  refine v_aload_n C dX3_init_26 0 rfl ?_
  refine v_new (ci := 1) (Cn := RX1) (T := TX1) (fs := [.null, .null, .null, .null, .int (qI 0)]) C rfl qin_X1 tyX1_ok (qin3 qcw_119 qcw_120 qcw_61) (by decide +kernel) (by decide) dX3_init_27 (fun q => ?_)
  refine v_dup C dX3_init_30 rfl ?_
  refine v_callI (y := yX1_init) C (ctor_X1 l g q) rfl (qin4 qcw_123 qcw_61 qcw_121 qcw_122) rfl (by decide +kernel) (by decide) (by decide) (Nat.le_of_ble_eq_true rfl) dX3_init_31 (fun w1 hw1 => ?_)
  obtain ⟨v, rfl, rfl⟩ := hw1
  refine v_putF (q0 := 0) (Cn := RX3) (T := TX3) (kf := 2) (ws' := ((([(h0, .inr (3, [.ref (t 0), .ref (u 0), .ref (v 0), .null, .null, .null, .null, .int (qI 0), .int (qI 0)]))] ++ qX2w g t) ++ qX1w g u) ++ qX1w g v)) C hN rfl rfl qin_X3 tyX3_ok nmX3 (by decide) (Nat.le_of_ble_eq_true rfl) qcw_209 rfl rfl (tyX3_ok 2 (by decide)) rfl rfl dX3_init_34 rfl ?_
  refine v_aload_n C dX3_init_37 0 rfl ?_
  refine v_new (ci := 0) (Cn := RX0) (T := TX0) (fs := [.null, .null, .null, .null, .null, .null, .null, .null, .null, .int (qI 0), .int (qI 0), .int (qI 0), .int (qI 0)]) C rfl qin_X0 tyX0_ok (qin3 qcw_151 qcw_152 qcw_62) (by decide +kernel) (by decide) dX3_init_38 (fun q => ?_)
  refine v_dup C dX3_init_41 rfl ?_
  refine v_callIN (y := yX0_init) C (ctor_X0 l g q) rfl (qin3 qcw_155 qcw_62 qcw_154) qcn_153 rfl (by decide +kernel) (by decide) (by decide) (Nat.le_of_ble_eq_true rfl) dX3_init_42 (fun w1 hw1 => ?_)
  obtain ⟨r, rfl, rfl⟩ := hw1
  refine v_putF (q0 := 0) (Cn := RX3) (T := TX3) (kf := 3) (ws' := (((([(h0, .inr (3, [.ref (t 0), .ref (u 0), .ref (v 0), .ref (r 0), .null, .null, .null, .int (qI 0), .int (qI 0)]))] ++ qX2w g t) ++ qX1w g u) ++ qX1w g v) ++ qX0w g r)) C hN rfl rfl qin_X3 tyX3_ok nmX3 (by decide) (Nat.le_of_ble_eq_true rfl) qcw_210 rfl rfl (tyX3_ok 3 (by decide)) rfl rfl dX3_init_45 rfl ?_
  refine v_aload_n C dX3_init_48 0 rfl ?_
  refine v_bipush (x := 14) C dX3_init_49 rfl ?_
  refine v_newaQ (N := 14) C rfl (by decide) qcw_119 (by decide) dX3_init_51 (fun a1 => ?_)
  refine v_putF (q0 := 0) (Cn := RX3) (T := TX3) (kf := 4) (ws' := ((((([(h0, .inr (3, [.ref (t 0), .ref (u 0), .ref (v 0), .ref (r 0), .ref a1, .null, .null, .int (qI 0), .int (qI 0)]))] ++ qX2w g t) ++ qX1w g u) ++ qX1w g v) ++ qX0w g r) ++ [(a1, qRe g 14 [])])) C hN rfl rfl qin_X3 tyX3_ok nmX3 (by decide) (Nat.le_of_ble_eq_true rfl) qcw_211 rfl rfl (tyX3_ok 4 (by decide)) rfl rfl dX3_init_54 rfl ?_
  refine v_iconst (x := 0) C dX3_init_57 rfl ?_
  refine v_istore_n (L' := [(1, .int (qI 0)), (0, .ref h0)]) C dX3_init_58 (by decide) rfl ?_
  refine v_ws (ws' := ((((([(h0, .inr (3, [.ref (t 0), .ref (u 0), .ref (v 0), .ref (r 0), .ref a1, .null, .null, .int (qI 0), .int (qI 0)]))] ++ qX2w g t) ++ qX1w g u) ++ qX1w g v) ++ qX0w g r) ++ [(a1, qRe g 14 [])]) ++ qFl g []) (List.append_nil _).symm ?_
  refine qi_states (k0 := 27) (n0 := 680) (B := (((([(h0, .inr (3, [.ref (t 0), .ref (u 0), .ref (v 0), .ref (r 0), .ref a1, .null, .null, .int (qI 0), .int (qI 0)]))] ++ qX2w g t) ++ qX1w g u) ++ qX1w g v) ++ qX0w g r)) C rfl rfl (by decide) (fun bs hbs => ?_) 14 [] 0 _ _ rfl rfl rfl rfl
  refine v_ws (ws' := (((((([(h0, .inr (3, [.ref (t 0), .ref (u 0), .ref (v 0), .ref (r 0), .ref a1, .null, .null, .int (qI 0), .int (qI 0)]))] ++ qX2w g t) ++ qX1w g u) ++ qX1w g v) ++ qX0w g r) ++ [(a1, qRe g 14 bs)]) ++ qFl g bs)) rfl ?_
  refine v_aload_n C dX3_init_84 1 rfl ?_
  refine v_iconst (x := 2) C dX3_init_85 rfl ?_
  refine v_newaQ (N := 2) C rfl (by decide) qcw_119 (by decide) dX3_init_86 (fun a2 => ?_)
  refine v_putF (q0 := 0) (Cn := RX3) (T := TX3) (kf := 5) (ws' := ((((((([(h0, .inr (3, [.ref (t 0), .ref (u 0), .ref (v 0), .ref (r 0), .ref a1, .ref a2, .null, .int (qI 0), .int (qI 0)]))] ++ qX2w g t) ++ qX1w g u) ++ qX1w g v) ++ qX0w g r) ++ [(a1, qRe g 14 bs)]) ++ qFl g bs) ++ [(a2, qRe g 2 [])])) C hN rfl rfl qin_X3 tyX3_ok nmX3 (by decide) (Nat.le_of_ble_eq_true rfl) qcw_212 rfl rfl (tyX3_ok 5 (by decide)) rfl rfl dX3_init_89 rfl ?_
  refine v_iconst (x := 0) C dX3_init_92 rfl ?_
  refine v_istore_n (L' := [(1, .int (qI 0)), (0, .ref h0)]) C dX3_init_93 (by decide) rfl ?_
  refine v_ws (ws' := ((((((([(h0, .inr (3, [.ref (t 0), .ref (u 0), .ref (v 0), .ref (r 0), .ref a1, .ref a2, .null, .int (qI 0), .int (qI 0)]))] ++ qX2w g t) ++ qX1w g u) ++ qX1w g v) ++ qX0w g r) ++ [(a1, qRe g 14 bs)]) ++ qFl g bs) ++ [(a2, qRe g 2 [])]) ++ qFl g []) (List.append_nil _).symm ?_
  refine qi_slots (k0 := 98) (n0 := 2068) (B := (((((([(h0, .inr (3, [.ref (t 0), .ref (u 0), .ref (v 0), .ref (r 0), .ref a1, .ref a2, .null, .int (qI 0), .int (qI 0)]))] ++ qX2w g t) ++ qX1w g u) ++ qX1w g v) ++ qX0w g r) ++ [(a1, qRe g 14 bs)]) ++ qFl g bs)) C rfl rfl (by decide) (fun cs hcs => ?_) 2 [] 0 _ _ rfl rfl rfl rfl
  refine v_ws (ws' := (((((((([(h0, .inr (3, [.ref (t 0), .ref (u 0), .ref (v 0), .ref (r 0), .ref a1, .ref a2, .null, .int (qI 0), .int (qI 0)]))] ++ qX2w g t) ++ qX1w g u) ++ qX1w g v) ++ qX0w g r) ++ [(a1, qRe g 14 bs)]) ++ qFl g bs) ++ [(a2, qRe g 2 cs)]) ++ qFl g cs)) rfl ?_
  refine v_aload_n C dX3_init_118 1 rfl ?_
  refine v_iconst (x := 2) C dX3_init_119 rfl ?_
  refine v_newaZ (N := 2) C rfl (by decide) qcw_235 (by decide) dX3_init_120 (fun a3 => ?_)
  refine v_putF (q0 := 0) (Cn := RX3) (T := TX3) (kf := 6) (ws' := ((((((((([(h0, .inr (3, [.ref (t 0), .ref (u 0), .ref (v 0), .ref (r 0), .ref a1, .ref a2, .ref a3, .int (qI 0), .int (qI 0)]))] ++ qX2w g t) ++ qX1w g u) ++ qX1w g v) ++ qX0w g r) ++ [(a1, qRe g 14 bs)]) ++ qFl g bs) ++ [(a2, qRe g 2 cs)]) ++ qFl g cs) ++ [(a3, .inl (qcZ g, 2, .inl (qia qz)))])) C hN rfl rfl qin_X3 tyX3_ok nmX3 (by decide) (Nat.le_of_ble_eq_true rfl) qcw_213 rfl rfl (tyX3_ok 6 (by decide)) rfl rfl dX3_init_122 rfl ?_
  exact v_ret C hr (by decide) (by decide) ⟨fun k => [h0, a1, a2, a3].getD k 0, t, u, v, r, bs, cs, hbs, hcs, rfl, rfl⟩ dX3_init_125
