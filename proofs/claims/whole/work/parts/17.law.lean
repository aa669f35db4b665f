set_option maxHeartbeats 4000000 in
set_option maxRecDepth 100000 in
theorem met_L_law {g : qG} {p : Program} {l : Launch} {e : Env} {s : State} {m : MethodId} {below : List Frame} {meth : Method} {c : Code} {b L9 : Nat} {xs : Nat → Int32} (C : qC g p l s m #[Value.ref b] meth c RL cL_law 7) (hr : meth.sig.returnType = ret) (hB : qB g = s.heap.size) (hX : va_X b L9 xs s s.heap) (hbl : b < s.heap.size) (hbA : ¬ qA g b) (hL9 : L9 ≤ 2147483647) (n9 : Nat) : ∀ (f : Nat) (S : qS) (x4 : Int) (k9 n8 : Nat), ML_law n9 L9 xs f S x4 = some () → k9 + 2 * f ≤ 601024 → n8 + 12 * f ≤ 7293034 → qZ g p l e room_1 s m #[Value.ref b] below meth c (lw_Z below #[Value.ref b] s) 7 S [(0, .ref b), (1, .ref (qad g 0)), (2, .ref (qad g 110)), (3, .ref (qad g 127)), (4, .int (qI x4))] 23 [] (k9 + 0) (n8 + 0) := by
  intro f
  induction f with
  | zero => intro S x4 k9 n8 hm; rw [ML_law] at hm; cases hm
  | succ f ih =>
    intro S x4 k9 n8 hm hk9 hn8
    rw [ML_law] at hm
    have hl := C.2.2.2.2.2.2.2.2
    have hA := C.2.2.2.2.2.2.1
    refine z_iload C dL_law_23 4 rfl ?_
    refine z_aload_n C dL_law_25 0 rfl ?_
    refine z_slen C hX hbl hbA dL_law_26 ?_
    refine z_iconst (x := 4) C dL_law_27 rfl ?_
    refine z_isub C dL_law_28 ?_
    obtain ⟨h1, hm⟩ := qg_i hm
    obtain ⟨h2, hm⟩ := qg_i hm
    refine z_icmp_gt (tgt := 1599) C dL_law_29 (by decide) ⟨h1, h2⟩ (fun c3 => ?_) (fun c3 => ?_)
    · have hm := qt_i hm c3
      refine z_iconst (x := 1) C dL_law_1599 rfl ?_
      exact z_lawret C hr hB (by omega) (by omega) dL_law_1600
    · have hm := qf_i hm c3
      refine z_aload_n C dL_law_32 0 rfl ?_
      refine z_iload C dL_law_33 4 rfl ?_
      obtain ⟨h4, hm⟩ := qg_i hm
      refine z_sld C hX hbl hbA hL9 h4 dL_law_35 ?_
      refine z_bipush (x := 31) C dL_law_36 (by decide +kernel) ?_
      refine z_iand C dL_law_38 ?_
      obtain ⟨j6, e7, hm⟩ := ql_i hm
      have hj6 : ∀ (S5 : qS), j6 S5 = some () → qZ g p l e room_1 s m #[Value.ref b] below meth c (lw_Z below #[Value.ref b] s) 7 S5 [(0, .ref b), (1, .ref (qad g 0)), (2, .ref (qad g 110)), (3, .ref (qad g 127)), (4, .int (qI x4))] 1593 [] (k9 + 2) (n8 + 12) := by
        intro S5 hm
        rw [e7] at hm
        refine z_iinc (L' := [(4, .int (qI (x4 + 4))), (0, .ref b), (1, .ref (qad g 0)), (2, .ref (qad g 110)), (3, .ref (qad g 127))]) C dL_law_1593 4 rfl (by decide) rfl ?_
        refine z_goto (tgt := 23) C dL_law_1596 (by decide) ?_
        refine z_sub (L' := [(0, .ref b), (1, .ref (qad g 0)), (2, .ref (qad g 110)), (3, .ref (qad g 127)), (4, .int (qI (x4 + 4)))]) [1, 2, 3, 4, 0] rfl ?_
        exact ih S5 (x4 + 4) (k9 + 2) (n8 + 12) hm (by omega) (by omega)
      clear e7
      rcases Classical.em ((qiand ((xs x4.toNat).toInt) 31) = 0) with c8 | c8
      · have hm := qt_i hm c8
        refine z_tableIn (tgt := 160) C dL_law_39 (qR_toInt _) (by omega) (by omega) (by rw [c8]; rfl) (by decide) ?_
        refine z_aload_n C dL_law_160 1 rfl ?_
        refine z_aload_n C dL_law_161 0 rfl ?_
        refine z_iload C dL_law_162 4 rfl ?_
        refine z_iconst (x := 1) C dL_law_164 rfl ?_
        refine z_iadd C dL_law_165 ?_
        obtain ⟨h9, hm⟩ := qg_i hm
        refine z_sld C hX hbl hbA hL9 h9 dL_law_166 ?_
        refine z_aload_n C dL_law_167 3 rfl ?_
        obtain ⟨a10, h11, hm⟩ := qb_i hm
        refine iv_L_90 C (met_L_append l g hl hA n9 S ((xs (x4 + 1).toNat).toInt) _ h11) ⟨by decide, by decide⟩ ⟨by show k9 + 0 + 1 ≤ 601024; omega, by show n8 + 0 + 6 ≤ 7293034; omega⟩ (Nat.le_of_ble_eq_true rfl) dL_law_168 ?_
        refine z_kn (k' := k9 + 1) (n' := n8 + 6) rfl rfl ?_
        refine z_istore (L' := [(5, .int (qI a10.1)), (0, .ref b), (1, .ref (qad g 0)), (2, .ref (qad g 110)), (3, .ref (qad g 127)), (4, .int (qI x4))]) C dL_law_171 (by decide) rfl ?_
        refine z_aload_n C dL_law_173 3 rfl ?_
        refine z_aload_n C dL_law_174 1 rfl ?_
        refine z_iload C dL_law_175 5 rfl ?_
        refine z_iconst (x := 1) C dL_law_177 rfl ?_
        refine z_iadd C dL_law_178 ?_
        obtain ⟨h12, hm⟩ := qg_i hm
        refine z_sld C hX hbl hbA hL9 h12 dL_law_179 ?_
        obtain ⟨a13, h14, hm⟩ := qb_i hm
        refine iv_L_95 C (met_X4_append l g hl hA n9 a10.2 ((xs (x4 + 1).toNat).toInt) _ h14) rfl ⟨by decide, by decide⟩ ⟨by show k9 + 1 + 0 ≤ 601024; omega, by show n8 + 6 + 0 ≤ 7293034; omega⟩ (Nat.le_of_ble_eq_true rfl) dL_law_180 ?_
        refine z_istore (L' := [(6, .int (qI a13.1)), (5, .int (qI a10.1)), (0, .ref b), (1, .ref (qad g 0)), (2, .ref (qad g 110)), (3, .ref (qad g 127)), (4, .int (qI x4))]) C dL_law_183 (by decide) rfl ?_
        refine z_aload_n C dL_law_185 4 rfl ?_
        obtain ⟨a15, h16, hm⟩ := qb_i hm
        refine iv_L_96 C (met_X4_thrown l g hl hA n9 a13.2  _ h16) rfl ⟨by decide, by decide⟩ ⟨by show k9 + 1 + 0 ≤ 601024; omega, by show n8 + 6 + 0 ≤ 7293034; omega⟩ (Nat.le_of_ble_eq_true rfl) dL_law_186 ?_
        refine z_iload C dL_law_189 1 rfl ?_
        obtain ⟨h17, hm⟩ := qg_i hm
        obtain ⟨h18, hm⟩ := qg_i hm
        refine z_icmp_eq (tgt := 196) C dL_law_191 (by decide) ⟨h17, h18⟩ (fun c19 => ?_) (fun c19 => ?_)
        · have hm := qt_i hm c19
          refine z_iload C dL_law_196 1 rfl ?_
          obtain ⟨j20, e21, hm⟩ := ql_i hm
          have hj20 : j20 = some () → qZ g p l e room_1 s m #[Value.ref b] below meth c (lw_Z below #[Value.ref b] s) 7 a13.2 [(0, .ref b), (1, .ref (qad g 0)), (2, .ref (qad g 110)), (3, .ref (qad g 127)), (4, .int (qI x4))] 213 [] (k9 + 1) (n8 + 6) := by
            intro  hm
            rw [e21] at hm
            refine z_goto (tgt := 1593) C dL_law_213 (by decide) ?_
            refine z_widen (k' := k9 + 2) (n' := n8 + 12) (by omega) (by omega) ?_
            exact hj6 a13.2 hm
          clear e21
          refine z_if_ne (tgt := 213) C dL_law_198 (by decide) h18 (fun c22 => ?_) (fun c22 => ?_)
          · have hm := qt_i hm c22
            refine z_aload_n C dL_law_201 5 rfl ?_
            refine z_iconst (x := 0) C dL_law_202 rfl ?_
            refine z_lald C rfl (by decide) dL_law_203 ?_
            refine z_iload C dL_law_204 0 rfl ?_
            obtain ⟨h23, hm⟩ := qg_i hm
            refine z_i2l C dL_law_206 h23 ?_
            obtain ⟨h24, hm⟩ := qg_i hm
            refine z_lcmp C dL_law_207 ⟨h24, (qRl_of h23)⟩ ?_
            refine z_if_eq (tgt := 213) C dL_law_208 (by decide) (qcmp_R _ _) (fun c25 => ?_) (fun c25 => ?_)
            · have hm := qt_i hm c25
              refine z_sub (L' := [(0, .ref b), (1, .ref (qad g 0)), (2, .ref (qad g 110)), (3, .ref (qad g 127)), (4, .int (qI x4))]) [2, 3, 4, 5, 6] rfl ?_
              exact hj20  hm
            · have hm := qf_i hm c25
              refine z_iconst (x := 0) C dL_law_211 rfl ?_
              cases hm
          · have hm := qf_i hm c22
            refine z_sub (L' := [(0, .ref b), (1, .ref (qad g 0)), (2, .ref (qad g 110)), (3, .ref (qad g 127)), (4, .int (qI x4))]) [2, 3, 4, 5, 6] rfl ?_
            exact hj20  hm
        · have hm := qf_i hm c19
          refine z_iconst (x := 0) C dL_law_194 rfl ?_
          cases hm
      have hm := qf_i hm c8
      rcases Classical.em ((qiand ((xs x4.toNat).toInt) 31) = 1) with c26 | c26
      · have hm := qt_i hm c26
        refine z_tableIn (tgt := 216) C dL_law_39 (qR_toInt _) (by omega) (by omega) (by rw [c26]; rfl) (by decide) ?_
        refine z_aload_n C dL_law_216 1 rfl ?_
        obtain ⟨a27, h28, hm⟩ := qb_i hm
        refine iv_L_99 C (met_X3_clearText l g hl hA n9 S  _ h28) rfl ⟨by decide, by decide⟩ ⟨by show k9 + 0 + 0 ≤ 601024; omega, by show n8 + 0 + 0 ≤ 7293034; omega⟩ (Nat.le_of_ble_eq_true rfl) dL_law_217 ?_
        refine z_aload_n C dL_law_220 2 rfl ?_
        obtain ⟨a29, h30, hm⟩ := qb_i hm
        refine iv_L_102 C (met_X4_clearText l g hl hA n9 a27.2  _ h30) rfl ⟨by decide, by decide⟩ ⟨by show k9 + 0 + 0 ≤ 601024; omega, by show n8 + 0 + 0 ≤ 7293034; omega⟩ (Nat.le_of_ble_eq_true rfl) dL_law_221 ?_
        obtain ⟨h31, hm⟩ := qg_i hm
        obtain ⟨h32, hm⟩ := qg_i hm
        refine z_icmp_eq (tgt := 1593) C dL_law_224 (by decide) ⟨h31, h32⟩ (fun c33 => ?_) (fun c33 => ?_)
        · have hm := qt_i hm c33
          refine z_widen (k' := k9 + 2) (n' := n8 + 12) (by omega) (by omega) ?_
          exact hj6 a29.2 hm
        · have hm := qf_i hm c33
          refine z_iconst (x := 0) C dL_law_227 rfl ?_
          cases hm
      have hm := qf_i hm c26
      rcases Classical.em ((qiand ((xs x4.toNat).toInt) 31) = 2) with c34 | c34
      · have hm := qt_i hm c34
        refine z_tableIn (tgt := 229) C dL_law_39 (qR_toInt _) (by omega) (by omega) (by rw [c34]; rfl) (by decide) ?_
        refine z_aload_n C dL_law_229 1 rfl ?_
        obtain ⟨a35, h36, hm⟩ := qb_i hm
        refine iv_L_103 C (met_X3_errorPosition l g hl hA n9 S  _ h36) rfl ⟨by decide, by decide⟩ ⟨by show k9 + 0 + 0 ≤ 601024; omega, by show n8 + 0 + 0 ≤ 7293034; omega⟩ (Nat.le_of_ble_eq_true rfl) dL_law_230 ?_
        refine z_aload_n C dL_law_233 2 rfl ?_
        obtain ⟨a37, h38, hm⟩ := qb_i hm
        refine iv_L_106 C (met_X4_errorPosition l g hl hA n9 a35.2  _ h38) rfl ⟨by decide, by decide⟩ ⟨by show k9 + 0 + 0 ≤ 601024; omega, by show n8 + 0 + 0 ≤ 7293034; omega⟩ (Nat.le_of_ble_eq_true rfl) dL_law_234 ?_
        obtain ⟨h39, hm⟩ := qg_i hm
        obtain ⟨h40, hm⟩ := qg_i hm
        refine z_icmp_eq (tgt := 1593) C dL_law_237 (by decide) ⟨h39, h40⟩ (fun c41 => ?_) (fun c41 => ?_)
        · have hm := qt_i hm c41
          refine z_widen (k' := k9 + 2) (n' := n8 + 12) (by omega) (by omega) ?_
          exact hj6 a37.2 hm
        · have hm := qf_i hm c41
          refine z_iconst (x := 0) C dL_law_240 rfl ?_
          cases hm
      have hm := qf_i hm c34
      rcases Classical.em ((qiand ((xs x4.toNat).toInt) 31) = 3) with c42 | c42
      · have hm := qt_i hm c42
        refine z_tableIn (tgt := 242) C dL_law_39 (qR_toInt _) (by omega) (by omega) (by rw [c42]; rfl) (by decide) ?_
        refine z_aload_n C dL_law_242 1 rfl ?_
        obtain ⟨a43, h44, hm⟩ := qb_i hm
        refine iv_L_107 C (met_X3_axlesTold l g hl hA n9 S  _ h44) rfl ⟨by decide, by decide⟩ ⟨by show k9 + 0 + 0 ≤ 601024; omega, by show n8 + 0 + 0 ≤ 7293034; omega⟩ (Nat.le_of_ble_eq_true rfl) dL_law_243 ?_
        refine z_aload_n C dL_law_246 2 rfl ?_
        obtain ⟨a45, h46, hm⟩ := qb_i hm
        refine iv_L_110 C (met_X4_axlesTold l g hl hA n9 a43.2  _ h46) rfl ⟨by decide, by decide⟩ ⟨by show k9 + 0 + 0 ≤ 601024; omega, by show n8 + 0 + 0 ≤ 7293034; omega⟩ (Nat.le_of_ble_eq_true rfl) dL_law_247 ?_
        obtain ⟨h47, hm⟩ := qg_i hm
        obtain ⟨h48, hm⟩ := qg_i hm
        refine z_icmp_eq (tgt := 1593) C dL_law_250 (by decide) ⟨h47, h48⟩ (fun c49 => ?_) (fun c49 => ?_)
        · have hm := qt_i hm c49
          refine z_widen (k' := k9 + 2) (n' := n8 + 12) (by omega) (by omega) ?_
          exact hj6 a45.2 hm
        · have hm := qf_i hm c49
          refine z_iconst (x := 0) C dL_law_253 rfl ?_
          cases hm
      have hm := qf_i hm c42
      rcases Classical.em ((qiand ((xs x4.toNat).toInt) 31) = 4) with c50 | c50
      · have hm := qt_i hm c50
        refine z_tableIn (tgt := 255) C dL_law_39 (qR_toInt _) (by omega) (by omega) (by rw [c50]; rfl) (by decide) ?_
        refine z_aload_n C dL_law_255 1 rfl ?_
        refine z_aload_n C dL_law_256 0 rfl ?_
        refine z_iload C dL_law_257 4 rfl ?_
        refine z_iconst (x := 1) C dL_law_259 rfl ?_
        refine z_iadd C dL_law_260 ?_
        obtain ⟨h51, hm⟩ := qg_i hm
        refine z_sld C hX hbl hbA hL9 h51 dL_law_261 ?_
        refine z_aload_n C dL_law_262 3 rfl ?_
        obtain ⟨a52, h53, hm⟩ := qb_i hm
        refine iv_L_111 C (met_L_about l g hl hA n9 S ((xs (x4 + 1).toNat).toInt) _ h53) ⟨by decide, by decide⟩ ⟨by show k9 + 0 + 1 ≤ 601024; omega, by show n8 + 0 + 6 ≤ 7293034; omega⟩ (Nat.le_of_ble_eq_true rfl) dL_law_263 ?_
        refine z_kn (k' := k9 + 1) (n' := n8 + 6) rfl rfl ?_
        refine z_istore (L' := [(5, .int (qI a52.1)), (0, .ref b), (1, .ref (qad g 0)), (2, .ref (qad g 110)), (3, .ref (qad g 127)), (4, .int (qI x4))]) C dL_law_266 (by decide) rfl ?_
        refine z_aload_n C dL_law_268 3 rfl ?_
        refine z_aload_n C dL_law_269 1 rfl ?_
        refine z_iload C dL_law_270 5 rfl ?_
        refine z_iconst (x := 1) C dL_law_272 rfl ?_
        refine z_iadd C dL_law_273 ?_
        obtain ⟨h54, hm⟩ := qg_i hm
        refine z_sld C hX hbl hbA hL9 h54 dL_law_274 ?_
        obtain ⟨a55, h56, hm⟩ := qb_i hm
        refine iv_L_113 C (met_X4_about l g hl hA n9 a52.2 ((xs (x4 + 1).toNat).toInt) _ h56) rfl ⟨by decide, by decide⟩ ⟨by show k9 + 1 + 0 ≤ 601024; omega, by show n8 + 6 + 0 ≤ 7293034; omega⟩ (Nat.le_of_ble_eq_true rfl) dL_law_275 ?_
        refine z_istore (L' := [(6, .int (qI a55.1)), (5, .int (qI a52.1)), (0, .ref b), (1, .ref (qad g 0)), (2, .ref (qad g 110)), (3, .ref (qad g 127)), (4, .int (qI x4))]) C dL_law_278 (by decide) rfl ?_
        refine z_aload_n C dL_law_280 4 rfl ?_
        obtain ⟨a57, h58, hm⟩ := qb_i hm
        refine iv_L_96 C (met_X4_thrown l g hl hA n9 a55.2  _ h58) rfl ⟨by decide, by decide⟩ ⟨by show k9 + 1 + 0 ≤ 601024; omega, by show n8 + 6 + 0 ≤ 7293034; omega⟩ (Nat.le_of_ble_eq_true rfl) dL_law_281 ?_
        refine z_iload C dL_law_284 1 rfl ?_
        obtain ⟨h59, hm⟩ := qg_i hm
        obtain ⟨h60, hm⟩ := qg_i hm
        refine z_icmp_eq (tgt := 291) C dL_law_286 (by decide) ⟨h59, h60⟩ (fun c61 => ?_) (fun c61 => ?_)
        · have hm := qt_i hm c61
          refine z_iload C dL_law_291 1 rfl ?_
          obtain ⟨j62, e63, hm⟩ := ql_i hm
          have hj62 : j62 = some () → qZ g p l e room_1 s m #[Value.ref b] below meth c (lw_Z below #[Value.ref b] s) 7 a55.2 [(0, .ref b), (1, .ref (qad g 0)), (2, .ref (qad g 110)), (3, .ref (qad g 127)), (4, .int (qI x4))] 308 [] (k9 + 1) (n8 + 6) := by
            intro  hm
            rw [e63] at hm
            refine z_goto (tgt := 1593) C dL_law_308 (by decide) ?_
            refine z_widen (k' := k9 + 2) (n' := n8 + 12) (by omega) (by omega) ?_
            exact hj6 a55.2 hm
          clear e63
          refine z_if_ne (tgt := 308) C dL_law_293 (by decide) h60 (fun c64 => ?_) (fun c64 => ?_)
          · have hm := qt_i hm c64
            refine z_aload_n C dL_law_296 5 rfl ?_
            refine z_iconst (x := 0) C dL_law_297 rfl ?_
            refine z_lald C rfl (by decide) dL_law_298 ?_
            refine z_iload C dL_law_299 0 rfl ?_
            obtain ⟨h65, hm⟩ := qg_i hm
            refine z_i2l C dL_law_301 h65 ?_
            obtain ⟨h66, hm⟩ := qg_i hm
            refine z_lcmp C dL_law_302 ⟨h66, (qRl_of h65)⟩ ?_
            refine z_if_eq (tgt := 308) C dL_law_303 (by decide) (qcmp_R _ _) (fun c67 => ?_) (fun c67 => ?_)
            · have hm := qt_i hm c67
              refine z_sub (L' := [(0, .ref b), (1, .ref (qad g 0)), (2, .ref (qad g 110)), (3, .ref (qad g 127)), (4, .int (qI x4))]) [2, 3, 4, 5, 6] rfl ?_
              exact hj62  hm
            · have hm := qf_i hm c67
              refine z_iconst (x := 0) C dL_law_306 rfl ?_
              cases hm
          · have hm := qf_i hm c64
            refine z_sub (L' := [(0, .ref b), (1, .ref (qad g 0)), (2, .ref (qad g 110)), (3, .ref (qad g 127)), (4, .int (qI x4))]) [2, 3, 4, 5, 6] rfl ?_
            exact hj62  hm
        · have hm := qf_i hm c61
          refine z_iconst (x := 0) C dL_law_289 rfl ?_
          cases hm
      have hm := qf_i hm c50
      rcases Classical.em ((qiand ((xs x4.toNat).toInt) 31) = 5) with c68 | c68
      · have hm := qt_i hm c68
        refine z_tableIn (tgt := 311) C dL_law_39 (qR_toInt _) (by omega) (by omega) (by rw [c68]; rfl) (by decide) ?_
        refine z_aload_n C dL_law_311 1 rfl ?_
        refine z_aload_n C dL_law_312 0 rfl ?_
        refine z_iload C dL_law_313 4 rfl ?_
        refine z_iconst (x := 1) C dL_law_315 rfl ?_
        refine z_iadd C dL_law_316 ?_
        obtain ⟨h69, hm⟩ := qg_i hm
        refine z_sld C hX hbl hbA hL9 h69 dL_law_317 ?_
        refine z_aload_n C dL_law_318 0 rfl ?_
        refine z_iload C dL_law_319 4 rfl ?_
        refine z_iconst (x := 2) C dL_law_321 rfl ?_
        refine z_iadd C dL_law_322 ?_
        obtain ⟨h70, hm⟩ := qg_i hm
        refine z_sld C hX hbl hbA hL9 h70 dL_law_323 ?_
        refine z_aload_n C dL_law_324 3 rfl ?_
        obtain ⟨a71, h72, hm⟩ := qb_i hm
        refine iv_L_114 C (met_L_axle l g hl hA n9 S ((xs (x4 + 1).toNat).toInt) ((xs (x4 + 2).toNat).toInt) _ h72) ⟨by decide, by decide⟩ ⟨by show k9 + 0 + 2 ≤ 601024; omega, by show n8 + 0 + 12 ≤ 7293034; omega⟩ (Nat.le_of_ble_eq_true rfl) dL_law_325 ?_
        refine z_kn (k' := k9 + 2) (n' := n8 + 12) rfl rfl ?_
        refine z_istore (L' := [(5, .int (qI a71.1)), (0, .ref b), (1, .ref (qad g 0)), (2, .ref (qad g 110)), (3, .ref (qad g 127)), (4, .int (qI x4))]) C dL_law_328 (by decide) rfl ?_
        refine z_aload_n C dL_law_330 3 rfl ?_
        refine z_aload_n C dL_law_331 1 rfl ?_
        refine z_iload C dL_law_332 5 rfl ?_
        refine z_iconst (x := 1) C dL_law_334 rfl ?_
        refine z_iadd C dL_law_335 ?_
        obtain ⟨h73, hm⟩ := qg_i hm
        refine z_sld C hX hbl hbA hL9 h73 dL_law_336 ?_
        refine z_aload_n C dL_law_337 1 rfl ?_
        refine z_iload C dL_law_338 5 rfl ?_
        refine z_iconst (x := 2) C dL_law_340 rfl ?_
        refine z_iadd C dL_law_341 ?_
        obtain ⟨h74, hm⟩ := qg_i hm
        refine z_sld C hX hbl hbA hL9 h74 dL_law_342 ?_
        obtain ⟨a75, h76, hm⟩ := qb_i hm
        refine iv_L_117 C (met_X4_axle l g hl hA n9 a71.2 ((xs (x4 + 1).toNat).toInt) ((xs (x4 + 2).toNat).toInt) _ h76) rfl ⟨by decide, by decide⟩ ⟨by show k9 + 2 + 0 ≤ 601024; omega, by show n8 + 12 + 0 ≤ 7293034; omega⟩ (Nat.le_of_ble_eq_true rfl) dL_law_343 ?_
        refine z_istore (L' := [(6, .int (qI a75.1)), (5, .int (qI a71.1)), (0, .ref b), (1, .ref (qad g 0)), (2, .ref (qad g 110)), (3, .ref (qad g 127)), (4, .int (qI x4))]) C dL_law_346 (by decide) rfl ?_
        refine z_aload_n C dL_law_348 4 rfl ?_
        obtain ⟨a77, h78, hm⟩ := qb_i hm
        refine iv_L_96 C (met_X4_thrown l g hl hA n9 a75.2  _ h78) rfl ⟨by decide, by decide⟩ ⟨by show k9 + 2 + 0 ≤ 601024; omega, by show n8 + 12 + 0 ≤ 7293034; omega⟩ (Nat.le_of_ble_eq_true rfl) dL_law_349 ?_
        refine z_iload C dL_law_352 1 rfl ?_
        obtain ⟨h79, hm⟩ := qg_i hm
        obtain ⟨h80, hm⟩ := qg_i hm
        refine z_icmp_eq (tgt := 359) C dL_law_354 (by decide) ⟨h79, h80⟩ (fun c81 => ?_) (fun c81 => ?_)
        · have hm := qt_i hm c81
          refine z_iload C dL_law_359 1 rfl ?_
          obtain ⟨j82, e83, hm⟩ := ql_i hm
          have hj82 : j82 = some () → qZ g p l e room_1 s m #[Value.ref b] below meth c (lw_Z below #[Value.ref b] s) 7 a75.2 [(0, .ref b), (1, .ref (qad g 0)), (2, .ref (qad g 110)), (3, .ref (qad g 127)), (4, .int (qI x4))] 376 [] (k9 + 2) (n8 + 12) := by
            intro  hm
            rw [e83] at hm
            refine z_goto (tgt := 1593) C dL_law_376 (by decide) ?_
            exact hj6 a75.2 hm
          clear e83
          refine z_if_ne (tgt := 376) C dL_law_361 (by decide) h80 (fun c84 => ?_) (fun c84 => ?_)
          · have hm := qt_i hm c84
            refine z_aload_n C dL_law_364 5 rfl ?_
            refine z_iconst (x := 0) C dL_law_365 rfl ?_
            refine z_lald C rfl (by decide) dL_law_366 ?_
            refine z_iload C dL_law_367 0 rfl ?_
            obtain ⟨h85, hm⟩ := qg_i hm
            refine z_i2l C dL_law_369 h85 ?_
            obtain ⟨h86, hm⟩ := qg_i hm
            refine z_lcmp C dL_law_370 ⟨h86, (qRl_of h85)⟩ ?_
            refine z_if_eq (tgt := 376) C dL_law_371 (by decide) (qcmp_R _ _) (fun c87 => ?_) (fun c87 => ?_)
            · have hm := qt_i hm c87
              refine z_sub (L' := [(0, .ref b), (1, .ref (qad g 0)), (2, .ref (qad g 110)), (3, .ref (qad g 127)), (4, .int (qI x4))]) [2, 3, 4, 5, 6] rfl ?_
              exact hj82  hm
            · have hm := qf_i hm c87
              refine z_iconst (x := 0) C dL_law_374 rfl ?_
              cases hm
          · have hm := qf_i hm c84
            refine z_sub (L' := [(0, .ref b), (1, .ref (qad g 0)), (2, .ref (qad g 110)), (3, .ref (qad g 127)), (4, .int (qI x4))]) [2, 3, 4, 5, 6] rfl ?_
            exact hj82  hm
        · have hm := qf_i hm c81
          refine z_iconst (x := 0) C dL_law_357 rfl ?_
          cases hm
      have hm := qf_i hm c68
      rcases Classical.em ((qiand ((xs x4.toNat).toInt) 31) = 6) with c88 | c88
      · have hm := qt_i hm c88
        refine z_tableIn (tgt := 379) C dL_law_39 (qR_toInt _) (by omega) (by omega) (by rw [c88]; rfl) (by decide) ?_
        refine z_aload_n C dL_law_379 1 rfl ?_
        refine z_aload_n C dL_law_380 0 rfl ?_
        refine z_iload C dL_law_381 4 rfl ?_
        refine z_iconst (x := 1) C dL_law_383 rfl ?_
        refine z_iadd C dL_law_384 ?_
        obtain ⟨h89, hm⟩ := qg_i hm
        refine z_sld C hX hbl hbA hL9 h89 dL_law_385 ?_
        refine z_aload_n C dL_law_386 0 rfl ?_
        refine z_iload C dL_law_387 4 rfl ?_
        refine z_iconst (x := 2) C dL_law_389 rfl ?_
        refine z_iadd C dL_law_390 ?_
        obtain ⟨h90, hm⟩ := qg_i hm
        refine z_sld C hX hbl hbA hL9 h90 dL_law_391 ?_
        refine z_aload_n C dL_law_392 3 rfl ?_
        obtain ⟨a91, h92, hm⟩ := qb_i hm
        refine iv_L_118 C (met_L_car l g hl hA n9 S ((xs (x4 + 1).toNat).toInt) ((xs (x4 + 2).toNat).toInt) _ h92) ⟨by decide, by decide⟩ ⟨by show k9 + 0 + 1 ≤ 601024; omega, by show n8 + 0 + 6 ≤ 7293034; omega⟩ (Nat.le_of_ble_eq_true rfl) dL_law_393 ?_
        refine z_kn (k' := k9 + 1) (n' := n8 + 6) rfl rfl ?_
        refine z_istore (L' := [(5, .int (qI a91.1)), (0, .ref b), (1, .ref (qad g 0)), (2, .ref (qad g 110)), (3, .ref (qad g 127)), (4, .int (qI x4))]) C dL_law_396 (by decide) rfl ?_
        refine z_aload_n C dL_law_398 3 rfl ?_
        refine z_aload_n C dL_law_399 1 rfl ?_
        refine z_iload C dL_law_400 5 rfl ?_
        refine z_iconst (x := 1) C dL_law_402 rfl ?_
        refine z_iadd C dL_law_403 ?_
        obtain ⟨h93, hm⟩ := qg_i hm
        refine z_sld C hX hbl hbA hL9 h93 dL_law_404 ?_
        refine z_aload_n C dL_law_405 1 rfl ?_
        refine z_iload C dL_law_406 5 rfl ?_
        refine z_iconst (x := 2) C dL_law_408 rfl ?_
        refine z_iadd C dL_law_409 ?_
        obtain ⟨h94, hm⟩ := qg_i hm
        refine z_sld C hX hbl hbA hL9 h94 dL_law_410 ?_
        obtain ⟨a95, h96, hm⟩ := qb_i hm
        refine iv_L_120 C (met_X4_car l g hl hA n9 a91.2 ((xs (x4 + 1).toNat).toInt) ((xs (x4 + 2).toNat).toInt) _ h96) rfl ⟨by decide, by decide⟩ ⟨by show k9 + 1 + 0 ≤ 601024; omega, by show n8 + 6 + 0 ≤ 7293034; omega⟩ (Nat.le_of_ble_eq_true rfl) dL_law_411 ?_
        refine z_istore (L' := [(6, .int (qI a95.1)), (5, .int (qI a91.1)), (0, .ref b), (1, .ref (qad g 0)), (2, .ref (qad g 110)), (3, .ref (qad g 127)), (4, .int (qI x4))]) C dL_law_414 (by decide) rfl ?_
        refine z_aload_n C dL_law_416 4 rfl ?_
        obtain ⟨a97, h98, hm⟩ := qb_i hm
        refine iv_L_96 C (met_X4_thrown l g hl hA n9 a95.2  _ h98) rfl ⟨by decide, by decide⟩ ⟨by show k9 + 1 + 0 ≤ 601024; omega, by show n8 + 6 + 0 ≤ 7293034; omega⟩ (Nat.le_of_ble_eq_true rfl) dL_law_417 ?_
        refine z_iload C dL_law_420 1 rfl ?_
        obtain ⟨h99, hm⟩ := qg_i hm
        obtain ⟨h100, hm⟩ := qg_i hm
        refine z_icmp_eq (tgt := 427) C dL_law_422 (by decide) ⟨h99, h100⟩ (fun c101 => ?_) (fun c101 => ?_)
        · have hm := qt_i hm c101
          refine z_iload C dL_law_427 1 rfl ?_
          obtain ⟨j102, e103, hm⟩ := ql_i hm
          have hj102 : j102 = some () → qZ g p l e room_1 s m #[Value.ref b] below meth c (lw_Z below #[Value.ref b] s) 7 a95.2 [(0, .ref b), (1, .ref (qad g 0)), (2, .ref (qad g 110)), (3, .ref (qad g 127)), (4, .int (qI x4))] 444 [] (k9 + 1) (n8 + 6) := by
            intro  hm
            rw [e103] at hm
            refine z_goto (tgt := 1593) C dL_law_444 (by decide) ?_
            refine z_widen (k' := k9 + 2) (n' := n8 + 12) (by omega) (by omega) ?_
            exact hj6 a95.2 hm
          clear e103
          refine z_if_ne (tgt := 444) C dL_law_429 (by decide) h100 (fun c104 => ?_) (fun c104 => ?_)
          · have hm := qt_i hm c104
            refine z_aload_n C dL_law_432 5 rfl ?_
            refine z_iconst (x := 0) C dL_law_433 rfl ?_
            refine z_lald C rfl (by decide) dL_law_434 ?_
            refine z_iload C dL_law_435 0 rfl ?_
            obtain ⟨h105, hm⟩ := qg_i hm
            refine z_i2l C dL_law_437 h105 ?_
            obtain ⟨h106, hm⟩ := qg_i hm
            refine z_lcmp C dL_law_438 ⟨h106, (qRl_of h105)⟩ ?_
            refine z_if_eq (tgt := 444) C dL_law_439 (by decide) (qcmp_R _ _) (fun c107 => ?_) (fun c107 => ?_)
            · have hm := qt_i hm c107
              refine z_sub (L' := [(0, .ref b), (1, .ref (qad g 0)), (2, .ref (qad g 110)), (3, .ref (qad g 127)), (4, .int (qI x4))]) [2, 3, 4, 5, 6] rfl ?_
              exact hj102  hm
            · have hm := qf_i hm c107
              refine z_iconst (x := 0) C dL_law_442 rfl ?_
              cases hm
          · have hm := qf_i hm c104
            refine z_sub (L' := [(0, .ref b), (1, .ref (qad g 0)), (2, .ref (qad g 110)), (3, .ref (qad g 127)), (4, .int (qI x4))]) [2, 3, 4, 5, 6] rfl ?_
            exact hj102  hm
        · have hm := qf_i hm c101
          refine z_iconst (x := 0) C dL_law_425 rfl ?_
          cases hm
      have hm := qf_i hm c88
      rcases Classical.em ((qiand ((xs x4.toNat).toInt) 31) = 7) with c108 | c108
      · have hm := qt_i hm c108
        refine z_tableIn (tgt := 447) C dL_law_39 (qR_toInt _) (by omega) (by omega) (by rw [c108]; rfl) (by decide) ?_
        refine z_aload_n C dL_law_447 1 rfl ?_
        refine z_aload_n C dL_law_448 0 rfl ?_
        refine z_iload C dL_law_449 4 rfl ?_
        refine z_iconst (x := 1) C dL_law_451 rfl ?_
        refine z_iadd C dL_law_452 ?_
        obtain ⟨h109, hm⟩ := qg_i hm
        refine z_sld C hX hbl hbA hL9 h109 dL_law_453 ?_
        refine z_aload_n C dL_law_454 0 rfl ?_
        refine z_iload C dL_law_455 4 rfl ?_
        refine z_iconst (x := 2) C dL_law_457 rfl ?_
        refine z_iadd C dL_law_458 ?_
        obtain ⟨h110, hm⟩ := qg_i hm
        refine z_sld C hX hbl hbA hL9 h110 dL_law_459 ?_
        refine z_aload_n C dL_law_460 3 rfl ?_
        obtain ⟨a111, h112, hm⟩ := qb_i hm
        refine iv_L_121 C (met_L_train l g hl hA n9 S ((xs (x4 + 1).toNat).toInt) ((xs (x4 + 2).toNat).toInt) _ h112) ⟨by decide, by decide⟩ ⟨by show k9 + 0 + 2 ≤ 601024; omega, by show n8 + 0 + 12 ≤ 7293034; omega⟩ (Nat.le_of_ble_eq_true rfl) dL_law_461 ?_
        refine z_kn (k' := k9 + 2) (n' := n8 + 12) rfl rfl ?_
        refine z_istore (L' := [(5, .int (qI a111.1)), (0, .ref b), (1, .ref (qad g 0)), (2, .ref (qad g 110)), (3, .ref (qad g 127)), (4, .int (qI x4))]) C dL_law_464 (by decide) rfl ?_
        refine z_aload_n C dL_law_466 3 rfl ?_
        refine z_aload_n C dL_law_467 1 rfl ?_
        refine z_iload C dL_law_468 5 rfl ?_
        refine z_iconst (x := 1) C dL_law_470 rfl ?_
        refine z_iadd C dL_law_471 ?_
        obtain ⟨h113, hm⟩ := qg_i hm
        refine z_sld C hX hbl hbA hL9 h113 dL_law_472 ?_
        refine z_aload_n C dL_law_473 1 rfl ?_
        refine z_iload C dL_law_474 5 rfl ?_
        refine z_iconst (x := 2) C dL_law_476 rfl ?_
        refine z_iadd C dL_law_477 ?_
        obtain ⟨h114, hm⟩ := qg_i hm
        refine z_sld C hX hbl hbA hL9 h114 dL_law_478 ?_
        obtain ⟨a115, h116, hm⟩ := qb_i hm
        refine iv_L_123 C (met_X4_train l g hl hA n9 a111.2 ((xs (x4 + 1).toNat).toInt) ((xs (x4 + 2).toNat).toInt) _ h116) rfl ⟨by decide, by decide⟩ ⟨by show k9 + 2 + 0 ≤ 601024; omega, by show n8 + 12 + 0 ≤ 7293034; omega⟩ (Nat.le_of_ble_eq_true rfl) dL_law_479 ?_
        refine z_istore (L' := [(6, .int (qI a115.1)), (5, .int (qI a111.1)), (0, .ref b), (1, .ref (qad g 0)), (2, .ref (qad g 110)), (3, .ref (qad g 127)), (4, .int (qI x4))]) C dL_law_482 (by decide) rfl ?_
        refine z_aload_n C dL_law_484 4 rfl ?_
        obtain ⟨a117, h118, hm⟩ := qb_i hm
        refine iv_L_96 C (met_X4_thrown l g hl hA n9 a115.2  _ h118) rfl ⟨by decide, by decide⟩ ⟨by show k9 + 2 + 0 ≤ 601024; omega, by show n8 + 12 + 0 ≤ 7293034; omega⟩ (Nat.le_of_ble_eq_true rfl) dL_law_485 ?_
        refine z_iload C dL_law_488 1 rfl ?_
        obtain ⟨h119, hm⟩ := qg_i hm
        obtain ⟨h120, hm⟩ := qg_i hm
        refine z_icmp_eq (tgt := 495) C dL_law_490 (by decide) ⟨h119, h120⟩ (fun c121 => ?_) (fun c121 => ?_)
        · have hm := qt_i hm c121
          refine z_iload C dL_law_495 1 rfl ?_
          obtain ⟨j122, e123, hm⟩ := ql_i hm
          have hj122 : j122 = some () → qZ g p l e room_1 s m #[Value.ref b] below meth c (lw_Z below #[Value.ref b] s) 7 a115.2 [(0, .ref b), (1, .ref (qad g 0)), (2, .ref (qad g 110)), (3, .ref (qad g 127)), (4, .int (qI x4))] 512 [] (k9 + 2) (n8 + 12) := by
            intro  hm
            rw [e123] at hm
            refine z_goto (tgt := 1593) C dL_law_512 (by decide) ?_
            exact hj6 a115.2 hm
          clear e123
          refine z_if_ne (tgt := 512) C dL_law_497 (by decide) h120 (fun c124 => ?_) (fun c124 => ?_)
          · have hm := qt_i hm c124
            refine z_aload_n C dL_law_500 5 rfl ?_
            refine z_iconst (x := 0) C dL_law_501 rfl ?_
            refine z_lald C rfl (by decide) dL_law_502 ?_
            refine z_iload C dL_law_503 0 rfl ?_
            obtain ⟨h125, hm⟩ := qg_i hm
            refine z_i2l C dL_law_505 h125 ?_
            obtain ⟨h126, hm⟩ := qg_i hm
            refine z_lcmp C dL_law_506 ⟨h126, (qRl_of h125)⟩ ?_
            refine z_if_eq (tgt := 512) C dL_law_507 (by decide) (qcmp_R _ _) (fun c127 => ?_) (fun c127 => ?_)
            · have hm := qt_i hm c127
              refine z_sub (L' := [(0, .ref b), (1, .ref (qad g 0)), (2, .ref (qad g 110)), (3, .ref (qad g 127)), (4, .int (qI x4))]) [2, 3, 4, 5, 6] rfl ?_
              exact hj122  hm
            · have hm := qf_i hm c127
              refine z_iconst (x := 0) C dL_law_510 rfl ?_
              cases hm
          · have hm := qf_i hm c124
            refine z_sub (L' := [(0, .ref b), (1, .ref (qad g 0)), (2, .ref (qad g 110)), (3, .ref (qad g 127)), (4, .int (qI x4))]) [2, 3, 4, 5, 6] rfl ?_
            exact hj122  hm
        · have hm := qf_i hm c121
          refine z_iconst (x := 0) C dL_law_493 rfl ?_
          cases hm
      have hm := qf_i hm c108
      rcases Classical.em ((qiand ((xs x4.toNat).toInt) 31) = 8) with c128 | c128
      · have hm := qt_i hm c128
        refine z_tableIn (tgt := 515) C dL_law_39 (qR_toInt _) (by omega) (by omega) (by rw [c128]; rfl) (by decide) ?_
        refine z_aload_n C dL_law_515 1 rfl ?_
        refine z_aload_n C dL_law_516 0 rfl ?_
        refine z_iload C dL_law_517 4 rfl ?_
        refine z_iconst (x := 1) C dL_law_519 rfl ?_
        refine z_iadd C dL_law_520 ?_
        obtain ⟨h129, hm⟩ := qg_i hm
        refine z_sld C hX hbl hbA hL9 h129 dL_law_521 ?_
        refine z_aload_n C dL_law_522 3 rfl ?_
        obtain ⟨a130, h131, hm⟩ := qb_i hm
        refine iv_L_124 C (met_L_setting l g hl hA n9 S ((xs (x4 + 1).toNat).toInt) _ h131) ⟨by decide, by decide⟩ ⟨by show k9 + 0 + 1 ≤ 601024; omega, by show n8 + 0 + 6 ≤ 7293034; omega⟩ (Nat.le_of_ble_eq_true rfl) dL_law_523 ?_
        refine z_kn (k' := k9 + 1) (n' := n8 + 6) rfl rfl ?_
        refine z_istore (L' := [(5, .int (qI a130.1)), (0, .ref b), (1, .ref (qad g 0)), (2, .ref (qad g 110)), (3, .ref (qad g 127)), (4, .int (qI x4))]) C dL_law_526 (by decide) rfl ?_
        refine z_aload_n C dL_law_528 3 rfl ?_
        refine z_aload_n C dL_law_529 1 rfl ?_
        refine z_iload C dL_law_530 5 rfl ?_
        refine z_iconst (x := 1) C dL_law_532 rfl ?_
        refine z_iadd C dL_law_533 ?_
        obtain ⟨h132, hm⟩ := qg_i hm
        refine z_sld C hX hbl hbA hL9 h132 dL_law_534 ?_
        obtain ⟨a133, h134, hm⟩ := qb_i hm
        refine iv_L_126 C (met_X4_setting l g hl hA n9 a130.2 ((xs (x4 + 1).toNat).toInt) _ h134) rfl ⟨by decide, by decide⟩ ⟨by show k9 + 1 + 0 ≤ 601024; omega, by show n8 + 6 + 0 ≤ 7293034; omega⟩ (Nat.le_of_ble_eq_true rfl) dL_law_535 ?_
        refine z_istore (L' := [(6, .int (qI a133.1)), (5, .int (qI a130.1)), (0, .ref b), (1, .ref (qad g 0)), (2, .ref (qad g 110)), (3, .ref (qad g 127)), (4, .int (qI x4))]) C dL_law_538 (by decide) rfl ?_
        refine z_aload_n C dL_law_540 4 rfl ?_
        obtain ⟨a135, h136, hm⟩ := qb_i hm
        refine iv_L_96 C (met_X4_thrown l g hl hA n9 a133.2  _ h136) rfl ⟨by decide, by decide⟩ ⟨by show k9 + 1 + 0 ≤ 601024; omega, by show n8 + 6 + 0 ≤ 7293034; omega⟩ (Nat.le_of_ble_eq_true rfl) dL_law_541 ?_
        refine z_iload C dL_law_544 1 rfl ?_
        obtain ⟨h137, hm⟩ := qg_i hm
        obtain ⟨h138, hm⟩ := qg_i hm
        refine z_icmp_eq (tgt := 551) C dL_law_546 (by decide) ⟨h137, h138⟩ (fun c139 => ?_) (fun c139 => ?_)
        · have hm := qt_i hm c139
          refine z_iload C dL_law_551 1 rfl ?_
          obtain ⟨j140, e141, hm⟩ := ql_i hm
          have hj140 : j140 = some () → qZ g p l e room_1 s m #[Value.ref b] below meth c (lw_Z below #[Value.ref b] s) 7 a133.2 [(0, .ref b), (1, .ref (qad g 0)), (2, .ref (qad g 110)), (3, .ref (qad g 127)), (4, .int (qI x4))] 568 [] (k9 + 1) (n8 + 6) := by
            intro  hm
            rw [e141] at hm
            refine z_goto (tgt := 1593) C dL_law_568 (by decide) ?_
            refine z_widen (k' := k9 + 2) (n' := n8 + 12) (by omega) (by omega) ?_
            exact hj6 a133.2 hm
          clear e141
          refine z_if_ne (tgt := 568) C dL_law_553 (by decide) h138 (fun c142 => ?_) (fun c142 => ?_)
          · have hm := qt_i hm c142
            refine z_aload_n C dL_law_556 5 rfl ?_
            refine z_iconst (x := 0) C dL_law_557 rfl ?_
            refine z_lald C rfl (by decide) dL_law_558 ?_
            refine z_iload C dL_law_559 0 rfl ?_
            obtain ⟨h143, hm⟩ := qg_i hm
            refine z_i2l C dL_law_561 h143 ?_
            obtain ⟨h144, hm⟩ := qg_i hm
            refine z_lcmp C dL_law_562 ⟨h144, (qRl_of h143)⟩ ?_
            refine z_if_eq (tgt := 568) C dL_law_563 (by decide) (qcmp_R _ _) (fun c145 => ?_) (fun c145 => ?_)
            · have hm := qt_i hm c145
              refine z_sub (L' := [(0, .ref b), (1, .ref (qad g 0)), (2, .ref (qad g 110)), (3, .ref (qad g 127)), (4, .int (qI x4))]) [2, 3, 4, 5, 6] rfl ?_
              exact hj140  hm
            · have hm := qf_i hm c145
              refine z_iconst (x := 0) C dL_law_566 rfl ?_
              cases hm
          · have hm := qf_i hm c142
            refine z_sub (L' := [(0, .ref b), (1, .ref (qad g 0)), (2, .ref (qad g 110)), (3, .ref (qad g 127)), (4, .int (qI x4))]) [2, 3, 4, 5, 6] rfl ?_
            exact hj140  hm
        · have hm := qf_i hm c139
          refine z_iconst (x := 0) C dL_law_549 rfl ?_
          cases hm
      have hm := qf_i hm c128
      rcases Classical.em ((qiand ((xs x4.toNat).toInt) 31) = 9) with c146 | c146
      · have hm := qt_i hm c146
        refine z_tableIn (tgt := 571) C dL_law_39 (qR_toInt _) (by omega) (by omega) (by rw [c146]; rfl) (by decide) ?_
        refine z_aload_n C dL_law_571 1 rfl ?_
        refine z_aload_n C dL_law_572 0 rfl ?_
        refine z_iload C dL_law_573 4 rfl ?_
        refine z_iconst (x := 1) C dL_law_575 rfl ?_
        refine z_iadd C dL_law_576 ?_
        obtain ⟨h147, hm⟩ := qg_i hm
        refine z_sld C hX hbl hbA hL9 h147 dL_law_577 ?_
        refine z_aload_n C dL_law_578 0 rfl ?_
        refine z_iload C dL_law_579 4 rfl ?_
        refine z_iconst (x := 2) C dL_law_581 rfl ?_
        refine z_iadd C dL_law_582 ?_
        obtain ⟨h148, hm⟩ := qg_i hm
        refine z_sld C hX hbl hbA hL9 h148 dL_law_583 ?_
        refine z_aload_n C dL_law_584 3 rfl ?_
        obtain ⟨a149, h150, hm⟩ := qb_i hm
        refine iv_L_127 C (met_L_roll l g hl hA n9 S ((xs (x4 + 1).toNat).toInt) ((xs (x4 + 2).toNat).toInt) _ h150) ⟨by decide, by decide⟩ ⟨by show k9 + 0 + 1 ≤ 601024; omega, by show n8 + 0 + 6 ≤ 7293034; omega⟩ (Nat.le_of_ble_eq_true rfl) dL_law_585 ?_
        refine z_kn (k' := k9 + 1) (n' := n8 + 6) rfl rfl ?_
        refine z_istore (L' := [(5, .int (qI a149.1)), (0, .ref b), (1, .ref (qad g 0)), (2, .ref (qad g 110)), (3, .ref (qad g 127)), (4, .int (qI x4))]) C dL_law_588 (by decide) rfl ?_
        refine z_aload_n C dL_law_590 3 rfl ?_
        refine z_aload_n C dL_law_591 1 rfl ?_
        refine z_iload C dL_law_592 5 rfl ?_
        refine z_iconst (x := 1) C dL_law_594 rfl ?_
        refine z_iadd C dL_law_595 ?_
        obtain ⟨h151, hm⟩ := qg_i hm
        refine z_sld C hX hbl hbA hL9 h151 dL_law_596 ?_
        refine z_aload_n C dL_law_597 1 rfl ?_
        refine z_iload C dL_law_598 5 rfl ?_
        refine z_iconst (x := 2) C dL_law_600 rfl ?_
        refine z_iadd C dL_law_601 ?_
        obtain ⟨h152, hm⟩ := qg_i hm
        refine z_sld C hX hbl hbA hL9 h152 dL_law_602 ?_
        obtain ⟨a153, h154, hm⟩ := qb_i hm
        refine iv_L_129 C (met_X4_roll l g hl hA n9 a149.2 ((xs (x4 + 1).toNat).toInt) ((xs (x4 + 2).toNat).toInt) _ h154) rfl ⟨by decide, by decide⟩ ⟨by show k9 + 1 + 0 ≤ 601024; omega, by show n8 + 6 + 0 ≤ 7293034; omega⟩ (Nat.le_of_ble_eq_true rfl) dL_law_603 ?_
        refine z_istore (L' := [(6, .int (qI a153.1)), (5, .int (qI a149.1)), (0, .ref b), (1, .ref (qad g 0)), (2, .ref (qad g 110)), (3, .ref (qad g 127)), (4, .int (qI x4))]) C dL_law_606 (by decide) rfl ?_
        refine z_aload_n C dL_law_608 4 rfl ?_
        obtain ⟨a155, h156, hm⟩ := qb_i hm
        refine iv_L_96 C (met_X4_thrown l g hl hA n9 a153.2  _ h156) rfl ⟨by decide, by decide⟩ ⟨by show k9 + 1 + 0 ≤ 601024; omega, by show n8 + 6 + 0 ≤ 7293034; omega⟩ (Nat.le_of_ble_eq_true rfl) dL_law_609 ?_
        refine z_iload C dL_law_612 1 rfl ?_
        obtain ⟨h157, hm⟩ := qg_i hm
        obtain ⟨h158, hm⟩ := qg_i hm
        refine z_icmp_eq (tgt := 619) C dL_law_614 (by decide) ⟨h157, h158⟩ (fun c159 => ?_) (fun c159 => ?_)
        · have hm := qt_i hm c159
          refine z_iload C dL_law_619 1 rfl ?_
          obtain ⟨j160, e161, hm⟩ := ql_i hm
          have hj160 : j160 = some () → qZ g p l e room_1 s m #[Value.ref b] below meth c (lw_Z below #[Value.ref b] s) 7 a153.2 [(0, .ref b), (1, .ref (qad g 0)), (2, .ref (qad g 110)), (3, .ref (qad g 127)), (4, .int (qI x4))] 636 [] (k9 + 1) (n8 + 6) := by
            intro  hm
            rw [e161] at hm
            refine z_goto (tgt := 1593) C dL_law_636 (by decide) ?_
            refine z_widen (k' := k9 + 2) (n' := n8 + 12) (by omega) (by omega) ?_
            exact hj6 a153.2 hm
          clear e161
          refine z_if_ne (tgt := 636) C dL_law_621 (by decide) h158 (fun c162 => ?_) (fun c162 => ?_)
          · have hm := qt_i hm c162
            refine z_aload_n C dL_law_624 5 rfl ?_
            refine z_iconst (x := 0) C dL_law_625 rfl ?_
            refine z_lald C rfl (by decide) dL_law_626 ?_
            refine z_iload C dL_law_627 0 rfl ?_
            obtain ⟨h163, hm⟩ := qg_i hm
            refine z_i2l C dL_law_629 h163 ?_
            obtain ⟨h164, hm⟩ := qg_i hm
            refine z_lcmp C dL_law_630 ⟨h164, (qRl_of h163)⟩ ?_
            refine z_if_eq (tgt := 636) C dL_law_631 (by decide) (qcmp_R _ _) (fun c165 => ?_) (fun c165 => ?_)
            · have hm := qt_i hm c165
              refine z_sub (L' := [(0, .ref b), (1, .ref (qad g 0)), (2, .ref (qad g 110)), (3, .ref (qad g 127)), (4, .int (qI x4))]) [2, 3, 4, 5, 6] rfl ?_
              exact hj160  hm
            · have hm := qf_i hm c165
              refine z_iconst (x := 0) C dL_law_634 rfl ?_
              cases hm
          · have hm := qf_i hm c162
            refine z_sub (L' := [(0, .ref b), (1, .ref (qad g 0)), (2, .ref (qad g 110)), (3, .ref (qad g 127)), (4, .int (qI x4))]) [2, 3, 4, 5, 6] rfl ?_
            exact hj160  hm
        · have hm := qf_i hm c159
          refine z_iconst (x := 0) C dL_law_617 rfl ?_
          cases hm
      have hm := qf_i hm c146
      rcases Classical.em ((qiand ((xs x4.toNat).toInt) 31) = 10) with c166 | c166
      · have hm := qt_i hm c166
        refine z_tableIn (tgt := 639) C dL_law_39 (qR_toInt _) (by omega) (by omega) (by rw [c166]; rfl) (by decide) ?_
        refine z_aload_n C dL_law_639 1 rfl ?_
        refine z_aload_n C dL_law_640 3 rfl ?_
        obtain ⟨a167, h168, hm⟩ := qb_i hm
        refine iv_L_130 C (met_L_record l g hl hA n9 S  _ h168) ⟨by decide, by decide⟩ ⟨by show k9 + 0 + 1 ≤ 601024; omega, by show n8 + 0 + 6 ≤ 7293034; omega⟩ (Nat.le_of_ble_eq_true rfl) dL_law_641 ?_
        refine z_kn (k' := k9 + 1) (n' := n8 + 6) rfl rfl ?_
        refine z_istore (L' := [(5, .int (qI a167.1)), (0, .ref b), (1, .ref (qad g 0)), (2, .ref (qad g 110)), (3, .ref (qad g 127)), (4, .int (qI x4))]) C dL_law_644 (by decide) rfl ?_
        refine z_aload_n C dL_law_646 3 rfl ?_
        obtain ⟨a169, h170, hm⟩ := qb_i hm
        refine iv_L_133 C (met_X4_record l g hl hA n9 a167.2  _ h170) rfl ⟨by decide, by decide⟩ ⟨by show k9 + 1 + 0 ≤ 601024; omega, by show n8 + 6 + 0 ≤ 7293034; omega⟩ (Nat.le_of_ble_eq_true rfl) dL_law_647 ?_
        refine z_istore (L' := [(6, .int (qI a169.1)), (5, .int (qI a167.1)), (0, .ref b), (1, .ref (qad g 0)), (2, .ref (qad g 110)), (3, .ref (qad g 127)), (4, .int (qI x4))]) C dL_law_650 (by decide) rfl ?_
        refine z_aload_n C dL_law_652 4 rfl ?_
        obtain ⟨a171, h172, hm⟩ := qb_i hm
        refine iv_L_96 C (met_X4_thrown l g hl hA n9 a169.2  _ h172) rfl ⟨by decide, by decide⟩ ⟨by show k9 + 1 + 0 ≤ 601024; omega, by show n8 + 6 + 0 ≤ 7293034; omega⟩ (Nat.le_of_ble_eq_true rfl) dL_law_653 ?_
        refine z_iload C dL_law_656 1 rfl ?_
        obtain ⟨h173, hm⟩ := qg_i hm
        obtain ⟨h174, hm⟩ := qg_i hm
        refine z_icmp_eq (tgt := 663) C dL_law_658 (by decide) ⟨h173, h174⟩ (fun c175 => ?_) (fun c175 => ?_)
        · have hm := qt_i hm c175
          refine z_iload C dL_law_663 1 rfl ?_
          obtain ⟨j176, e177, hm⟩ := ql_i hm
          have hj176 : j176 = some () → qZ g p l e room_1 s m #[Value.ref b] below meth c (lw_Z below #[Value.ref b] s) 7 a169.2 [(0, .ref b), (1, .ref (qad g 0)), (2, .ref (qad g 110)), (3, .ref (qad g 127)), (4, .int (qI x4))] 680 [] (k9 + 1) (n8 + 6) := by
            intro  hm
            rw [e177] at hm
            refine z_goto (tgt := 1593) C dL_law_680 (by decide) ?_
            refine z_widen (k' := k9 + 2) (n' := n8 + 12) (by omega) (by omega) ?_
            exact hj6 a169.2 hm
          clear e177
          refine z_if_ne (tgt := 680) C dL_law_665 (by decide) h174 (fun c178 => ?_) (fun c178 => ?_)
          · have hm := qt_i hm c178
            refine z_aload_n C dL_law_668 5 rfl ?_
            refine z_iconst (x := 0) C dL_law_669 rfl ?_
            refine z_lald C rfl (by decide) dL_law_670 ?_
            refine z_iload C dL_law_671 0 rfl ?_
            obtain ⟨h179, hm⟩ := qg_i hm
            refine z_i2l C dL_law_673 h179 ?_
            obtain ⟨h180, hm⟩ := qg_i hm
            refine z_lcmp C dL_law_674 ⟨h180, (qRl_of h179)⟩ ?_
            refine z_if_eq (tgt := 680) C dL_law_675 (by decide) (qcmp_R _ _) (fun c181 => ?_) (fun c181 => ?_)
            · have hm := qt_i hm c181
              refine z_sub (L' := [(0, .ref b), (1, .ref (qad g 0)), (2, .ref (qad g 110)), (3, .ref (qad g 127)), (4, .int (qI x4))]) [2, 3, 4, 5, 6] rfl ?_
              exact hj176  hm
            · have hm := qf_i hm c181
              refine z_iconst (x := 0) C dL_law_678 rfl ?_
              cases hm
          · have hm := qf_i hm c178
            refine z_sub (L' := [(0, .ref b), (1, .ref (qad g 0)), (2, .ref (qad g 110)), (3, .ref (qad g 127)), (4, .int (qI x4))]) [2, 3, 4, 5, 6] rfl ?_
            exact hj176  hm
        · have hm := qf_i hm c175
          refine z_iconst (x := 0) C dL_law_661 rfl ?_
          cases hm
      have hm := qf_i hm c166
      rcases Classical.em ((qiand ((xs x4.toNat).toInt) 31) = 11) with c182 | c182
      · have hm := qt_i hm c182
        refine z_tableIn (tgt := 683) C dL_law_39 (qR_toInt _) (by omega) (by omega) (by rw [c182]; rfl) (by decide) ?_
        refine z_aload_n C dL_law_683 1 rfl ?_
        refine z_aload_n C dL_law_684 0 rfl ?_
        refine z_iload C dL_law_685 4 rfl ?_
        refine z_iconst (x := 1) C dL_law_687 rfl ?_
        refine z_iadd C dL_law_688 ?_
        obtain ⟨h183, hm⟩ := qg_i hm
        refine z_sld C hX hbl hbA hL9 h183 dL_law_689 ?_
        refine z_aload_n C dL_law_690 3 rfl ?_
        obtain ⟨a184, h185, hm⟩ := qb_i hm
        refine iv_L_134 C (met_L_strike l g hl hA n9 S ((xs (x4 + 1).toNat).toInt) _ h185) ⟨by decide, by decide⟩ ⟨by show k9 + 0 + 1 ≤ 601024; omega, by show n8 + 0 + 6 ≤ 7293034; omega⟩ (Nat.le_of_ble_eq_true rfl) dL_law_691 ?_
        refine z_kn (k' := k9 + 1) (n' := n8 + 6) rfl rfl ?_
        refine z_istore (L' := [(5, .int (qI a184.1)), (0, .ref b), (1, .ref (qad g 0)), (2, .ref (qad g 110)), (3, .ref (qad g 127)), (4, .int (qI x4))]) C dL_law_694 (by decide) rfl ?_
        refine z_aload_n C dL_law_696 3 rfl ?_
        refine z_aload_n C dL_law_697 1 rfl ?_
        refine z_iload C dL_law_698 5 rfl ?_
        refine z_iconst (x := 1) C dL_law_700 rfl ?_
        refine z_iadd C dL_law_701 ?_
        obtain ⟨h186, hm⟩ := qg_i hm
        refine z_sld C hX hbl hbA hL9 h186 dL_law_702 ?_
        obtain ⟨a187, h188, hm⟩ := qb_i hm
        refine iv_L_136 C (met_X4_strike l g hl hA n9 a184.2 ((xs (x4 + 1).toNat).toInt) _ h188) rfl ⟨by decide, by decide⟩ ⟨by show k9 + 1 + 0 ≤ 601024; omega, by show n8 + 6 + 0 ≤ 7293034; omega⟩ (Nat.le_of_ble_eq_true rfl) dL_law_703 ?_
        refine z_istore (L' := [(6, .int (qI a187.1)), (5, .int (qI a184.1)), (0, .ref b), (1, .ref (qad g 0)), (2, .ref (qad g 110)), (3, .ref (qad g 127)), (4, .int (qI x4))]) C dL_law_706 (by decide) rfl ?_
        refine z_aload_n C dL_law_708 4 rfl ?_
        obtain ⟨a189, h190, hm⟩ := qb_i hm
        refine iv_L_96 C (met_X4_thrown l g hl hA n9 a187.2  _ h190) rfl ⟨by decide, by decide⟩ ⟨by show k9 + 1 + 0 ≤ 601024; omega, by show n8 + 6 + 0 ≤ 7293034; omega⟩ (Nat.le_of_ble_eq_true rfl) dL_law_709 ?_
        refine z_iload C dL_law_712 1 rfl ?_
        obtain ⟨h191, hm⟩ := qg_i hm
        obtain ⟨h192, hm⟩ := qg_i hm
        refine z_icmp_eq (tgt := 719) C dL_law_714 (by decide) ⟨h191, h192⟩ (fun c193 => ?_) (fun c193 => ?_)
        · have hm := qt_i hm c193
          refine z_iload C dL_law_719 1 rfl ?_
          obtain ⟨j194, e195, hm⟩ := ql_i hm
          have hj194 : j194 = some () → qZ g p l e room_1 s m #[Value.ref b] below meth c (lw_Z below #[Value.ref b] s) 7 a187.2 [(0, .ref b), (1, .ref (qad g 0)), (2, .ref (qad g 110)), (3, .ref (qad g 127)), (4, .int (qI x4))] 736 [] (k9 + 1) (n8 + 6) := by
            intro  hm
            rw [e195] at hm
            refine z_goto (tgt := 1593) C dL_law_736 (by decide) ?_
            refine z_widen (k' := k9 + 2) (n' := n8 + 12) (by omega) (by omega) ?_
            exact hj6 a187.2 hm
          clear e195
          refine z_if_ne (tgt := 736) C dL_law_721 (by decide) h192 (fun c196 => ?_) (fun c196 => ?_)
          · have hm := qt_i hm c196
            refine z_aload_n C dL_law_724 5 rfl ?_
            refine z_iconst (x := 0) C dL_law_725 rfl ?_
            refine z_lald C rfl (by decide) dL_law_726 ?_
            refine z_iload C dL_law_727 0 rfl ?_
            obtain ⟨h197, hm⟩ := qg_i hm
            refine z_i2l C dL_law_729 h197 ?_
            obtain ⟨h198, hm⟩ := qg_i hm
            refine z_lcmp C dL_law_730 ⟨h198, (qRl_of h197)⟩ ?_
            refine z_if_eq (tgt := 736) C dL_law_731 (by decide) (qcmp_R _ _) (fun c199 => ?_) (fun c199 => ?_)
            · have hm := qt_i hm c199
              refine z_sub (L' := [(0, .ref b), (1, .ref (qad g 0)), (2, .ref (qad g 110)), (3, .ref (qad g 127)), (4, .int (qI x4))]) [2, 3, 4, 5, 6] rfl ?_
              exact hj194  hm
            · have hm := qf_i hm c199
              refine z_iconst (x := 0) C dL_law_734 rfl ?_
              cases hm
          · have hm := qf_i hm c196
            refine z_sub (L' := [(0, .ref b), (1, .ref (qad g 0)), (2, .ref (qad g 110)), (3, .ref (qad g 127)), (4, .int (qI x4))]) [2, 3, 4, 5, 6] rfl ?_
            exact hj194  hm
        · have hm := qf_i hm c193
          refine z_iconst (x := 0) C dL_law_717 rfl ?_
          cases hm
      have hm := qf_i hm c182
      rcases Classical.em ((qiand ((xs x4.toNat).toInt) 31) = 12) with c200 | c200
      · have hm := qt_i hm c200
        refine z_tableIn (tgt := 739) C dL_law_39 (qR_toInt _) (by omega) (by omega) (by rw [c200]; rfl) (by decide) ?_
        refine z_aload_n C dL_law_739 1 rfl ?_
        refine z_aload_n C dL_law_740 0 rfl ?_
        refine z_iload C dL_law_741 4 rfl ?_
        refine z_iconst (x := 1) C dL_law_743 rfl ?_
        refine z_iadd C dL_law_744 ?_
        obtain ⟨h201, hm⟩ := qg_i hm
        refine z_sld C hX hbl hbA hL9 h201 dL_law_745 ?_
        refine z_aload_n C dL_law_746 0 rfl ?_
        refine z_iload C dL_law_747 4 rfl ?_
        refine z_iconst (x := 2) C dL_law_749 rfl ?_
        refine z_iadd C dL_law_750 ?_
        obtain ⟨h202, hm⟩ := qg_i hm
        refine z_sld C hX hbl hbA hL9 h202 dL_law_751 ?_
        refine z_aload_n C dL_law_752 3 rfl ?_
        obtain ⟨a203, h204, hm⟩ := qb_i hm
        refine iv_L_137 C (met_L_weigh l g hl hA n9 S ((xs (x4 + 1).toNat).toInt) ((xs (x4 + 2).toNat).toInt) _ h204) ⟨by decide, by decide⟩ ⟨by show k9 + 0 + 2 ≤ 601024; omega, by show n8 + 0 + 12 ≤ 7293034; omega⟩ (Nat.le_of_ble_eq_true rfl) dL_law_753 ?_
        refine z_kn (k' := k9 + 2) (n' := n8 + 12) rfl rfl ?_
        refine z_istore (L' := [(5, .int (qI a203.1)), (0, .ref b), (1, .ref (qad g 0)), (2, .ref (qad g 110)), (3, .ref (qad g 127)), (4, .int (qI x4))]) C dL_law_756 (by decide) rfl ?_
        refine z_aload_n C dL_law_758 3 rfl ?_
        refine z_aload_n C dL_law_759 1 rfl ?_
        refine z_iload C dL_law_760 5 rfl ?_
        refine z_iconst (x := 1) C dL_law_762 rfl ?_
        refine z_iadd C dL_law_763 ?_
        obtain ⟨h205, hm⟩ := qg_i hm
        refine z_sld C hX hbl hbA hL9 h205 dL_law_764 ?_
        refine z_aload_n C dL_law_765 1 rfl ?_
        refine z_iload C dL_law_766 5 rfl ?_
        refine z_iconst (x := 2) C dL_law_768 rfl ?_
        refine z_iadd C dL_law_769 ?_
        obtain ⟨h206, hm⟩ := qg_i hm
        refine z_sld C hX hbl hbA hL9 h206 dL_law_770 ?_
        obtain ⟨a207, h208, hm⟩ := qb_i hm
        refine iv_L_139 C (met_X4_weigh l g hl hA n9 a203.2 ((xs (x4 + 1).toNat).toInt) ((xs (x4 + 2).toNat).toInt) _ h208) rfl ⟨by decide, by decide⟩ ⟨by show k9 + 2 + 0 ≤ 601024; omega, by show n8 + 12 + 0 ≤ 7293034; omega⟩ (Nat.le_of_ble_eq_true rfl) dL_law_771 ?_
        refine z_istore (L' := [(6, .int (qI a207.1)), (5, .int (qI a203.1)), (0, .ref b), (1, .ref (qad g 0)), (2, .ref (qad g 110)), (3, .ref (qad g 127)), (4, .int (qI x4))]) C dL_law_774 (by decide) rfl ?_
        refine z_aload_n C dL_law_776 4 rfl ?_
        obtain ⟨a209, h210, hm⟩ := qb_i hm
        refine iv_L_96 C (met_X4_thrown l g hl hA n9 a207.2  _ h210) rfl ⟨by decide, by decide⟩ ⟨by show k9 + 2 + 0 ≤ 601024; omega, by show n8 + 12 + 0 ≤ 7293034; omega⟩ (Nat.le_of_ble_eq_true rfl) dL_law_777 ?_
        refine z_iload C dL_law_780 1 rfl ?_
        obtain ⟨h211, hm⟩ := qg_i hm
        obtain ⟨h212, hm⟩ := qg_i hm
        refine z_icmp_eq (tgt := 787) C dL_law_782 (by decide) ⟨h211, h212⟩ (fun c213 => ?_) (fun c213 => ?_)
        · have hm := qt_i hm c213
          refine z_iload C dL_law_787 1 rfl ?_
          obtain ⟨j214, e215, hm⟩ := ql_i hm
          have hj214 : j214 = some () → qZ g p l e room_1 s m #[Value.ref b] below meth c (lw_Z below #[Value.ref b] s) 7 a207.2 [(0, .ref b), (1, .ref (qad g 0)), (2, .ref (qad g 110)), (3, .ref (qad g 127)), (4, .int (qI x4))] 804 [] (k9 + 2) (n8 + 12) := by
            intro  hm
            rw [e215] at hm
            refine z_goto (tgt := 1593) C dL_law_804 (by decide) ?_
            exact hj6 a207.2 hm
          clear e215
          refine z_if_ne (tgt := 804) C dL_law_789 (by decide) h212 (fun c216 => ?_) (fun c216 => ?_)
          · have hm := qt_i hm c216
            refine z_aload_n C dL_law_792 5 rfl ?_
            refine z_iconst (x := 0) C dL_law_793 rfl ?_
            refine z_lald C rfl (by decide) dL_law_794 ?_
            refine z_iload C dL_law_795 0 rfl ?_
            obtain ⟨h217, hm⟩ := qg_i hm
            refine z_i2l C dL_law_797 h217 ?_
            obtain ⟨h218, hm⟩ := qg_i hm
            refine z_lcmp C dL_law_798 ⟨h218, (qRl_of h217)⟩ ?_
            refine z_if_eq (tgt := 804) C dL_law_799 (by decide) (qcmp_R _ _) (fun c219 => ?_) (fun c219 => ?_)
            · have hm := qt_i hm c219
              refine z_sub (L' := [(0, .ref b), (1, .ref (qad g 0)), (2, .ref (qad g 110)), (3, .ref (qad g 127)), (4, .int (qI x4))]) [2, 3, 4, 5, 6] rfl ?_
              exact hj214  hm
            · have hm := qf_i hm c219
              refine z_iconst (x := 0) C dL_law_802 rfl ?_
              cases hm
          · have hm := qf_i hm c216
            refine z_sub (L' := [(0, .ref b), (1, .ref (qad g 0)), (2, .ref (qad g 110)), (3, .ref (qad g 127)), (4, .int (qI x4))]) [2, 3, 4, 5, 6] rfl ?_
            exact hj214  hm
        · have hm := qf_i hm c213
          refine z_iconst (x := 0) C dL_law_785 rfl ?_
          cases hm
      have hm := qf_i hm c200
      rcases Classical.em ((qiand ((xs x4.toNat).toInt) 31) = 13) with c220 | c220
      · have hm := qt_i hm c220
        refine z_tableIn (tgt := 807) C dL_law_39 (qR_toInt _) (by omega) (by omega) (by rw [c220]; rfl) (by decide) ?_
        refine z_aload_n C dL_law_807 1 rfl ?_
        refine z_aload_n C dL_law_808 0 rfl ?_
        refine z_iload C dL_law_809 4 rfl ?_
        refine z_iconst (x := 1) C dL_law_811 rfl ?_
        refine z_iadd C dL_law_812 ?_
        obtain ⟨h221, hm⟩ := qg_i hm
        refine z_sld C hX hbl hbA hL9 h221 dL_law_813 ?_
        refine z_aload_n C dL_law_814 0 rfl ?_
        refine z_iload C dL_law_815 4 rfl ?_
        refine z_iconst (x := 2) C dL_law_817 rfl ?_
        refine z_iadd C dL_law_818 ?_
        obtain ⟨h222, hm⟩ := qg_i hm
        refine z_sld C hX hbl hbA hL9 h222 dL_law_819 ?_
        refine z_aload_n C dL_law_820 3 rfl ?_
        obtain ⟨a223, h224, hm⟩ := qb_i hm
        refine iv_L_140 C (met_L_bill l g hl hA n9 S ((xs (x4 + 1).toNat).toInt) ((xs (x4 + 2).toNat).toInt) _ h224) ⟨by decide, by decide⟩ ⟨by show k9 + 0 + 1 ≤ 601024; omega, by show n8 + 0 + 6 ≤ 7293034; omega⟩ (Nat.le_of_ble_eq_true rfl) dL_law_821 ?_
        refine z_kn (k' := k9 + 1) (n' := n8 + 6) rfl rfl ?_
        refine z_istore (L' := [(5, .int (qI a223.1)), (0, .ref b), (1, .ref (qad g 0)), (2, .ref (qad g 110)), (3, .ref (qad g 127)), (4, .int (qI x4))]) C dL_law_824 (by decide) rfl ?_
        refine z_aload_n C dL_law_826 3 rfl ?_
        refine z_aload_n C dL_law_827 1 rfl ?_
        refine z_iload C dL_law_828 5 rfl ?_
        refine z_iconst (x := 1) C dL_law_830 rfl ?_
        refine z_iadd C dL_law_831 ?_
        obtain ⟨h225, hm⟩ := qg_i hm
        refine z_sld C hX hbl hbA hL9 h225 dL_law_832 ?_
        refine z_aload_n C dL_law_833 1 rfl ?_
        refine z_iload C dL_law_834 5 rfl ?_
        refine z_iconst (x := 2) C dL_law_836 rfl ?_
        refine z_iadd C dL_law_837 ?_
        obtain ⟨h226, hm⟩ := qg_i hm
        refine z_sld C hX hbl hbA hL9 h226 dL_law_838 ?_
        obtain ⟨a227, h228, hm⟩ := qb_i hm
        refine iv_L_142 C (met_X4_bill l g hl hA n9 a223.2 ((xs (x4 + 1).toNat).toInt) ((xs (x4 + 2).toNat).toInt) _ h228) rfl ⟨by decide, by decide⟩ ⟨by show k9 + 1 + 0 ≤ 601024; omega, by show n8 + 6 + 0 ≤ 7293034; omega⟩ (Nat.le_of_ble_eq_true rfl) dL_law_839 ?_
        refine z_istore (L' := [(6, .int (qI a227.1)), (5, .int (qI a223.1)), (0, .ref b), (1, .ref (qad g 0)), (2, .ref (qad g 110)), (3, .ref (qad g 127)), (4, .int (qI x4))]) C dL_law_842 (by decide) rfl ?_
        refine z_aload_n C dL_law_844 4 rfl ?_
        obtain ⟨a229, h230, hm⟩ := qb_i hm
        refine iv_L_96 C (met_X4_thrown l g hl hA n9 a227.2  _ h230) rfl ⟨by decide, by decide⟩ ⟨by show k9 + 1 + 0 ≤ 601024; omega, by show n8 + 6 + 0 ≤ 7293034; omega⟩ (Nat.le_of_ble_eq_true rfl) dL_law_845 ?_
        refine z_iload C dL_law_848 1 rfl ?_
        obtain ⟨h231, hm⟩ := qg_i hm
        obtain ⟨h232, hm⟩ := qg_i hm
        refine z_icmp_eq (tgt := 855) C dL_law_850 (by decide) ⟨h231, h232⟩ (fun c233 => ?_) (fun c233 => ?_)
        · have hm := qt_i hm c233
          refine z_iload C dL_law_855 1 rfl ?_
          obtain ⟨j234, e235, hm⟩ := ql_i hm
          have hj234 : j234 = some () → qZ g p l e room_1 s m #[Value.ref b] below meth c (lw_Z below #[Value.ref b] s) 7 a227.2 [(0, .ref b), (1, .ref (qad g 0)), (2, .ref (qad g 110)), (3, .ref (qad g 127)), (4, .int (qI x4))] 872 [] (k9 + 1) (n8 + 6) := by
            intro  hm
            rw [e235] at hm
            refine z_goto (tgt := 1593) C dL_law_872 (by decide) ?_
            refine z_widen (k' := k9 + 2) (n' := n8 + 12) (by omega) (by omega) ?_
            exact hj6 a227.2 hm
          clear e235
          refine z_if_ne (tgt := 872) C dL_law_857 (by decide) h232 (fun c236 => ?_) (fun c236 => ?_)
          · have hm := qt_i hm c236
            refine z_aload_n C dL_law_860 5 rfl ?_
            refine z_iconst (x := 0) C dL_law_861 rfl ?_
            refine z_lald C rfl (by decide) dL_law_862 ?_
            refine z_iload C dL_law_863 0 rfl ?_
            obtain ⟨h237, hm⟩ := qg_i hm
            refine z_i2l C dL_law_865 h237 ?_
            obtain ⟨h238, hm⟩ := qg_i hm
            refine z_lcmp C dL_law_866 ⟨h238, (qRl_of h237)⟩ ?_
            refine z_if_eq (tgt := 872) C dL_law_867 (by decide) (qcmp_R _ _) (fun c239 => ?_) (fun c239 => ?_)
            · have hm := qt_i hm c239
              refine z_sub (L' := [(0, .ref b), (1, .ref (qad g 0)), (2, .ref (qad g 110)), (3, .ref (qad g 127)), (4, .int (qI x4))]) [2, 3, 4, 5, 6] rfl ?_
              exact hj234  hm
            · have hm := qf_i hm c239
              refine z_iconst (x := 0) C dL_law_870 rfl ?_
              cases hm
          · have hm := qf_i hm c236
            refine z_sub (L' := [(0, .ref b), (1, .ref (qad g 0)), (2, .ref (qad g 110)), (3, .ref (qad g 127)), (4, .int (qI x4))]) [2, 3, 4, 5, 6] rfl ?_
            exact hj234  hm
        · have hm := qf_i hm c233
          refine z_iconst (x := 0) C dL_law_853 rfl ?_
          cases hm
      have hm := qf_i hm c220
      rcases Classical.em ((qiand ((xs x4.toNat).toInt) 31) = 14) with c240 | c240
      · have hm := qt_i hm c240
        refine z_tableIn (tgt := 875) C dL_law_39 (qR_toInt _) (by omega) (by omega) (by rw [c240]; rfl) (by decide) ?_
        refine z_aload_n C dL_law_875 1 rfl ?_
        refine z_aload_n C dL_law_876 0 rfl ?_
        refine z_iload C dL_law_877 4 rfl ?_
        refine z_iconst (x := 1) C dL_law_879 rfl ?_
        refine z_iadd C dL_law_880 ?_
        obtain ⟨h241, hm⟩ := qg_i hm
        refine z_sld C hX hbl hbA hL9 h241 dL_law_881 ?_
        refine z_aload_n C dL_law_882 0 rfl ?_
        refine z_iload C dL_law_883 4 rfl ?_
        refine z_iconst (x := 2) C dL_law_885 rfl ?_
        refine z_iadd C dL_law_886 ?_
        obtain ⟨h242, hm⟩ := qg_i hm
        refine z_sld C hX hbl hbA hL9 h242 dL_law_887 ?_
        refine z_aload_n C dL_law_888 3 rfl ?_
        obtain ⟨a243, h244, hm⟩ := qb_i hm
        refine iv_L_143 C (met_L_set l g hl hA n9 S ((xs (x4 + 1).toNat).toInt) ((xs (x4 + 2).toNat).toInt) _ h244) ⟨by decide, by decide⟩ ⟨by show k9 + 0 + 1 ≤ 601024; omega, by show n8 + 0 + 6 ≤ 7293034; omega⟩ (Nat.le_of_ble_eq_true rfl) dL_law_889 ?_
        refine z_kn (k' := k9 + 1) (n' := n8 + 6) rfl rfl ?_
        refine z_istore (L' := [(5, .int (qI a243.1)), (0, .ref b), (1, .ref (qad g 0)), (2, .ref (qad g 110)), (3, .ref (qad g 127)), (4, .int (qI x4))]) C dL_law_892 (by decide) rfl ?_
        refine z_aload_n C dL_law_894 3 rfl ?_
        refine z_aload_n C dL_law_895 1 rfl ?_
        refine z_iload C dL_law_896 5 rfl ?_
        refine z_iconst (x := 1) C dL_law_898 rfl ?_
        refine z_iadd C dL_law_899 ?_
        obtain ⟨h245, hm⟩ := qg_i hm
        refine z_sld C hX hbl hbA hL9 h245 dL_law_900 ?_
        refine z_aload_n C dL_law_901 1 rfl ?_
        refine z_iload C dL_law_902 5 rfl ?_
        refine z_iconst (x := 2) C dL_law_904 rfl ?_
        refine z_iadd C dL_law_905 ?_
        obtain ⟨h246, hm⟩ := qg_i hm
        refine z_sld C hX hbl hbA hL9 h246 dL_law_906 ?_
        obtain ⟨a247, h248, hm⟩ := qb_i hm
        refine iv_L_145 C (met_X4_set l g hl hA n9 a243.2 ((xs (x4 + 1).toNat).toInt) ((xs (x4 + 2).toNat).toInt) _ h248) rfl ⟨by decide, by decide⟩ ⟨by show k9 + 1 + 0 ≤ 601024; omega, by show n8 + 6 + 0 ≤ 7293034; omega⟩ (Nat.le_of_ble_eq_true rfl) dL_law_907 ?_
        refine z_istore (L' := [(6, .int (qI a247.1)), (5, .int (qI a243.1)), (0, .ref b), (1, .ref (qad g 0)), (2, .ref (qad g 110)), (3, .ref (qad g 127)), (4, .int (qI x4))]) C dL_law_910 (by decide) rfl ?_
        refine z_aload_n C dL_law_912 4 rfl ?_
        obtain ⟨a249, h250, hm⟩ := qb_i hm
        refine iv_L_96 C (met_X4_thrown l g hl hA n9 a247.2  _ h250) rfl ⟨by decide, by decide⟩ ⟨by show k9 + 1 + 0 ≤ 601024; omega, by show n8 + 6 + 0 ≤ 7293034; omega⟩ (Nat.le_of_ble_eq_true rfl) dL_law_913 ?_
        refine z_iload C dL_law_916 1 rfl ?_
        obtain ⟨h251, hm⟩ := qg_i hm
        obtain ⟨h252, hm⟩ := qg_i hm
        refine z_icmp_eq (tgt := 923) C dL_law_918 (by decide) ⟨h251, h252⟩ (fun c253 => ?_) (fun c253 => ?_)
        · have hm := qt_i hm c253
          refine z_iload C dL_law_923 1 rfl ?_
          obtain ⟨j254, e255, hm⟩ := ql_i hm
          have hj254 : j254 = some () → qZ g p l e room_1 s m #[Value.ref b] below meth c (lw_Z below #[Value.ref b] s) 7 a247.2 [(0, .ref b), (1, .ref (qad g 0)), (2, .ref (qad g 110)), (3, .ref (qad g 127)), (4, .int (qI x4))] 940 [] (k9 + 1) (n8 + 6) := by
            intro  hm
            rw [e255] at hm
            refine z_goto (tgt := 1593) C dL_law_940 (by decide) ?_
            refine z_widen (k' := k9 + 2) (n' := n8 + 12) (by omega) (by omega) ?_
            exact hj6 a247.2 hm
          clear e255
          refine z_if_ne (tgt := 940) C dL_law_925 (by decide) h252 (fun c256 => ?_) (fun c256 => ?_)
          · have hm := qt_i hm c256
            refine z_aload_n C dL_law_928 5 rfl ?_
            refine z_iconst (x := 0) C dL_law_929 rfl ?_
            refine z_lald C rfl (by decide) dL_law_930 ?_
            refine z_iload C dL_law_931 0 rfl ?_
            obtain ⟨h257, hm⟩ := qg_i hm
            refine z_i2l C dL_law_933 h257 ?_
            obtain ⟨h258, hm⟩ := qg_i hm
            refine z_lcmp C dL_law_934 ⟨h258, (qRl_of h257)⟩ ?_
            refine z_if_eq (tgt := 940) C dL_law_935 (by decide) (qcmp_R _ _) (fun c259 => ?_) (fun c259 => ?_)
            · have hm := qt_i hm c259
              refine z_sub (L' := [(0, .ref b), (1, .ref (qad g 0)), (2, .ref (qad g 110)), (3, .ref (qad g 127)), (4, .int (qI x4))]) [2, 3, 4, 5, 6] rfl ?_
              exact hj254  hm
            · have hm := qf_i hm c259
              refine z_iconst (x := 0) C dL_law_938 rfl ?_
              cases hm
          · have hm := qf_i hm c256
            refine z_sub (L' := [(0, .ref b), (1, .ref (qad g 0)), (2, .ref (qad g 110)), (3, .ref (qad g 127)), (4, .int (qI x4))]) [2, 3, 4, 5, 6] rfl ?_
            exact hj254  hm
        · have hm := qf_i hm c253
          refine z_iconst (x := 0) C dL_law_921 rfl ?_
          cases hm
      have hm := qf_i hm c240
      rcases Classical.em ((qiand ((xs x4.toNat).toInt) 31) = 15) with c260 | c260
      · have hm := qt_i hm c260
        refine z_tableIn (tgt := 943) C dL_law_39 (qR_toInt _) (by omega) (by omega) (by rw [c260]; rfl) (by decide) ?_
        refine z_aload_n C dL_law_943 1 rfl ?_
        refine z_aload_n C dL_law_944 3 rfl ?_
        obtain ⟨a261, h262, hm⟩ := qb_i hm
        refine iv_L_146 C (met_L_leave l g hl hA n9 S  _ h262) ⟨by decide, by decide⟩ ⟨by show k9 + 0 + 1 ≤ 601024; omega, by show n8 + 0 + 6 ≤ 7293034; omega⟩ (Nat.le_of_ble_eq_true rfl) dL_law_945 ?_
        refine z_kn (k' := k9 + 1) (n' := n8 + 6) rfl rfl ?_
        refine z_istore (L' := [(5, .int (qI a261.1)), (0, .ref b), (1, .ref (qad g 0)), (2, .ref (qad g 110)), (3, .ref (qad g 127)), (4, .int (qI x4))]) C dL_law_948 (by decide) rfl ?_
        refine z_aload_n C dL_law_950 3 rfl ?_
        obtain ⟨a263, h264, hm⟩ := qb_i hm
        refine iv_L_148 C (met_X4_leave l g hl hA n9 a261.2  _ h264) rfl ⟨by decide, by decide⟩ ⟨by show k9 + 1 + 0 ≤ 601024; omega, by show n8 + 6 + 0 ≤ 7293034; omega⟩ (Nat.le_of_ble_eq_true rfl) dL_law_951 ?_
        refine z_istore (L' := [(6, .int (qI a263.1)), (5, .int (qI a261.1)), (0, .ref b), (1, .ref (qad g 0)), (2, .ref (qad g 110)), (3, .ref (qad g 127)), (4, .int (qI x4))]) C dL_law_954 (by decide) rfl ?_
        refine z_aload_n C dL_law_956 4 rfl ?_
        obtain ⟨a265, h266, hm⟩ := qb_i hm
        refine iv_L_96 C (met_X4_thrown l g hl hA n9 a263.2  _ h266) rfl ⟨by decide, by decide⟩ ⟨by show k9 + 1 + 0 ≤ 601024; omega, by show n8 + 6 + 0 ≤ 7293034; omega⟩ (Nat.le_of_ble_eq_true rfl) dL_law_957 ?_
        refine z_iload C dL_law_960 1 rfl ?_
        obtain ⟨h267, hm⟩ := qg_i hm
        obtain ⟨h268, hm⟩ := qg_i hm
        refine z_icmp_eq (tgt := 967) C dL_law_962 (by decide) ⟨h267, h268⟩ (fun c269 => ?_) (fun c269 => ?_)
        · have hm := qt_i hm c269
          refine z_iload C dL_law_967 1 rfl ?_
          obtain ⟨j270, e271, hm⟩ := ql_i hm
          have hj270 : j270 = some () → qZ g p l e room_1 s m #[Value.ref b] below meth c (lw_Z below #[Value.ref b] s) 7 a263.2 [(0, .ref b), (1, .ref (qad g 0)), (2, .ref (qad g 110)), (3, .ref (qad g 127)), (4, .int (qI x4))] 984 [] (k9 + 1) (n8 + 6) := by
            intro  hm
            rw [e271] at hm
            refine z_goto (tgt := 1593) C dL_law_984 (by decide) ?_
            refine z_widen (k' := k9 + 2) (n' := n8 + 12) (by omega) (by omega) ?_
            exact hj6 a263.2 hm
          clear e271
          refine z_if_ne (tgt := 984) C dL_law_969 (by decide) h268 (fun c272 => ?_) (fun c272 => ?_)
          · have hm := qt_i hm c272
            refine z_aload_n C dL_law_972 5 rfl ?_
            refine z_iconst (x := 0) C dL_law_973 rfl ?_
            refine z_lald C rfl (by decide) dL_law_974 ?_
            refine z_iload C dL_law_975 0 rfl ?_
            obtain ⟨h273, hm⟩ := qg_i hm
            refine z_i2l C dL_law_977 h273 ?_
            obtain ⟨h274, hm⟩ := qg_i hm
            refine z_lcmp C dL_law_978 ⟨h274, (qRl_of h273)⟩ ?_
            refine z_if_eq (tgt := 984) C dL_law_979 (by decide) (qcmp_R _ _) (fun c275 => ?_) (fun c275 => ?_)
            · have hm := qt_i hm c275
              refine z_sub (L' := [(0, .ref b), (1, .ref (qad g 0)), (2, .ref (qad g 110)), (3, .ref (qad g 127)), (4, .int (qI x4))]) [2, 3, 4, 5, 6] rfl ?_
              exact hj270  hm
            · have hm := qf_i hm c275
              refine z_iconst (x := 0) C dL_law_982 rfl ?_
              cases hm
          · have hm := qf_i hm c272
            refine z_sub (L' := [(0, .ref b), (1, .ref (qad g 0)), (2, .ref (qad g 110)), (3, .ref (qad g 127)), (4, .int (qI x4))]) [2, 3, 4, 5, 6] rfl ?_
            exact hj270  hm
        · have hm := qf_i hm c269
          refine z_iconst (x := 0) C dL_law_965 rfl ?_
          cases hm
      have hm := qf_i hm c260
      rcases Classical.em ((qiand ((xs x4.toNat).toInt) 31) = 16) with c276 | c276
      · have hm := qt_i hm c276
        refine z_tableIn (tgt := 987) C dL_law_39 (qR_toInt _) (by omega) (by omega) (by rw [c276]; rfl) (by decide) ?_
        refine z_aload_n C dL_law_987 1 rfl ?_
        refine z_aload_n C dL_law_988 3 rfl ?_
        obtain ⟨a277, h278, hm⟩ := qb_i hm
        refine iv_L_149 C (met_L_undo l g hl hA n9 S  _ h278) ⟨by decide, by decide⟩ ⟨by show k9 + 0 + 1 ≤ 601024; omega, by show n8 + 0 + 6 ≤ 7293034; omega⟩ (Nat.le_of_ble_eq_true rfl) dL_law_989 ?_
        refine z_kn (k' := k9 + 1) (n' := n8 + 6) rfl rfl ?_
        refine z_istore (L' := [(5, .int (qI a277.1)), (0, .ref b), (1, .ref (qad g 0)), (2, .ref (qad g 110)), (3, .ref (qad g 127)), (4, .int (qI x4))]) C dL_law_992 (by decide) rfl ?_
        refine z_aload_n C dL_law_994 3 rfl ?_
        obtain ⟨a279, h280, hm⟩ := qb_i hm
        refine iv_L_151 C (met_X4_undo l g hl hA n9 a277.2  _ h280) rfl ⟨by decide, by decide⟩ ⟨by show k9 + 1 + 0 ≤ 601024; omega, by show n8 + 6 + 0 ≤ 7293034; omega⟩ (Nat.le_of_ble_eq_true rfl) dL_law_995 ?_
        refine z_istore (L' := [(6, .int (qI a279.1)), (5, .int (qI a277.1)), (0, .ref b), (1, .ref (qad g 0)), (2, .ref (qad g 110)), (3, .ref (qad g 127)), (4, .int (qI x4))]) C dL_law_998 (by decide) rfl ?_
        refine z_aload_n C dL_law_1000 4 rfl ?_
        obtain ⟨a281, h282, hm⟩ := qb_i hm
        refine iv_L_96 C (met_X4_thrown l g hl hA n9 a279.2  _ h282) rfl ⟨by decide, by decide⟩ ⟨by show k9 + 1 + 0 ≤ 601024; omega, by show n8 + 6 + 0 ≤ 7293034; omega⟩ (Nat.le_of_ble_eq_true rfl) dL_law_1001 ?_
        refine z_iload C dL_law_1004 1 rfl ?_
        obtain ⟨h283, hm⟩ := qg_i hm
        obtain ⟨h284, hm⟩ := qg_i hm
        refine z_icmp_eq (tgt := 1011) C dL_law_1006 (by decide) ⟨h283, h284⟩ (fun c285 => ?_) (fun c285 => ?_)
        · have hm := qt_i hm c285
          refine z_iload C dL_law_1011 1 rfl ?_
          obtain ⟨j286, e287, hm⟩ := ql_i hm
          have hj286 : j286 = some () → qZ g p l e room_1 s m #[Value.ref b] below meth c (lw_Z below #[Value.ref b] s) 7 a279.2 [(0, .ref b), (1, .ref (qad g 0)), (2, .ref (qad g 110)), (3, .ref (qad g 127)), (4, .int (qI x4))] 1028 [] (k9 + 1) (n8 + 6) := by
            intro  hm
            rw [e287] at hm
            refine z_goto (tgt := 1593) C dL_law_1028 (by decide) ?_
            refine z_widen (k' := k9 + 2) (n' := n8 + 12) (by omega) (by omega) ?_
            exact hj6 a279.2 hm
          clear e287
          refine z_if_ne (tgt := 1028) C dL_law_1013 (by decide) h284 (fun c288 => ?_) (fun c288 => ?_)
          · have hm := qt_i hm c288
            refine z_aload_n C dL_law_1016 5 rfl ?_
            refine z_iconst (x := 0) C dL_law_1017 rfl ?_
            refine z_lald C rfl (by decide) dL_law_1018 ?_
            refine z_iload C dL_law_1019 0 rfl ?_
            obtain ⟨h289, hm⟩ := qg_i hm
            refine z_i2l C dL_law_1021 h289 ?_
            obtain ⟨h290, hm⟩ := qg_i hm
            refine z_lcmp C dL_law_1022 ⟨h290, (qRl_of h289)⟩ ?_
            refine z_if_eq (tgt := 1028) C dL_law_1023 (by decide) (qcmp_R _ _) (fun c291 => ?_) (fun c291 => ?_)
            · have hm := qt_i hm c291
              refine z_sub (L' := [(0, .ref b), (1, .ref (qad g 0)), (2, .ref (qad g 110)), (3, .ref (qad g 127)), (4, .int (qI x4))]) [2, 3, 4, 5, 6] rfl ?_
              exact hj286  hm
            · have hm := qf_i hm c291
              refine z_iconst (x := 0) C dL_law_1026 rfl ?_
              cases hm
          · have hm := qf_i hm c288
            refine z_sub (L' := [(0, .ref b), (1, .ref (qad g 0)), (2, .ref (qad g 110)), (3, .ref (qad g 127)), (4, .int (qI x4))]) [2, 3, 4, 5, 6] rfl ?_
            exact hj286  hm
        · have hm := qf_i hm c285
          refine z_iconst (x := 0) C dL_law_1009 rfl ?_
          cases hm
      have hm := qf_i hm c276
      rcases Classical.em ((qiand ((xs x4.toNat).toInt) 31) = 17) with c292 | c292
      · have hm := qt_i hm c292
        refine z_tableIn (tgt := 1031) C dL_law_39 (qR_toInt _) (by omega) (by omega) (by rw [c292]; rfl) (by decide) ?_
        refine z_aload_n C dL_law_1031 1 rfl ?_
        refine z_aload_n C dL_law_1032 0 rfl ?_
        refine z_iload C dL_law_1033 4 rfl ?_
        refine z_iconst (x := 1) C dL_law_1035 rfl ?_
        refine z_iadd C dL_law_1036 ?_
        obtain ⟨h293, hm⟩ := qg_i hm
        refine z_sld C hX hbl hbA hL9 h293 dL_law_1037 ?_
        refine z_aload_n C dL_law_1038 3 rfl ?_
        obtain ⟨a294, h295, hm⟩ := qb_i hm
        refine iv_L_152 C (met_L_without l g hl hA n9 S ((xs (x4 + 1).toNat).toInt) _ h295) ⟨by decide, by decide⟩ ⟨by show k9 + 0 + 1 ≤ 601024; omega, by show n8 + 0 + 6 ≤ 7293034; omega⟩ (Nat.le_of_ble_eq_true rfl) dL_law_1039 ?_
        refine z_kn (k' := k9 + 1) (n' := n8 + 6) rfl rfl ?_
        refine z_istore (L' := [(5, .int (qI a294.1)), (0, .ref b), (1, .ref (qad g 0)), (2, .ref (qad g 110)), (3, .ref (qad g 127)), (4, .int (qI x4))]) C dL_law_1042 (by decide) rfl ?_
        refine z_aload_n C dL_law_1044 3 rfl ?_
        refine z_aload_n C dL_law_1045 1 rfl ?_
        refine z_iload C dL_law_1046 5 rfl ?_
        refine z_iconst (x := 1) C dL_law_1048 rfl ?_
        refine z_iadd C dL_law_1049 ?_
        obtain ⟨h296, hm⟩ := qg_i hm
        refine z_sld C hX hbl hbA hL9 h296 dL_law_1050 ?_
        obtain ⟨a297, h298, hm⟩ := qb_i hm
        refine iv_L_154 C (met_X4_without l g hl hA n9 a294.2 ((xs (x4 + 1).toNat).toInt) _ h298) rfl ⟨by decide, by decide⟩ ⟨by show k9 + 1 + 0 ≤ 601024; omega, by show n8 + 6 + 0 ≤ 7293034; omega⟩ (Nat.le_of_ble_eq_true rfl) dL_law_1051 ?_
        refine z_istore (L' := [(6, .int (qI a297.1)), (5, .int (qI a294.1)), (0, .ref b), (1, .ref (qad g 0)), (2, .ref (qad g 110)), (3, .ref (qad g 127)), (4, .int (qI x4))]) C dL_law_1054 (by decide) rfl ?_
        refine z_aload_n C dL_law_1056 4 rfl ?_
        obtain ⟨a299, h300, hm⟩ := qb_i hm
        refine iv_L_96 C (met_X4_thrown l g hl hA n9 a297.2  _ h300) rfl ⟨by decide, by decide⟩ ⟨by show k9 + 1 + 0 ≤ 601024; omega, by show n8 + 6 + 0 ≤ 7293034; omega⟩ (Nat.le_of_ble_eq_true rfl) dL_law_1057 ?_
        refine z_iload C dL_law_1060 1 rfl ?_
        obtain ⟨h301, hm⟩ := qg_i hm
        obtain ⟨h302, hm⟩ := qg_i hm
        refine z_icmp_eq (tgt := 1067) C dL_law_1062 (by decide) ⟨h301, h302⟩ (fun c303 => ?_) (fun c303 => ?_)
        · have hm := qt_i hm c303
          refine z_iload C dL_law_1067 1 rfl ?_
          obtain ⟨j304, e305, hm⟩ := ql_i hm
          have hj304 : j304 = some () → qZ g p l e room_1 s m #[Value.ref b] below meth c (lw_Z below #[Value.ref b] s) 7 a297.2 [(0, .ref b), (1, .ref (qad g 0)), (2, .ref (qad g 110)), (3, .ref (qad g 127)), (4, .int (qI x4))] 1084 [] (k9 + 1) (n8 + 6) := by
            intro  hm
            rw [e305] at hm
            refine z_goto (tgt := 1593) C dL_law_1084 (by decide) ?_
            refine z_widen (k' := k9 + 2) (n' := n8 + 12) (by omega) (by omega) ?_
            exact hj6 a297.2 hm
          clear e305
          refine z_if_ne (tgt := 1084) C dL_law_1069 (by decide) h302 (fun c306 => ?_) (fun c306 => ?_)
          · have hm := qt_i hm c306
            refine z_aload_n C dL_law_1072 5 rfl ?_
            refine z_iconst (x := 0) C dL_law_1073 rfl ?_
            refine z_lald C rfl (by decide) dL_law_1074 ?_
            refine z_iload C dL_law_1075 0 rfl ?_
            obtain ⟨h307, hm⟩ := qg_i hm
            refine z_i2l C dL_law_1077 h307 ?_
            obtain ⟨h308, hm⟩ := qg_i hm
            refine z_lcmp C dL_law_1078 ⟨h308, (qRl_of h307)⟩ ?_
            refine z_if_eq (tgt := 1084) C dL_law_1079 (by decide) (qcmp_R _ _) (fun c309 => ?_) (fun c309 => ?_)
            · have hm := qt_i hm c309
              refine z_sub (L' := [(0, .ref b), (1, .ref (qad g 0)), (2, .ref (qad g 110)), (3, .ref (qad g 127)), (4, .int (qI x4))]) [2, 3, 4, 5, 6] rfl ?_
              exact hj304  hm
            · have hm := qf_i hm c309
              refine z_iconst (x := 0) C dL_law_1082 rfl ?_
              cases hm
          · have hm := qf_i hm c306
            refine z_sub (L' := [(0, .ref b), (1, .ref (qad g 0)), (2, .ref (qad g 110)), (3, .ref (qad g 127)), (4, .int (qI x4))]) [2, 3, 4, 5, 6] rfl ?_
            exact hj304  hm
        · have hm := qf_i hm c303
          refine z_iconst (x := 0) C dL_law_1065 rfl ?_
          cases hm
      have hm := qf_i hm c292
      rcases Classical.em ((qiand ((xs x4.toNat).toInt) 31) = 18) with c310 | c310
      · have hm := qt_i hm c310
        refine z_tableIn (tgt := 1087) C dL_law_39 (qR_toInt _) (by omega) (by omega) (by rw [c310]; rfl) (by decide) ?_
        refine z_aload_n C dL_law_1087 1 rfl ?_
        obtain ⟨a311, h312, hm⟩ := qb_i hm
        refine iv_L_155 C (met_X3_suspect l g hl hA n9 S  _ h312) rfl ⟨by decide, by decide⟩ ⟨by show k9 + 0 + 0 ≤ 601024; omega, by show n8 + 0 + 0 ≤ 7293034; omega⟩ (Nat.le_of_ble_eq_true rfl) dL_law_1088 ?_
        refine z_aload_n C dL_law_1091 2 rfl ?_
        obtain ⟨a313, h314, hm⟩ := qb_i hm
        refine iv_L_158 C (met_X4_suspect l g hl hA n9 a311.2  _ h314) rfl ⟨by decide, by decide⟩ ⟨by show k9 + 0 + 0 ≤ 601024; omega, by show n8 + 0 + 0 ≤ 7293034; omega⟩ (Nat.le_of_ble_eq_true rfl) dL_law_1092 ?_
        obtain ⟨h315, hm⟩ := qg_i hm
        obtain ⟨h316, hm⟩ := qg_i hm
        refine z_icmp_eq (tgt := 1593) C dL_law_1095 (by decide) ⟨h315, h316⟩ (fun c317 => ?_) (fun c317 => ?_)
        · have hm := qt_i hm c317
          refine z_widen (k' := k9 + 2) (n' := n8 + 12) (by omega) (by omega) ?_
          exact hj6 a313.2 hm
        · have hm := qf_i hm c317
          refine z_iconst (x := 0) C dL_law_1098 rfl ?_
          cases hm
      have hm := qf_i hm c310
      rcases Classical.em ((qiand ((xs x4.toNat).toInt) 31) = 19) with c318 | c318
      · have hm := qt_i hm c318
        refine z_tableIn (tgt := 1100) C dL_law_39 (qR_toInt _) (by omega) (by omega) (by rw [c318]; rfl) (by decide) ?_
        refine z_aload_n C dL_law_1100 1 rfl ?_
        obtain ⟨a319, h320, hm⟩ := qb_i hm
        refine iv_L_159 C (met_X3_bestBase l g hl hA n9 S  _ h320) rfl ⟨by decide, by decide⟩ ⟨by show k9 + 0 + 0 ≤ 601024; omega, by show n8 + 0 + 0 ≤ 7293034; omega⟩ (Nat.le_of_ble_eq_true rfl) dL_law_1101 ?_
        refine z_aload_n C dL_law_1104 2 rfl ?_
        obtain ⟨a321, h322, hm⟩ := qb_i hm
        refine iv_L_162 C (met_X4_bestBase l g hl hA n9 a319.2  _ h322) rfl ⟨by decide, by decide⟩ ⟨by show k9 + 0 + 0 ≤ 601024; omega, by show n8 + 0 + 0 ≤ 7293034; omega⟩ (Nat.le_of_ble_eq_true rfl) dL_law_1105 ?_
        obtain ⟨h323, hm⟩ := qg_i hm
        obtain ⟨h324, hm⟩ := qg_i hm
        refine z_icmp_eq (tgt := 1593) C dL_law_1108 (by decide) ⟨h323, h324⟩ (fun c325 => ?_) (fun c325 => ?_)
        · have hm := qt_i hm c325
          refine z_widen (k' := k9 + 2) (n' := n8 + 12) (by omega) (by omega) ?_
          exact hj6 a321.2 hm
        · have hm := qf_i hm c325
          refine z_iconst (x := 0) C dL_law_1111 rfl ?_
          cases hm
      have hm := qf_i hm c318
      rcases Classical.em ((qiand ((xs x4.toNat).toInt) 31) = 20) with c326 | c326
      · have hm := qt_i hm c326
        refine z_tableIn (tgt := 1113) C dL_law_39 (qR_toInt _) (by omega) (by omega) (by rw [c326]; rfl) (by decide) ?_
        refine z_aload_n C dL_law_1113 1 rfl ?_
        refine z_aload_n C dL_law_1114 0 rfl ?_
        refine z_iload C dL_law_1115 4 rfl ?_
        refine z_iconst (x := 1) C dL_law_1117 rfl ?_
        refine z_iadd C dL_law_1118 ?_
        obtain ⟨h327, hm⟩ := qg_i hm
        refine z_sld C hX hbl hbA hL9 h327 dL_law_1119 ?_
        refine z_aload_n C dL_law_1120 3 rfl ?_
        obtain ⟨a328, h329, hm⟩ := qb_i hm
        refine iv_L_163 C (met_L_sureness l g hl hA n9 S ((xs (x4 + 1).toNat).toInt) _ h329) ⟨by decide, by decide⟩ ⟨by show k9 + 0 + 1 ≤ 601024; omega, by show n8 + 0 + 6 ≤ 7293034; omega⟩ (Nat.le_of_ble_eq_true rfl) dL_law_1121 ?_
        refine z_kn (k' := k9 + 1) (n' := n8 + 6) rfl rfl ?_
        refine z_istore (L' := [(5, .int (qI a328.1)), (0, .ref b), (1, .ref (qad g 0)), (2, .ref (qad g 110)), (3, .ref (qad g 127)), (4, .int (qI x4))]) C dL_law_1124 (by decide) rfl ?_
        refine z_aload_n C dL_law_1126 3 rfl ?_
        refine z_aload_n C dL_law_1127 1 rfl ?_
        refine z_iload C dL_law_1128 5 rfl ?_
        refine z_iconst (x := 1) C dL_law_1130 rfl ?_
        refine z_iadd C dL_law_1131 ?_
        obtain ⟨h330, hm⟩ := qg_i hm
        refine z_sld C hX hbl hbA hL9 h330 dL_law_1132 ?_
        obtain ⟨a331, h332, hm⟩ := qb_i hm
        refine iv_L_165 C (met_X4_sureness l g hl hA n9 a328.2 ((xs (x4 + 1).toNat).toInt) _ h332) rfl ⟨by decide, by decide⟩ ⟨by show k9 + 1 + 0 ≤ 601024; omega, by show n8 + 6 + 0 ≤ 7293034; omega⟩ (Nat.le_of_ble_eq_true rfl) dL_law_1133 ?_
        refine z_istore (L' := [(6, .int (qI a331.1)), (5, .int (qI a328.1)), (0, .ref b), (1, .ref (qad g 0)), (2, .ref (qad g 110)), (3, .ref (qad g 127)), (4, .int (qI x4))]) C dL_law_1136 (by decide) rfl ?_
        refine z_aload_n C dL_law_1138 4 rfl ?_
        obtain ⟨a333, h334, hm⟩ := qb_i hm
        refine iv_L_96 C (met_X4_thrown l g hl hA n9 a331.2  _ h334) rfl ⟨by decide, by decide⟩ ⟨by show k9 + 1 + 0 ≤ 601024; omega, by show n8 + 6 + 0 ≤ 7293034; omega⟩ (Nat.le_of_ble_eq_true rfl) dL_law_1139 ?_
        refine z_iload C dL_law_1142 1 rfl ?_
        obtain ⟨h335, hm⟩ := qg_i hm
        obtain ⟨h336, hm⟩ := qg_i hm
        refine z_icmp_eq (tgt := 1149) C dL_law_1144 (by decide) ⟨h335, h336⟩ (fun c337 => ?_) (fun c337 => ?_)
        · have hm := qt_i hm c337
          refine z_iload C dL_law_1149 1 rfl ?_
          obtain ⟨j338, e339, hm⟩ := ql_i hm
          have hj338 : j338 = some () → qZ g p l e room_1 s m #[Value.ref b] below meth c (lw_Z below #[Value.ref b] s) 7 a331.2 [(0, .ref b), (1, .ref (qad g 0)), (2, .ref (qad g 110)), (3, .ref (qad g 127)), (4, .int (qI x4))] 1166 [] (k9 + 1) (n8 + 6) := by
            intro  hm
            rw [e339] at hm
            refine z_goto (tgt := 1593) C dL_law_1166 (by decide) ?_
            refine z_widen (k' := k9 + 2) (n' := n8 + 12) (by omega) (by omega) ?_
            exact hj6 a331.2 hm
          clear e339
          refine z_if_ne (tgt := 1166) C dL_law_1151 (by decide) h336 (fun c340 => ?_) (fun c340 => ?_)
          · have hm := qt_i hm c340
            refine z_aload_n C dL_law_1154 5 rfl ?_
            refine z_iconst (x := 0) C dL_law_1155 rfl ?_
            refine z_lald C rfl (by decide) dL_law_1156 ?_
            refine z_iload C dL_law_1157 0 rfl ?_
            obtain ⟨h341, hm⟩ := qg_i hm
            refine z_i2l C dL_law_1159 h341 ?_
            obtain ⟨h342, hm⟩ := qg_i hm
            refine z_lcmp C dL_law_1160 ⟨h342, (qRl_of h341)⟩ ?_
            refine z_if_eq (tgt := 1166) C dL_law_1161 (by decide) (qcmp_R _ _) (fun c343 => ?_) (fun c343 => ?_)
            · have hm := qt_i hm c343
              refine z_sub (L' := [(0, .ref b), (1, .ref (qad g 0)), (2, .ref (qad g 110)), (3, .ref (qad g 127)), (4, .int (qI x4))]) [2, 3, 4, 5, 6] rfl ?_
              exact hj338  hm
            · have hm := qf_i hm c343
              refine z_iconst (x := 0) C dL_law_1164 rfl ?_
              cases hm
          · have hm := qf_i hm c340
            refine z_sub (L' := [(0, .ref b), (1, .ref (qad g 0)), (2, .ref (qad g 110)), (3, .ref (qad g 127)), (4, .int (qI x4))]) [2, 3, 4, 5, 6] rfl ?_
            exact hj338  hm
        · have hm := qf_i hm c337
          refine z_iconst (x := 0) C dL_law_1147 rfl ?_
          cases hm
      have hm := qf_i hm c326
      rcases Classical.em ((qiand ((xs x4.toNat).toInt) 31) = 21) with c344 | c344
      · have hm := qt_i hm c344
        refine z_tableIn (tgt := 1169) C dL_law_39 (qR_toInt _) (by omega) (by omega) (by rw [c344]; rfl) (by decide) ?_
        refine z_aload_n C dL_law_1169 1 rfl ?_
        refine z_aload_n C dL_law_1170 0 rfl ?_
        refine z_iload C dL_law_1171 4 rfl ?_
        refine z_iconst (x := 1) C dL_law_1173 rfl ?_
        refine z_iadd C dL_law_1174 ?_
        obtain ⟨h345, hm⟩ := qg_i hm
        refine z_sld C hX hbl hbA hL9 h345 dL_law_1175 ?_
        refine z_aload_n C dL_law_1176 3 rfl ?_
        obtain ⟨a346, h347, hm⟩ := qb_i hm
        refine iv_L_166 C (met_L_plans l g hl hA n9 S ((xs (x4 + 1).toNat).toInt) _ h347) ⟨by decide, by decide⟩ ⟨by show k9 + 0 + 1 ≤ 601024; omega, by show n8 + 0 + 6 ≤ 7293034; omega⟩ (Nat.le_of_ble_eq_true rfl) dL_law_1177 ?_
        refine z_kn (k' := k9 + 1) (n' := n8 + 6) rfl rfl ?_
        refine z_istore (L' := [(5, .int (qI a346.1)), (0, .ref b), (1, .ref (qad g 0)), (2, .ref (qad g 110)), (3, .ref (qad g 127)), (4, .int (qI x4))]) C dL_law_1180 (by decide) rfl ?_
        refine z_aload_n C dL_law_1182 3 rfl ?_
        refine z_aload_n C dL_law_1183 1 rfl ?_
        refine z_iload C dL_law_1184 5 rfl ?_
        refine z_iconst (x := 1) C dL_law_1186 rfl ?_
        refine z_iadd C dL_law_1187 ?_
        obtain ⟨h348, hm⟩ := qg_i hm
        refine z_sld C hX hbl hbA hL9 h348 dL_law_1188 ?_
        obtain ⟨a349, h350, hm⟩ := qb_i hm
        refine iv_L_168 C (met_X4_plans l g hl hA n9 a346.2 ((xs (x4 + 1).toNat).toInt) _ h350) rfl ⟨by decide, by decide⟩ ⟨by show k9 + 1 + 0 ≤ 601024; omega, by show n8 + 6 + 0 ≤ 7293034; omega⟩ (Nat.le_of_ble_eq_true rfl) dL_law_1189 ?_
        refine z_istore (L' := [(6, .int (qI a349.1)), (5, .int (qI a346.1)), (0, .ref b), (1, .ref (qad g 0)), (2, .ref (qad g 110)), (3, .ref (qad g 127)), (4, .int (qI x4))]) C dL_law_1192 (by decide) rfl ?_
        refine z_aload_n C dL_law_1194 4 rfl ?_
        obtain ⟨a351, h352, hm⟩ := qb_i hm
        refine iv_L_96 C (met_X4_thrown l g hl hA n9 a349.2  _ h352) rfl ⟨by decide, by decide⟩ ⟨by show k9 + 1 + 0 ≤ 601024; omega, by show n8 + 6 + 0 ≤ 7293034; omega⟩ (Nat.le_of_ble_eq_true rfl) dL_law_1195 ?_
        refine z_iload C dL_law_1198 1 rfl ?_
        obtain ⟨h353, hm⟩ := qg_i hm
        obtain ⟨h354, hm⟩ := qg_i hm
        refine z_icmp_eq (tgt := 1205) C dL_law_1200 (by decide) ⟨h353, h354⟩ (fun c355 => ?_) (fun c355 => ?_)
        · have hm := qt_i hm c355
          refine z_iload C dL_law_1205 1 rfl ?_
          obtain ⟨j356, e357, hm⟩ := ql_i hm
          have hj356 : j356 = some () → qZ g p l e room_1 s m #[Value.ref b] below meth c (lw_Z below #[Value.ref b] s) 7 a349.2 [(0, .ref b), (1, .ref (qad g 0)), (2, .ref (qad g 110)), (3, .ref (qad g 127)), (4, .int (qI x4))] 1222 [] (k9 + 1) (n8 + 6) := by
            intro  hm
            rw [e357] at hm
            refine z_goto (tgt := 1593) C dL_law_1222 (by decide) ?_
            refine z_widen (k' := k9 + 2) (n' := n8 + 12) (by omega) (by omega) ?_
            exact hj6 a349.2 hm
          clear e357
          refine z_if_ne (tgt := 1222) C dL_law_1207 (by decide) h354 (fun c358 => ?_) (fun c358 => ?_)
          · have hm := qt_i hm c358
            refine z_aload_n C dL_law_1210 5 rfl ?_
            refine z_iconst (x := 0) C dL_law_1211 rfl ?_
            refine z_lald C rfl (by decide) dL_law_1212 ?_
            refine z_iload C dL_law_1213 0 rfl ?_
            obtain ⟨h359, hm⟩ := qg_i hm
            refine z_i2l C dL_law_1215 h359 ?_
            obtain ⟨h360, hm⟩ := qg_i hm
            refine z_lcmp C dL_law_1216 ⟨h360, (qRl_of h359)⟩ ?_
            refine z_if_eq (tgt := 1222) C dL_law_1217 (by decide) (qcmp_R _ _) (fun c361 => ?_) (fun c361 => ?_)
            · have hm := qt_i hm c361
              refine z_sub (L' := [(0, .ref b), (1, .ref (qad g 0)), (2, .ref (qad g 110)), (3, .ref (qad g 127)), (4, .int (qI x4))]) [2, 3, 4, 5, 6] rfl ?_
              exact hj356  hm
            · have hm := qf_i hm c361
              refine z_iconst (x := 0) C dL_law_1220 rfl ?_
              cases hm
          · have hm := qf_i hm c358
            refine z_sub (L' := [(0, .ref b), (1, .ref (qad g 0)), (2, .ref (qad g 110)), (3, .ref (qad g 127)), (4, .int (qI x4))]) [2, 3, 4, 5, 6] rfl ?_
            exact hj356  hm
        · have hm := qf_i hm c355
          refine z_iconst (x := 0) C dL_law_1203 rfl ?_
          cases hm
      have hm := qf_i hm c344
      rcases Classical.em ((qiand ((xs x4.toNat).toInt) 31) = 22) with c362 | c362
      · have hm := qt_i hm c362
        refine z_tableIn (tgt := 1225) C dL_law_39 (qR_toInt _) (by omega) (by omega) (by rw [c362]; rfl) (by decide) ?_
        refine z_aload_n C dL_law_1225 1 rfl ?_
        refine z_aload_n C dL_law_1226 0 rfl ?_
        refine z_iload C dL_law_1227 4 rfl ?_
        refine z_iconst (x := 1) C dL_law_1229 rfl ?_
        refine z_iadd C dL_law_1230 ?_
        obtain ⟨h363, hm⟩ := qg_i hm
        refine z_sld C hX hbl hbA hL9 h363 dL_law_1231 ?_
        refine z_aload_n C dL_law_1232 3 rfl ?_
        obtain ⟨a364, h365, hm⟩ := qb_i hm
        refine iv_L_169 C (met_L_heavy l g hl hA n9 S ((xs (x4 + 1).toNat).toInt) _ h365) ⟨by decide, by decide⟩ ⟨by show k9 + 0 + 1 ≤ 601024; omega, by show n8 + 0 + 6 ≤ 7293034; omega⟩ (Nat.le_of_ble_eq_true rfl) dL_law_1233 ?_
        refine z_kn (k' := k9 + 1) (n' := n8 + 6) rfl rfl ?_
        refine z_istore (L' := [(5, .int (qI a364.1)), (0, .ref b), (1, .ref (qad g 0)), (2, .ref (qad g 110)), (3, .ref (qad g 127)), (4, .int (qI x4))]) C dL_law_1236 (by decide) rfl ?_
        refine z_aload_n C dL_law_1238 3 rfl ?_
        refine z_aload_n C dL_law_1239 1 rfl ?_
        refine z_iload C dL_law_1240 5 rfl ?_
        refine z_iconst (x := 1) C dL_law_1242 rfl ?_
        refine z_iadd C dL_law_1243 ?_
        obtain ⟨h366, hm⟩ := qg_i hm
        refine z_sld C hX hbl hbA hL9 h366 dL_law_1244 ?_
        obtain ⟨a367, h368, hm⟩ := qb_i hm
        refine iv_L_171 C (met_X4_heavy l g hl hA n9 a364.2 ((xs (x4 + 1).toNat).toInt) _ h368) rfl ⟨by decide, by decide⟩ ⟨by show k9 + 1 + 0 ≤ 601024; omega, by show n8 + 6 + 0 ≤ 7293034; omega⟩ (Nat.le_of_ble_eq_true rfl) dL_law_1245 ?_
        refine z_istore (L' := [(6, .int (qI a367.1)), (5, .int (qI a364.1)), (0, .ref b), (1, .ref (qad g 0)), (2, .ref (qad g 110)), (3, .ref (qad g 127)), (4, .int (qI x4))]) C dL_law_1248 (by decide) rfl ?_
        refine z_aload_n C dL_law_1250 4 rfl ?_
        obtain ⟨a369, h370, hm⟩ := qb_i hm
        refine iv_L_96 C (met_X4_thrown l g hl hA n9 a367.2  _ h370) rfl ⟨by decide, by decide⟩ ⟨by show k9 + 1 + 0 ≤ 601024; omega, by show n8 + 6 + 0 ≤ 7293034; omega⟩ (Nat.le_of_ble_eq_true rfl) dL_law_1251 ?_
        refine z_iload C dL_law_1254 1 rfl ?_
        obtain ⟨h371, hm⟩ := qg_i hm
        obtain ⟨h372, hm⟩ := qg_i hm
        refine z_icmp_eq (tgt := 1261) C dL_law_1256 (by decide) ⟨h371, h372⟩ (fun c373 => ?_) (fun c373 => ?_)
        · have hm := qt_i hm c373
          refine z_iload C dL_law_1261 1 rfl ?_
          obtain ⟨j374, e375, hm⟩ := ql_i hm
          have hj374 : j374 = some () → qZ g p l e room_1 s m #[Value.ref b] below meth c (lw_Z below #[Value.ref b] s) 7 a367.2 [(0, .ref b), (1, .ref (qad g 0)), (2, .ref (qad g 110)), (3, .ref (qad g 127)), (4, .int (qI x4))] 1278 [] (k9 + 1) (n8 + 6) := by
            intro  hm
            rw [e375] at hm
            refine z_goto (tgt := 1593) C dL_law_1278 (by decide) ?_
            refine z_widen (k' := k9 + 2) (n' := n8 + 12) (by omega) (by omega) ?_
            exact hj6 a367.2 hm
          clear e375
          refine z_if_ne (tgt := 1278) C dL_law_1263 (by decide) h372 (fun c376 => ?_) (fun c376 => ?_)
          · have hm := qt_i hm c376
            refine z_aload_n C dL_law_1266 5 rfl ?_
            refine z_iconst (x := 0) C dL_law_1267 rfl ?_
            refine z_lald C rfl (by decide) dL_law_1268 ?_
            refine z_iload C dL_law_1269 0 rfl ?_
            obtain ⟨h377, hm⟩ := qg_i hm
            refine z_i2l C dL_law_1271 h377 ?_
            obtain ⟨h378, hm⟩ := qg_i hm
            refine z_lcmp C dL_law_1272 ⟨h378, (qRl_of h377)⟩ ?_
            refine z_if_eq (tgt := 1278) C dL_law_1273 (by decide) (qcmp_R _ _) (fun c379 => ?_) (fun c379 => ?_)
            · have hm := qt_i hm c379
              refine z_sub (L' := [(0, .ref b), (1, .ref (qad g 0)), (2, .ref (qad g 110)), (3, .ref (qad g 127)), (4, .int (qI x4))]) [2, 3, 4, 5, 6] rfl ?_
              exact hj374  hm
            · have hm := qf_i hm c379
              refine z_iconst (x := 0) C dL_law_1276 rfl ?_
              cases hm
          · have hm := qf_i hm c376
            refine z_sub (L' := [(0, .ref b), (1, .ref (qad g 0)), (2, .ref (qad g 110)), (3, .ref (qad g 127)), (4, .int (qI x4))]) [2, 3, 4, 5, 6] rfl ?_
            exact hj374  hm
        · have hm := qf_i hm c373
          refine z_iconst (x := 0) C dL_law_1259 rfl ?_
          cases hm
      have hm := qf_i hm c362
      rcases Classical.em ((qiand ((xs x4.toNat).toInt) 31) = 23) with c380 | c380
      · have hm := qt_i hm c380
        refine z_tableIn (tgt := 1281) C dL_law_39 (qR_toInt _) (by omega) (by omega) (by rw [c380]; rfl) (by decide) ?_
        refine z_aload_n C dL_law_1281 1 rfl ?_
        refine z_aload_n C dL_law_1282 0 rfl ?_
        refine z_iload C dL_law_1283 4 rfl ?_
        refine z_iconst (x := 1) C dL_law_1285 rfl ?_
        refine z_iadd C dL_law_1286 ?_
        obtain ⟨h381, hm⟩ := qg_i hm
        refine z_sld C hX hbl hbA hL9 h381 dL_law_1287 ?_
        refine z_aload_n C dL_law_1288 0 rfl ?_
        refine z_iload C dL_law_1289 4 rfl ?_
        refine z_iconst (x := 2) C dL_law_1291 rfl ?_
        refine z_iadd C dL_law_1292 ?_
        obtain ⟨h382, hm⟩ := qg_i hm
        refine z_sld C hX hbl hbA hL9 h382 dL_law_1293 ?_
        refine z_i2l C dL_law_1294 (qR_toInt _) ?_
        refine z_bipush (x := 32) C dL_law_1295 (by decide +kernel) ?_
        refine z_lshl C dL_law_1297 ?_
        refine z_aload_n C dL_law_1298 0 rfl ?_
        refine z_iload C dL_law_1299 4 rfl ?_
        refine z_iconst (x := 3) C dL_law_1301 rfl ?_
        refine z_iadd C dL_law_1302 ?_
        obtain ⟨h383, hm⟩ := qg_i hm
        refine z_sld C hX hbl hbA hL9 h383 dL_law_1303 ?_
        refine z_i2l C dL_law_1304 (qR_toInt _) ?_
        refine z_ldc2 (x := 4294967295) C dL_law_1305 qct_L_172 (by decide +kernel) ?_
        refine z_land C dL_law_1308 ?_
        refine z_lor C dL_law_1309 ?_
        refine z_aload_n C dL_law_1310 3 rfl ?_
        obtain ⟨a384, h385, hm⟩ := qb_i hm
        refine iv_L_174 C (met_L_runScript l g hl hA n9 S ((xs (x4 + 1).toNat).toInt) (qlor (qlshl ((xs (x4 + 2).toNat).toInt) 32) (qland ((xs (x4 + 3).toNat).toInt) 4294967295)) _ h385) ⟨by decide, by decide⟩ ⟨by show k9 + 0 + 1 ≤ 601024; omega, by show n8 + 0 + 6 ≤ 7293034; omega⟩ (Nat.le_of_ble_eq_true rfl) dL_law_1311 ?_
        refine z_kn (k' := k9 + 1) (n' := n8 + 6) rfl rfl ?_
        refine z_istore (L' := [(5, .int (qI a384.1)), (0, .ref b), (1, .ref (qad g 0)), (2, .ref (qad g 110)), (3, .ref (qad g 127)), (4, .int (qI x4))]) C dL_law_1314 (by decide) rfl ?_
        refine z_aload_n C dL_law_1316 3 rfl ?_
        refine z_aload_n C dL_law_1317 1 rfl ?_
        refine z_iload C dL_law_1318 5 rfl ?_
        refine z_iconst (x := 1) C dL_law_1320 rfl ?_
        refine z_iadd C dL_law_1321 ?_
        obtain ⟨h386, hm⟩ := qg_i hm
        refine z_sld C hX hbl hbA hL9 h386 dL_law_1322 ?_
        refine z_aload_n C dL_law_1323 1 rfl ?_
        refine z_iload C dL_law_1324 5 rfl ?_
        refine z_iconst (x := 2) C dL_law_1326 rfl ?_
        refine z_iadd C dL_law_1327 ?_
        obtain ⟨h387, hm⟩ := qg_i hm
        refine z_sld C hX hbl hbA hL9 h387 dL_law_1328 ?_
        refine z_i2l C dL_law_1329 (qR_toInt _) ?_
        refine z_bipush (x := 32) C dL_law_1330 (by decide +kernel) ?_
        refine z_lshl C dL_law_1332 ?_
        refine z_aload_n C dL_law_1333 1 rfl ?_
        refine z_iload C dL_law_1334 5 rfl ?_
        refine z_iconst (x := 3) C dL_law_1336 rfl ?_
        refine z_iadd C dL_law_1337 ?_
        obtain ⟨h388, hm⟩ := qg_i hm
        refine z_sld C hX hbl hbA hL9 h388 dL_law_1338 ?_
        refine z_i2l C dL_law_1339 (qR_toInt _) ?_
        refine z_ldc2 (x := 4294967295) C dL_law_1340 qct_L_172 (by decide +kernel) ?_
        refine z_land C dL_law_1343 ?_
        refine z_lor C dL_law_1344 ?_
        obtain ⟨a389, h390, hm⟩ := qb_i hm
        refine iv_L_177 C (met_X4_runScript l g hl hA n9 a384.2 ((xs (x4 + 1).toNat).toInt) (qlor (qlshl ((xs (x4 + 2).toNat).toInt) 32) (qland ((xs (x4 + 3).toNat).toInt) 4294967295)) _ h390) rfl ⟨by decide, by decide⟩ ⟨by show k9 + 1 + 0 ≤ 601024; omega, by show n8 + 6 + 0 ≤ 7293034; omega⟩ (Nat.le_of_ble_eq_true rfl) dL_law_1345 ?_
        refine z_istore (L' := [(6, .int (qI a389.1)), (5, .int (qI a384.1)), (0, .ref b), (1, .ref (qad g 0)), (2, .ref (qad g 110)), (3, .ref (qad g 127)), (4, .int (qI x4))]) C dL_law_1348 (by decide) rfl ?_
        refine z_aload_n C dL_law_1350 4 rfl ?_
        obtain ⟨a391, h392, hm⟩ := qb_i hm
        refine iv_L_96 C (met_X4_thrown l g hl hA n9 a389.2  _ h392) rfl ⟨by decide, by decide⟩ ⟨by show k9 + 1 + 0 ≤ 601024; omega, by show n8 + 6 + 0 ≤ 7293034; omega⟩ (Nat.le_of_ble_eq_true rfl) dL_law_1351 ?_
        refine z_iload C dL_law_1354 1 rfl ?_
        obtain ⟨h393, hm⟩ := qg_i hm
        obtain ⟨h394, hm⟩ := qg_i hm
        refine z_icmp_eq (tgt := 1361) C dL_law_1356 (by decide) ⟨h393, h394⟩ (fun c395 => ?_) (fun c395 => ?_)
        · have hm := qt_i hm c395
          refine z_iload C dL_law_1361 1 rfl ?_
          obtain ⟨j396, e397, hm⟩ := ql_i hm
          have hj396 : j396 = some () → qZ g p l e room_1 s m #[Value.ref b] below meth c (lw_Z below #[Value.ref b] s) 7 a389.2 [(0, .ref b), (1, .ref (qad g 0)), (2, .ref (qad g 110)), (3, .ref (qad g 127)), (4, .int (qI x4))] 1378 [] (k9 + 1) (n8 + 6) := by
            intro  hm
            rw [e397] at hm
            refine z_goto (tgt := 1593) C dL_law_1378 (by decide) ?_
            refine z_widen (k' := k9 + 2) (n' := n8 + 12) (by omega) (by omega) ?_
            exact hj6 a389.2 hm
          clear e397
          refine z_if_ne (tgt := 1378) C dL_law_1363 (by decide) h394 (fun c398 => ?_) (fun c398 => ?_)
          · have hm := qt_i hm c398
            refine z_aload_n C dL_law_1366 5 rfl ?_
            refine z_iconst (x := 0) C dL_law_1367 rfl ?_
            refine z_lald C rfl (by decide) dL_law_1368 ?_
            refine z_iload C dL_law_1369 0 rfl ?_
            obtain ⟨h399, hm⟩ := qg_i hm
            refine z_i2l C dL_law_1371 h399 ?_
            obtain ⟨h400, hm⟩ := qg_i hm
            refine z_lcmp C dL_law_1372 ⟨h400, (qRl_of h399)⟩ ?_
            refine z_if_eq (tgt := 1378) C dL_law_1373 (by decide) (qcmp_R _ _) (fun c401 => ?_) (fun c401 => ?_)
            · have hm := qt_i hm c401
              refine z_sub (L' := [(0, .ref b), (1, .ref (qad g 0)), (2, .ref (qad g 110)), (3, .ref (qad g 127)), (4, .int (qI x4))]) [2, 3, 4, 5, 6] rfl ?_
              exact hj396  hm
            · have hm := qf_i hm c401
              refine z_iconst (x := 0) C dL_law_1376 rfl ?_
              cases hm
          · have hm := qf_i hm c398
            refine z_sub (L' := [(0, .ref b), (1, .ref (qad g 0)), (2, .ref (qad g 110)), (3, .ref (qad g 127)), (4, .int (qI x4))]) [2, 3, 4, 5, 6] rfl ?_
            exact hj396  hm
        · have hm := qf_i hm c395
          refine z_iconst (x := 0) C dL_law_1359 rfl ?_
          cases hm
      have hm := qf_i hm c380
      rcases Classical.em ((qiand ((xs x4.toNat).toInt) 31) = 24) with c402 | c402
      · have hm := qt_i hm c402
        refine z_tableIn (tgt := 1381) C dL_law_39 (qR_toInt _) (by omega) (by omega) (by rw [c402]; rfl) (by decide) ?_
        refine z_aload_n C dL_law_1381 1 rfl ?_
        refine z_aload_n C dL_law_1382 0 rfl ?_
        refine z_iload C dL_law_1383 4 rfl ?_
        refine z_iconst (x := 1) C dL_law_1385 rfl ?_
        refine z_iadd C dL_law_1386 ?_
        obtain ⟨h403, hm⟩ := qg_i hm
        refine z_sld C hX hbl hbA hL9 h403 dL_law_1387 ?_
        refine z_i2l C dL_law_1388 (qR_toInt _) ?_
        refine z_bipush (x := 32) C dL_law_1389 (by decide +kernel) ?_
        refine z_lshl C dL_law_1391 ?_
        refine z_aload_n C dL_law_1392 0 rfl ?_
        refine z_iload C dL_law_1393 4 rfl ?_
        refine z_iconst (x := 2) C dL_law_1395 rfl ?_
        refine z_iadd C dL_law_1396 ?_
        obtain ⟨h404, hm⟩ := qg_i hm
        refine z_sld C hX hbl hbA hL9 h404 dL_law_1397 ?_
        refine z_i2l C dL_law_1398 (qR_toInt _) ?_
        refine z_ldc2 (x := 4294967295) C dL_law_1399 qct_L_172 (by decide +kernel) ?_
        refine z_land C dL_law_1402 ?_
        refine z_lor C dL_law_1403 ?_
        refine z_aload_n C dL_law_1404 0 rfl ?_
        refine z_iload C dL_law_1405 4 rfl ?_
        refine z_iconst (x := 3) C dL_law_1407 rfl ?_
        refine z_iadd C dL_law_1408 ?_
        obtain ⟨h405, hm⟩ := qg_i hm
        refine z_sld C hX hbl hbA hL9 h405 dL_law_1409 ?_
        refine z_aload_n C dL_law_1410 3 rfl ?_
        obtain ⟨a406, h407, hm⟩ := qb_i hm
        refine iv_L_178 C (met_L_simulate l g hl hA n9 S (qlor (qlshl ((xs (x4 + 1).toNat).toInt) 32) (qland ((xs (x4 + 2).toNat).toInt) 4294967295)) ((xs (x4 + 3).toNat).toInt) _ h407) ⟨by decide, by decide⟩ ⟨by show k9 + 0 + 1 ≤ 601024; omega, by show n8 + 0 + 6 ≤ 7293034; omega⟩ (Nat.le_of_ble_eq_true rfl) dL_law_1411 ?_
        refine z_kn (k' := k9 + 1) (n' := n8 + 6) rfl rfl ?_
        refine z_istore (L' := [(5, .int (qI a406.1)), (0, .ref b), (1, .ref (qad g 0)), (2, .ref (qad g 110)), (3, .ref (qad g 127)), (4, .int (qI x4))]) C dL_law_1414 (by decide) rfl ?_
        refine z_aload_n C dL_law_1416 3 rfl ?_
        refine z_aload_n C dL_law_1417 1 rfl ?_
        refine z_iload C dL_law_1418 5 rfl ?_
        refine z_iconst (x := 1) C dL_law_1420 rfl ?_
        refine z_iadd C dL_law_1421 ?_
        obtain ⟨h408, hm⟩ := qg_i hm
        refine z_sld C hX hbl hbA hL9 h408 dL_law_1422 ?_
        refine z_i2l C dL_law_1423 (qR_toInt _) ?_
        refine z_bipush (x := 32) C dL_law_1424 (by decide +kernel) ?_
        refine z_lshl C dL_law_1426 ?_
        refine z_aload_n C dL_law_1427 1 rfl ?_
        refine z_iload C dL_law_1428 5 rfl ?_
        refine z_iconst (x := 2) C dL_law_1430 rfl ?_
        refine z_iadd C dL_law_1431 ?_
        obtain ⟨h409, hm⟩ := qg_i hm
        refine z_sld C hX hbl hbA hL9 h409 dL_law_1432 ?_
        refine z_i2l C dL_law_1433 (qR_toInt _) ?_
        refine z_ldc2 (x := 4294967295) C dL_law_1434 qct_L_172 (by decide +kernel) ?_
        refine z_land C dL_law_1437 ?_
        refine z_lor C dL_law_1438 ?_
        refine z_aload_n C dL_law_1439 1 rfl ?_
        refine z_iload C dL_law_1440 5 rfl ?_
        refine z_iconst (x := 3) C dL_law_1442 rfl ?_
        refine z_iadd C dL_law_1443 ?_
        obtain ⟨h410, hm⟩ := qg_i hm
        refine z_sld C hX hbl hbA hL9 h410 dL_law_1444 ?_
        obtain ⟨a411, h412, hm⟩ := qb_i hm
        refine iv_L_181 C (met_X4_simulate l g hl hA n9 a406.2 (qlor (qlshl ((xs (x4 + 1).toNat).toInt) 32) (qland ((xs (x4 + 2).toNat).toInt) 4294967295)) ((xs (x4 + 3).toNat).toInt) _ h412) rfl ⟨by decide, by decide⟩ ⟨by show k9 + 1 + 0 ≤ 601024; omega, by show n8 + 6 + 0 ≤ 7293034; omega⟩ (Nat.le_of_ble_eq_true rfl) dL_law_1445 ?_
        refine z_istore (L' := [(6, .int (qI a411.1)), (5, .int (qI a406.1)), (0, .ref b), (1, .ref (qad g 0)), (2, .ref (qad g 110)), (3, .ref (qad g 127)), (4, .int (qI x4))]) C dL_law_1448 (by decide) rfl ?_
        refine z_aload_n C dL_law_1450 4 rfl ?_
        obtain ⟨a413, h414, hm⟩ := qb_i hm
        refine iv_L_96 C (met_X4_thrown l g hl hA n9 a411.2  _ h414) rfl ⟨by decide, by decide⟩ ⟨by show k9 + 1 + 0 ≤ 601024; omega, by show n8 + 6 + 0 ≤ 7293034; omega⟩ (Nat.le_of_ble_eq_true rfl) dL_law_1451 ?_
        refine z_iload C dL_law_1454 1 rfl ?_
        obtain ⟨h415, hm⟩ := qg_i hm
        obtain ⟨h416, hm⟩ := qg_i hm
        refine z_icmp_eq (tgt := 1461) C dL_law_1456 (by decide) ⟨h415, h416⟩ (fun c417 => ?_) (fun c417 => ?_)
        · have hm := qt_i hm c417
          refine z_iload C dL_law_1461 1 rfl ?_
          obtain ⟨j418, e419, hm⟩ := ql_i hm
          have hj418 : j418 = some () → qZ g p l e room_1 s m #[Value.ref b] below meth c (lw_Z below #[Value.ref b] s) 7 a411.2 [(0, .ref b), (1, .ref (qad g 0)), (2, .ref (qad g 110)), (3, .ref (qad g 127)), (4, .int (qI x4))] 1478 [] (k9 + 1) (n8 + 6) := by
            intro  hm
            rw [e419] at hm
            refine z_goto (tgt := 1593) C dL_law_1478 (by decide) ?_
            refine z_widen (k' := k9 + 2) (n' := n8 + 12) (by omega) (by omega) ?_
            exact hj6 a411.2 hm
          clear e419
          refine z_if_ne (tgt := 1478) C dL_law_1463 (by decide) h416 (fun c420 => ?_) (fun c420 => ?_)
          · have hm := qt_i hm c420
            refine z_aload_n C dL_law_1466 5 rfl ?_
            refine z_iconst (x := 0) C dL_law_1467 rfl ?_
            refine z_lald C rfl (by decide) dL_law_1468 ?_
            refine z_iload C dL_law_1469 0 rfl ?_
            obtain ⟨h421, hm⟩ := qg_i hm
            refine z_i2l C dL_law_1471 h421 ?_
            obtain ⟨h422, hm⟩ := qg_i hm
            refine z_lcmp C dL_law_1472 ⟨h422, (qRl_of h421)⟩ ?_
            refine z_if_eq (tgt := 1478) C dL_law_1473 (by decide) (qcmp_R _ _) (fun c423 => ?_) (fun c423 => ?_)
            · have hm := qt_i hm c423
              refine z_sub (L' := [(0, .ref b), (1, .ref (qad g 0)), (2, .ref (qad g 110)), (3, .ref (qad g 127)), (4, .int (qI x4))]) [2, 3, 4, 5, 6] rfl ?_
              exact hj418  hm
            · have hm := qf_i hm c423
              refine z_iconst (x := 0) C dL_law_1476 rfl ?_
              cases hm
          · have hm := qf_i hm c420
            refine z_sub (L' := [(0, .ref b), (1, .ref (qad g 0)), (2, .ref (qad g 110)), (3, .ref (qad g 127)), (4, .int (qI x4))]) [2, 3, 4, 5, 6] rfl ?_
            exact hj418  hm
        · have hm := qf_i hm c417
          refine z_iconst (x := 0) C dL_law_1459 rfl ?_
          cases hm
      have hm := qf_i hm c402
      rcases Classical.em ((qiand ((xs x4.toNat).toInt) 31) = 25) with c424 | c424
      · have hm := qt_i hm c424
        refine z_tableIn (tgt := 1481) C dL_law_39 (qR_toInt _) (by omega) (by omega) (by rw [c424]; rfl) (by decide) ?_
        refine z_aload_n C dL_law_1481 1 rfl ?_
        refine z_aload_n C dL_law_1482 0 rfl ?_
        refine z_iload C dL_law_1483 4 rfl ?_
        refine z_iconst (x := 1) C dL_law_1485 rfl ?_
        refine z_iadd C dL_law_1486 ?_
        obtain ⟨h425, hm⟩ := qg_i hm
        refine z_sld C hX hbl hbA hL9 h425 dL_law_1487 ?_
        refine z_aload_n C dL_law_1488 3 rfl ?_
        obtain ⟨a426, h427, hm⟩ := qb_i hm
        refine iv_L_182 C (met_L_save l g hl hA n9 S ((xs (x4 + 1).toNat).toInt) _ h427) ⟨by decide, by decide⟩ ⟨by show k9 + 0 + 1 ≤ 601024; omega, by show n8 + 0 + 6 ≤ 7293034; omega⟩ (Nat.le_of_ble_eq_true rfl) dL_law_1489 ?_
        refine z_kn (k' := k9 + 1) (n' := n8 + 6) rfl rfl ?_
        refine z_istore (L' := [(5, .int (qI a426.1)), (0, .ref b), (1, .ref (qad g 0)), (2, .ref (qad g 110)), (3, .ref (qad g 127)), (4, .int (qI x4))]) C dL_law_1492 (by decide) rfl ?_
        refine z_aload_n C dL_law_1494 3 rfl ?_
        refine z_aload_n C dL_law_1495 1 rfl ?_
        refine z_iload C dL_law_1496 5 rfl ?_
        refine z_iconst (x := 1) C dL_law_1498 rfl ?_
        refine z_iadd C dL_law_1499 ?_
        obtain ⟨h428, hm⟩ := qg_i hm
        refine z_sld C hX hbl hbA hL9 h428 dL_law_1500 ?_
        obtain ⟨a429, h430, hm⟩ := qb_i hm
        refine iv_L_184 C (met_X4_save l g hl hA n9 a426.2 ((xs (x4 + 1).toNat).toInt) _ h430) rfl ⟨by decide, by decide⟩ ⟨by show k9 + 1 + 0 ≤ 601024; omega, by show n8 + 6 + 0 ≤ 7293034; omega⟩ (Nat.le_of_ble_eq_true rfl) dL_law_1501 ?_
        refine z_istore (L' := [(6, .int (qI a429.1)), (5, .int (qI a426.1)), (0, .ref b), (1, .ref (qad g 0)), (2, .ref (qad g 110)), (3, .ref (qad g 127)), (4, .int (qI x4))]) C dL_law_1504 (by decide) rfl ?_
        refine z_aload_n C dL_law_1506 4 rfl ?_
        obtain ⟨a431, h432, hm⟩ := qb_i hm
        refine iv_L_96 C (met_X4_thrown l g hl hA n9 a429.2  _ h432) rfl ⟨by decide, by decide⟩ ⟨by show k9 + 1 + 0 ≤ 601024; omega, by show n8 + 6 + 0 ≤ 7293034; omega⟩ (Nat.le_of_ble_eq_true rfl) dL_law_1507 ?_
        refine z_iload C dL_law_1510 1 rfl ?_
        obtain ⟨h433, hm⟩ := qg_i hm
        obtain ⟨h434, hm⟩ := qg_i hm
        refine z_icmp_eq (tgt := 1517) C dL_law_1512 (by decide) ⟨h433, h434⟩ (fun c435 => ?_) (fun c435 => ?_)
        · have hm := qt_i hm c435
          refine z_iload C dL_law_1517 1 rfl ?_
          obtain ⟨j436, e437, hm⟩ := ql_i hm
          have hj436 : j436 = some () → qZ g p l e room_1 s m #[Value.ref b] below meth c (lw_Z below #[Value.ref b] s) 7 a429.2 [(0, .ref b), (1, .ref (qad g 0)), (2, .ref (qad g 110)), (3, .ref (qad g 127)), (4, .int (qI x4))] 1534 [] (k9 + 1) (n8 + 6) := by
            intro  hm
            rw [e437] at hm
            refine z_goto (tgt := 1593) C dL_law_1534 (by decide) ?_
            refine z_widen (k' := k9 + 2) (n' := n8 + 12) (by omega) (by omega) ?_
            exact hj6 a429.2 hm
          clear e437
          refine z_if_ne (tgt := 1534) C dL_law_1519 (by decide) h434 (fun c438 => ?_) (fun c438 => ?_)
          · have hm := qt_i hm c438
            refine z_aload_n C dL_law_1522 5 rfl ?_
            refine z_iconst (x := 0) C dL_law_1523 rfl ?_
            refine z_lald C rfl (by decide) dL_law_1524 ?_
            refine z_iload C dL_law_1525 0 rfl ?_
            obtain ⟨h439, hm⟩ := qg_i hm
            refine z_i2l C dL_law_1527 h439 ?_
            obtain ⟨h440, hm⟩ := qg_i hm
            refine z_lcmp C dL_law_1528 ⟨h440, (qRl_of h439)⟩ ?_
            refine z_if_eq (tgt := 1534) C dL_law_1529 (by decide) (qcmp_R _ _) (fun c441 => ?_) (fun c441 => ?_)
            · have hm := qt_i hm c441
              refine z_sub (L' := [(0, .ref b), (1, .ref (qad g 0)), (2, .ref (qad g 110)), (3, .ref (qad g 127)), (4, .int (qI x4))]) [2, 3, 4, 5, 6] rfl ?_
              exact hj436  hm
            · have hm := qf_i hm c441
              refine z_iconst (x := 0) C dL_law_1532 rfl ?_
              cases hm
          · have hm := qf_i hm c438
            refine z_sub (L' := [(0, .ref b), (1, .ref (qad g 0)), (2, .ref (qad g 110)), (3, .ref (qad g 127)), (4, .int (qI x4))]) [2, 3, 4, 5, 6] rfl ?_
            exact hj436  hm
        · have hm := qf_i hm c435
          refine z_iconst (x := 0) C dL_law_1515 rfl ?_
          cases hm
      have hm := qf_i hm c424
      rcases Classical.em ((qiand ((xs x4.toNat).toInt) 31) = 26) with c442 | c442
      · have hm := qt_i hm c442
        refine z_tableIn (tgt := 1537) C dL_law_39 (qR_toInt _) (by omega) (by omega) (by rw [c442]; rfl) (by decide) ?_
        refine z_aload_n C dL_law_1537 1 rfl ?_
        refine z_aload_n C dL_law_1538 0 rfl ?_
        refine z_iload C dL_law_1539 4 rfl ?_
        refine z_iconst (x := 1) C dL_law_1541 rfl ?_
        refine z_iadd C dL_law_1542 ?_
        obtain ⟨h443, hm⟩ := qg_i hm
        refine z_sld C hX hbl hbA hL9 h443 dL_law_1543 ?_
        refine z_aload_n C dL_law_1544 3 rfl ?_
        obtain ⟨a444, h445, hm⟩ := qb_i hm
        refine iv_L_185 C (met_L_restore l g hl hA n9 S ((xs (x4 + 1).toNat).toInt) _ h445) ⟨by decide, by decide⟩ ⟨by show k9 + 0 + 2 ≤ 601024; omega, by show n8 + 0 + 12 ≤ 7293034; omega⟩ (Nat.le_of_ble_eq_true rfl) dL_law_1545 ?_
        refine z_kn (k' := k9 + 2) (n' := n8 + 12) rfl rfl ?_
        refine z_istore (L' := [(5, .int (qI a444.1)), (0, .ref b), (1, .ref (qad g 0)), (2, .ref (qad g 110)), (3, .ref (qad g 127)), (4, .int (qI x4))]) C dL_law_1548 (by decide) rfl ?_
        refine z_aload_n C dL_law_1550 3 rfl ?_
        refine z_aload_n C dL_law_1551 1 rfl ?_
        refine z_iload C dL_law_1552 5 rfl ?_
        refine z_iconst (x := 1) C dL_law_1554 rfl ?_
        refine z_iadd C dL_law_1555 ?_
        obtain ⟨h446, hm⟩ := qg_i hm
        refine z_sld C hX hbl hbA hL9 h446 dL_law_1556 ?_
        obtain ⟨a447, h448, hm⟩ := qb_i hm
        refine iv_L_187 C (met_X4_restore l g hl hA n9 a444.2 ((xs (x4 + 1).toNat).toInt) _ h448) rfl ⟨by decide, by decide⟩ ⟨by show k9 + 2 + 0 ≤ 601024; omega, by show n8 + 12 + 0 ≤ 7293034; omega⟩ (Nat.le_of_ble_eq_true rfl) dL_law_1557 ?_
        refine z_istore (L' := [(6, .int (qI a447.1)), (5, .int (qI a444.1)), (0, .ref b), (1, .ref (qad g 0)), (2, .ref (qad g 110)), (3, .ref (qad g 127)), (4, .int (qI x4))]) C dL_law_1560 (by decide) rfl ?_
        refine z_aload_n C dL_law_1562 4 rfl ?_
        obtain ⟨a449, h450, hm⟩ := qb_i hm
        refine iv_L_96 C (met_X4_thrown l g hl hA n9 a447.2  _ h450) rfl ⟨by decide, by decide⟩ ⟨by show k9 + 2 + 0 ≤ 601024; omega, by show n8 + 12 + 0 ≤ 7293034; omega⟩ (Nat.le_of_ble_eq_true rfl) dL_law_1563 ?_
        refine z_iload C dL_law_1566 1 rfl ?_
        obtain ⟨h451, hm⟩ := qg_i hm
        obtain ⟨h452, hm⟩ := qg_i hm
        refine z_icmp_eq (tgt := 1573) C dL_law_1568 (by decide) ⟨h451, h452⟩ (fun c453 => ?_) (fun c453 => ?_)
        · have hm := qt_i hm c453
          refine z_iload C dL_law_1573 1 rfl ?_
          obtain ⟨j454, e455, hm⟩ := ql_i hm
          have hj454 : j454 = some () → qZ g p l e room_1 s m #[Value.ref b] below meth c (lw_Z below #[Value.ref b] s) 7 a447.2 [(0, .ref b), (1, .ref (qad g 0)), (2, .ref (qad g 110)), (3, .ref (qad g 127)), (4, .int (qI x4))] 1590 [] (k9 + 2) (n8 + 12) := by
            intro  hm
            rw [e455] at hm
            refine z_goto (tgt := 1593) C dL_law_1590 (by decide) ?_
            exact hj6 a447.2 hm
          clear e455
          refine z_if_ne (tgt := 1590) C dL_law_1575 (by decide) h452 (fun c456 => ?_) (fun c456 => ?_)
          · have hm := qt_i hm c456
            refine z_aload_n C dL_law_1578 5 rfl ?_
            refine z_iconst (x := 0) C dL_law_1579 rfl ?_
            refine z_lald C rfl (by decide) dL_law_1580 ?_
            refine z_iload C dL_law_1581 0 rfl ?_
            obtain ⟨h457, hm⟩ := qg_i hm
            refine z_i2l C dL_law_1583 h457 ?_
            obtain ⟨h458, hm⟩ := qg_i hm
            refine z_lcmp C dL_law_1584 ⟨h458, (qRl_of h457)⟩ ?_
            refine z_if_eq (tgt := 1590) C dL_law_1585 (by decide) (qcmp_R _ _) (fun c459 => ?_) (fun c459 => ?_)
            · have hm := qt_i hm c459
              refine z_sub (L' := [(0, .ref b), (1, .ref (qad g 0)), (2, .ref (qad g 110)), (3, .ref (qad g 127)), (4, .int (qI x4))]) [2, 3, 4, 5, 6] rfl ?_
              exact hj454  hm
            · have hm := qf_i hm c459
              refine z_iconst (x := 0) C dL_law_1588 rfl ?_
              cases hm
          · have hm := qf_i hm c456
            refine z_sub (L' := [(0, .ref b), (1, .ref (qad g 0)), (2, .ref (qad g 110)), (3, .ref (qad g 127)), (4, .int (qI x4))]) [2, 3, 4, 5, 6] rfl ?_
            exact hj454  hm
        · have hm := qf_i hm c453
          refine z_iconst (x := 0) C dL_law_1571 rfl ?_
          cases hm
      have hm := qf_i hm c442
      refine z_tableOut (tgt := 1593) C dL_law_39 (qR_toInt _) (by omega) (by decide) ?_
      refine z_widen (k' := k9 + 2) (n' := n8 + 12) (by omega) (by omega) ?_
      exact hj6 S hm
