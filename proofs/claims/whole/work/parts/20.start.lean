def qset : Nat → Int := (fun i => if i = 3 then qF0i 3 else (fun i => if i = 2 then qF0i 2 else (fun i => if i = 1 then qF0i 1 else (fun i => if i = 0 then qF0i 0 else qz i) i) i) i)
def qnow : Nat → Int := (fun i => if i = 4 then 40 else (fun i => if i = 3 then 15 else (fun i => if i = 2 then 6 else (fun i => if i = 1 then 4 else qz i) i) i) i)
def qisS (p : Nat) : Bool := p == 11 || p == 16 || (Nat.ble 34 p && Nat.blt p 110 && (p - 34) % 5 == 0)
/-- the state at the law's loop -/
def qS0 : qS := fun p => if qisS p = true then qset else if p = 117 then qnow else qz
theorem qArrI {args : Array Value} {s : State} (h : (Cond.arrayClass .int).before args s = true) : ∃ cA, ArrOfT s cA .int ∧ va_RA s cA .int := by
  obtain ⟨c, k, comp, h1, h2, h3⟩ := Cond.arrayClass_spec h
  exact ⟨c, fun n z => ⟨fun k h => (by cases h), k, h2, comp, h3⟩, h1⟩
theorem qArrZ {args : Array Value} {s : State} (h : (Cond.arrayClass .boolean).before args s = true) : ∃ cA, ArrOfT s cA .boolean ∧ va_RA s cA .boolean := by
  obtain ⟨c, k, comp, h1, h2, h3⟩ := Cond.arrayClass_spec h
  exact ⟨c, fun n z => ⟨fun k h => (by cases h), k, h2, comp, h3⟩, h1⟩
theorem qArrL {args : Array Value} {s : State} (h : (Cond.arrayClass .long).before args s = true) : ∃ cA, ArrOfT s cA .long ∧ va_RA s cA .long := by
  obtain ⟨c, k, comp, h1, h2, h3⟩ := Cond.arrayClass_spec h
  exact ⟨c, fun n z => ⟨fun k h => (by cases h), k, h2, comp, h3⟩, h1⟩
theorem qArrQ {args : Array Value} {s : State} (h : (Cond.arrayOver (.object "AxleScale$Recording")).before args s = true) : ∃ cA, ArrOfT s cA (.object "AxleScale$Recording") ∧ va_RA s cA (.object "AxleScale$Recording") := by
  obtain ⟨comp, c, k, h1, h2, h3, h4, h5⟩ := Cond.arrayOver_spec h
  exact ⟨c, fun n z => ⟨fun k h => (by cases h), k, h3, comp, h4⟩, k, comp, h3, h4, h1, h5⟩
def qsaf (s : State) (k : Nat) : Nat := match (Term.string RX3 k).eval #[] s none [] s with
  | some (.ref a) => a
  | _ => 0
theorem qstr_in : ∀ q ∈ qStr, Cond.stringRef RX3 q.1 q.2 ∈ lw_tbl := by decide +kernel
theorem qstr_ex : ∀ q ∈ qStr, Cond.exactly (.string RX3 q.1) "java/lang/String" ∈ Jvm.Free.XT.flat (Jvm.Cond.and given_1 narrow_1) := by decide +kernel
theorem qinl {C : String} {T : u_T} {N : Nat} (h : ∀ w ∈ u_ws C T N, w ∈ qAW) : ∀ w ∈ u_ws C T N, w ∈ lw_tbl := fun w hw => (List.mem_filter.mp (h w hw)).1
set_option maxHeartbeats 4000000 in
set_option maxRecDepth 100000 in
theorem start_amb {p : Program} {s : State} {m : MethodId} {meth : Method} {c : Code} {b L : Nat} {xs : Nat → Int32} (C0 : lw_At p s m meth c b L xs) : ∃ (D : va_G) (cs : ClassId × ClassId × ClassId × ClassId) (t sa : Nat → Nat), ∀ ad : Nat → Nat, qAmb (D, cs, ad, s.heap.size, t, sa) s := by
  obtain ⟨hx, hb, hr, hml, hown, hts, hX, hbl, hlocks, hgv⟩ := id C0
  have hs := flat_of_before _ hgv
  have hA : ∀ a : Nat, a < s.heap.size → ¬ (fun q : Nat => s.heap.size ≤ q) a := fun a h => Nat.not_le.mpr h
  obtain ⟨d0, i0, k0⟩ := u_known (C := RX0) (T := TX0) (N := 13) (n := 13) hts (qinl qin_X0) (hts (.instantiable RX0 13) (by decide +kernel))
  obtain ⟨d1, i1, k1⟩ := u_known (C := RX1) (T := TX1) (N := 5) (n := 5) hts (qinl qin_X1) (hts (.instantiable RX1 5) (by decide +kernel))
  obtain ⟨d2, i2, k2⟩ := u_known (C := RX2) (T := TX2) (N := 9) (n := 9) hts (qinl qin_X2) (hts (.instantiable RX2 9) (by decide +kernel))
  obtain ⟨d3, i3, k3⟩ := u_known (C := RX3) (T := TX3) (N := 9) (n := 9) hts (qinl qin_X3) (hts (.instantiable RX3 9) (by decide +kernel))
  obtain ⟨d4, i4, k4⟩ := u_known (C := RX4) (T := TX4) (N := 26) (n := 26) hts (qinl qin_X4) (hts (.instantiable RX4 26) (by decide +kernel))
  obtain ⟨cI, eI⟩ := qArrI (hts (.arrayClass .int) (by decide +kernel))
  obtain ⟨cZ, eZ⟩ := qArrZ (hts (.arrayClass .boolean) (by decide +kernel))
  obtain ⟨cL, eL⟩ := qArrL (hts (.arrayClass .long) (by decide +kernel))
  obtain ⟨cQ, eQ⟩ := qArrQ (hts (.arrayOver (.object "AxleScale$Recording")) (by decide +kernel))
  obtain ⟨t0, e0, v0⟩ := va_Tof (args := #[Value.ref b]) (s := s) (tm := (.static "AxleScale" "FIRST_SETTINGS" "[I")) (ty := .int) (N := 4) (f := qF0) (A := fun q : Nat => s.heap.size ≤ q) (by decide) (hs _ (by decide +kernel)) (va_eqt (hs (Cond.eq (.length (.static "AxleScale" "FIRST_SETTINGS" "[I")) (.int 4)) (by decide +kernel))) (fun j hj => by
    match j, hj with
    | 0, _ => exact va_eqt (hs (Cond.eq (.elem (.static "AxleScale" "FIRST_SETTINGS" "[I") (.int 0)) (.int 4)) (by decide +kernel))
    | 1, _ => exact va_eqt (hs (Cond.eq (.elem (.static "AxleScale" "FIRST_SETTINGS" "[I") (.int 1)) (.int 6)) (by decide +kernel))
    | 2, _ => exact va_eqt (hs (Cond.eq (.elem (.static "AxleScale" "FIRST_SETTINGS" "[I") (.int 2)) (.int 15)) (by decide +kernel))
    | 3, _ => exact va_eqt (hs (Cond.eq (.elem (.static "AxleScale" "FIRST_SETTINGS" "[I") (.int 3)) (.int 40)) (by decide +kernel))
    | j + 4, h => omega) hA
  have z0 := va_Zref (hts (.laysStatic "AxleScale" "FIRST_SETTINGS" "[I") (by decide +kernel)) (hts (.initialized "AxleScale") (by decide +kernel)) e0 hA
  obtain ⟨t1, e1, v1⟩ := va_Tof (args := #[Value.ref b]) (s := s) (tm := (.static "AxleScale" "LEAST_SETTINGS" "[I")) (ty := .int) (N := 4) (f := qF1) (A := fun q : Nat => s.heap.size ≤ q) (by decide) (hs _ (by decide +kernel)) (va_eqt (hs (Cond.eq (.length (.static "AxleScale" "LEAST_SETTINGS" "[I")) (.int 4)) (by decide +kernel))) (fun j hj => by
    match j, hj with
    | 0, _ => exact va_eqt (hs (Cond.eq (.elem (.static "AxleScale" "LEAST_SETTINGS" "[I") (.int 0)) (.int 1)) (by decide +kernel))
    | 1, _ => exact va_eqt (hs (Cond.eq (.elem (.static "AxleScale" "LEAST_SETTINGS" "[I") (.int 1)) (.int 1)) (by decide +kernel))
    | 2, _ => exact va_eqt (hs (Cond.eq (.elem (.static "AxleScale" "LEAST_SETTINGS" "[I") (.int 2)) (.int 0)) (by decide +kernel))
    | 3, _ => exact va_eqt (hs (Cond.eq (.elem (.static "AxleScale" "LEAST_SETTINGS" "[I") (.int 3)) (.int 2)) (by decide +kernel))
    | j + 4, h => omega) hA
  have z1 := va_Zref (hts (.laysStatic "AxleScale" "LEAST_SETTINGS" "[I") (by decide +kernel)) (hts (.initialized "AxleScale") (by decide +kernel)) e1 hA
  obtain ⟨t2, e2, v2⟩ := va_Tof (args := #[Value.ref b]) (s := s) (tm := (.static "AxleScale" "MOST_SETTINGS" "[I")) (ty := .int) (N := 4) (f := qF2) (A := fun q : Nat => s.heap.size ≤ q) (by decide) (hs _ (by decide +kernel)) (va_eqt (hs (Cond.eq (.length (.static "AxleScale" "MOST_SETTINGS" "[I")) (.int 4)) (by decide +kernel))) (fun j hj => by
    match j, hj with
    | 0, _ => exact va_eqt (hs (Cond.eq (.elem (.static "AxleScale" "MOST_SETTINGS" "[I") (.int 0)) (.int 20)) (by decide +kernel))
    | 1, _ => exact va_eqt (hs (Cond.eq (.elem (.static "AxleScale" "MOST_SETTINGS" "[I") (.int 1)) (.int 40)) (by decide +kernel))
    | 2, _ => exact va_eqt (hs (Cond.eq (.elem (.static "AxleScale" "MOST_SETTINGS" "[I") (.int 2)) (.int 60)) (by decide +kernel))
    | 3, _ => exact va_eqt (hs (Cond.eq (.elem (.static "AxleScale" "MOST_SETTINGS" "[I") (.int 3)) (.int 60)) (by decide +kernel))
    | j + 4, h => omega) hA
  have z2 := va_Zref (hts (.laysStatic "AxleScale" "MOST_SETTINGS" "[I") (by decide +kernel)) (hts (.initialized "AxleScale") (by decide +kernel)) e2 hA
  have u0 := vx_Zqof (args := #[Value.ref b]) (s := s) (C := Bundle.tN) (n := "UNASSIGNED_STACK") (d := Bundle.steD) (A := fun q : Nat => s.heap.size ≤ q) (hts _ (by decide +kernel)) (hts _ (by decide +kernel)) (hs _ (by decide +kernel)) hA
  have u1 := vx_Zqof (args := #[Value.ref b]) (s := s) (C := Bundle.tN) (n := "SUPPRESSED_SENTINEL") (d := Bundle.listD) (A := fun q : Nat => s.heap.size ≤ q) (hts _ (by decide +kernel)) (hts _ (by decide +kernel)) (hs _ (by decide +kernel)) hA
  have n0 : va_Nc "java/lang/IllegalStateException" "java/lang/IllegalArgumentException" s := va_Nc.of (hs _ (by decide +kernel))
  have n1 : va_Nc "java/lang/IllegalArgumentException" "java/lang/IndexOutOfBoundsException" s := va_Nc.of (hs _ (by decide +kernel))
  have n2 : va_Nc "java/lang/IllegalStateException" "java/lang/IndexOutOfBoundsException" s := va_Nc.of (hs _ (by decide +kernel))
  refine ⟨(fun k => [d0, d1, d2, d3, d4].getD k d0, fun k => [i0, i1, i2, i3, i4].getD k i0), (cI, cZ, cL, cQ), fun k => [t0, t1, t2].getD k 0, qsaf s, fun ad => ⟨⟨?_, ?_⟩, Nat.le_refl _, fun w hw => va_Nw.of (qNw_ot (List.mem_filter.mp hw).2) (hts w (List.mem_filter.mp hw).1), ⟨z0, z1, z2⟩, ⟨v0, v1, v2⟩, ⟨u0, u1⟩, ?_, n0, n1, n2⟩⟩
  · intro k q hq
    match k, hq with
    | 0, hq => cases hq; exact k0
    | 1, hq => cases hq; exact k1
    | 2, hq => cases hq; exact k2
    | 3, hq => cases hq; exact k3
    | 4, hq => cases hq; exact k4
    | k + 5, hq => cases hq
  · intro k q hq
    match k, hq with
    | 0, hq => cases hq; exact eI
    | 1, hq => cases hq; exact eZ
    | 2, hq => cases hq; exact eL
    | 3, hq => cases hq; exact eQ
    | k + 4, hq => cases hq
  · intro q hq
    obtain ⟨a, c9, cell, k, h1, -⟩ := Cond.exactly_spec (hs _ (qstr_ex q hq))
    have h2 : (Term.string RX3 q.1).eval #[] s none [] s = some (.ref a) := h1
    have h3 : qsaf s q.1 = a := by unfold qsaf; rw [h2]
    show vk_R RX3 q.1 q.2 (qsaf s q.1) s
    rw [h3]
    exact vk_R.of (hts _ (qstr_in q hq)) h2
theorem arrV_cg {cI : ClassId} {N : Nat} {f f' : Nat → Value} (h : ∀ j, j < N → f j = f' j) : arrV cI N f = arrV cI N f' := by
  unfold arrV
  rw [show (fun j : Fin N => f j.val) = (fun j : Fin N => f' j.val) from funext fun j => h j.val j.isLt]
theorem qlst {α : Type} (d : α) : ∀ (n : Nat) (bs : List α), bs.length = n → bs = (List.range n).map (fun k => bs.getD k d) := by
  intro n bs h
  apply List.ext_getElem?
  intro i
  by_cases hi : i < n
  · rw [List.getElem?_map, List.getElem?_range hi]
    have h9 : i < bs.length := by omega
    show bs[i]? = some (bs.getD i d)
    rw [List.getD_eq_getElem?_getD, List.getElem?_eq_getElem h9]
    rfl
  · rw [List.getElem?_eq_none (by omega), List.getElem?_eq_none (by rw [List.length_map, List.length_range]; omega)]
theorem qall {P : Nat → Prop} {n : Nat} (h : ∀ q : Nat, q < n → P q) (hn : P n) : ∀ q : Nat, q < n + 1 → P q := fun q hq => by
  rcases Nat.lt_or_ge q n with h1 | h1
  · exact h q h1
  · rw [show q = n by omega]; exact hn
def qix (p : Nat) : Nat := ([0, 1, 2, 3, 4, 5, 6, 7, 8, 9, 10, 11, 12, 13, 14, 15, 16, 17, 18, 19, 20, 21, 22, 23, 24, 25, 26, 27, 98, 109, 28, 29, 30, 31, 32, 33, 34, 35, 36, 37, 38, 39, 40, 41, 42, 43, 44, 45, 46, 47, 48, 49, 50, 51, 52, 53, 54, 55, 56, 57, 58, 59, 60, 61, 62, 63, 64, 65, 66, 67, 68, 69, 70, 71, 72, 73, 74, 75, 76, 77, 78, 79, 80, 81, 82, 83, 84, 85, 86, 87, 88, 89, 90, 91, 92, 93, 94, 95, 96, 97, 99, 100, 101, 102, 103, 104, 105, 106, 107, 108, 110, 111, 112, 113, 114, 115, 116, 117, 118, 119, 120, 121, 122, 123, 124, 125, 126, 127] : List Nat).getD p 0
def qxi (p : Nat) : Nat := ([0, 1, 2, 3, 4, 5, 6, 7, 8, 9, 10, 11, 12, 13, 14, 15, 16, 17, 18, 19, 20, 21, 22, 23, 24, 25, 26, 27, 30, 31, 32, 33, 34, 35, 36, 37, 38, 39, 40, 41, 42, 43, 44, 45, 46, 47, 48, 49, 50, 51, 52, 53, 54, 55, 56, 57, 58, 59, 60, 61, 62, 63, 64, 65, 66, 67, 68, 69, 70, 71, 72, 73, 74, 75, 76, 77, 78, 79, 80, 81, 82, 83, 84, 85, 86, 87, 88, 89, 90, 91, 92, 93, 94, 95, 96, 97, 98, 99, 28, 100, 101, 102, 103, 104, 105, 106, 107, 108, 109, 29, 110, 111, 112, 113, 114, 115, 116, 117, 118, 119, 120, 121, 122, 123, 124, 125, 126, 127] : List Nat).getD p 0
theorem qix_inv : ∀ p, p < 128 → qxi (qix p) = p := by decide +kernel
def qads (a t u v r d : Nat → Nat) (bf cf : Nat → Nat → Nat) (q3 : Nat) : Nat → Nat := fun p => ([a 0, t 0, t 1, t 2, t 3, t 4, t 5, u 0, u 1, u 2, u 3, u 4, v 0, v 1, v 2, v 3, v 4, r 0, r 1, r 2, r 3, r 4, r 5, r 6, r 7, r 8, r 9, a 1, a 2, a 3, bf 0 0, bf 0 1, bf 0 2, bf 0 3, bf 0 4, bf 1 0, bf 1 1, bf 1 2, bf 1 3, bf 1 4, bf 2 0, bf 2 1, bf 2 2, bf 2 3, bf 2 4, bf 3 0, bf 3 1, bf 3 2, bf 3 3, bf 3 4, bf 4 0, bf 4 1, bf 4 2, bf 4 3, bf 4 4, bf 5 0, bf 5 1, bf 5 2, bf 5 3, bf 5 4, bf 6 0, bf 6 1, bf 6 2, bf 6 3, bf 6 4, bf 7 0, bf 7 1, bf 7 2, bf 7 3, bf 7 4, bf 8 0, bf 8 1, bf 8 2, bf 8 3, bf 8 4, bf 9 0, bf 9 1, bf 9 2, bf 9 3, bf 9 4, bf 10 0, bf 10 1, bf 10 2, bf 10 3, bf 10 4, bf 11 0, bf 11 1, bf 11 2, bf 11 3, bf 11 4, bf 12 0, bf 12 1, bf 12 2, bf 12 3, bf 12 4, bf 13 0, bf 13 1, bf 13 2, bf 13 3, bf 13 4, cf 0 0, cf 0 1, cf 0 2, cf 0 3, cf 0 4, cf 1 0, cf 1 1, cf 1 2, cf 1 3, cf 1 4, d 0, d 1, d 2, d 3, d 4, d 5, d 6, d 7, d 8, d 9, d 10, d 11, d 12, d 13, d 14, d 15, d 16, q3] : List Nat).getD p 0
def qWl (g : qG) (a t u v r d : Nat → Nat) (bf cf : Nat → Nat → Nat) (q3 : Nat) : va_W := ((([] : va_W) ++ qX3w g a t u v r ((List.range 14).map bf) ((List.range 2).map cf)) ++ qX4w g d) ++ [(q3, .inl (qcL g, 1, .inr (.inl (qla (fun _ => 0)))))]
set_option maxHeartbeats 8000000 in
set_option maxRecDepth 100000 in
theorem start_cells {D : va_G} {cs : ClassId × ClassId × ClassId × ClassId} {z tt sa : Nat → Nat} {B : Nat} (a t u v r d : Nat → Nat) (bf cf : Nat → Nat → Nat) (q3 : Nat) : ∀ q : Nat, q < 128 → (fun p => ∃ e : va_E, (qWl (D, cs, z, B, tt, sa) a t u v r d bf cf q3)[qix p]? = some (qads a t u v r d bf cf q3 p, e) ∧ ∀ H : Heap, va_at D qcls (qads a t u v r d bf cf q3 p, e) H → va_at D qcls (qads a t u v r d bf cf q3 p, qcell (D, cs, qads a t u v r d bf cf q3, B, tt, sa) p (qS0 p)) H) q := by
  have h27 : ∀ j : Nat, j < 14 → va_rf (qRf ((List.range 14).map bf) j) = va_rf (qst (D, cs, qads a t u v r d bf cf q3, B, tt, sa) j) := fun j hj => by
    match j, hj with
    | 0, _ => rfl
    | 1, _ => rfl
    | 2, _ => rfl
    | 3, _ => rfl
    | 4, _ => rfl
    | 5, _ => rfl
    | 6, _ => rfl
    | 7, _ => rfl
    | 8, _ => rfl
    | 9, _ => rfl
    | 10, _ => rfl
    | 11, _ => rfl
    | 12, _ => rfl
    | 13, _ => rfl
    | j + 14, h => exact absurd h (by omega)
  have h28 : ∀ j : Nat, j < 2 → va_rf (qRf ((List.range 2).map cf) j) = va_rf (qsl (D, cs, qads a t u v r d bf cf q3, B, tt, sa) j) := fun j hj => by
    match j, hj with
    | 0, _ => rfl
    | 1, _ => rfl
    | j + 2, h => exact absurd h (by omega)
  have g0 : ∀ q : Nat, q < 0 → (fun p => ∃ e : va_E, (qWl (D, cs, z, B, tt, sa) a t u v r d bf cf q3)[qix p]? = some (qads a t u v r d bf cf q3 p, e) ∧ ∀ H : Heap, va_at D qcls (qads a t u v r d bf cf q3 p, e) H → va_at D qcls (qads a t u v r d bf cf q3 p, qcell (D, cs, qads a t u v r d bf cf q3, B, tt, sa) p (qS0 p)) H) q := fun q hq => absurd hq (Nat.not_lt_zero q)
  have g1 := qall g0 ⟨_, rfl, fun _ h => h⟩
  have g2 := qall g1 ⟨_, rfl, fun _ h => h⟩
  have g3 := qall g2 ⟨_, rfl, fun _ h => h⟩
  have g4 := qall g3 ⟨_, rfl, fun _ h => h⟩
  have g5 := qall g4 ⟨_, rfl, fun _ h => h⟩
  have g6 := qall g5 ⟨_, rfl, fun _ h => h⟩
  have g7 := qall g6 ⟨_, rfl, fun _ h => h⟩
  have g8 := qall g7 ⟨_, rfl, fun _ h => h⟩
  have g9 := qall g8 ⟨_, rfl, fun _ h => h⟩
  have g10 := qall g9 ⟨_, rfl, fun _ h => h⟩
  have g11 := qall g10 ⟨_, rfl, fun _ h => h⟩
  have g12 := qall g11 ⟨_, rfl, fun _ h => h⟩
  have g13 := qall g12 ⟨_, rfl, fun _ h => h⟩
  have g14 := qall g13 ⟨_, rfl, fun _ h => h⟩
  have g15 := qall g14 ⟨_, rfl, fun _ h => h⟩
  have g16 := qall g15 ⟨_, rfl, fun _ h => h⟩
  have g17 := qall g16 ⟨_, rfl, fun _ h => h⟩
  have g18 := qall g17 ⟨_, rfl, fun _ h => h⟩
  have g19 := qall g18 ⟨_, rfl, fun _ h => h⟩
  have g20 := qall g19 ⟨_, rfl, fun _ h => h⟩
  have g21 := qall g20 ⟨_, rfl, fun _ h => h⟩
  have g22 := qall g21 ⟨_, rfl, fun _ h => h⟩
  have g23 := qall g22 ⟨_, rfl, fun _ h => h⟩
  have g24 := qall g23 ⟨_, rfl, fun _ h => h⟩
  have g25 := qall g24 ⟨_, rfl, fun _ h => h⟩
  have g26 := qall g25 ⟨_, rfl, fun _ h => h⟩
  have g27 := qall g26 ⟨_, rfl, fun _ h => h⟩
  have g28 := qall g27 ⟨_, rfl, fun H h => (show H[qads a t u v r d bf cf q3 27]? = some (arrV cs.2.2.2 14 (fun j => va_rf (qst (D, cs, qads a t u v r d bf cf q3, B, tt, sa) j))) from (show H[qads a t u v r d bf cf q3 27]? = some (arrV cs.2.2.2 14 (fun j => va_rf (qRf ((List.range 14).map bf) j))) from h).trans (congrArg some (arrV_cg (fun j hj => (h27 j hj)))))⟩
  have g29 := qall g28 ⟨_, rfl, fun H h => (show H[qads a t u v r d bf cf q3 28]? = some (arrV cs.2.2.2 2 (fun j => va_rf (qsl (D, cs, qads a t u v r d bf cf q3, B, tt, sa) j))) from (show H[qads a t u v r d bf cf q3 28]? = some (arrV cs.2.2.2 2 (fun j => va_rf (qRf ((List.range 2).map cf) j))) from h).trans (congrArg some (arrV_cg (fun j hj => (h28 j hj)))))⟩
  have g30 := qall g29 ⟨_, rfl, fun _ h => h⟩
  have g31 := qall g30 ⟨_, rfl, fun _ h => h⟩
  have g32 := qall g31 ⟨_, rfl, fun _ h => h⟩
  have g33 := qall g32 ⟨_, rfl, fun _ h => h⟩
  have g34 := qall g33 ⟨_, rfl, fun _ h => h⟩
  have g35 := qall g34 ⟨_, rfl, fun _ h => h⟩
  have g36 := qall g35 ⟨_, rfl, fun _ h => h⟩
  have g37 := qall g36 ⟨_, rfl, fun _ h => h⟩
  have g38 := qall g37 ⟨_, rfl, fun _ h => h⟩
  have g39 := qall g38 ⟨_, rfl, fun _ h => h⟩
  have g40 := qall g39 ⟨_, rfl, fun _ h => h⟩
  have g41 := qall g40 ⟨_, rfl, fun _ h => h⟩
  have g42 := qall g41 ⟨_, rfl, fun _ h => h⟩
  have g43 := qall g42 ⟨_, rfl, fun _ h => h⟩
  have g44 := qall g43 ⟨_, rfl, fun _ h => h⟩
  have g45 := qall g44 ⟨_, rfl, fun _ h => h⟩
  have g46 := qall g45 ⟨_, rfl, fun _ h => h⟩
  have g47 := qall g46 ⟨_, rfl, fun _ h => h⟩
  have g48 := qall g47 ⟨_, rfl, fun _ h => h⟩
  have g49 := qall g48 ⟨_, rfl, fun _ h => h⟩
  have g50 := qall g49 ⟨_, rfl, fun _ h => h⟩
  have g51 := qall g50 ⟨_, rfl, fun _ h => h⟩
  have g52 := qall g51 ⟨_, rfl, fun _ h => h⟩
  have g53 := qall g52 ⟨_, rfl, fun _ h => h⟩
  have g54 := qall g53 ⟨_, rfl, fun _ h => h⟩
  have g55 := qall g54 ⟨_, rfl, fun _ h => h⟩
  have g56 := qall g55 ⟨_, rfl, fun _ h => h⟩
  have g57 := qall g56 ⟨_, rfl, fun _ h => h⟩
  have g58 := qall g57 ⟨_, rfl, fun _ h => h⟩
  have g59 := qall g58 ⟨_, rfl, fun _ h => h⟩
  have g60 := qall g59 ⟨_, rfl, fun _ h => h⟩
  have g61 := qall g60 ⟨_, rfl, fun _ h => h⟩
  have g62 := qall g61 ⟨_, rfl, fun _ h => h⟩
  have g63 := qall g62 ⟨_, rfl, fun _ h => h⟩
  have g64 := qall g63 ⟨_, rfl, fun _ h => h⟩
  have g65 := qall g64 ⟨_, rfl, fun _ h => h⟩
  have g66 := qall g65 ⟨_, rfl, fun _ h => h⟩
  have g67 := qall g66 ⟨_, rfl, fun _ h => h⟩
  have g68 := qall g67 ⟨_, rfl, fun _ h => h⟩
  have g69 := qall g68 ⟨_, rfl, fun _ h => h⟩
  have g70 := qall g69 ⟨_, rfl, fun _ h => h⟩
  have g71 := qall g70 ⟨_, rfl, fun _ h => h⟩
  have g72 := qall g71 ⟨_, rfl, fun _ h => h⟩
  have g73 := qall g72 ⟨_, rfl, fun _ h => h⟩
  have g74 := qall g73 ⟨_, rfl, fun _ h => h⟩
  have g75 := qall g74 ⟨_, rfl, fun _ h => h⟩
  have g76 := qall g75 ⟨_, rfl, fun _ h => h⟩
  have g77 := qall g76 ⟨_, rfl, fun _ h => h⟩
  have g78 := qall g77 ⟨_, rfl, fun _ h => h⟩
  have g79 := qall g78 ⟨_, rfl, fun _ h => h⟩
  have g80 := qall g79 ⟨_, rfl, fun _ h => h⟩
  have g81 := qall g80 ⟨_, rfl, fun _ h => h⟩
  have g82 := qall g81 ⟨_, rfl, fun _ h => h⟩
  have g83 := qall g82 ⟨_, rfl, fun _ h => h⟩
  have g84 := qall g83 ⟨_, rfl, fun _ h => h⟩
  have g85 := qall g84 ⟨_, rfl, fun _ h => h⟩
  have g86 := qall g85 ⟨_, rfl, fun _ h => h⟩
  have g87 := qall g86 ⟨_, rfl, fun _ h => h⟩
  have g88 := qall g87 ⟨_, rfl, fun _ h => h⟩
  have g89 := qall g88 ⟨_, rfl, fun _ h => h⟩
  have g90 := qall g89 ⟨_, rfl, fun _ h => h⟩
  have g91 := qall g90 ⟨_, rfl, fun _ h => h⟩
  have g92 := qall g91 ⟨_, rfl, fun _ h => h⟩
  have g93 := qall g92 ⟨_, rfl, fun _ h => h⟩
  have g94 := qall g93 ⟨_, rfl, fun _ h => h⟩
  have g95 := qall g94 ⟨_, rfl, fun _ h => h⟩
  have g96 := qall g95 ⟨_, rfl, fun _ h => h⟩
  have g97 := qall g96 ⟨_, rfl, fun _ h => h⟩
  have g98 := qall g97 ⟨_, rfl, fun _ h => h⟩
  have g99 := qall g98 ⟨_, rfl, fun _ h => h⟩
  have g100 := qall g99 ⟨_, rfl, fun _ h => h⟩
  have g101 := qall g100 ⟨_, rfl, fun _ h => h⟩
  have g102 := qall g101 ⟨_, rfl, fun _ h => h⟩
  have g103 := qall g102 ⟨_, rfl, fun _ h => h⟩
  have g104 := qall g103 ⟨_, rfl, fun _ h => h⟩
  have g105 := qall g104 ⟨_, rfl, fun _ h => h⟩
  have g106 := qall g105 ⟨_, rfl, fun _ h => h⟩
  have g107 := qall g106 ⟨_, rfl, fun _ h => h⟩
  have g108 := qall g107 ⟨_, rfl, fun _ h => h⟩
  have g109 := qall g108 ⟨_, rfl, fun _ h => h⟩
  have g110 := qall g109 ⟨_, rfl, fun _ h => h⟩
  have g111 := qall g110 ⟨_, rfl, fun _ h => h⟩
  have g112 := qall g111 ⟨_, rfl, fun _ h => h⟩
  have g113 := qall g112 ⟨_, rfl, fun _ h => h⟩
  have g114 := qall g113 ⟨_, rfl, fun _ h => h⟩
  have g115 := qall g114 ⟨_, rfl, fun _ h => h⟩
  have g116 := qall g115 ⟨_, rfl, fun _ h => h⟩
  have g117 := qall g116 ⟨_, rfl, fun _ h => h⟩
  have g118 := qall g117 ⟨_, rfl, fun _ h => h⟩
  have g119 := qall g118 ⟨_, rfl, fun _ h => h⟩
  have g120 := qall g119 ⟨_, rfl, fun _ h => h⟩
  have g121 := qall g120 ⟨_, rfl, fun _ h => h⟩
  have g122 := qall g121 ⟨_, rfl, fun _ h => h⟩
  have g123 := qall g122 ⟨_, rfl, fun _ h => h⟩
  have g124 := qall g123 ⟨_, rfl, fun _ h => h⟩
  have g125 := qall g124 ⟨_, rfl, fun _ h => h⟩
  have g126 := qall g125 ⟨_, rfl, fun _ h => h⟩
  have g127 := qall g126 ⟨_, rfl, fun _ h => h⟩
  have g128 := qall g127 ⟨_, rfl, fun _ h => h⟩
  exact g128
set_option maxHeartbeats 8000000 in
set_option maxRecDepth 100000 in
theorem start_of {p : Program} {e : Env} {s : State} {m : MethodId} {below : List Frame} {meth : Method} {c : Code} (l : Launch) (hl9 : l.stackTraces = false) {b L : Nat} {xs : Nat → Int32} (hL : L ≤ 2048) (n9 : Nat) (hm : ML_law n9 L xs 600 qS0 0 = some ()) (C0 : lw_At p s m meth c b L xs) : W p l e room_1 s m #[Value.ref b] below meth c s.heap [] 0 0 (lw_Z below #[Value.ref b] s) (entryFrame m ([Value.ref b] : List Value).toArray 7) := by
  obtain ⟨D, cs, tt, sa, hamb⟩ := start_amb C0
  obtain ⟨hx, hb, hr, hml, hown, hts, hX, hbl, hlocks, hgv⟩ := id C0
  have C : qCv (D, cs, fun _ => 0, s.heap.size, tt, sa) p s m #[Value.ref b] meth c (fun q : Nat => s.heap.size ≤ q) RL cL_law 7 := ⟨hx, hb, hml, hown, fun w hw => hts w (List.mem_filter.mp hw).1, hamb (fun _ => 0), hlocks, fun q h => h, fun q h => h, va_AO.of (hts _ (by decide +kernel))⟩
  have hl := lv_entry ([.ref b]) (n := 7) (Nat.le_of_ble_eq_true rfl)
  rw [lg_entry_eq]
  generalize (lg_sl ([.ref b]) ++ List.replicate (7 - (lg_sl ([.ref b])).length) Slot.unset).toArray = ls at hl ⊢
  have hl : lv_has ls 7 [(0, .ref b)] := hl
  refine (?_ : qV (D, cs, fun _ => 0, s.heap.size, tt, sa) p l e room_1 s m #[Value.ref b] below meth c (lw_Z below #[Value.ref b] s) 7 (fun q : Nat => s.heap.size ≤ q) [] [(0, .ref b)] 0 [] 0 0) s.heap [] ls (fun k q h => by simp at h) ⟨fun i j p q h => by simp at h, fun k q h => by simp at h⟩ va_S.rf hl
  refine v_new (ci := 3) (Cn := RX3) (T := TX3) (fs := [.null, .null, .null, .null, .null, .null, .null, .int (qI 0), .int (qI 0)]) C rfl qin_X3 tyX3_ok (qin3 (qAWi 71 (by decide +kernel) (by decide +kernel)) (qAWi 72 (by decide +kernel) (by decide +kernel)) (qAWi 59 (by decide +kernel) (by decide +kernel))) (by decide +kernel) (by decide) dL_law_0 (fun q => ?_)
  refine v_dup C dL_law_3 rfl ?_
  refine v_callI (y := yX3_init) (W0 := []) C (ctor_X3 l _ q) rfl (qin4 (qAWi 75 (by decide +kernel) (by decide +kernel)) (qAWi 59 (by decide +kernel) (by decide +kernel)) (qAWi 73 (by decide +kernel) (by decide +kernel)) (qAWi 74 (by decide +kernel) (by decide +kernel))) rfl (by decide +kernel) (by decide) (by decide) (Nat.le_of_ble_eq_true rfl) dL_law_4 (fun w1 hw1 => ?_)
  obtain ⟨a, t, u, v, r, bs, cs9, hbs, hcs, rfl, rfl⟩ := hw1
  refine v_astore_n (L' := [(1, .ref (a 0)), (0, .ref b)]) C dL_law_7 (by decide) rfl ?_
  refine v_new (ci := 4) (Cn := RX4) (T := TX4) (fs := [.int (qI 0), .null, .int (qI 0), .int (qI 0), .int (qI 0), .null, .null, .int (qI 0), .null, .null, .null, .int (qI 0), .null, .null, .null, .int (qI 0), .null, .null, .null, .null, .null, .null, .int (qI 0), .null, .int (qI 0), .int (qI 0)]) C rfl qin_X4 tyX4_ok (qin3 (qAWi 753 (by decide +kernel) (by decide +kernel)) (qAWi 754 (by decide +kernel) (by decide +kernel)) (qAWi 63 (by decide +kernel) (by decide +kernel))) (by decide +kernel) (by decide) dL_law_8 (fun q => ?_)
  refine v_dup C dL_law_11 rfl ?_
  refine v_callI (y := yX4_init) C (ctor_X4 l _ q) rfl (qin4 (qAWi 757 (by decide +kernel) (by decide +kernel)) (qAWi 63 (by decide +kernel) (by decide +kernel)) (qAWi 755 (by decide +kernel) (by decide +kernel)) (qAWi 756 (by decide +kernel) (by decide +kernel))) rfl (by decide +kernel) (by decide) (by decide) (Nat.le_of_ble_eq_true rfl) dL_law_12 (fun w1 hw1 => ?_)
  obtain ⟨d, rfl, rfl⟩ := hw1
  refine v_astore_n (L' := [(2, .ref (d 0)), (1, .ref (a 0)), (0, .ref b)]) C dL_law_15 (by decide) rfl ?_
  refine v_iconst (x := 1) C dL_law_16 rfl ?_
  refine v_newaL (N := 1) C rfl (by decide) (qAWi 1165 (by decide +kernel) (by decide +kernel)) (by decide) dL_law_17 (fun q3 => ?_)
  refine v_astore_n (L' := [(3, .ref q3), (2, .ref (d 0)), (1, .ref (a 0)), (0, .ref b)]) C dL_law_19 (by decide) rfl ?_
  refine v_iconst (x := 0) C dL_law_20 rfl ?_
  refine v_istore (L' := [(4, .int (qI 0)), (3, .ref q3), (2, .ref (d 0)), (1, .ref (a 0)), (0, .ref b)]) C dL_law_21 (by decide) rfl ?_
  refine v_sub (L' := [(0, .ref b), (1, .ref (a 0)), (2, .ref (d 0)), (3, .ref q3), (4, .int (qI 0))]) [4, 3, 2, 1, 0] rfl ?_
  intro H locs ls9 hP hD hS hl
  have ebs := qlst (fun _ => 0) 14 bs hbs
  have ecs := qlst (fun _ => 0) 2 cs9 hcs
  generalize (fun k => bs.getD k (fun _ => 0)) = bf at ebs
  generalize (fun k => cs9.getD k (fun _ => 0)) = cf at ecs
  subst ebs
  subst ecs
  have hP : va_P D qcls (qWl (D, cs, fun _ => 0, s.heap.size, tt, sa) a t u v r d bf cf q3) H := hP
  have hD : va_D (fun q : Nat => s.heap.size ≤ q) (qWl (D, cs, fun _ => 0, s.heap.size, tt, sa) a t u v r d bf cf q3) := hD
  have hc := start_cells (D := D) (cs := cs) (z := fun _ => 0) (tt := tt) (sa := sa) (B := s.heap.size) a t u v r d bf cf q3
  have hAd : qAd (D, cs, qads a t u v r d bf cf q3, s.heap.size, tt, sa) := by
    refine ⟨fun i j hi hj hij => ?_, fun i hi => ?_⟩
    · obtain ⟨ei, h1, -⟩ := hc i hi
      obtain ⟨ej, h2, -⟩ := hc j hj
      have h3 := hD.1 _ _ _ _ h1 h2 hij
      rw [← qix_inv i hi, ← qix_inv j hj, h3]
    · obtain ⟨ei, h1, -⟩ := hc i hi
      exact hD.2 _ _ h1
  have hPW : va_P D qcls (qW (D, cs, qads a t u v r d bf cf q3, s.heap.size, tt, sa) qS0) H := by
    intro k q hk
    obtain ⟨hk1, rfl⟩ := qW_ok hk
    obtain ⟨ei, h1, h2⟩ := hc k hk1
    exact h2 H (hP _ _ h1)
  have C1 : qC (D, cs, qads a t u v r d bf cf q3, s.heap.size, tt, sa) p l s m #[Value.ref b] meth c RL cL_law 7 := ⟨hx, hb, hml, hown, fun w hw => hts w (List.mem_filter.mp hw).1, hamb _, hAd, hlocks, hl9⟩
  exact met_L_law C1 hr rfl hX hbl (Nat.not_le.mpr hbl) (by omega) n9 600 qS0 0 128 5339 hm (by decide) (by decide) H locs ls9 hPW hS hl
