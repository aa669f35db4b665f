/-! the operations: what the class does, what the reference does -/
theorem QCr.cg {S S' : qS} {r : Nat} {R : QR} (h : QCr S r R) (e : ∀ q j, r ≤ q → q ≤ r + 4 → S' q j = S q j) : QCr S' r R := by
  have e2 : ∀ q, r ≤ q → q ≤ r + 4 → S' q = S q := fun q a b => funext fun j => e q j a b
  unfold QCr
  rw [e2 r (by omega) (by omega), e2 (r + 1) (by omega) (by omega), e2 (r + 2) (by omega) (by omega), e2 (r + 3) (by omega) (by omega), e2 (r + 4) (by omega) (by omega)]
  exact h
abbrev COp (S : qS) (c : Option (Int × qS)) (k v : Int) (A' : QA) : Prop := ∃ S1, c = some (k, S1) ∧ CR S1 A' ∧ (k = 0 → S1 127 0 = v) ∧ ∀ p j, 110 ≤ p → p < 127 → S1 p j = S p j
abbrev COq (S : qS) (c : Option (Int × qS)) (v : Int) (A' : QA) : Prop := ∃ S1, c = some (v, S1) ∧ CR S1 A' ∧ ∀ p j, 110 ≤ p → S1 p j = S p j
abbrev MOp (S : qS) (m : Option (Int × qS)) (k v : Int) (A' : QA) : Prop := ∃ r S2, m = some (r, S2) ∧ MR S2 A' ∧ S2 110 0 = k ∧ (k = 0 → r = v) ∧ qR r ∧ mOut S S2
theorem MR.ref {S : qS} {A : QA} {k : Int} (h : MR S A) : MR (q2 S 110 0 k) A := h.keep (fun p j hk => q2_ne (fun e => by obtain ⟨rfl, rfl⟩ := e; cases hk))
theorem mOut.ref {S : qS} {k : Int} : mOut S (q2 S 110 0 k) := fun p j hp => q2_p (by omega)
theorem MOp.no {S : qS} {A : QA} {k v : Int} (h : MR S A) (hk : k = 1 ∨ k = 2) : MOp S (some (0, q2 S 110 0 k)) k v A := ⟨0, _, rfl, h.ref, q2_s, fun e => by omega, by decide, mOut.ref⟩
theorem CR.out {S : qS} {A : QA} {v : Int} (h : CR S A) : CR (q2 S 127 (0 : Int).toNat v) A := h.keep (fun p j hk => q2_p (fun e => by subst e; cases hk)) (by rw [q2_p (by decide)]; exact h.1.2)
theorem COp.ret {S S' : qS} {A : QA} {v : Int} (h : CR S' A) (ho : cOut S S') : COp S (some (0, q2 S' 127 (0 : Int).toNat v)) 0 v A := ⟨_, rfl, h.out, fun _ => q2_s, fun p j h1 h2 => by rw [q2_p (by omega)]; exact ho p j h1⟩
theorem COp.thr {S : qS} {A : QA} {k v : Int} (h : CR S A) (hk : k = 1 ∨ k = 2) : COp S (some (k, S)) k v A := ⟨S, rfl, h, fun e => by omega, fun _ _ _ _ => rfl⟩
theorem qyp_l {α : Type} {E : String} {S : qS} {x : String → Option α} {k : Int → Option α} : qy ((Sum.inl E, S) : qO × qS).1 x k = x E := rfl
theorem qyp_r {α : Type} {v : Int} {S : qS} {x : String → Option α} {k : Int → Option α} : qy ((Sum.inr v, S) : qO × qS).1 x k = k v := rfl
theorem ise_iae : ¬ ("java/lang/IllegalStateException" : String) = "java/lang/IllegalArgumentException" := by decide
theorem ise_ioo : ¬ ("java/lang/IllegalStateException" : String) = "java/lang/IndexOutOfBoundsException" := by decide
theorem iae_ioo : ¬ ("java/lang/IllegalArgumentException" : String) = "java/lang/IndexOutOfBoundsException" := by decide
theorem qy_inl {α : Type} {E : String} {x : String → Option α} {k : Int → Option α} : qy (Sum.inl E) x k = x E := rfl
theorem qy_inr {α : Type} {v : Int} {x : String → Option α} {k : Int → Option α} : qy (Sum.inr v) x k = k v := rfl
/-! undo -/
def QA.back (A : QA) (R : QR) (U : List QR) : QA := (R, A.2.1, A.2.2.1, U)
theorem undo_c {n9 : Nat} {S : qS} {A : QA} (hn : 2000 ≤ n9) (hA : AOk A) (hC : CR S A) : (A.U = [] → COp S (ML_undo n9 S) 1 0 A) ∧ ∀ R U, A.U = R :: U → COp S (ML_undo n9 S) 0 (U.length : Int) (A.back R U) := by
  obtain ⟨⟨h1, h2⟩, ⟨h3, h4⟩, h5, h6, h7, h8⟩ := id hC
  have hU := hA.2.2.2.1
  refine ⟨fun he => ?_, fun R U he => ?_⟩
  · have h0 : S 0 8 = 0 := by rw [h7, he]; rfl
    have hx : MX3_undo n9 S = some (Sum.inl "java/lang/IllegalStateException", S) := by
      unfold MX3_undo
      rw [h0, qg_t (by decide), if_pos rfl]
    unfold ML_undo
    rw [qb_s hx, qyp_l, if_pos rfl]
    exact COp.thr hC (Or.inl rfl)
  · rw [he, List.length_cons] at hU
    have h7' : S 0 8 = (U.length : Int) + 1 := by rw [h7, he, List.length_cons]; omega
    obtain ⟨p, hp⟩ : ∃ p : Nat, S 0 7 = (p : Int) := ⟨(S 0 7).toNat, by omega⟩
    have hpn : (S 0 7).toNat = p := by omega
    obtain ⟨p', hp'⟩ : ∃ p' : Nat, p' = (p + 13) % 14 := ⟨_, rfl⟩
    generalize hS6 : q2 (q2 S 0 8 ((U.length : Int) + 1 - 1)) 0 7 (p' : Int) = S6
    have f : ∀ q j, q ≠ 0 → S6 q j = S q j := fun q j hq => by rw [← hS6, q2_p hq, q2_p hq]
    have f7 : S6 0 7 = (p' : Int) := by rw [← hS6, q2_s]
    have f8 : S6 0 8 = (U.length : Int) := by rw [← hS6, q2_j (by decide), q2_s]; omega
    obtain ⟨S1, e1, e2, e3⟩ := copy_ok (n9 := n9) (S := S6) (u0 := 30 + 5 * p') (u1 := 7) (by omega) (k_st (by omega)) (by decide +kernel) (by omega)
    have g : ∀ q j, (q < 7 ∨ 11 < q) → S1 q j = S6 q j := fun q j hq => e2 q j (by unfold aRec; simp; omega)
    have hR := hA.2.2.2.2 R (by rw [he]; exact List.mem_cons_self)
    have hx : MX3_undo n9 S = some (Sum.inr (U.length : Int), S1) := by
      unfold MX3_undo
      rw [h7', qg_t (by constructor <;> omega), if_neg (by omega)]
      simp only [ql]
      rw [q2_j (q := 0) (i := 7) (by decide), hp, qg_t (by omega), show ((p : Int) + 14 - 1) % 14 = (p' : Int) by omega, hS6, f7, qg_t (by omega), toNat_c, qb_s e1, g 0 8 (by omega), f8]
    have h0 := h8 0 R (by rw [he]; rfl)
    rw [hpn, show (p + 13 - 0) % 14 = p' by omega] at h0
    unfold ML_undo
    rw [qb_s hx, qyp_r, qg_t (by constructor <;> omega), ql]
    refine COp.ret (S' := S1) ⟨⟨e3 R hR.n30 (h0.cg (fun q j a b => f q j (by omega))), by rw [g _ _ (by omega), f _ _ (by decide)]; exact h2⟩, ⟨by rw [g _ _ (by omega), f _ _ (by decide)]; exact h3, fun j hj => by rw [g _ _ (by omega), f _ _ (by decide)]; exact h4 j hj⟩, fun k hk => ⟨by rw [g _ _ (by omega), f _ _ (by decide)]; exact (h5 k hk).1, fun Rk hRk => ((h5 k hk).2 Rk hRk).cg (fun q j a b => by rw [g _ _ (by omega), f _ _ (by omega)])⟩, by rw [g 0 7 (by omega), f7]; omega, by rw [g 0 8 (by omega), f8]; rfl, fun i Ri hi => ?_⟩ (fun q j hq => by rw [g _ _ (by omega), f _ _ (by omega)])
    have hi : U[i]? = some Ri := hi
    have h9 := h8 (i + 1) Ri (by rw [he]; exact hi)
    have hil : i < U.length := (List.getElem?_eq_some_iff.mp hi).1
    rw [hpn] at h9
    rw [g 0 7 (by omega), f7, toNat_c, show (p' + 13 - i) % 14 = (p + 13 - (i + 1)) % 14 by omega]
    exact h9.cg (fun q j a b => by rw [g _ _ (by omega), f _ _ (by omega)])
theorem undo_m {n9 : Nat} {S : qS} {A : QA} (hn : 2000 ≤ n9) (hA : AOk A) (hM : MR S A) : (A.U = [] → MOp S (MX4_undo n9 S) 1 0 A) ∧ ∀ R U, A.U = R :: U → MOp S (MX4_undo n9 S) 0 (U.length : Int) (A.back R U) := by
  obtain ⟨h1, ⟨h3, h4⟩, h5, h6, h7⟩ := id hM
  have hU := hA.2.2.2.1
  obtain ⟨l1, l2, l3, l4, l5, l6, l7, l8⟩ := l119
  refine ⟨fun he => ?_, fun R U he => ?_⟩
  · have h0 : S 110 15 = 0 := by rw [h6, he]; rfl
    have hx : MX4_undo n9 S = some (0, q2 S 110 0 1) := by
      unfold MX4_undo
      rw [h0, qg_t (by decide)]
      simp only [ql, if_true]
      rw [qb_s (refused_ok (by decide))]
      rfl
    rw [hx]
    exact MOp.no hM (Or.inl rfl)
  · rw [he, List.length_cons] at hU
    have h6' : S 110 15 = (U.length : Int) + 1 := by rw [h6, he, List.length_cons]; omega
    have hR := hA.2.2.2.2 R (by rw [he]; exact List.mem_cons_self)
    generalize hS8 : q2 (q2 S 110 0 0) 110 15 (U.length : Int) = S8
    have f : ∀ q j, q ≠ 110 → S8 q j = S q j := fun q j hq => by rw [← hS8, q2_p hq, q2_p hq]
    have f15 : S8 110 15 = (U.length : Int) := by rw [← hS8, q2_s]
    obtain ⟨S2, c1, c2⟩ := mcopy_ok (n9 := n9) (S := S8) (u0 := 119) (u2 := 117) (a := 95 * U.length) (b := 0) (m := 95) (p1 := 95 * (S8 110 15)) (p3 := 0) (p4 := 95) l2 l4 (by omega) (by omega) (Or.inl (by decide)) (by omega) (by decide) (by rw [f15]; omega) rfl rfl
    have g : ∀ q j, q ≠ 117 → S2 q j = S8 q j := fun q j hq => by rw [c2, if_neg (by omega)]
    have hx : MX4_undo n9 S = some ((U.length : Int), S2) := by
      unfold MX4_undo
      rw [h6', qg_t (by constructor <;> omega)]
      simp only [ql]
      rw [if_neg (by omega), qb_s (refused_ok (by decide))]
      show qg (qR (if (0 : Int) ≤ 0 then 0 else 1)) _ = _
      rw [qg_t (by decide)]
      show (qb (MX4_copy n9 (q2 (q2 S 110 0 0) 110 15 (((q2 S 110 0 0) 110 15) - 1)) 119 (95 * ((q2 (q2 S 110 0 0) 110 15 (((q2 S 110 0 0) 110 15) - 1)) 110 15)) 117 0 95) fun a10 => some ((a10 110 15), a10)) = _
      rw [q2_j (S := S) (q := 110) (i := 15) (by decide), h6', show (U.length : Int) + 1 - 1 = (U.length : Int) by omega, hS8, qb_s c1, g 110 15 (by decide), f15]
    refine ⟨(U.length : Int), S2, hx, ⟨QMo.r ?_, ⟨by rw [g _ _ (by decide), ← hS8, q2_j (by decide), q2_j (by decide)]; exact h3, fun j hj => by rw [g _ _ (by decide), f _ _ (by decide)]; exact h4 j hj⟩, fun k hk => ⟨by rw [g _ _ (by decide), f _ _ (by decide)]; exact (h5 k hk).1, fun Rk hRk => QMo.of (hA.2.2.1 k hk Rk hRk).n30 ((h5 k hk).2 Rk hRk) (fun j hj => by rw [g _ _ (by decide), f _ _ (by decide)])⟩, by rw [g 110 15 (by decide), f15]; rfl, fun i Ri hi => ?_⟩, by rw [g _ _ (by decide), ← hS8, q2_j (by decide), q2_s], fun _ => rfl, by constructor <;> omega, fun p j hp => by rw [g _ _ (by omega), f _ _ (by omega)]⟩
    · have h9 := h7 0 R (by rw [he]; rfl)
      rw [he, List.length_cons, show U.length + 1 - 1 - 0 = U.length by omega] at h9
      refine QMo.of hR.n30 h9 (fun j hj => ?_)
      rw [c2, if_pos (by omega), f _ _ (by decide)]
      congr 1
      omega
    · have hi : U[i]? = some Ri := hi
      have hil : i < U.length := (List.getElem?_eq_some_iff.mp hi).1
      have h9 := h7 (i + 1) Ri (by rw [he]; exact hi)
      rw [he, List.length_cons, show U.length + 1 - 1 - (i + 1) = U.length - 1 - i by omega] at h9
      show QMo S2 119 (95 * (U.length - 1 - i)) Ri
      exact QMo.of (hA.2.2.2.2 Ri (by rw [he]; exact List.mem_cons_of_mem _ (List.mem_of_getElem? hi))).n30 h9 (fun j hj => by rw [g _ _ (by decide), f _ _ (by decide)])
