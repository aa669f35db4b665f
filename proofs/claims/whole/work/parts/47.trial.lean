/-! what is tried -/
theorem q12 : qr2 12 := Or.inr rfl
theorem w118 : wr2 118 := Or.inr rfl
theorem CR.trial {S S' : qS} {A : QA} (h : CR S A) (hH : qH (aRec 12) S S') : CR S' A :=
  h.keep (fun p j hk => hH p j (aRec_r (by unfold cK at hk; simp at hk; omega))) (by rw [hH 19 0 (aRec_r (by omega))]; exact h.1.2)
theorem cOut.trial {S S' : qS} (hH : qH (aRec 12) S S') : cOut S S' := fun p j hp => hH p j (aRec_r (by omega))
theorem MR.trial {S S' : qS} {A : QA} (h : MR S A) (hH : qH (aWm 118) S S') : MR S' A := h.keep (fun p j hk => hH p j (by
  unfold aWm
  rw [mlA_k p j hk]
  unfold mK at hk
  simp at hk ⊢
  omega))
theorem aW_m {w : Nat} {S S' : qS} (h : qH (aW w) S S') : qH (aWm w) S S' := h.mono (fun p j hp => by
  unfold aWm at hp
  unfold aW
  cases hb : mlA p j
  · rw [hb] at hp; exact hp
  · rw [hb] at hp; cases hp)
theorem ml_m {w : Nat} {S S' : qS} (h : qH mlA S S') : qH (aWm w) S S' := h.mono (fun p j hp => by
  unfold aWm at hp
  cases hb : mlA p j
  · rfl
  · rw [hb] at hp; cases hp)
theorem mOut.trial {S S' : qS} (hH : qH (aWm 118) S S') : mOut S S' := fun p j hp => hH p j (by
  unfold aWm
  rw [mlA_o hp]
  simp
  omega)
theorem try_c {n9 : Nat} {S : qS} {A : QA} (hn : 40 ≤ n9) (hA : AOk A) (hC : CR S A) : ∃ S', MX3_copy n9 S 7 12 = some S' ∧ CR S' A ∧ QCr S' 12 A.R ∧ cOut S S' := by
  obtain ⟨S1, e1, e2, e3⟩ := copy_ok (n9 := n9) (S := S) (u0 := 7) (u1 := 12) hn (by decide +kernel) (by decide +kernel) (by omega)
  exact ⟨S1, e1, hC.trial e2, e3 _ hA.1.n30 hC.1.1, cOut.trial e2⟩
theorem try_m {n9 : Nat} {S : qS} {A : QA} (hn : 2000 ≤ n9) (hA : AOk A) (hM : MR S A) : ∃ S', MX4_tryIt n9 S = some S' ∧ MR S' A ∧ QMr S' 118 A.R ∧ mOut S S' ∧ S' 110 0 = S 110 0 := by
  obtain ⟨l1, l2, l3, l4, l5, l6, l7, l8⟩ := l119
  obtain ⟨S1, c1, c2⟩ := mcopy_ok (n9 := n9) (S := S) (u0 := 117) (u2 := 118) (a := 0) (b := 0) (m := 95) (p1 := 0) (p3 := 0) (p4 := 95) l4 l6 (by omega) (by omega) (Or.inl (by decide)) (by omega) (by decide) rfl rfl rfl
  have hH : qH (aW 118) S S1 := fun p j hp => by
    have : p ≠ 118 := by intro e; subst e; simp [aW] at hp
    rw [c2, if_neg (by omega)]
  refine ⟨S1, ?_, hM.trial (aW_m hH), QMo.r (QMo.of hA.1.n30 hM.1.o (fun j hj => ?_)), mOut.trial (aW_m hH), hH 110 0 rfl⟩
  · unfold MX4_tryIt
    rw [qb_s c1]
  · rw [c2, if_pos (by omega)]
    exact congrArg _ (by omega)
/-- the plan of what is tried -/
theorem tplan_c {n9 : Nat} {S : qS} {A : QA} {T : QR} (hn : 40 ≤ n9) (hT : QV T) (hC : CR S A) (hCt : QCr S 12 T) : ∃ S', MX0_workOut n9 S 12 = some S' ∧ CR S' A ∧ QCr S' 12 T ∧ QP S' T ∧ cOut S S' := by
  obtain ⟨S', e1, e2, e3⟩ := workOut_ok (n9 := n9) q12 hT hn hCt hC.1.2
  exact ⟨S', e1, hC.plan e2 e3.z, hCt.pl q12 e2, e3, PL_out e2⟩
theorem tplan_m {n9 : Nat} {S : qS} {A : QA} {T : QR} (hn : 40 ≤ n9) (hT : QV T) (hM : MR S A) (hMt : QMr S 118 T) : ∃ S', MX4_lay n9 S 118 = some S' ∧ MR S' A ∧ QMr S' 118 T ∧ QM S' T ∧ mOut S S' ∧ S' 110 0 = S 110 0 := by
  obtain ⟨S', e1, e2, e3⟩ := lay_ok (n9 := n9) w118 hT hn hMt
  exact ⟨S', e1, hM.keep (fun p j hk => e2 p j (mlA_k p j hk)), hMt.gg (mlA_w w118) e2, e3, fun p j hp => e2 p j (mlA_o hp), e2 110 0 rfl⟩
