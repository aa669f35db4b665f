/-- what about answers -/
def qab (R : QR) (w : Int) : Int := if w = 0 then (R.n : Int) else if w = 1 then (qtr R : Int) else if w = 2 then ((qcars R).length : Int) else if w = 3 then (R.n : Int) - 2 * ((qcars R).length : Int) else if w = 4 then qwt R (qcars R) else if w = 5 then qco R (qtr R) else if w = 6 then qcb R true (qtr R) 0 0 else qcb R false (qtr R) 0 0
theorem qab_R {R : QR} (hV : QV R) (w : Int) : qR (qab R w) := by
  have h30 := hV.n30
  have h1 := qtr_le R
  have h2 := qcars_len hV
  have h3 := qwtc_R hV
  have h4 := qco_R hV
  have h5 := qcb_R (R := R) (any := true) (qtr R) 0 0
  have h6 := qcb_R (R := R) (any := false) (qtr R) 0 0
  unfold qab
  repeat' split
  all_goals (constructor <;> omega)
theorem about_c {n9 : Nat} {S : qS} {A : QA} {w : Int} (hn : 2000 ≤ n9) (hw : qR w) (hA : AOk A) (hC : CR S A) : (¬ (0 ≤ w ∧ w ≤ 7) → COp S (ML_about n9 S w) 1 0 A) ∧ ((0 ≤ w ∧ w ≤ 7) → COp S (ML_about n9 S w) 0 (qab A.R w) A) := by
  have hV := hA.1
  have h30 := hV.n30
  have htl := qtr_le A.R
  refine ⟨fun hc => ?_, fun hc => ?_⟩
  · have hx : MX3_about n9 S w = some (Sum.inl "java/lang/IllegalArgumentException", S) := by
      unfold MX3_about
      rw [qg_t hw, ql]
      by_cases h3 : w < 0
      · rw [if_pos h3]
      · rw [if_neg h3, if_neg (by omega)]
    unfold ML_about
    rw [qb_s hx, qyp_l, if_pos rfl]
    exact COp.thr hC (Or.inl rfl)
  · obtain ⟨S1, e1, e2, e3, e4⟩ := plan_c (n9 := n9) (by omega) hA hC
    have hcb : ∀ (any : Bool) (p : Int), (p = if any = true then 0 else 1) → MX3_countBills n9 S1 p = some (qcb A.R any (qtr A.R) 0 0) := fun any p hp => countBills_l_ok (by omega) hV e2.1.1 e3 hp (qtr A.R) n9 0 0 0 rfl (by omega) (by omega)
    have hx : MX3_about n9 S w = some (Sum.inr (qab A.R w), S1) := by
      unfold MX3_about qab
      rw [qg_t hw, ql, if_neg (by omega), if_pos (by omega), qb_s e1, e2.1.1.n, e3.1.1, e3.1.2.1, e3.1.2.2.1, e3.1.2.2.2, qb_s (hcb true 0 rfl), qb_s (hcb false 1 rfl)]
      repeat' split
      all_goals rfl
    unfold ML_about
    rw [qb_s hx, qyp_r, qg_t (qab_R hV w), ql]
    exact COp.ret (S' := S1) e2 e4
theorem about_m {n9 : Nat} {S : qS} {A : QA} {w : Int} (hn : 2000 ≤ n9) (hw : qR w) (hA : AOk A) (hM : MR S A) : (¬ (0 ≤ w ∧ w ≤ 7) → MOp S (MX4_about n9 S w) 1 0 A) ∧ ((0 ≤ w ∧ w ≤ 7) → MOp S (MX4_about n9 S w) 0 (qab A.R w) A) := by
  have hV := hA.1
  have h30 := hV.n30
  have htl := qtr_le A.R
  refine ⟨fun hc => ?_, fun hc => ?_⟩
  · have hx : MX4_about n9 S w = some (0, q2 S 110 0 1) := by
      unfold MX4_about
      rw [qg_t hw, qb_s (in00 hw (by decide) (by decide) hc), qg_t (by decide)]
      simp only [ql, if_true]
      rw [qb_s ref1]
      rfl
    rw [hx]
    exact MOp.no hM (Or.inl rfl)
  · obtain ⟨S1, e1, e2, e3, e4, e5⟩ := plan_m (n9 := n9) (by omega) hA (hM.ref (k := 0))
    have hbb : ∀ (any : Bool) (p : Int), (p = if any = true then 1 else 0) → MX4_badBills n9 S1 p = some (qcb A.R any (qtr A.R) 0 0) := fun any p hp => badBills_l_ok (by omega) hV e2.1 e3 hp (qtr A.R) n9 0 0 0 rfl (by omega) (by omega)
    have h0 : S1 117 (0 : Int).toNat = (A.R.n : Int) := e2.1.n
    have hx : MX4_about n9 S w = some (qab A.R w, S1) := by
      unfold MX4_about qab
      rw [qg_t hw, qb_s (in01 hw (by decide) (by decide) hc), qg_t (by decide)]
      simp only [ql]
      rw [if_neg (by decide), qb_s ref0]
      simp only [if_true]
      rw [qg_t (by decide), qb_s e1, h0, e3.1.1, e3.1.2.1, e3.1.2.2, qg_t (by decide), qg_t (by decide), qb_s (allWeight_ok w117 (by omega) hV e2.1 e3), qb_s (hbb true 1 rfl), qb_s (hbb false 0 rfl)]
      repeat' split
      all_goals rfl
    exact ⟨_, S1, hx, e2, by rw [e5, q2_s], fun _ => rfl, qab_R hV w, fun q j hq => (e4 q j hq).trans (mOut.ref q j hq)⟩
