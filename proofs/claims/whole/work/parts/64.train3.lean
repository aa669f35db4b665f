/-- what train answers -/
def qtn (R : QR) (t : Nat) (w : Int) : Int := if w = 0 then (qft R t : Int) else if w = 1 then (qft R (t + 1) : Int) - (qft R t : Int) else if w = 2 then ((CGt R t).length : Int) else if w = 3 then qtw R t else if w = 4 then qct R t else if w = 5 then qhw R (CGt R t) (-1) else if w = 6 then qdf R t else if R.bi t = 0 then -1 else R.bi t
theorem qdf_R {R : QR} (hV : QV R) {t : Nat} (ht : t < qtr R) : -1000 ≤ qdf R t ∧ qdf R t ≤ 1000 := by
  have h := qsdf_R hV (CGt R t) (601, -1) (fun i hi => (CGt_to ht hi).2) (by decide) (by decide)
  unfold qdf
  split <;> omega
theorem qtn_R {R : QR} (hV : QV R) {t : Nat} (ht : t < qtr R) (w : Int) : qR (qtn R t w) := by
  have h30 := hV.n30
  have htl := qtr_le R
  have h1 := qft_le R (t := t) (by omega)
  have h2 := qft_le R (t := t + 1) ht
  have h3 := (blk_ok hV ht).2
  have h4 := qtw_R hV ht
  have h5 := qct_R hV ht
  have h6 := qhw_R hV (CGt R t) (-1) (fun i hi => (CGt_to ht hi).2) (by decide) (by decide)
  have h7 := qdf_R hV ht
  have h8 := hV.bi t (by omega)
  unfold qtn
  repeat' split
  all_goals (constructor <;> omega)
theorem train_c {n9 : Nat} {S : qS} {A : QA} {p w : Int} (hn : 2000 ≤ n9) (hp : qR p) (hw : qR w) (hA : AOk A) (hC : CR S A) : (¬ (0 ≤ p ∧ p < (qtr A.R : Int)) → COp S (ML_train n9 S p w) 1 0 A) ∧ ((0 ≤ p ∧ p < (qtr A.R : Int)) → ¬ (0 ≤ w ∧ w ≤ 7) → COp S (ML_train n9 S p w) 2 0 A) ∧ ((0 ≤ p ∧ p < (qtr A.R : Int)) → (0 ≤ w ∧ w ≤ 7) → COp S (ML_train n9 S p w) 0 (qtn A.R p.toNat w) A) := by
  have hV := hA.1
  have h30 := hV.n30
  have htl := qtr_le A.R
  obtain ⟨S1, e1, e2, e3, e4⟩ := plan_c (n9 := n9) (by omega) hA hC
  refine ⟨fun hc => ?_, fun hc h2 => ?_, fun hc h2 => ?_⟩
  · have hx : MX3_train n9 S p w = some (Sum.inl "java/lang/IndexOutOfBoundsException", S1) := by
      unfold MX3_train
      rw [qb_s e1, qb_s (demandTrain_ok hV e3 hp), if_neg hc]
      rfl
    unfold ML_train
    rw [qb_s hx, qyp_l, if_pos rfl]
    exact COp.thr2 e2 e4 (Or.inl rfl)
  · have hx : MX3_train n9 S p w = some (Sum.inl "java/lang/IllegalArgumentException", S1) := by
      unfold MX3_train
      rw [qb_s e1, qb_s (demandTrain_ok hV e3 hp), if_pos hc, qy_inr, qg_t hw, ql]
      by_cases h3 : w < 0
      · rw [if_pos h3]
      · rw [if_neg h3, if_neg (by omega)]
    unfold ML_train
    rw [qb_s hx, qyp_l, if_neg iae_ioo, if_pos rfl]
    exact COp.thr2 e2 e4 (Or.inr rfl)
  · have ht : p.toNat < qtr A.R := by omega
    have hpi : p = (p.toNat : Int) := by omega
    have hx : MX3_train n9 S p w = some (Sum.inr (qtn A.R p.toNat w), S1) := by
      unfold MX3_train qtn
      rw [qb_s e1, qb_s (demandTrain_ok hV e3 hp), if_pos hc, qy_inr, qg_t hw, ql, if_neg (by omega), if_pos (by omega)]
      rw [qb_s (at_in (j := p.toNat) kk18 hpi (by omega)), e3.2.1.1 _ (by omega), qb_s (axlesOfTrain_ok hV e3 hpi ht), qb_s (carsOfTrain_ok hV e3 ht hpi), qb_s (weightOfTrain_ok q7 (by omega) hV e2.1.1 e3 ht hpi), qb_s (at_in (j := p.toNat) kk20 hpi (by omega)), e3.2.1.2.2 _ ht, qb_s (greatest_ok q7 (by omega) hV e2.1.1 e3 ht hpi), qb_s (speedDiff_ok q7 (by omega) hV e2.1.1 e3 ht hpi), qb_s (billOrNone_ok hV e2.1.1 hpi (by omega))]
      repeat' split
      all_goals rfl
    unfold ML_train
    rw [qb_s hx, qyp_r, qg_t (qtn_R hV ht w), ql]
    exact COp.ret (S' := S1) e2 e4
theorem train_m {n9 : Nat} {S : qS} {A : QA} {p w : Int} (hn : 2000 ≤ n9) (hp : qR p) (hw : qR w) (hA : AOk A) (hM : MR S A) : (¬ (0 ≤ p ∧ p < (qtr A.R : Int)) → MOp S (MX4_train n9 S p w) 1 0 A) ∧ ((0 ≤ p ∧ p < (qtr A.R : Int)) → ¬ (0 ≤ w ∧ w ≤ 7) → MOp S (MX4_train n9 S p w) 2 0 A) ∧ ((0 ≤ p ∧ p < (qtr A.R : Int)) → (0 ≤ w ∧ w ≤ 7) → MOp S (MX4_train n9 S p w) 0 (qtn A.R p.toNat w) A) := by
  have hV := hA.1
  have h30 := hV.n30
  have htl := qtr_le A.R
  obtain ⟨S1, e1, e2, e3, e4, e5⟩ := plan_m (n9 := n9) (by omega) hA hM
  have h22 := e3.1.1
  refine ⟨fun hc => ?_, fun hc h2 => ?_, fun hc h2 => ?_⟩
  · have hx : MX4_train n9 S p w = some (0, q2 S1 110 0 1) := by
      unfold MX4_train
      rw [qb_s e1, qg_t hp, h22, qg_t (by constructor <;> omega), qb_s (in00 hp (by decide) (by constructor <;> omega) (by omega)), qg_t (by decide)]
      simp only [ql, if_true]
      rw [qb_s ref1]
      rfl
    rw [hx]
    exact MOp.no2 e2 e4 (Or.inl rfl)
  · have hx : MX4_train n9 S p w = some (0, q2 S1 110 0 2) := by
      unfold MX4_train
      rw [qb_s e1, qg_t hp, h22, qg_t (by constructor <;> omega), qb_s (in01 hp (by decide) (by constructor <;> omega) (by omega)), qg_t (by decide)]
      simp only [ql]
      rw [if_neg (by decide), qg_t hw, qb_s (in00 hw (by decide) (by decide) h2), qg_t (by decide), if_pos rfl, qb_s ref2]
      rfl
    rw [hx]
    exact MOp.no2 e2 e4 (Or.inr rfl)
  · have ht : p.toNat < qtr A.R := by omega
    have hpi : p = (p.toNat : Int) := by omega
    have hQ := e3.ref (k := 0)
    have hMr := (e2.ref (k := 0)).1
    have hb := hV.bi p.toNat (by omega)
    have v0 : q2 S1 110 0 0 124 p.toNat = (qft A.R p.toNat : Int) := hQ.2.1.1 _ (by omega)
    have v1 : q2 S1 110 0 0 124 (p + 1).toNat = (qft A.R (p.toNat + 1) : Int) := by rw [show (p + 1).toNat = p.toNat + 1 by omega]; exact hQ.2.1.1 _ ht
    have v4 : q2 S1 110 0 0 125 p.toNat = qct A.R p.toNat := hQ.2.1.2 _ ht
    have v7 : q2 S1 110 0 0 117 (5 + p).toNat = A.R.bi p.toNat := by rw [show (5 + p).toNat = 5 + p.toNat by omega]; exact hMr.bi _ (by omega)
    have hx : MX4_train n9 S p w = some (qtn A.R p.toNat w, q2 S1 110 0 0) := by
      unfold MX4_train qtn
      rw [qb_s e1, qg_t hp, h22, qg_t (by constructor <;> omega), qb_s (in01 hp (by decide) (by constructor <;> omega) (by omega)), qg_t (by decide)]
      simp only [ql]
      rw [if_neg (by decide), qg_t hw, qb_s (in01 hw (by decide) (by decide) h2), qg_t (by decide), if_neg (by decide), qb_s ref0]
      simp only [if_true]
      rw [qg_t (by decide), qg_t hw]
      simp only [v0, v1, v4, v7]
      rw [qg_t (by omega), qg_t (by omega), qg_t (by omega), qb_s (carsOf_ok (by omega) hV hQ hpi ht), qb_s (trainWeight_ok (by omega) hV hMr hQ hpi ht), qg_t (by omega), qb_s (heaviest_ok (by omega) hV hMr hQ hpi ht), qb_s (speeds_ok (by omega) hV hMr hQ hpi ht), qg_t (by omega), qg_t (by constructor <;> omega), qg_t (by omega)]
      by_cases h0 : A.R.bi p.toNat = 0
      · rw [if_pos (show A.R.bi p.toNat ≤ 0 by omega), if_pos h0]
        repeat' split
        all_goals rfl
      · rw [if_neg (show ¬ A.R.bi p.toNat ≤ 0 by omega), if_neg h0]
        repeat' split
        all_goals rfl
    exact ⟨_, _, hx, e2.ref, q2_s, fun _ => rfl, qtn_R hV ht w, fun q j hq => (mOut.ref q j hq).trans (e4 q j hq)⟩
