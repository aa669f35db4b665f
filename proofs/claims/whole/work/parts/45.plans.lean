theorem MOp.no2 {S S1 : qS} {A : QA} {k v : Int} (h : MR S1 A) (ho : mOut S S1) (hk : k = 1 ∨ k = 2) : MOp S (some (0, q2 S1 110 0 k)) k v A := ⟨0, _, rfl, h.ref, q2_s, fun e => by omega, by decide, fun p j hp => (mOut.ref p j hp).trans (ho p j hp)⟩
theorem COp.thr2 {S S1 : qS} {A : QA} {k v : Int} (h : CR S1 A) (ho : cOut S S1) (hk : k = 1 ∨ k = 2) : COp S (some (k, S1)) k v A := ⟨S1, rfl, h, fun e => by omega, fun p j h1 _ => ho p j h1⟩
theorem demandTrain_ok {n9 : Nat} {S : qS} {R : QR} {p : Int} (hV : QV R) (hP : QP S R) (hp : qR p) : MX3_demandTrain n9 S p = some (if 0 ≤ p ∧ p < (qtr R : Int) then Sum.inr 0 else Sum.inl "java/lang/IndexOutOfBoundsException") := by
  have h30 := hV.n30
  have htl := qtr_le R
  unfold MX3_demandTrain
  rw [qg_t hp, ql]
  by_cases h : p < 0
  · rw [if_pos h, if_neg (by omega)]
  · rw [if_neg h, hP.1.1, qg_t (by constructor <;> omega)]
    by_cases h2 : p < (qtr R : Int)
    · rw [if_pos h2, if_pos (by omega)]
    · rw [if_neg h2, if_neg (by omega)]
theorem axlesOfTrain_ok {n9 t : Nat} {S : qS} {R : QR} {p : Int} (hV : QV R) (hP : QP S R) (hp : p = (t : Int)) (ht : t < qtr R) : MX0_axlesOfTrain n9 S p = some ((qft R (t + 1) : Int) - (qft R t : Int)) := by
  have h30 := hV.n30
  have htl := qtr_le R
  unfold MX0_axlesOfTrain
  rw [qb_s (at_in (j := t + 1) kk18 (by omega) (by omega)), hP.2.1.1 _ ht, qb_s (at_in (j := t) kk18 hp (by omega)), hP.2.1.1 _ (by omega)]
def qpl (R : QR) (t : Nat) : Int := qmin (qfb (qft R (t + 1) - qft R t - 1) 1 1) 999999
theorem qpl_R {R : QR} (hV : QV R) {t : Nat} (ht : t < qtr R) : qR (qpl R t) := by
  have h30 := hV.n30
  have hle := qft_le R (t := t + 1) ht
  have h1 := qfb_R (qft R (t + 1) - qft R t - 1) (by omega)
  unfold qpl qmin
  split <;> (constructor <;> omega)
theorem plans_c {n9 : Nat} {S : qS} {A : QA} {p : Int} (hn : 2000 ≤ n9) (hp : qR p) (hA : AOk A) (hC : CR S A) : (¬ (0 ≤ p ∧ p < (qtr A.R : Int)) → COp S (ML_plans n9 S p) 1 0 A) ∧ ((0 ≤ p ∧ p < (qtr A.R : Int)) → COp S (ML_plans n9 S p) 0 (qpl A.R p.toNat) A) := by
  have hV := hA.1
  have h30 := hV.n30
  have htl := qtr_le A.R
  obtain ⟨S1, e1, e2, e3, e4⟩ := plan_c (n9 := n9) (by omega) hA hC
  refine ⟨fun hc => ?_, fun hc => ?_⟩
  · have hx : MX3_plans n9 S p = some (Sum.inl "java/lang/IndexOutOfBoundsException", S1) := by
      unfold MX3_plans
      rw [qb_s e1, qb_s (demandTrain_ok hV e3 hp), if_neg hc]
      rfl
    unfold ML_plans
    rw [qb_s hx, qyp_l, if_pos rfl]
    exact COp.thr2 e2 e4 (Or.inl rfl)
  · have ht : p.toNat < qtr A.R := by omega
    have hlt := qft_lt A.R ht
    have hle := qft_le A.R (t := p.toNat + 1) ht
    have hf := qfb_R (qft A.R (p.toNat + 1) - qft A.R p.toNat - 1) (by omega)
    have hx : MX3_plans n9 S p = some (Sum.inr (qpl A.R p.toNat), S1) := by
      unfold MX3_plans
      rw [qb_s e1, qb_s (demandTrain_ok hV e3 hp), if_pos hc, qy_inr, qb_s (axlesOfTrain_ok (t := p.toNat) hV e3 (by omega) ht)]
      simp only [ql]
      rw [plans_cl (by omega) (qft A.R (p.toNat + 1) - qft A.R p.toNat - 1) n9 1 1 2 (by omega) (by omega) (by omega), qg_t (by constructor <;> omega)]
      rfl
    unfold ML_plans
    rw [qb_s hx, qyp_r, qg_t (qpl_R hV ht), ql]
    exact COp.ret (S' := S1) e2 e4
theorem plans_m {n9 : Nat} {S : qS} {A : QA} {p : Int} (hn : 2000 ≤ n9) (hp : qR p) (hA : AOk A) (hM : MR S A) : (¬ (0 ≤ p ∧ p < (qtr A.R : Int)) → MOp S (MX4_plans n9 S p) 1 0 A) ∧ ((0 ≤ p ∧ p < (qtr A.R : Int)) → MOp S (MX4_plans n9 S p) 0 (qpl A.R p.toNat) A) := by
  have hV := hA.1
  have h30 := hV.n30
  have htl := qtr_le A.R
  obtain ⟨S1, e1, e2, e3, e4, e5⟩ := plan_m (n9 := n9) (by omega) hA hM
  refine ⟨fun hc => ?_, fun hc => ?_⟩
  · have hx : MX4_plans n9 S p = some (0, q2 S1 110 0 1) := by
      unfold MX4_plans
      rw [qb_s e1, qg_t hp, e3.1.1, qg_t (by constructor <;> omega), qb_s (in00 hp (by decide) (by constructor <;> omega) (by omega)), qg_t (by decide)]
      simp only [ql, if_true]
      rw [qb_s ref1]
      rfl
    rw [hx]
    exact MOp.no2 e2 e4 (Or.inl rfl)
  · have ht : p.toNat < qtr A.R := by omega
    have hlt := qft_lt A.R ht
    have hle := qft_le A.R (t := p.toNat + 1) ht
    have hf := qfb_R (qft A.R (p.toNat + 1) - qft A.R p.toNat - 1) (by omega)
    have k0 : (q2 S1 110 0 0) 124 p.toNat = (qft A.R p.toNat : Int) := by rw [q2_p (by decide)]; exact e3.2.1.1 _ (by omega)
    have k1 : (q2 S1 110 0 0) 124 (p + 1).toNat = (qft A.R (p.toNat + 1) : Int) := by rw [q2_p (by decide), show (p + 1).toNat = p.toNat + 1 by omega]; exact e3.2.1.1 _ ht
    have hx : MX4_plans n9 S p = some (qpl A.R p.toNat, q2 S1 110 0 0) := by
      unfold MX4_plans
      rw [qb_s e1, qg_t hp, e3.1.1, qg_t (by constructor <;> omega), qb_s (in01 hp (by decide) (by constructor <;> omega) (by omega)), qg_t (by decide)]
      simp only [ql]
      rw [if_neg (by decide), qb_s ref0]
      simp only [if_true]
      rw [qg_t (by decide), qg_t (by omega), k0, plans_ml (e := (qft A.R (p.toNat + 1) : Int)) (by omega) k1 (by omega) (qft A.R (p.toNat + 1) - qft A.R p.toNat - 1) n9 1 1 _ (by omega) (by omega) (by omega), qg_t (by constructor <;> omega)]
      unfold qpl qmin
      by_cases h : qfb (qft A.R (p.toNat + 1) - qft A.R p.toNat - 1) 1 1 ≤ 999999
      · rw [if_pos h, if_neg (by omega)]
      · rw [if_neg h, if_pos (by omega)]
    exact ⟨_, _, hx, e2.ref, q2_s, fun _ => rfl, qpl_R hV ht, fun q j hq => (mOut.ref q j hq).trans (e4 q j hq)⟩
