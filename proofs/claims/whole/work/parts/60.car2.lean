/-- what car answers -/
def qca (R : QR) (c : Nat) (w : Int) : Int := if w = 0 then (((qcars R).getD c 0 : Nat) : Int) else if w = 1 then R.we ((qcars R).getD c 0) + R.we ((qcars R).getD c 0 + 1) else if w = 2 then R.pa ((qcars R).getD c 0 + 1) else if w = 3 then 600 / R.pa ((qcars R).getD c 0 + 1) else if w = 4 then (qto R ((qcars R).getD c 0) : Int) else qbt R c
theorem qps_abs {R : QR} (hV : QV R) {i : Nat} (hi : i ≤ R.n) : 0 ≤ qps R i ∧ qps R i ≤ 1800 := by
  have h30 := hV.n30
  have h := qps_mono hV (b := 0) (i := i) (Nat.zero_le _) hi
  have e : qps R 0 = 0 := rfl
  omega
theorem qca_R {R : QR} (hV : QV R) {c : Nat} (hc : c < (qcars R).length) (w : Int) : qR (qca R c w) := by
  have h30 := hV.n30
  have htl := qtr_le R
  have hm := qcars_mem (getD_mem hc)
  have ht := (qto_ok R (i := (qcars R).getD c 0) (by omega)).1
  have h1 := hV.we ((qcars R).getD c 0) (by omega)
  have h2 := hV.we ((qcars R).getD c 0 + 1) hm
  have h3 := hV.pa ((qcars R).getD c 0 + 1) hm
  have hm1 := qcars_mem (getD_mem (l := qcars R) (c := c - 1) (by omega))
  have h5 := qps_abs hV (i := (qcars R).getD c 0 + 1) (by omega)
  have h6 := qps_abs hV (i := (qcars R).getD (c - 1) 0 + 2) (by omega)
  have h7 : 0 ≤ 600 / R.pa ((qcars R).getD c 0 + 1) ∧ 600 / R.pa ((qcars R).getD c 0 + 1) ≤ 600 := ⟨Int.ediv_nonneg (by decide) (by omega), Int.ediv_le_self _ (by decide)⟩
  unfold qca qbt
  repeat' split
  all_goals (constructor <;> omega)
theorem car_c {n9 : Nat} {S : qS} {A : QA} {p w : Int} (hn : 2000 ≤ n9) (hp : qR p) (hw : qR w) (hA : AOk A) (hC : CR S A) : (¬ (0 ≤ p ∧ p < ((qcars A.R).length : Int)) → COp S (ML_car n9 S p w) 1 0 A) ∧ ((0 ≤ p ∧ p < ((qcars A.R).length : Int)) → ¬ (0 ≤ w ∧ w ≤ 5) → COp S (ML_car n9 S p w) 2 0 A) ∧ ((0 ≤ p ∧ p < ((qcars A.R).length : Int)) → (0 ≤ w ∧ w ≤ 5) → COp S (ML_car n9 S p w) 0 (qca A.R p.toNat w) A) := by
  have hV := hA.1
  have h30 := hV.n30
  have hl15 := qcars_len hV
  obtain ⟨S1, e1, e2, e3, e4⟩ := plan_c (n9 := n9) (by omega) hA hC
  have h10 := e3.1.2.1
  refine ⟨fun hc => ?_, fun hc h2 => ?_, fun hc h2 => ?_⟩
  · have hx : MX3_car n9 S p w = some (Sum.inl "java/lang/IndexOutOfBoundsException", S1) := by
      unfold MX3_car
      rw [qb_s e1, qg_t hp, ql]
      by_cases h3 : p < 0
      · rw [if_pos h3]
      · rw [if_neg h3, h10, qg_t (by constructor <;> omega), if_neg (by omega)]
    unfold ML_car
    rw [qb_s hx, qyp_l, if_pos rfl]
    exact COp.thr2 e2 e4 (Or.inl rfl)
  · have hx : MX3_car n9 S p w = some (Sum.inl "java/lang/IllegalArgumentException", S1) := by
      unfold MX3_car
      rw [qb_s e1, qg_t hp, ql, if_neg (by omega), h10, qg_t (by constructor <;> omega), if_pos (by omega), qg_t hw, ql]
      by_cases h3 : w < 0
      · rw [if_pos h3]
      · rw [if_neg h3, if_neg (by omega)]
    unfold ML_car
    rw [qb_s hx, qyp_l, if_neg iae_ioo, if_pos rfl]
    exact COp.thr2 e2 e4 (Or.inr rfl)
  · have hcl : p.toNat < (qcars A.R).length := by omega
    have hpi : p = (p.toNat : Int) := by omega
    have hm := qcars_mem (getD_mem hcl)
    have hx : MX3_car n9 S p w = some (Sum.inr (qca A.R p.toNat w), S1) := by
      unfold MX3_car qca
      rw [qb_s e1, qg_t hp, ql, if_neg (by omega), h10, qg_t (by constructor <;> omega), if_pos (by omega), qg_t hw, ql, if_neg (by omega), if_pos (by omega), qb_s (at_in (j := p.toNat) kk23 hpi (by omega)), e3.2.2.2.2 _ hcl, qb_s (carWeight_ok q7 hV e2.1.1 rfl hm), qb_s (at_pa (j := (qcars A.R).getD p.toNat 0 + 1) q7 hV e2.1.1 (by omega) hm), qb_s (carSpeed_ok q7 hV e2.1.1 rfl hm), qb_s (at_in (j := (qcars A.R).getD p.toNat 0) kk21 rfl (by omega)), e3.2.2.1 _ (by omega), qb_s (ticksBefore_ok q7 (by omega) hV e2.1.1 e3 hpi hcl)]
      repeat' split
      all_goals rfl
    unfold ML_car
    rw [qb_s hx, qyp_r, qg_t (qca_R hV hcl w), ql]
    exact COp.ret (S' := S1) e2 e4
