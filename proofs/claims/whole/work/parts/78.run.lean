/-! the run of all calls -/
theorem qRl_or (x y : Int) : qRl (qlor x y) := by
  unfold qlor
  generalize qL x ||| qL y = z
  have h1 := z.minValue_le_toInt
  have h2 := z.toInt_le
  rw [show Int64.minValue.toInt = -9223372036854775808 from rfl] at h1
  rw [show Int64.maxValue.toInt = 9223372036854775807 from rfl] at h2
  constructor <;> omega
theorem law_ok {n9 L : Nat} {xs : Nat → Int32} (hn : 2000 ≤ n9) (hL : L ≤ 2048) : ∀ (f i : Nat) (S : qS) (x : Int) (A : QA), x = (i : Int) → i ≤ L + 4 → L < i + 4 * f → 0 < f → AOk A → CR S A → MR S A → ML_law n9 L xs f S x = some () := by
  intro f
  induction f with
  | zero => intro i S x A hx hi hL2 hf; omega
  | succ f ih =>
    intro i S x A hx hi hL2 _ hA hC hM
    rw [ML_law, qg_t (by constructor <;> omega), qg_t (by constructor <;> omega)]
    by_cases hend : (L : Int) - 4 < x
    · rw [if_pos hend]
    rw [if_neg hend]
    have g0 : 0 ≤ x ∧ x < (L : Int) := by omega
    have g1 : 0 ≤ x + 1 ∧ x + 1 < (L : Int) := by omega
    have g2 : 0 ≤ x + 2 ∧ x + 2 < (L : Int) := by omega
    have g3 : 0 ≤ x + 3 ∧ x + 3 < (L : Int) := by omega
    rw [qg_t g0]
    have hF : qNx (fun S5 => ML_law n9 L xs f S5 (x + 4)) := fun S' A' h1 h2 h3 => ih (i + 4) S' (x + 4) A' (by omega) (by omega) (by omega) (by omega) h1 h2 h3
    generalize (fun S5 => ML_law n9 L xs f S5 (x + 4)) = F at hF ⊢
    rw [ql]
    generalize qiand ((xs x.toNat).toInt) 31 = o
    have r1 := qR_toInt (xs (x + 1).toNat)
    have r2 := qR_toInt (xs (x + 2).toNat)
    have r3 := qR_toInt (xs (x + 3).toNat)
    by_cases o0 : o = 0
    · rw [if_pos o0]
      simp only [qg_t g1]
      exact append_j hn r1 hF hA hC hM
    rw [if_neg o0]
    by_cases o1 : o = 1
    · rw [if_pos o1]
      exact clearText_j hn hF hA hC hM
    rw [if_neg o1]
    by_cases o2 : o = 2
    · rw [if_pos o2]
      exact errorPosition_j hn hF hA hC hM
    rw [if_neg o2]
    by_cases o3 : o = 3
    · rw [if_pos o3]
      exact axlesTold_j hn hF hA hC hM
    rw [if_neg o3]
    by_cases o4 : o = 4
    · rw [if_pos o4]
      simp only [qg_t g1]
      exact about_j hn r1 hF hA hC hM
    rw [if_neg o4]
    by_cases o5 : o = 5
    · rw [if_pos o5]
      simp only [qg_t g1, qg_t g2]
      exact axle_j hn r1 r2 hF hA hC hM
    rw [if_neg o5]
    by_cases o6 : o = 6
    · rw [if_pos o6]
      simp only [qg_t g1, qg_t g2]
      exact car_j hn r1 r2 hF hA hC hM
    rw [if_neg o6]
    by_cases o7 : o = 7
    · rw [if_pos o7]
      simp only [qg_t g1, qg_t g2]
      exact train_j hn r1 r2 hF hA hC hM
    rw [if_neg o7]
    by_cases o8 : o = 8
    · rw [if_pos o8]
      simp only [qg_t g1]
      exact setting_j hn r1 hF hA hC hM
    rw [if_neg o8]
    by_cases o9 : o = 9
    · rw [if_pos o9]
      simp only [qg_t g1, qg_t g2]
      exact roll_j hn r1 r2 hF hA hC hM
    rw [if_neg o9]
    by_cases o10 : o = 10
    · rw [if_pos o10]
      exact record_j hn hF hA hC hM
    rw [if_neg o10]
    by_cases o11 : o = 11
    · rw [if_pos o11]
      simp only [qg_t g1]
      exact strike_j hn r1 hF hA hC hM
    rw [if_neg o11]
    by_cases o12 : o = 12
    · rw [if_pos o12]
      simp only [qg_t g1, qg_t g2]
      exact weigh_j hn r1 r2 hF hA hC hM
    rw [if_neg o12]
    by_cases o13 : o = 13
    · rw [if_pos o13]
      simp only [qg_t g1, qg_t g2]
      exact bill_j hn r1 r2 hF hA hC hM
    rw [if_neg o13]
    by_cases o14 : o = 14
    · rw [if_pos o14]
      simp only [qg_t g1, qg_t g2]
      exact set_j hn r1 r2 hF hA hC hM
    rw [if_neg o14]
    by_cases o15 : o = 15
    · rw [if_pos o15]
      exact leave_j hn hF hA hC hM
    rw [if_neg o15]
    by_cases o16 : o = 16
    · rw [if_pos o16]
      exact undo_j hn hF hA hC hM
    rw [if_neg o16]
    by_cases o17 : o = 17
    · rw [if_pos o17]
      simp only [qg_t g1]
      exact without_j hn r1 hF hA hC hM
    rw [if_neg o17]
    by_cases o18 : o = 18
    · rw [if_pos o18]
      exact suspect_j hn hF hA hC hM
    rw [if_neg o18]
    by_cases o19 : o = 19
    · rw [if_pos o19]
      exact bestBase_j hn hF hA hC hM
    rw [if_neg o19]
    by_cases o20 : o = 20
    · rw [if_pos o20]
      simp only [qg_t g1]
      exact sureness_j hn r1 hF hA hC hM
    rw [if_neg o20]
    by_cases o21 : o = 21
    · rw [if_pos o21]
      simp only [qg_t g1]
      exact plans_j hn r1 hF hA hC hM
    rw [if_neg o21]
    by_cases o22 : o = 22
    · rw [if_pos o22]
      simp only [qg_t g1]
      exact heavy_j hn r1 hF hA hC hM
    rw [if_neg o22]
    by_cases o23 : o = 23
    · rw [if_pos o23]
      simp only [qg_t g1, qg_t g2, qg_t g3]
      exact runScript_j hn r1 (qRl_or _ _) hF hA hC hM
    rw [if_neg o23]
    by_cases o24 : o = 24
    · rw [if_pos o24]
      simp only [qg_t g1, qg_t g2, qg_t g3]
      exact simulate_j hn r3 hF hA hC hM
    rw [if_neg o24]
    by_cases o25 : o = 25
    · rw [if_pos o25]
      simp only [qg_t g1]
      exact save_j hn r1 hF hA hC hM
    rw [if_neg o25]
    by_cases o26 : o = 26
    · rw [if_pos o26]
      simp only [qg_t g1]
      exact restore_j hn r1 hF hA hC hM
    rw [if_neg o26]
    exact hF S A hA hC hM
theorem law_all {L : Nat} {xs : Nat → Int32} (hL : L ≤ 2048) : ML_law 100000 L xs 600 qS0 0 = some () := law_ok (by omega) hL 600 0 qS0 0 qA0 rfl (by omega) (by omega) (by omega) qA0_ok qA0_C qA0_M
