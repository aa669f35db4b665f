/-! bills that are there, bills that are wrong -/
def qcb (R : QR) (any : Bool) : Nat → Nat → Int → Int
  | 0, _, acc => acc
  | d + 1, t, acc => qcb R any d (t + 1) (if R.bi t ≠ 0 ∧ (any = true ∨ R.bi t ≠ qtw R t) then acc + 1 else acc)
theorem countBills_l_ok {n9 : Nat} {S : qS} {R : QR} {any : Bool} {p : Int} (hn : 40 ≤ n9) (hV : QV R) (hC : QCr S 7 R) (hP : QP S R) (hp : p = if any = true then 0 else 1) : ∀ (d f t : Nat) (x acc : Int), x = (t : Int) → t + d = qtr R → d < f → MX3_countBills_l4 n9 S p f acc x = some (qcb R any d t acc) := by
  have h30 := hV.n30
  have htl := qtr_le R
  have h9 := hP.1.1
  have hpR : qR p := by rw [hp]; split <;> decide
  intro d
  induction d with
  | zero =>
    intro f t x acc hx ht hf
    cases f with
    | zero => omega
    | succ f =>
      rw [MX3_countBills_l4, qg_t (by constructor <;> omega), h9, qg_t (by constructor <;> omega), if_pos (by omega)]
      rfl
  | succ d ih =>
    intro f t x acc hx ht hf
    cases f with
    | zero => omega
    | succ f =>
      have hb := hV.bi t (by omega)
      have htr : t < qtr R := by omega
      have hw := qtw_R hV htr
      have hI := fun acc' => ih f (t + 1) (x + 1) acc' (by omega) (by omega) (by omega)
      rw [MX3_countBills_l4, qg_t (by constructor <;> omega), h9, qg_t (by constructor <;> omega), if_neg (by omega), qb_s (at_bi q7 hC hx (by omega)), qg_t (by constructor <;> omega)]
      simp only [ql]
      rw [qcb]
      by_cases h0 : R.bi t = 0
      · rw [if_pos h0, hI, if_neg (fun h => h.1 h0)]
      · rw [if_neg h0, qg_t hpR]
        cases any with
        | true =>
          have hp0 : p = 0 := hp
          rw [if_pos hp0, hI, if_pos ⟨h0, Or.inl rfl⟩]
        | false =>
          have hp1 : ¬ p = 0 := by
            have : p = 1 := hp
            omega
          rw [if_neg hp1, qb_s (weightOfTrain_ok q7 hn hV hC hP htr hx), qg_t (by constructor <;> omega)]
          by_cases hq : R.bi t = qtw R t
          · rw [if_pos hq, hI, if_neg (fun h => h.2.elim (fun e => by cases e) (fun e => e hq))]
          · rw [if_neg hq, hI, if_pos ⟨h0, Or.inr hq⟩]
theorem badBills_l_ok {n9 : Nat} {S : qS} {R : QR} {any : Bool} {p : Int} (hn : 40 ≤ n9) (hV : QV R) (hM : QMr S 117 R) (hQ : QM S R) (hp : p = if any = true then 1 else 0) : ∀ (d f t : Nat) (x acc : Int), x = (t : Int) → t + d = qtr R → d < f → MX4_badBills_l4 n9 S p f acc x = some (qcb R any d t acc) := by
  have h30 := hV.n30
  have htl := qtr_le R
  have h22 := hQ.1.1
  have hpR : qR p := by rw [hp]; split <;> decide
  intro d
  induction d with
  | zero =>
    intro f t x acc hx ht hf
    cases f with
    | zero => omega
    | succ f =>
      rw [MX4_badBills_l4, qg_t (by constructor <;> omega), h22, qg_t (by constructor <;> omega), if_pos (by omega)]
      rfl
  | succ d ih =>
    intro f t x acc hx ht hf
    cases f with
    | zero => omega
    | succ f =>
      have hb := hV.bi t (by omega)
      have htr : t < qtr R := by omega
      have hw := qtw_R hV htr
      have hbi : S 117 (5 + x).toNat = R.bi t := by rw [show (5 + x).toNat = 5 + t by omega]; exact hM.bi t (by omega)
      have hI := fun acc' => ih f (t + 1) (x + 1) acc' (by omega) (by omega) (by omega)
      rw [MX4_badBills_l4, qg_t (by constructor <;> omega), h22, qg_t (by constructor <;> omega), if_neg (by omega), qg_t (by omega), hbi, qg_t (by constructor <;> omega)]
      simp only [ql]
      rw [qcb]
      by_cases h0 : R.bi t = 0
      · rw [if_pos (by omega), hI, if_neg (fun h => h.1 h0), Int.add_zero]
      · rw [if_neg (by omega), qg_t hpR]
        cases any with
        | true =>
          have hp0 : ¬ p = 0 := by
            have : p = 1 := hp
            omega
          rw [if_neg hp0, hI, if_pos ⟨h0, Or.inl rfl⟩]
        | false =>
          have hp1 : p = 0 := hp
          rw [if_pos hp1, qg_t (by omega), qb_s (trainWeight_ok hn hV hM hQ hx htr), qg_t (by constructor <;> omega)]
          by_cases hq : R.bi t = qtw R t
          · rw [if_pos hq, hI, if_neg (fun h => h.2.elim (fun e => by cases e) (fun e => e hq)), Int.add_zero]
          · rw [if_neg hq, hI, if_pos ⟨h0, Or.inr hq⟩]
theorem qcb_R {R : QR} {any : Bool} : ∀ (d t : Nat) (acc : Int), acc ≤ qcb R any d t acc ∧ qcb R any d t acc ≤ acc + (d : Int) := by
  intro d
  induction d with
  | zero => intro t acc; exact ⟨Int.le_refl _, by show acc ≤ acc + 0; omega⟩
  | succ d ih =>
    intro t acc
    have h1 := ih (t + 1) (acc + 1)
    have h2 := ih (t + 1) acc
    rw [qcb]
    split <;> omega
