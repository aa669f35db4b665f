theorem between_ok {n9 c : Nat} {S : qS} {R : QR} {p : Int} (hn : 40 ≤ n9) (hV : QV R) (hQ : QM S R) (hp : p = (c : Int)) (hc : c < (qcars R).length) : MX4_between n9 S p = some (qbt R c) := by
  have h30 := hV.n30
  have hl15 := qcars_len hV
  have htl := qtr_le R
  have hm := qcars_mem (getD_mem hc)
  have ht := (qto_ok R (i := (qcars R).getD c 0) (by omega)).1
  have hcf := car_first hc
  have hv : S 126 p.toNat = (((qcars R).getD c 0 : Nat) : Int) := by rw [show p.toNat = c by omega]; exact hQ.2.2.1 c hc
  have hnone : c = (qcl R (qto R ((qcars R).getD c 0))).length → qbt R c = -1 := fun h => if_pos h
  unfold MX4_between
  rw [qg_t (by constructor <;> omega)]
  simp only [ql, if_true]
  by_cases h0 : p = 0
  · rw [if_pos h0, qg_t (by decide), if_neg (by decide), hnone (hcf.mpr (Or.inl (by omega)))]
  · have hc1 : c - 1 < (qcars R).length := by omega
    have hm1 := qcars_mem (getD_mem hc1)
    have ht1 := (qto_ok R (i := (qcars R).getD (c - 1) 0) (by omega)).1
    have hv1 : S 126 (p - 1).toNat = (((qcars R).getD (c - 1) 0 : Nat) : Int) := by rw [show (p - 1).toNat = c - 1 by omega]; exact hQ.2.2.1 (c - 1) hc1
    rw [if_neg h0, qg_t (by omega), hv1, qb_s (trainOf_ok hn hV hQ rfl (by omega)), qg_t (by omega), hv, qb_s (trainOf_ok hn hV hQ rfl (by omega)), qg_t (by constructor <;> omega), qg_t (by constructor <;> omega)]
    by_cases h : (qto R ((qcars R).getD (c - 1) 0) : Int) = (qto R ((qcars R).getD c 0) : Int)
    · have hne : ¬ c = (qcl R (qto R ((qcars R).getD c 0))).length := fun e => by
        rcases hcf.mp e with h1 | h1
        · omega
        · exact h1 (by omega)
      rw [if_pos h, qg_t (by decide), qg_t (by omega), qg_t (by omega), qg_t (by omega), qg_t (by omega), toNat_c, show ((((qcars R).getD (c - 1) 0 : Nat) : Int) + 1).toNat = (qcars R).getD (c - 1) 0 + 1 by omega, hQ.2.2.2 _ (by omega), hQ.2.2.2 _ (by omega)]
      unfold qbt
      rw [if_neg hne]
    · rw [if_neg h, qg_t (by decide), if_neg (by decide), hnone (hcf.mpr (Or.inr (by omega)))]
