/-- the ticks before a car -/
def qbt (R : QR) (c : Nat) : Int := if c = (qcl R (qto R ((qcars R).getD c 0))).length then -1 else qps R ((qcars R).getD c 0 + 1) - qps R ((qcars R).getD (c - 1) 0 + 2)
theorem ticksBefore_ok {n9 r c : Nat} {S : qS} {R : QR} {p : Int} (hr : qr2 r) (hn : 40 ≤ n9) (hV : QV R) (hC : QCr S r R) (hP : QP S R) (hp : p = (c : Int)) (hc : c < (qcars R).length) : MX0_ticksBeforeCar n9 S r p = some (qbt R c) := by
  have h30 := hV.n30
  have hl15 := qcars_len hV
  have htl := qtr_le R
  have hm := qcars_mem (getD_mem hc)
  have ht := (qto_ok R (i := (qcars R).getD c 0) (by omega)).1
  have hlc : (qcl R (qto R ((qcars R).getD c 0))).length ≤ c := by
    have := car_idx (R := R) (u := qto R ((qcars R).getD c 0)) (by omega) hc
    omega
  unfold MX0_ticksBeforeCar qbt
  rw [qg_t hr.k, qb_s (at_in (j := c) kk23 hp (by omega)), hP.2.2.2.2 c hc, qb_s (at_in (j := (qcars R).getD c 0) kk21 rfl (by omega)), hP.2.2.1 _ (by omega), qb_s (at_in (j := qto R ((qcars R).getD c 0)) kk19 rfl (by omega)), hP.2.1.2.1 _ (by omega), qg_t (by constructor <;> omega), qg_t (by constructor <;> omega)]
  by_cases h : c = (qcl R (qto R ((qcars R).getD c 0))).length
  · rw [if_pos (by omega), if_pos h]
  · have hsd := qcl_sd (R := R) (qtr R) (Nat.le_refl _)
    have hlt : (qcars R).getD (c - 1) 0 + 2 ≤ (qcars R).getD c 0 := by
      have h1 : c - 1 < (qcars R).length := by omega
      have h2 := List.pairwise_iff_getElem.mp hsd (c - 1) c h1 hc (by omega)
      rw [List.getD_eq_getElem?_getD, List.getElem?_eq_getElem h1, List.getD_eq_getElem?_getD, List.getElem?_eq_getElem hc]
      exact h2
    rw [if_neg (by omega), if_neg h, qb_s (at_in (j := c - 1) kk23 (by omega) (by omega)), hP.2.2.2.2 (c - 1) (by omega), ql, ticks_l_ok hr hV hC (by omega) ((qcars R).getD c 0 + 1 - ((qcars R).getD (c - 1) 0 + 2)) n9 ((qcars R).getD (c - 1) 0 + 2) _ 0 (by omega) (by omega) (by omega), Int.zero_add]
