/-! car: its speed, the ticks before it -/
theorem carSpeed_ok {n9 : Nat} {S : qS} {r i : Nat} {R : QR} {p : Int} (hr : qr2 r) (hV : QV R) (hC : QCr S r R) (hp : p = (i : Int)) (hi : i + 1 < R.n) : MX1_carSpeed n9 S r p = some (600 / R.pa (i + 1)) := by
  have h1 := hV.pa (i + 1) hi
  unfold MX1_carSpeed
  rw [qg_t hr.k, qb_s (at_pa (p := p + 1) (j := i + 1) hr hV hC (by omega) hi), qg_t (by constructor <;> omega), if_neg (by omega), qg_t (by omega)]
theorem mspeed_ok {n9 c : Nat} {S : qS} {R : QR} {p : Int} (hV : QV R) (hM : QMr S 117 R) (hQ : QM S R) (hp : p = (c : Int)) (hc : c < (qcars R).length) : MX4_speed n9 S p = some (600 / R.pa ((qcars R).getD c 0 + 1)) := by
  have h30 := hV.n30
  have hl15 := qcars_len hV
  have hmem : (qcars R).getD c 0 ∈ qcars R := by
    rw [List.getD_eq_getElem?_getD, List.getElem?_eq_getElem hc]
    exact List.getElem_mem hc
  have hi := qcars_mem hmem
  have h1 := hV.pa _ hi
  have hv : S 126 p.toNat = (((qcars R).getD c 0 : Nat) : Int) := by rw [show p.toNat = c by omega]; exact hQ.2.2.1 c hc
  have hpa : S 117 (35 + (((qcars R).getD c 0 : Nat) : Int) + 1).toNat = R.pa ((qcars R).getD c 0 + 1) := by
    rw [show (35 + (((qcars R).getD c 0 : Nat) : Int) + 1).toNat = 35 + ((qcars R).getD c 0 + 1) by omega]
    exact hM.pa _ hi
  unfold MX4_speed
  rw [qg_t (by omega), hv, qg_t (by omega), hpa, qg_t (by omega)]
theorem ticks_l_ok {n9 r a : Nat} {S : qS} {R : QR} (hr : qr2 r) (hV : QV R) (hC : QCr S r R) (ha : a < R.n) : ∀ (d f i : Nat) (x acc : Int), x = (i : Int) → i + d = a + 1 → d < f → MX0_ticksBeforeCar_l47 n9 S r (a : Int) f acc x = some (acc + (qps R (a + 1) - qps R i)) := by
  have h30 := hV.n30
  intro d
  induction d with
  | zero =>
    intro f i x acc hx hi hf
    cases f with
    | zero => omega
    | succ f =>
      have e : i = a + 1 := by omega
      subst e
      rw [MX0_ticksBeforeCar_l47, qg_t (by constructor <;> omega), qg_t (by constructor <;> omega), if_pos (by omega), Int.sub_self, Int.add_zero]
  | succ d ih =>
    intro f i x acc hx hi hf
    cases f with
    | zero => omega
    | succ f =>
      have eps : qps R (i + 1) = qps R i + R.pa i := rfl
      rw [MX0_ticksBeforeCar_l47, qg_t (by constructor <;> omega), qg_t (by constructor <;> omega), if_neg (by omega), qb_s (at_pa hr hV hC hx (by omega)), ql, ih f (i + 1) (x + 1) _ (by omega) (by omega) (by omega), eps]
      congr 1
      omega
