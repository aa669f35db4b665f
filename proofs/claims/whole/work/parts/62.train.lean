/-! train: its cars, the heaviest of them, the difference of their speeds -/
theorem carsOfTrain_ok {n9 t : Nat} {S : qS} {R : QR} {p : Int} (hV : QV R) (hP : QP S R) (ht : t < qtr R) (hp : p = (t : Int)) : MX0_carsOfTrain n9 S p = some ((CGt R t).length : Int) := by
  have h30 := hV.n30
  have htl := qtr_le R
  have hl := qcl_len1 R t
  unfold MX0_carsOfTrain
  rw [qb_s (at_in (j := t + 1) kk19 (by omega) (by omega)), hP.2.1.2.1 (t + 1) ht, qb_s (at_in (j := t) kk19 hp (by omega)), hP.2.1.2.1 _ (by omega)]
  congr 1
  omega
/-- the block of a train's cars: what the class's three loops need -/
theorem blk_ok {R : QR} (hV : QV R) {t : Nat} (ht : t < qtr R) : (qcl R (t + 1)).length ≤ 15 ∧ (CGt R t).length ≤ 15 := by
  have hl15 := qcars_len hV
  have hl := qcl_len1 R t
  have h : (qcl R (t + 1)).length ≤ 15 := by
    rcases Nat.lt_or_ge 0 (qcl R (t + 1)).length with h | h
    · have := (qcl_get (R := R) (u := qtr R) (t := t + 1) (c := (qcl R (t + 1)).length - 1) ht (by omega)).1
      unfold qcars at hl15
      omega
    · omega
  exact ⟨h, by omega⟩
def qhw (R : QR) (l : List Nat) (x : Int) : Int := l.foldl (fun x i => qmax x (R.we i + R.we (i + 1))) x
theorem qhw_R {R : QR} (hV : QV R) : ∀ (l : List Nat) (x : Int), (∀ i, i ∈ l → i + 1 < R.n) → -1 ≤ x → x ≤ 198 → -1 ≤ qhw R l x ∧ qhw R l x ≤ 198 := by
  intro l
  induction l with
  | nil => intro x _ h1 h2; exact ⟨h1, h2⟩
  | cons i l ih =>
    intro x h h1 h2
    have hi := h i List.mem_cons_self
    have h3 := hV.we i (by omega)
    have h4 := hV.we (i + 1) hi
    exact ih (qmax x (R.we i + R.we (i + 1))) (fun j hj => h j (List.mem_cons_of_mem _ hj)) (by unfold qmax; split <;> omega) (by unfold qmax; split <;> omega)
theorem greatest_l_ok {n9 r t : Nat} {S : qS} {R : QR} (hr : qr2 r) (hV : QV R) (hC : QCr S r R) (hP : QP S R) (ht : t < qtr R) : ∀ (l : List Nat) (f c : Nat) (x acc : Int), x = (c : Int) → c + l.length = (qcl R (t + 1)).length → (∀ j, j < l.length → S 23 (c + j) = ((l.getD j 0 : Nat) : Int)) → (∀ i, i ∈ l → i + 1 < R.n) → l.length < f → (-1 ≤ acc ∧ acc ≤ 198) →
    MX0_greatestWeight_l12 n9 S r (t : Int) f acc x = some (qhw R l acc) := by
  have h30 := hV.n30
  have htl := qtr_le R
  have hlen := (blk_ok hV ht).1
  have h19 : MX3_at n9 S 19 ((t : Int) + 1) = some ((qcl R (t + 1)).length : Int) := by rw [at_in (j := t + 1) kk19 (by omega) (by omega), hP.2.1.2.1 (t + 1) ht]
  intro l
  induction l with
  | nil =>
    intro f c x acc hx hc h23 hm hf ha
    cases f with
    | zero => cases hf
    | succ f =>
      have hc : c = (qcl R (t + 1)).length := hc
      rw [MX0_greatestWeight_l12, qb_s h19, qg_t (by constructor <;> omega), qg_t (by constructor <;> omega), if_pos (by omega)]
      rfl
  | cons i l ih =>
    intro f c x acc hx hc h23 hm hf ha
    rw [List.length_cons] at hc hf
    cases f with
    | zero => omega
    | succ f =>
      have hi := hm i List.mem_cons_self
      have h3 := hV.we i (by omega)
      have h4 := hV.we (i + 1) hi
      have hv : S 23 c = (i : Int) := h23 0 (by rw [List.length_cons]; omega)
      rw [MX0_greatestWeight_l12, qb_s h19, qg_t (by constructor <;> omega), qg_t (by constructor <;> omega), if_neg (by omega), qb_s (at_in (j := c) kk23 hx (by omega)), hv, qb_s (carWeight_ok hr hV hC rfl hi), qg_t (by constructor <;> omega), qg_t (by constructor <;> omega), ql]
      exact ih f (c + 1) (x + 1) _ (by omega) (by omega) (fun j hj => by
        have := h23 (j + 1) (by rw [List.length_cons]; omega)
        rw [show c + 1 + j = c + (j + 1) by omega, this]
        rfl) (fun j hj => hm j (List.mem_cons_of_mem _ hj)) (by omega) (by unfold qmax; split <;> (constructor <;> omega))
theorem greatest_ok {n9 r t : Nat} {S : qS} {R : QR} {p : Int} (hr : qr2 r) (hn : 40 ≤ n9) (hV : QV R) (hC : QCr S r R) (hP : QP S R) (ht : t < qtr R) (hp : p = (t : Int)) : MX0_greatestWeight n9 S r p = some (qhw R (CGt R t) (-1)) := by
  have h30 := hV.n30
  have htl := qtr_le R
  have hb := blk_ok hV ht
  subst hp
  unfold MX0_greatestWeight
  rw [qg_t hr.k, qb_s (at_in (j := t) kk19 rfl (by omega)), hP.2.1.2.1 _ (by omega)]
  exact greatest_l_ok hr hV hC hP ht (CGt R t) n9 _ _ (-1) rfl (qcl_len1 R t).symm (fun j hj => by
    have := qcars_blk ht hj
    rw [hP.2.2.2.2 _ this.1, this.2]) (fun i hi => (CGt_to ht hi).2) (by omega) (by decide)
/-- the least and the greatest speed -/
def qsdf (R : QR) (l : List Nat) (x : Int × Int) : Int × Int := l.foldl (fun x i => (qmin x.1 (600 / R.pa (i + 1)), qmax x.2 (600 / R.pa (i + 1)))) x
theorem spd_R {R : QR} (hV : QV R) {i : Nat} (hi : i + 1 < R.n) : 0 ≤ 600 / R.pa (i + 1) ∧ 600 / R.pa (i + 1) ≤ 600 := by
  have h1 := hV.pa (i + 1) hi
  exact ⟨Int.ediv_nonneg (by decide) (by omega), Int.ediv_le_self _ (by decide)⟩
theorem qsdf_R {R : QR} (hV : QV R) : ∀ (l : List Nat) (x : Int × Int), (∀ i, i ∈ l → i + 1 < R.n) → (0 ≤ x.1 ∧ x.1 ≤ 601) → (-1 ≤ x.2 ∧ x.2 ≤ 600) → (0 ≤ (qsdf R l x).1 ∧ (qsdf R l x).1 ≤ 601) ∧ (-1 ≤ (qsdf R l x).2 ∧ (qsdf R l x).2 ≤ 600) := by
  intro l
  induction l with
  | nil => intro x _ h1 h2; exact ⟨h1, h2⟩
  | cons i l ih =>
    intro x h h1 h2
    have hi := spd_R hV (h i List.mem_cons_self)
    refine ih _ (fun j hj => h j (List.mem_cons_of_mem _ hj)) ?_ ?_
    · show 0 ≤ qmin x.1 (600 / R.pa (i + 1)) ∧ qmin x.1 (600 / R.pa (i + 1)) ≤ 601
      unfold qmin
      split <;> (constructor <;> omega)
    · show -1 ≤ qmax x.2 (600 / R.pa (i + 1)) ∧ qmax x.2 (600 / R.pa (i + 1)) ≤ 600
      unfold qmax
      split <;> (constructor <;> omega)
theorem qsdf_eq {R : QR} (hV : QV R) {i : Nat} {l : List Nat} (hi : i + 1 < R.n) : qsdf R (i :: l) (600, 0) = qsdf R (i :: l) (601, -1) := by
  have h := spd_R hV hi
  show qsdf R l (qmin 600 (600 / R.pa (i + 1)), qmax 0 (600 / R.pa (i + 1))) = qsdf R l (qmin 601 (600 / R.pa (i + 1)), qmax (-1) (600 / R.pa (i + 1)))
  have e1 : qmin 600 (600 / R.pa (i + 1)) = qmin 601 (600 / R.pa (i + 1)) := by
    unfold qmin
    split <;> split <;> omega
  have e2 : qmax 0 (600 / R.pa (i + 1)) = qmax (-1) (600 / R.pa (i + 1)) := by
    unfold qmax
    split <;> split <;> omega
  rw [e1, e2]
theorem qsdf_pos {R : QR} (hV : QV R) {i : Nat} {l : List Nat} (hi : i + 1 < R.n) : ∀ (l : List Nat) (x : Int × Int), (∀ i, i ∈ l → i + 1 < R.n) → 0 ≤ x.2 → 0 ≤ (qsdf R l x).2 := by
  intro l
  induction l with
  | nil => intro x _ h1; exact h1
  | cons i l ih =>
    intro x h h1
    refine ih _ (fun j hj => h j (List.mem_cons_of_mem _ hj)) ?_
    show 0 ≤ qmax x.2 (600 / R.pa (i + 1))
    unfold qmax
    split <;> omega
theorem speedDiff_l_ok {n9 r t : Nat} {S : qS} {R : QR} (hr : qr2 r) (hV : QV R) (hC : QCr S r R) (hP : QP S R) (ht : t < qtr R) (k : Int → Int → Option Int) : ∀ (l : List Nat) (f c : Nat) (x : Int) (acc : Int × Int), x = (c : Int) → c + l.length = (qcl R (t + 1)).length → (∀ j, j < l.length → S 23 (c + j) = ((l.getD j 0 : Nat) : Int)) → (∀ i, i ∈ l → i + 1 < R.n) → l.length < f → (0 ≤ acc.1 ∧ acc.1 ≤ 601) → (-1 ≤ acc.2 ∧ acc.2 ≤ 600) →
    MX0_speedDifference_l27 n9 S r (t : Int) k f acc.1 acc.2 x = k (qsdf R l acc).1 (qsdf R l acc).2 := by
  have h30 := hV.n30
  have htl := qtr_le R
  have hlen := (blk_ok hV ht).1
  have h19 : MX3_at n9 S 19 ((t : Int) + 1) = some ((qcl R (t + 1)).length : Int) := by rw [at_in (j := t + 1) kk19 (by omega) (by omega), hP.2.1.2.1 (t + 1) ht]
  intro l
  induction l with
  | nil =>
    intro f c x acc hx hc h23 hm hf ha hb
    cases f with
    | zero => cases hf
    | succ f =>
      have hc : c = (qcl R (t + 1)).length := hc
      rw [MX0_speedDifference_l27, qb_s h19, qg_t (by constructor <;> omega), qg_t (by constructor <;> omega), if_pos (by omega)]
      rfl
  | cons i l ih =>
    intro f c x acc hx hc h23 hm hf ha hb
    rw [List.length_cons] at hc hf
    cases f with
    | zero => omega
    | succ f =>
      have hi := hm i List.mem_cons_self
      have hs := spd_R hV hi
      have hv : S 23 c = (i : Int) := h23 0 (by rw [List.length_cons]; omega)
      rw [MX0_speedDifference_l27, qb_s h19, qg_t (by constructor <;> omega), qg_t (by constructor <;> omega), if_neg (by omega), qb_s (at_in (j := c) kk23 hx (by omega)), hv, qb_s (carSpeed_ok hr hV hC rfl hi), qg_t (by constructor <;> omega), qg_t (by constructor <;> omega), ql, qg_t (by constructor <;> omega), ql]
      exact ih f (c + 1) (x + 1) (qmin acc.1 (600 / R.pa (i + 1)), qmax acc.2 (600 / R.pa (i + 1))) (by omega) (by omega) (fun j hj => by
        have := h23 (j + 1) (by rw [List.length_cons]; omega)
        rw [show c + 1 + j = c + (j + 1) by omega, this]
        rfl) (fun j hj => hm j (List.mem_cons_of_mem _ hj)) (by omega) (by
          show 0 ≤ qmin acc.1 (600 / R.pa (i + 1)) ∧ qmin acc.1 (600 / R.pa (i + 1)) ≤ 601
          unfold qmin
          split <;> (constructor <;> omega)) (by
          show -1 ≤ qmax acc.2 (600 / R.pa (i + 1)) ∧ qmax acc.2 (600 / R.pa (i + 1)) ≤ 600
          unfold qmax
          split <;> (constructor <;> omega))
/-- the difference of a train's speeds -/
def qdf (R : QR) (t : Nat) : Int := if (CGt R t).length = 0 then -1 else (qsdf R (CGt R t) (601, -1)).2 - (qsdf R (CGt R t) (601, -1)).1
theorem speedDiff_ok {n9 r t : Nat} {S : qS} {R : QR} {p : Int} (hr : qr2 r) (hn : 40 ≤ n9) (hV : QV R) (hC : QCr S r R) (hP : QP S R) (ht : t < qtr R) (hp : p = (t : Int)) : MX0_speedDifference n9 S r p = some (qdf R t) := by
  have h30 := hV.n30
  have htl := qtr_le R
  have hb := blk_ok hV ht
  unfold MX0_speedDifference
  rw [qg_t hr.k, qb_s (carsOfTrain_ok hV hP ht hp), qg_t (by constructor <;> omega)]
  subst hp
  unfold qdf
  by_cases h0 : (CGt R t).length = 0
  · rw [if_pos (by omega), if_pos h0]
  · rw [if_neg (by omega), if_neg h0, qb_s (at_in (j := t) kk19 rfl (by omega)), hP.2.1.2.1 _ (by omega)]
    simp only [ql]
    rw [speedDiff_l_ok hr hV hC hP ht _ (CGt R t) n9 _ _ (600, 0) rfl (qcl_len1 R t).symm (fun j hj => by
      have := qcars_blk ht hj
      rw [hP.2.2.2.2 _ this.1, this.2]) (fun i hi => (CGt_to ht hi).2) (by omega) (by decide) (by decide)]
    generalize hl : CGt R t = l at h0
    cases l with
    | nil => exact absurd rfl h0
    | cons i l =>
      have hi := (CGt_to (i := i) ht (by rw [hl]; exact List.mem_cons_self)).2
      rw [qsdf_eq hV hi]
