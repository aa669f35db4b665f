/-! THE PURE PART. Tools -/
theorem q2_s {S : qS} {p j : Nat} {v : Int} : q2 S p j v p j = v := by unfold q2; rw [if_pos ⟨rfl, rfl⟩]
theorem q2_p {S : qS} {p j q i : Nat} {v : Int} (h : q ≠ p) : q2 S p j v q i = S q i := by unfold q2; rw [if_neg (fun z => h z.1)]
theorem q2_j {S : qS} {p j q i : Nat} {v : Int} (h : i ≠ j) : q2 S p j v q i = S q i := by unfold q2; rw [if_neg (fun z => h z.2)]
theorem q2_row {S : qS} {p j q : Nat} {v : Int} (h : q ≠ p) : q2 S p j v q = S q := funext fun _ => q2_p h
theorem q2_at {S : qS} {p j i : Nat} {v : Int} : q2 S p j v p i = if i = j then v else S p i := by
  by_cases h : i = j
  · subst h; rw [q2_s, if_pos rfl]
  · rw [q2_j h, if_neg h]
/-- only the rows at these positions change -/
def qF (ps : List Nat) (S S' : qS) : Prop := ∀ p, p ∉ ps → S' p = S p
theorem qF.rfl {ps : List Nat} {S : qS} : qF ps S S := fun _ _ => _root_.rfl
theorem qF.tr {ps : List Nat} {S S' S'' : qS} (h1 : qF ps S S') (h2 : qF ps S' S'') : qF ps S S'' := fun p hp => (h2 p hp).trans (h1 p hp)
theorem qF.mono {ps qs : List Nat} {S S' : qS} (h : qF ps S S') (hs : ∀ p, p ∈ ps → p ∈ qs) : qF qs S S' := fun p hp => h p (fun z => hp (hs p z))
theorem qF.q2 {ps : List Nat} {S S' : qS} {p j : Nat} {v : Int} (h : qF ps S S') (hp : p ∈ ps) : qF ps S (q2 S' p j v) := fun q hq => (q2_row (fun e : q = p => hq (e ▸ hp))).trans (h q hq)
/-- a clean recording: how many axles, their pauses and weights, the bills, the settings -/
abbrev QR : Type := Nat × (Nat → Int) × (Nat → Int) × (Nat → Int) × (Nat → Int)
def QR.n (R : QR) : Nat := R.1
def QR.pa (R : QR) : Nat → Int := R.2.1
def QR.we (R : QR) : Nat → Int := R.2.2.1
def QR.bi (R : QR) : Nat → Int := R.2.2.2.1
def QR.se (R : QR) : Nat → Int := R.2.2.2.2
/-- its numbers are such as the document allows -/
abbrev QV (R : QR) : Prop := R.n ≤ 30 ∧ (∀ j, j < R.n → 1 ≤ R.pa j ∧ R.pa j ≤ 60) ∧ (∀ j, j < R.n → 1 ≤ R.we j ∧ R.we j ≤ 99) ∧ (∀ t, t < 30 → 0 ≤ R.bi t ∧ R.bi t ≤ 9999) ∧
  (1 ≤ R.se 0 ∧ R.se 0 ≤ 20) ∧ (1 ≤ R.se 1 ∧ R.se 1 ≤ 40) ∧ (0 ≤ R.se 2 ∧ R.se 2 ≤ 60) ∧ (2 ≤ R.se 3 ∧ R.se 3 ≤ 60)
theorem QV.n30 {R : QR} (h : QV R) : R.n ≤ 30 := h.1
theorem QV.pa {R : QR} (h : QV R) : ∀ j, j < R.n → 1 ≤ R.pa j ∧ R.pa j ≤ 60 := h.2.1
theorem QV.we {R : QR} (h : QV R) : ∀ j, j < R.n → 1 ≤ R.we j ∧ R.we j ≤ 99 := h.2.2.1
theorem QV.bi {R : QR} (h : QV R) : ∀ t, t < 30 → 0 ≤ R.bi t ∧ R.bi t ≤ 9999 := h.2.2.2.1
theorem QV.s0 {R : QR} (h : QV R) : 1 ≤ R.se 0 ∧ R.se 0 ≤ 20 := h.2.2.2.2.1
theorem QV.s1 {R : QR} (h : QV R) : 1 ≤ R.se 1 ∧ R.se 1 ≤ 40 := h.2.2.2.2.2.1
theorem QV.s2 {R : QR} (h : QV R) : 0 ≤ R.se 2 ∧ R.se 2 ≤ 60 := h.2.2.2.2.2.2.1
theorem QV.s3 {R : QR} (h : QV R) : 2 ≤ R.se 3 ∧ R.se 3 ≤ 60 := h.2.2.2.2.2.2.2
/-- the class's recording at r holds R -/
abbrev QCr (S : qS) (r : Nat) (R : QR) : Prop := S r 4 = (R.n : Int) ∧ (∀ j, j < R.n → S (r + 1) j = R.pa j) ∧ (∀ j, j < R.n → S (r + 2) j = R.we j) ∧ (∀ t, t < 30 → S (r + 3) t = R.bi t) ∧ (∀ k, k < 4 → S (r + 4) k = R.se k)
theorem QCr.n {S : qS} {r : Nat} {R : QR} (h : QCr S r R) : S r 4 = (R.n : Int) := h.1
theorem QCr.pa {S : qS} {r : Nat} {R : QR} (h : QCr S r R) : ∀ j, j < R.n → S (r + 1) j = R.pa j := h.2.1
theorem QCr.we {S : qS} {r : Nat} {R : QR} (h : QCr S r R) : ∀ j, j < R.n → S (r + 2) j = R.we j := h.2.2.1
theorem QCr.bi {S : qS} {r : Nat} {R : QR} (h : QCr S r R) : ∀ t, t < 30 → S (r + 3) t = R.bi t := h.2.2.2.1
theorem QCr.se {S : qS} {r : Nat} {R : QR} (h : QCr S r R) : ∀ k, k < 4 → S (r + 4) k = R.se k := h.2.2.2.2
/-- the reference's row at w holds R -/
abbrev QMr (S : qS) (w : Nat) (R : QR) : Prop := S w 0 = (R.n : Int) ∧ (∀ j, j < R.n → S w (35 + j) = R.pa j) ∧ (∀ j, j < R.n → S w (65 + j) = R.we j) ∧ (∀ t, t < 30 → S w (5 + t) = R.bi t) ∧ (∀ k, k < 4 → S w (1 + k) = R.se k)
theorem QMr.n {S : qS} {w : Nat} {R : QR} (h : QMr S w R) : S w 0 = (R.n : Int) := h.1
theorem QMr.pa {S : qS} {w : Nat} {R : QR} (h : QMr S w R) : ∀ j, j < R.n → S w (35 + j) = R.pa j := h.2.1
theorem QMr.we {S : qS} {w : Nat} {R : QR} (h : QMr S w R) : ∀ j, j < R.n → S w (65 + j) = R.we j := h.2.2.1
theorem QMr.bi {S : qS} {w : Nat} {R : QR} (h : QMr S w R) : ∀ t, t < 30 → S w (5 + t) = R.bi t := h.2.2.2.1
theorem QMr.se {S : qS} {w : Nat} {R : QR} (h : QMr S w R) : ∀ k, k < 4 → S w (1 + k) = R.se k := h.2.2.2.2
theorem QCr.fr {ps : List Nat} {S S' : qS} {r : Nat} {R : QR} (h : QCr S r R) (hF : qF ps S S') (h0 : r ∉ ps ∧ r + 1 ∉ ps ∧ r + 2 ∉ ps ∧ r + 3 ∉ ps ∧ r + 4 ∉ ps) : QCr S' r R :=
  ⟨by rw [hF r h0.1]; exact h.n, by rw [hF _ h0.2.1]; exact h.pa, by rw [hF _ h0.2.2.1]; exact h.we, by rw [hF _ h0.2.2.2.1]; exact h.bi, by rw [hF _ h0.2.2.2.2]; exact h.se⟩
theorem QMr.fr {ps : List Nat} {S S' : qS} {w : Nat} {R : QR} (h : QMr S w R) (hF : qF ps S S') (h0 : w ∉ ps) : QMr S' w R :=
  ⟨by rw [hF _ h0]; exact h.n, by rw [hF _ h0]; exact h.pa, by rw [hF _ h0]; exact h.we, by rw [hF _ h0]; exact h.bi, by rw [hF _ h0]; exact h.se⟩
theorem qgl {l r : List Nat} {t : Nat} (h : t < l.length) : (l ++ r).getD t 0 = l.getD t 0 := by
  rw [List.getD_eq_getElem?_getD, List.getElem?_append_left h, ← List.getD_eq_getElem?_getD]
theorem qgr {l : List Nat} {x t : Nat} (h : t = l.length) : (l ++ [x]).getD t 0 = x := by
  subst h
  rw [List.getD_eq_getElem?_getD, List.getElem?_append_right (Nat.le_refl _), Nat.sub_self]
  rfl
/-! the trains: where they begin -/
def qbeg (R : QR) (i : Nat) : Bool := i == 0 || decide (R.se 3 ≤ R.pa i)
def sts (R : QR) : Nat → List Nat
  | 0 => []
  | i + 1 => if qbeg R i = true then sts R i ++ [i] else sts R i
theorem sts_len (R : QR) : ∀ i, (sts R i).length ≤ i := by
  intro i
  induction i with
  | zero => exact Nat.le_refl _
  | succ i ih =>
    unfold sts
    split
    · rw [List.length_append, List.length_singleton]; omega
    · omega
theorem sts_pos (R : QR) : ∀ i, 0 < i → 0 < (sts R i).length := by
  intro i
  induction i with
  | zero => intro h; omega
  | succ i ih =>
    intro _
    unfold sts
    split
    · rw [List.length_append, List.length_singleton]; omega
    · rename_i h
      rcases Nat.eq_zero_or_pos i with h1 | h1
      · subst h1; exact absurd rfl h
      · exact ih h1
def qtr (R : QR) : Nat := (sts R R.n).length
/-- the first axle of a train; behind the last one: how many axles there are -/
def qft (R : QR) (t : Nat) : Nat := (sts R R.n ++ [R.n]).getD t 0
theorem sts_lt (R : QR) : ∀ i t, t < (sts R i).length → (sts R i).getD t 0 < i := by
  intro i
  induction i with
  | zero => intro t h; cases h
  | succ i ih =>
    intro t
    unfold sts
    split
    · intro h
      rw [List.length_append, List.length_singleton] at h
      rcases Nat.lt_or_ge t (sts R i).length with h1 | h1
      · rw [List.getD_eq_getElem?_getD, List.getElem?_append_left h1, ← List.getD_eq_getElem?_getD]
        have := ih t h1
        omega
      · rw [List.getD_eq_getElem?_getD, List.getElem?_append_right h1, show t - (sts R i).length = 0 by omega]
        exact Nat.lt_succ_self i
    · intro h
      have := ih t h
      omega
theorem sts_sorted (R : QR) : ∀ i t, t + 1 < (sts R i).length → (sts R i).getD t 0 < (sts R i).getD (t + 1) 0 := by
  intro i
  induction i with
  | zero => intro t h; cases h
  | succ i ih =>
    intro t
    unfold sts
    split
    · intro h
      rw [List.length_append, List.length_singleton] at h
      rcases Nat.lt_or_ge (t + 1) (sts R i).length with h1 | h1
      · rw [qgl (by omega), qgl h1]
        exact ih t h1
      · rw [qgl (by omega), qgr (by omega)]
        exact sts_lt R i t (by omega)
    · exact ih t
theorem sts_get (R : QR) {i j t : Nat} (hij : i ≤ j) (h : t < (sts R i).length) : t < (sts R j).length ∧ (sts R j).getD t 0 = (sts R i).getD t 0 := by
  induction j with
  | zero =>
    have : i = 0 := by omega
    subst this; exact ⟨h, rfl⟩
  | succ j ih =>
    rcases Nat.lt_or_ge j i with h1 | h1
    · have : i = j + 1 := by omega
      subst this; exact ⟨h, rfl⟩
    · have h2 := ih h1
      show t < (if qbeg R j = true then sts R j ++ [j] else sts R j).length ∧ _
      rw [show sts R (j + 1) = (if qbeg R j = true then sts R j ++ [j] else sts R j) from rfl]
      split
      · refine ⟨by rw [List.length_append, List.length_singleton]; omega, ?_⟩
        rw [List.getD_eq_getElem?_getD, List.getElem?_append_left h2.1, ← List.getD_eq_getElem?_getD]
        exact h2.2
      · exact h2
theorem qft_in (R : QR) {t : Nat} (h : t < qtr R) : qft R t = (sts R R.n).getD t 0 := by
  unfold qft
  rw [List.getD_eq_getElem?_getD, List.getElem?_append_left h, ← List.getD_eq_getElem?_getD]
theorem qft_end (R : QR) : qft R (qtr R) = R.n := by
  unfold qft qtr
  rw [List.getD_eq_getElem?_getD, List.getElem?_append_right (Nat.le_refl _), Nat.sub_self]
  rfl
theorem qft_lt (R : QR) {t : Nat} (h : t < qtr R) : qft R t < qft R (t + 1) := by
  rw [qft_in R h]
  rcases Nat.lt_or_ge (t + 1) (qtr R) with h1 | h1
  · rw [qft_in R h1]; exact sts_sorted R R.n t h1
  · rw [show t + 1 = qtr R by omega, qft_end]; exact sts_lt R R.n t h
theorem qft_le (R : QR) {t : Nat} (h : t ≤ qtr R) : qft R t ≤ R.n := by
  rcases Nat.lt_or_ge t (qtr R) with h1 | h1
  · rw [qft_in R h1]; exact Nat.le_of_lt (sts_lt R R.n t h1)
  · rw [show t = qtr R by omega, qft_end]; exact Nat.le_refl _
theorem qft_mono (R : QR) : ∀ {t u : Nat}, t ≤ u → u ≤ qtr R → qft R t ≤ qft R u := by
  intro t u h
  induction h with
  | refl => intro _; exact Nat.le_refl _
  | @step m h ih =>
    intro hu
    have h0 : m < qtr R := hu
    have h1 := ih (by omega)
    have h2 := qft_lt R h0
    show qft R t ≤ qft R (m + 1)
    omega
theorem sts_zero (R : QR) {i : Nat} (h : 0 < i) : (sts R i).getD 0 0 = 0 := by
  have h1 : 0 < (sts R 1).length := sts_pos R 1 (by decide)
  have h2 := (sts_get R (i := 1) (j := i) (t := 0) h h1).2
  rw [h2]
  have h3 := sts_lt R 1 0 h1
  omega
theorem qft_zero (R : QR) (h : 0 < R.n) : qft R 0 = 0 := by
  rw [qft_in R (sts_pos R R.n h), sts_zero R h]
/-- the train of an axle -/
def qto (R : QR) (i : Nat) : Nat := (sts R (i + 1)).length - 1
theorem qto_ok (R : QR) {i : Nat} (h : i < R.n) : qto R i < qtr R ∧ qft R (qto R i) ≤ i ∧ i < qft R (qto R i + 1) := by
  have h0 := sts_pos R (i + 1) (by omega)
  have hlt : qto R i < (sts R (i + 1)).length := by unfold qto; omega
  have h1 := sts_get R (i := i + 1) (j := R.n) (t := qto R i) h hlt
  have h2 := sts_lt R (i + 1) (qto R i) hlt
  have h8 : qto R i < qtr R := h1.1
  refine ⟨h1.1, ?_, ?_⟩
  · rw [qft_in R h1.1, h1.2]; omega
  · rcases Nat.lt_or_ge (qto R i + 1) (qtr R) with h3 | h3
    · rw [qft_in R h3]
      -- the next start is not among the first i + 1 axles
      have key : ∀ k, i + 1 ≤ k → qto R i + 1 < (sts R k).length → i < (sts R k).getD (qto R i + 1) 0 := by
        intro k hk
        induction k with
        | zero => omega
        | succ k ih =>
          intro hl
          rcases Nat.lt_or_ge k (i + 1) with h4 | h4
          · exfalso
            have : k = i := by omega
            subst this
            unfold qto at hl
            omega
          · rw [show sts R (k + 1) = (if qbeg R k = true then sts R k ++ [k] else sts R k) from rfl] at hl ⊢
            split
            · rename_i hb
              rw [if_pos hb, List.length_append, List.length_singleton] at hl
              rcases Nat.lt_or_ge (qto R i + 1) (sts R k).length with h5 | h5
              · rw [List.getD_eq_getElem?_getD, List.getElem?_append_left h5, ← List.getD_eq_getElem?_getD]
                exact ih h4 h5
              · rw [List.getD_eq_getElem?_getD, List.getElem?_append_right h5, show qto R i + 1 - (sts R k).length = 0 by omega]
                show i < k
                omega
            · rename_i hb
              rw [if_neg hb] at hl
              exact ih h4 hl
      exact key R.n h h3
    · rw [show qto R i + 1 = qtr R by omega, qft_end]; exact h
theorem qto_uniq (R : QR) {i t : Nat} (h : i < R.n) (ht : t < qtr R) (h1 : qft R t ≤ i) (h2 : i < qft R (t + 1)) : qto R i = t := by
  obtain ⟨a, b, c⟩ := qto_ok R h
  rcases Nat.lt_trichotomy (qto R i) t with h3 | h3 | h3
  · have := qft_mono R (t := qto R i + 1) (u := t) h3 (by omega); omega
  · exact h3
  · have := qft_mono R (t := t + 1) (u := qto R i) h3 (by omega); omega
theorem qtr_le (R : QR) : qtr R ≤ R.n := sts_len R R.n
theorem qtr_zero (R : QR) : qtr R = 0 ↔ R.n = 0 := by
  constructor
  · intro h
    rcases Nat.eq_zero_or_pos R.n with h1 | h1
    · exact h1
    · have := sts_pos R R.n h1; unfold qtr at h; omega
  · intro h; have := qtr_le R; omega
/-! the plan of one train, from axle a to before axle e, without the cars of a barred axle -/
def qps (R : QR) : Nat → Int
  | 0 => 0
  | i + 1 => qps R i + R.pa i
def qcc (R : QR) (i : Nat) : Int := 3 * qabs (R.pa (i + 1) - R.se 0) + qabs (R.we i - R.we (i + 1))
def qgp (R : QR) (a b i : Nat) : Int := if b = a then 0 else (if qps R (i + 1) - qps R b < R.se 1 then 2 * (R.se 1 - (qps R (i + 1) - qps R b)) else 0)
def qok (bar : Int) (i : Nat) : Bool := decide ((i : Int) ≠ bar) && decide ((i : Int) + 1 ≠ bar)
/-- what m axles (the last ones) cost, the place behind the last car being b: 100 for each, 1 less for each car -/
def RS (R : QR) (a e : Nat) (bar : Int) : Nat → Nat → Int
  | 0, _ => 0
  | 1, _ => 100 * R.se 2
  | m + 2, b =>
    if qok bar (e - (m + 2)) = true ∧ 100 * (qcc R (e - (m + 2)) + qgp R a b (e - (m + 2))) - 1 + RS R a e bar m (e - m) ≤ 100 * R.se 2 + RS R a e bar (m + 1) b
    then 100 * (qcc R (e - (m + 2)) + qgp R a b (e - (m + 2))) - 1 + RS R a e bar m (e - m)
    else 100 * R.se 2 + RS R a e bar (m + 1) b
/-- the cars that begin there -/
def CG (R : QR) (a e : Nat) (bar : Int) : Nat → Nat → List Nat
  | 0, _ => []
  | 1, _ => []
  | m + 2, b =>
    if qok bar (e - (m + 2)) = true ∧ 100 * (qcc R (e - (m + 2)) + qgp R a b (e - (m + 2))) - 1 + RS R a e bar m (e - m) ≤ 100 * R.se 2 + RS R a e bar (m + 1) b
    then (e - (m + 2)) :: CG R a e bar m (e - m)
    else CG R a e bar (m + 1) b
theorem qabs_nn (x : Int) : 0 ≤ qabs x := by unfold qabs; split <;> omega
theorem qcc_nn (R : QR) (i : Nat) : 0 ≤ qcc R i := by
  unfold qcc
  have h1 := qabs_nn (R.pa (i + 1) - R.se 0)
  have h2 := qabs_nn (R.we i - R.we (i + 1))
  omega
theorem qgp_nn (R : QR) (a b i : Nat) : 0 ≤ qgp R a b i := by
  unfold qgp
  split
  · exact Int.le_refl _
  · split <;> omega
/-- a value is 100 times a cost less the number of cars -/
theorem RS_form (R : QR) (a e : Nat) (bar : Int) (h2 : 0 ≤ R.se 2) : ∀ m b, ∃ c : Int, 0 ≤ c ∧ RS R a e bar m b = 100 * c - ((CG R a e bar m b).length : Int) ∧ 2 * (CG R a e bar m b).length ≤ m := by
  intro m
  induction m using Nat.strongRecOn with
  | _ m ih =>
    intro b
    match m, ih with
    | 0, _ => exact ⟨0, Int.le_refl _, rfl, Nat.le_refl _⟩
    | 1, _ => exact ⟨R.se 2, h2, by show 100 * R.se 2 = 100 * R.se 2 - 0; omega, by show 2 * 0 ≤ 1; omega⟩
    | m + 2, ih =>
      rw [RS, CG]
      split
      · obtain ⟨c, h3, h4, h5⟩ := ih m (by omega) (e - m)
        have h6 := qcc_nn R (e - (m + 2))
        have h7 := qgp_nn R a b (e - (m + 2))
        refine ⟨qcc R (e - (m + 2)) + qgp R a b (e - (m + 2)) + c, by omega, ?_, ?_⟩
        · rw [h4, List.length_cons]; omega
        · rw [List.length_cons]; omega
      · obtain ⟨c, h3, h4, h5⟩ := ih (m + 1) (by omega) b
        exact ⟨R.se 2 + c, by omega, by rw [h4]; omega, by omega⟩
theorem RS_le (R : QR) (a e : Nat) (bar : Int) : ∀ m b, RS R a e bar m b ≤ 100 * R.se 2 * (m : Int) := by
  intro m
  induction m using Nat.strongRecOn with
  | _ m ih =>
    intro b
    match m, ih with
    | 0, _ => show (0 : Int) ≤ 100 * R.se 2 * 0; omega
    | 1, _ => show 100 * R.se 2 ≤ 100 * R.se 2 * 1; omega
    | m + 2, ih =>
      have h1 := ih (m + 1) (by omega) b
      have e1 : 100 * R.se 2 * ((m + 2 : Nat) : Int) = 100 * R.se 2 * ((m + 1 : Nat) : Int) + 100 * R.se 2 := by
        rw [show ((m + 2 : Nat) : Int) = ((m + 1 : Nat) : Int) + 1 by omega, Int.mul_add, Int.mul_one]
      rw [RS]
      split
      · rename_i h; have := h.2; omega
      · omega
/-- all stray, if there is no car, and only then -/
theorem RS_nil (R : QR) (a e : Nat) (bar : Int) : ∀ m b, CG R a e bar m b = [] → RS R a e bar m b = 100 * R.se 2 * (m : Int) := by
  intro m
  induction m using Nat.strongRecOn with
  | _ m ih =>
    intro b
    match m, ih with
    | 0, _ => intro _; show (0 : Int) = 100 * R.se 2 * 0; omega
    | 1, _ => intro _; show 100 * R.se 2 = 100 * R.se 2 * 1; omega
    | m + 2, ih =>
      have e1 : 100 * R.se 2 * ((m + 2 : Nat) : Int) = 100 * R.se 2 * ((m + 1 : Nat) : Int) + 100 * R.se 2 := by
        rw [show ((m + 2 : Nat) : Int) = ((m + 1 : Nat) : Int) + 1 by omega, Int.mul_add, Int.mul_one]
      rw [RS, CG]
      split
      · intro h; cases h
      · intro h
        have := ih (m + 1) (by omega) b h
        omega
theorem RS_cons (R : QR) (a e : Nat) (bar : Int) (h2 : 0 ≤ R.se 2) {m b : Nat} (hm : m ≤ 31) (h : CG R a e bar m b ≠ []) : RS R a e bar m b < 100 * R.se 2 * (m : Int) := by
  have h1 := RS_le R a e bar m b
  obtain ⟨c, h3, h4, h5⟩ := RS_form R a e bar h2 m b
  have h6 : 0 < (CG R a e bar m b).length := List.length_pos_iff.mpr h
  rcases Int.lt_or_eq_of_le h1 with h7 | h7
  · exact h7
  · exfalso
    have e2 : 100 * R.se 2 * (m : Int) = 100 * (R.se 2 * (m : Int)) := Int.mul_assoc _ _ _
    generalize R.se 2 * (m : Int) = z at e2
    omega
theorem CG_head (R : QR) (a e : Nat) (bar : Int) : ∀ m b, m ≤ e → ∀ i l, CG R a e bar m b = i :: l → e - m ≤ i ∧ i + 2 ≤ e ∧ l = CG R a e bar (e - (i + 2)) (i + 2) := by
  intro m
  induction m using Nat.strongRecOn with
  | _ m ih =>
    intro b hm i l
    match m, ih, hm with
    | 0, _, _ => intro h; cases h
    | 1, _, _ => intro h; cases h
    | m + 2, ih, hm =>
      rw [CG]
      split
      · intro h
        cases h
        refine ⟨Nat.le_refl _, by omega, ?_⟩
        rw [show e - (e - (m + 2) + 2) = m by omega, show e - (m + 2) + 2 = e - m by omega]
      · intro h
        obtain ⟨h1, h2, h3⟩ := ih (m + 1) (by omega) b (by omega) i l h
        exact ⟨by omega, h2, h3⟩
