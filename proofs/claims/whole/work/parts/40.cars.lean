/-! the cars, train by train -/
theorem CG_mem (R : QR) (a e : Nat) (bar : Int) : ∀ m b, m ≤ e → ∀ i, i ∈ CG R a e bar m b → e - m ≤ i ∧ i + 2 ≤ e := by
  intro m
  induction m using Nat.strongRecOn with
  | _ m ih =>
    intro b hm i
    match m, ih, hm with
    | 0, _, _ => intro h; cases h
    | 1, _, _ => intro h; cases h
    | m + 2, ih, hm =>
      rw [CG]
      split
      · intro h
        rcases List.mem_cons.mp h with rfl | h
        · omega
        · have := ih m (by omega) (e - m) (by omega) i h
          omega
      · intro h
        have := ih (m + 1) (by omega) b (by omega) i h
        omega
def CGt (R : QR) (t : Nat) : List Nat := CG R (qft R t) (qft R (t + 1)) (-1) (qft R (t + 1) - qft R t) (qft R t)
theorem CGt_mem {R : QR} {t i : Nat} (ht : t < qtr R) (h : i ∈ CGt R t) : qft R t ≤ i ∧ i + 2 ≤ qft R (t + 1) := by
  have h1 := qft_lt R ht
  have := CG_mem R (qft R t) (qft R (t + 1)) (-1) (qft R (t + 1) - qft R t) (qft R t) (by omega) i h
  omega
theorem CGt_to {R : QR} {t i : Nat} (ht : t < qtr R) (h : i ∈ CGt R t) : qto R i = t ∧ i + 1 < R.n := by
  have h1 := CGt_mem ht h
  have h2 := qft_le R (t := t + 1) ht
  exact ⟨qto_uniq R (by omega) ht h1.1 (by omega), by omega⟩
theorem qcl_mem {R : QR} : ∀ {u i : Nat}, u ≤ qtr R → i ∈ qcl R u → qto R i < u ∧ i + 1 < R.n := by
  intro u
  induction u with
  | zero => intro i _ h; cases h
  | succ u ih =>
    intro i hu h
    rcases List.mem_append.mp h with h | h
    · have := ih (by omega) h; exact ⟨by omega, this.2⟩
    · have := CGt_to (t := u) hu h; exact ⟨by omega, this.2⟩
theorem qcars_mem {R : QR} {i : Nat} (h : i ∈ qcars R) : i + 1 < R.n := (qcl_mem (Nat.le_refl _) h).2
theorem filter_none {l : List Nat} {P : Nat → Bool} (h : ∀ i, i ∈ l → P i = false) : l.filter P = [] := by
  rw [List.filter_eq_nil_iff]
  intro i hi
  rw [h i hi]
  decide
theorem filter_all {l : List Nat} {P : Nat → Bool} (h : ∀ i, i ∈ l → P i = true) : l.filter P = l := List.filter_eq_self.mpr h
theorem qcl_filter {R : QR} {t : Nat} : ∀ u, u ≤ qtr R → (qcl R u).filter (fun i => decide (qto R i = t)) = if t < u then CGt R t else [] := by
  intro u
  induction u with
  | zero => intro _; rfl
  | succ u ih =>
    intro hu
    have h1 := ih (by omega)
    show (qcl R u ++ CGt R u).filter _ = _
    rw [List.filter_append, h1]
    by_cases h : t = u
    · subst h
      rw [if_neg (Nat.lt_irrefl _), if_pos (Nat.lt_succ_self _), filter_all (fun i hi => decide_eq_true (CGt_to hu hi).1)]
      rfl
    · rw [filter_none (fun i hi => decide_eq_false (by rw [(CGt_to hu hi).1]; omega)), List.append_nil]
      by_cases h2 : t < u
      · rw [if_pos h2, if_pos (by omega)]
      · rw [if_neg h2, if_neg (by omega)]
theorem qcars_filter {R : QR} {t : Nat} (ht : t < qtr R) : (qcars R).filter (fun i => decide (qto R i = t)) = CGt R t := by
  unfold qcars
  rw [qcl_filter _ (Nat.le_refl _), if_pos ht]
theorem foldl_filter {β : Type} (P : Nat → Bool) (h : β → Nat → β) : ∀ (l : List Nat) (x : β), (l.filter P).foldl h x = l.foldl (fun y i => if P i = true then h y i else y) x := by
  intro l
  induction l with
  | nil => intro x; rfl
  | cons i l ih =>
    intro x
    by_cases hp : P i = true
    · rw [List.filter_cons_of_pos hp, List.foldl_cons, List.foldl_cons, if_pos hp]
      exact ih _
    · rw [List.filter_cons_of_neg hp, List.foldl_cons, if_neg hp]
      exact ih _
theorem qcl_get {R : QR} : ∀ {u t c : Nat}, t ≤ u → c < (qcl R t).length → c < (qcl R u).length ∧ (qcl R u).getD c 0 = (qcl R t).getD c 0 := by
  intro u
  induction u with
  | zero =>
    intro t c h hc
    have : t = 0 := by omega
    subst this; exact ⟨hc, rfl⟩
  | succ u ih =>
    intro t c h hc
    by_cases h1 : t = u + 1
    · subst h1; exact ⟨hc, rfl⟩
    · have h2 := ih (t := t) (c := c) (by omega) hc
      have e : qcl R (u + 1) = qcl R u ++ CGt R u := rfl
      rw [e]
      exact ⟨by rw [List.length_append]; omega, by rw [qgl h2.1]; exact h2.2⟩
theorem getD_add {l r : List Nat} {j : Nat} : (l ++ r).getD (l.length + j) 0 = r.getD j 0 := by
  rw [List.getD_eq_getElem?_getD, List.getElem?_append_right (Nat.le_add_right _ _), Nat.add_sub_cancel_left, ← List.getD_eq_getElem?_getD]
/-- the cars of train t stand together -/
theorem qcars_blk {R : QR} {t j : Nat} (ht : t < qtr R) (hj : j < (CGt R t).length) : (qcl R t).length + j < (qcars R).length ∧ (qcars R).getD ((qcl R t).length + j) 0 = (CGt R t).getD j 0 := by
  have e : qcl R (t + 1) = qcl R t ++ CGt R t := rfl
  have h1 := qcl_get (R := R) (u := qtr R) (t := t + 1) (c := (qcl R t).length + j) ht (by rw [e, List.length_append]; omega)
  exact ⟨h1.1, by rw [show (qcars R) = qcl R (qtr R) from rfl, h1.2, e, getD_add]⟩
theorem qcl_len1 (R : QR) (t : Nat) : (qcl R (t + 1)).length = (qcl R t).length + (CGt R t).length := by
  show (qcl R t ++ CGt R t).length = _
  rw [List.length_append]
theorem qcars_len {R : QR} (hV : QV R) : (qcars R).length ≤ 15 := by
  have h30 := hV.n30
  have key : ∀ u, u ≤ qtr R → 2 * (qcl R u).length ≤ (if u = 0 then 0 else qft R u) := by
    intro u
    induction u with
    | zero => intro _; exact Nat.le_refl _
    | succ u ih =>
      intro hu
      have h1 := ih (by omega)
      have h2 := CG_len R (qft R u) (qft R (u + 1)) (-1) hV.s2.1 (qft R (u + 1) - qft R u) (qft R u)
      have h3 := qft_lt R (t := u) hu
      have e : (CGt R u).length = (CG R (qft R u) (qft R (u + 1)) (-1) (qft R (u + 1) - qft R u) (qft R u)).length := rfl
      rw [qcl_len1, if_neg (by omega)]
      by_cases h0 : u = 0
      · rw [if_pos h0] at h1; omega
      · rw [if_neg h0] at h1; omega
  have h1 := key (qtr R) (Nat.le_refl _)
  have h2 := qft_end R
  unfold qcars
  split at h1 <;> omega
/-! the class's sums over a train -/
def qtw (R : QR) (t : Nat) : Int := (CGt R t).foldl (fun x i => x + (R.we i + R.we (i + 1))) 0
theorem fold_R {R : QR} (hV : QV R) : ∀ (l : List Nat) (x : Int), (∀ i, i ∈ l → i + 1 < R.n) → x ≤ l.foldl (fun x i => x + (R.we i + R.we (i + 1))) x ∧ l.foldl (fun x i => x + (R.we i + R.we (i + 1))) x ≤ x + 198 * (l.length : Int) := by
  intro l
  induction l with
  | nil => intro x _; exact ⟨Int.le_refl _, by show x ≤ x + 198 * 0; omega⟩
  | cons i l ih =>
    intro x h
    have hi := h i List.mem_cons_self
    have h1 := hV.we i (by omega)
    have h2 := hV.we (i + 1) hi
    have h3 := ih (x + (R.we i + R.we (i + 1))) (fun j hj => h j (List.mem_cons_of_mem _ hj))
    rw [List.foldl_cons, List.length_cons]
    omega
theorem weightOfTrain_l_ok {n9 r t : Nat} {S : qS} {R : QR} (hr : qr2 r) (hV : QV R) (hC : QCr S r R) (hP : QP S R) (ht : t < qtr R) : ∀ (l : List Nat) (f c : Nat) (x acc : Int), x = (c : Int) → c + l.length = (qcl R (t + 1)).length → (∀ j, j < l.length → S 23 (c + j) = ((l.getD j 0 : Nat) : Int)) → (∀ i, i ∈ l → i + 1 < R.n) → l.length < f →
    MX0_weightOfTrain_l12 n9 S r (t : Int) f acc x = some (l.foldl (fun x i => x + (R.we i + R.we (i + 1))) acc) := by
  have h30 := hV.n30
  have htl := qtr_le R
  have hlen : (qcl R (t + 1)).length ≤ 15 := by
    have h1 := qcars_len hV
    rcases Nat.lt_or_ge 0 (qcl R (t + 1)).length with h | h
    · have := (qcl_get (R := R) (u := qtr R) (t := t + 1) (c := (qcl R (t + 1)).length - 1) ht (by omega)).1
      unfold qcars at h1
      omega
    · omega
  have h19 : MX3_at n9 S 19 ((t : Int) + 1) = some ((qcl R (t + 1)).length : Int) := by rw [at_in (j := t + 1) kk19 (by omega) (by omega), hP.2.1.2.1 _ ht]
  intro l
  induction l with
  | nil =>
    intro f c x acc hx hc h23 hm hf
    cases f with
    | zero => cases hf
    | succ f =>
      have hc : c = (qcl R (t + 1)).length := hc
      rw [MX0_weightOfTrain_l12, qb_s h19, qg_t (by constructor <;> omega), qg_t (by constructor <;> omega), if_pos (by omega)]
      rfl
  | cons i l ih =>
    intro f c x acc hx hc h23 hm hf
    rw [List.length_cons] at hc hf
    cases f with
    | zero => omega
    | succ f =>
      have hi := hm i List.mem_cons_self
      have hv : S 23 c = (i : Int) := h23 0 (by rw [List.length_cons]; omega)
      rw [MX0_weightOfTrain_l12, qb_s h19, qg_t (by constructor <;> omega), qg_t (by constructor <;> omega), if_neg (by omega), qb_s (at_in (j := c) kk23 hx (by omega)), hv, qb_s (carWeight_ok hr hV hC rfl hi), ql]
      exact ih f (c + 1) (x + 1) _ (by omega) (by omega) (fun j hj => by
        have := h23 (j + 1) (by rw [List.length_cons]; omega)
        rw [show c + 1 + j = c + (j + 1) by omega, this]
        rfl) (fun j hj => hm j (List.mem_cons_of_mem _ hj)) (by omega)
theorem weightOfTrain_ok {n9 r t : Nat} {S : qS} {R : QR} {p : Int} (hr : qr2 r) (hn : 40 ≤ n9) (hV : QV R) (hC : QCr S r R) (hP : QP S R) (ht : t < qtr R) (hp : p = (t : Int)) : MX0_weightOfTrain n9 S r p = some (qtw R t) := by
  have h30 := hV.n30
  have htl := qtr_le R
  have hl15 := qcars_len hV
  subst hp
  unfold MX0_weightOfTrain
  rw [qg_t hr.k, qb_s (at_in (j := t) kk19 rfl (by omega)), hP.2.1.2.1 _ (by omega)]
  have hcg := CG_len R (qft R t) (qft R (t + 1)) (-1) hV.s2.1 (qft R (t + 1) - qft R t) (qft R t)
  have e : (CGt R t).length = (CG R (qft R t) (qft R (t + 1)) (-1) (qft R (t + 1) - qft R t) (qft R t)).length := rfl
  have hle := qft_le R (t := t + 1) ht
  exact weightOfTrain_l_ok hr hV hC hP ht (CGt R t) n9 _ _ 0 rfl (qcl_len1 R t).symm (fun j hj => by
    have := qcars_blk ht hj
    rw [hP.2.2.2.2 _ this.1, this.2]) (fun i hi => (CGt_to ht hi).2) (by omega)
