/-! the weight of a train, as the reference asks for it -/
theorem trainWeight_l_ok {n9 t : Nat} {S : qS} {R : QR} {p : Int} (hn : 40 ≤ n9) (hV : QV R) (hM : QMr S 117 R) (hQ : QM S R) (hp : p = (t : Int)) (ht : t < 40) : ∀ (l : List Nat) (f c : Nat) (x acc : Int), x = (c : Int) → c + l.length = (qcars R).length → (∀ j, j < l.length → S 126 (c + j) = ((l.getD j 0 : Nat) : Int)) → (∀ i, i ∈ l → i + 1 < R.n) → l.length < f →
    MX4_trainWeight_l4 n9 S p f acc x = some ((l.filter (fun i => decide (qto R i = t))).foldl (fun x i => x + (R.we i + R.we (i + 1))) acc) := by
  have h30 := hV.n30
  have hl15 := qcars_len hV
  have htl := qtr_le R
  have h24 := hQ.1.2.1
  intro l
  induction l with
  | nil =>
    intro f c x acc hx hc h126 hm hf
    cases f with
    | zero => cases hf
    | succ f =>
      have hc : c = (qcars R).length := hc
      rw [MX4_trainWeight_l4, qg_t (by constructor <;> omega), h24, qg_t (by constructor <;> omega), if_pos (by omega)]
      rfl
  | cons i l ih =>
    intro f c x acc hx hc h126 hm hf
    rw [List.length_cons] at hc hf
    cases f with
    | zero => omega
    | succ f =>
      have hi := hm i List.mem_cons_self
      have hto := (qto_ok R (i := i) (by omega)).1
      have hv : S 126 x.toNat = (i : Int) := by rw [show x.toNat = c by omega]; exact h126 0 (by rw [List.length_cons]; omega)
      have hI := fun acc' => ih f (c + 1) (x + 1) acc' (by omega) (by omega) (fun j hj => by
        have := h126 (j + 1) (by rw [List.length_cons]; omega)
        rw [show c + 1 + j = c + (j + 1) by omega, this]
        rfl) (fun j hj => hm j (List.mem_cons_of_mem _ hj)) (by omega)
      rw [MX4_trainWeight_l4, qg_t (by constructor <;> omega), h24, qg_t (by constructor <;> omega), if_neg (by omega), qg_t (by omega), hv, qb_s (trainOf_ok hn hV hQ rfl (by omega)), qg_t (by constructor <;> omega), qg_t (by constructor <;> omega)]
      simp only [ql]
      by_cases h : qto R i = t
      · rw [if_pos (by omega), qg_t (by omega), qb_s (mcarWeight_ok w117 hV hM rfl hi), hI, List.filter_cons_of_pos (by simpa using h)]
        rfl
      · rw [if_neg (by omega), hI, List.filter_cons_of_neg (by simpa using h), Int.add_zero]
theorem trainWeight_ok {n9 t : Nat} {S : qS} {R : QR} {p : Int} (hn : 40 ≤ n9) (hV : QV R) (hM : QMr S 117 R) (hQ : QM S R) (hp : p = (t : Int)) (ht : t < qtr R) : MX4_trainWeight n9 S p = some (qtw R t) := by
  have h30 := hV.n30
  have htl := qtr_le R
  have hl15 := qcars_len hV
  have h := trainWeight_l_ok (n9 := n9) hn hV hM hQ hp (by omega) (qcars R) n9 0 0 0 rfl (by omega) (fun j hj => by rw [Nat.zero_add]; exact hQ.2.2.1 j hj) (fun i hi => qcars_mem hi) (by omega)
  rw [qcars_filter ht] at h
  exact h
