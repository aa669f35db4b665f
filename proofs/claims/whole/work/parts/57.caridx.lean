/-- the cars behind the first u trains -/
theorem qcl_split {R : QR} {u : Nat} : ∀ v, u ≤ v → v ≤ qtr R → ∃ l, qcl R v = qcl R u ++ l ∧ ∀ i, i ∈ l → u ≤ qto R i := by
  intro v h
  induction h with
  | refl => intro _; exact ⟨[], (List.append_nil _).symm, fun i hi => by cases hi⟩
  | @step v h ih =>
    intro hv
    have hv : v < qtr R := hv
    obtain ⟨l, h1, h2⟩ := ih (by omega)
    refine ⟨l ++ CGt R v, ?_, fun i hi => ?_⟩
    · show qcl R v ++ CGt R v = _
      rw [h1, List.append_assoc]
    · rcases List.mem_append.mp hi with hi | hi
      · exact h2 i hi
      · rw [(CGt_to hv hi).1]; exact h
theorem getD_mem {l : List Nat} {c : Nat} (h : c < l.length) : l.getD c 0 ∈ l := by
  rw [List.getD_eq_getElem?_getD, List.getElem?_eq_getElem h]
  exact List.getElem_mem h
/-- a car stands among those of the first u trains if its train is one of them -/
theorem car_idx {R : QR} {u c : Nat} (hu : u ≤ qtr R) (hc : c < (qcars R).length) : qto R ((qcars R).getD c 0) < u ↔ c < (qcl R u).length := by
  constructor
  · intro h
    rcases Nat.lt_or_ge c (qcl R u).length with h1 | h1
    · exact h1
    · exfalso
      obtain ⟨l, h2, h3⟩ := qcl_split (R := R) (u := u) (qtr R) hu (Nat.le_refl _)
      have h4 : qcars R = qcl R u ++ l := h2
      rw [h4, List.length_append] at hc
      have h5 : (qcars R).getD c 0 = l.getD (c - (qcl R u).length) 0 := by
        have := getD_add (l := qcl R u) (r := l) (j := c - (qcl R u).length)
        rw [show (qcl R u).length + (c - (qcl R u).length) = c by omega] at this
        rw [h4, this]
      have h6 := h3 _ (getD_mem (l := l) (c := c - (qcl R u).length) (by omega))
      rw [h5] at h
      omega
  · intro h
    have h1 := (qcl_get (R := R) (u := qtr R) (t := u) hu h).2
    have h2 : (qcars R).getD c 0 = (qcl R u).getD c 0 := h1
    rw [h2]
    exact (qcl_mem hu (getD_mem h)).1
/-- the first car of its train -/
theorem car_first {R : QR} {c : Nat} (hc : c < (qcars R).length) : c = (qcl R (qto R ((qcars R).getD c 0))).length ↔ (c = 0 ∨ qto R ((qcars R).getD (c - 1) 0) ≠ qto R ((qcars R).getD c 0)) := by
  have hm := qcars_mem (getD_mem hc)
  have ht := (qto_ok R (i := (qcars R).getD c 0) (by omega)).1
  have h1 := car_idx (R := R) (u := qto R ((qcars R).getD c 0)) (by omega) hc
  have h2 := car_idx (R := R) (u := qto R ((qcars R).getD c 0) + 1) ht hc
  rcases Nat.eq_zero_or_pos c with h0 | h0
  · omega
  · have h3 := car_idx (R := R) (u := qto R ((qcars R).getD c 0)) (c := c - 1) (by omega) (by omega)
    have h4 := car_idx (R := R) (u := qto R ((qcars R).getD c 0) + 1) (c := c - 1) ht (by omega)
    omega
