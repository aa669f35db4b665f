/-! train: the reference's loops over all cars -/
theorem carsOf_l_ok {n9 t : Nat} {S : qS} {R : QR} {p : Int} (hn : 40 ≤ n9) (hV : QV R) (hQ : QM S R) (hp : p = (t : Int)) (ht : t < 40) : ∀ (l : List Nat) (f c : Nat) (x acc : Int), x = (c : Int) → c + l.length = (qcars R).length → (∀ j, j < l.length → S 126 (c + j) = ((l.getD j 0 : Nat) : Int)) → (∀ i, i ∈ l → i + 1 < R.n) → l.length < f →
    MX4_carsOf_l4 n9 S p f acc x = some (acc + ((l.filter (fun i => decide (qto R i = t))).length : Int)) := by
  have h30 := hV.n30
  have hl15 := qcars_len hV
  have htl := qtr_le R
  have h24 := hQ.1.2.1
  intro l
  induction l with
  | nil =>
    intro f c x acc hx hc h126 hm hf
    cases f with
    | zero => cases hf
    | succ f =>
      have hc : c = (qcars R).length := hc
      rw [MX4_carsOf_l4, qg_t (by constructor <;> omega), h24, qg_t (by constructor <;> omega), if_pos (by omega)]
      show some acc = some (acc + 0)
      rw [Int.add_zero]
  | cons i l ih =>
    intro f c x acc hx hc h126 hm hf
    rw [List.length_cons] at hc hf
    cases f with
    | zero => omega
    | succ f =>
      have hi := hm i List.mem_cons_self
      have hto := (qto_ok R (i := i) (by omega)).1
      have hv : S 126 x.toNat = (i : Int) := by rw [show x.toNat = c by omega]; exact h126 0 (by rw [List.length_cons]; omega)
      have hI := fun acc' => ih f (c + 1) (x + 1) acc' (by omega) (by omega) (fun j hj => by
        have := h126 (j + 1) (by rw [List.length_cons]; omega)
        rw [show c + 1 + j = c + (j + 1) by omega, this]
        rfl) (fun j hj => hm j (List.mem_cons_of_mem _ hj)) (by omega)
      rw [MX4_carsOf_l4, qg_t (by constructor <;> omega), h24, qg_t (by constructor <;> omega), if_neg (by omega), qg_t (by omega), hv, qb_s (trainOf_ok hn hV hQ rfl (by omega)), qg_t (by constructor <;> omega), qg_t (by constructor <;> omega)]
      simp only [ql]
      by_cases h : qto R i = t
      · rw [if_pos (by omega), hI, List.filter_cons_of_pos (by simpa using h), List.length_cons]
        congr 1
        omega
      · rw [if_neg (by omega), hI, List.filter_cons_of_neg (by simpa using h), Int.add_zero]
theorem carsOf_ok {n9 t : Nat} {S : qS} {R : QR} {p : Int} (hn : 40 ≤ n9) (hV : QV R) (hQ : QM S R) (hp : p = (t : Int)) (ht : t < qtr R) : MX4_carsOf n9 S p = some ((CGt R t).length : Int) := by
  have h30 := hV.n30
  have htl := qtr_le R
  have hl15 := qcars_len hV
  have h := carsOf_l_ok (n9 := n9) hn hV hQ hp (by omega) (qcars R) n9 0 0 0 rfl (by omega) (fun j hj => by rw [Nat.zero_add]; exact hQ.2.2.1 j hj) (fun i hi => qcars_mem hi) (by omega)
  rw [qcars_filter ht, Int.zero_add] at h
  exact h
theorem heaviest_l_ok {n9 t : Nat} {S : qS} {R : QR} {p : Int} (hn : 40 ≤ n9) (hV : QV R) (hM : QMr S 117 R) (hQ : QM S R) (hp : p = (t : Int)) (ht : t < 40) : ∀ (l : List Nat) (f c : Nat) (x acc : Int), x = (c : Int) → c + l.length = (qcars R).length → (∀ j, j < l.length → S 126 (c + j) = ((l.getD j 0 : Nat) : Int)) → (∀ i, i ∈ l → i + 1 < R.n) → l.length < f → (-1 ≤ acc ∧ acc ≤ 198) →
    MX4_heaviest_l4 n9 S p f acc x = some (qhw R (l.filter (fun i => decide (qto R i = t))) acc) := by
  have h30 := hV.n30
  have hl15 := qcars_len hV
  have htl := qtr_le R
  have h24 := hQ.1.2.1
  intro l
  induction l with
  | nil =>
    intro f c x acc hx hc h126 hm hf ha
    cases f with
    | zero => cases hf
    | succ f =>
      have hc : c = (qcars R).length := hc
      rw [MX4_heaviest_l4, qg_t (by constructor <;> omega), h24, qg_t (by constructor <;> omega), if_pos (by omega)]
      rfl
  | cons i l ih =>
    intro f c x acc hx hc h126 hm hf ha
    rw [List.length_cons] at hc hf
    cases f with
    | zero => omega
    | succ f =>
      have hi := hm i List.mem_cons_self
      have h3 := hV.we i (by omega)
      have h4 := hV.we (i + 1) hi
      have hto := (qto_ok R (i := i) (by omega)).1
      have hv : S 126 x.toNat = (i : Int) := by rw [show x.toNat = c by omega]; exact h126 0 (by rw [List.length_cons]; omega)
      have hI := fun acc' => ih f (c + 1) (x + 1) acc' (by omega) (by omega) (fun j hj => by
        have := h126 (j + 1) (by rw [List.length_cons]; omega)
        rw [show c + 1 + j = c + (j + 1) by omega, this]
        rfl) (fun j hj => hm j (List.mem_cons_of_mem _ hj)) (by omega)
      rw [MX4_heaviest_l4, qg_t (by constructor <;> omega), h24, qg_t (by constructor <;> omega), if_neg (by omega), qg_t (by omega), hv, qb_s (mcarWeight_ok w117 hV hM rfl hi), qg_t (by omega), qb_s (trainOf_ok hn hV hQ rfl (by omega)), qg_t (by constructor <;> omega), qg_t (by constructor <;> omega)]
      simp only [ql]
      by_cases h : qto R i = t
      · rw [if_pos (by omega), qg_t (by constructor <;> omega), qg_t (by constructor <;> omega), List.filter_cons_of_pos (by simpa using h)]
        show _ = some (qhw R _ (qmax acc (R.we i + R.we (i + 1))))
        by_cases h5 : R.we i + R.we (i + 1) ≤ acc
        · rw [if_pos h5, hI _ ha, show qmax acc (R.we i + R.we (i + 1)) = acc by unfold qmax; rw [if_neg (by omega)]]
        · rw [if_neg h5, hI _ (by omega), show qmax acc (R.we i + R.we (i + 1)) = R.we i + R.we (i + 1) by unfold qmax; rw [if_pos (by omega)]]
      · rw [if_neg (by omega), hI _ ha, List.filter_cons_of_neg (by simpa using h)]
theorem heaviest_ok {n9 t : Nat} {S : qS} {R : QR} {p : Int} (hn : 40 ≤ n9) (hV : QV R) (hM : QMr S 117 R) (hQ : QM S R) (hp : p = (t : Int)) (ht : t < qtr R) : MX4_heaviest n9 S p = some (qhw R (CGt R t) (-1)) := by
  have h30 := hV.n30
  have htl := qtr_le R
  have hl15 := qcars_len hV
  have h := heaviest_l_ok (n9 := n9) hn hV hM hQ hp (by omega) (qcars R) n9 0 0 (-1) rfl (by omega) (fun j hj => by rw [Nat.zero_add]; exact hQ.2.2.1 j hj) (fun i hi => qcars_mem hi) (by omega) (by decide)
  rw [qcars_filter ht] at h
  exact h
theorem speeds_l_ok {n9 t : Nat} {S : qS} {R : QR} {p : Int} (hn : 40 ≤ n9) (hV : QV R) (hM : QMr S 117 R) (hQ : QM S R) (hp : p = (t : Int)) (ht : t < 40) (k : Int → Int → Option Int) : ∀ (d f c : Nat) (x : Int) (acc : Int × Int), x = (c : Int) → c + d = (qcars R).length → d < f → (0 ≤ acc.1 ∧ acc.1 ≤ 601) → (-1 ≤ acc.2 ∧ acc.2 ≤ 600) →
    MX4_speeds_l9 n9 S p k f acc.2 acc.1 x = k (qsdf R (((qcars R).drop c).filter (fun i => decide (qto R i = t))) acc).2 (qsdf R (((qcars R).drop c).filter (fun i => decide (qto R i = t))) acc).1 := by
  have h30 := hV.n30
  have hl15 := qcars_len hV
  have htl := qtr_le R
  have h24 := hQ.1.2.1
  intro d
  induction d with
  | zero =>
    intro f c x acc hx hc hf ha hb
    cases f with
    | zero => cases hf
    | succ f =>
      have hc : c = (qcars R).length := hc
      rw [MX4_speeds_l9, qg_t (by constructor <;> omega), h24, qg_t (by constructor <;> omega), if_pos (by omega), List.drop_eq_nil_of_le (by omega)]
      rfl
  | succ d ih =>
    intro f c x acc hx hc hf ha hb
    cases f with
    | zero => omega
    | succ f =>
      have hcl : c < (qcars R).length := by omega
      generalize hig : (qcars R).getD c 0 = i
      have hi : i + 1 < R.n := by rw [← hig]; exact qcars_mem (getD_mem hcl)
      have hs := spd_R hV hi
      have hto := (qto_ok R (i := i) (by omega)).1
      have hv : S 126 x.toNat = (i : Int) := by rw [show x.toNat = c by omega, hQ.2.2.1 _ hcl, hig]
      have hsp : MX4_speed n9 S x = some (600 / R.pa (i + 1)) := by
        have := mspeed_ok (n9 := n9) hV hM hQ hx hcl
        rw [hig] at this
        exact this
      have hdr : (qcars R).drop c = i :: (qcars R).drop (c + 1) := by
        rw [List.drop_eq_getElem_cons hcl]
        congr 1
        rw [← hig, List.getD_eq_getElem?_getD, List.getElem?_eq_getElem hcl]
        rfl
      have hI := fun acc' => ih f (c + 1) (x + 1) acc' (by omega) (by omega) (by omega)
      rw [MX4_speeds_l9, qg_t (by constructor <;> omega), h24, qg_t (by constructor <;> omega), if_neg (by omega), qg_t (by omega), hv, qb_s (trainOf_ok hn hV hQ rfl (by omega)), qg_t (by constructor <;> omega), qg_t (by constructor <;> omega), hdr]
      simp only [ql]
      by_cases h : qto R i = t
      · rw [if_pos (by omega), qb_s hsp, qg_t (by constructor <;> omega), qg_t (by constructor <;> omega), List.filter_cons_of_pos (by simpa using h)]
        rw [qb_s hsp, qg_t (by constructor <;> omega), qg_t (by constructor <;> omega)]
        have e := hI (qmin acc.1 (600 / R.pa (i + 1)), qmax acc.2 (600 / R.pa (i + 1))) (by
          show 0 ≤ qmin acc.1 (600 / R.pa (i + 1)) ∧ qmin acc.1 (600 / R.pa (i + 1)) ≤ 601
          unfold qmin
          split <;> (constructor <;> omega)) (by
          show -1 ≤ qmax acc.2 (600 / R.pa (i + 1)) ∧ qmax acc.2 (600 / R.pa (i + 1)) ≤ 600
          unfold qmax
          split <;> (constructor <;> omega))
        refine Eq.trans ?_ e
        show _ = MX4_speeds_l9 n9 S p k f (qmax acc.2 (600 / R.pa (i + 1))) (qmin acc.1 (600 / R.pa (i + 1))) (x + 1)
        by_cases h5 : 600 / R.pa (i + 1) ≤ acc.2
        · rw [if_pos h5, show qmax acc.2 (600 / R.pa (i + 1)) = acc.2 by unfold qmax; rw [if_neg (by omega)]]
          by_cases h6 : acc.1 ≤ 600 / R.pa (i + 1)
          · rw [if_pos h6, show qmin acc.1 (600 / R.pa (i + 1)) = acc.1 by unfold qmin; rw [if_neg (by omega)]]
          · rw [if_neg h6, qb_s hsp, show qmin acc.1 (600 / R.pa (i + 1)) = 600 / R.pa (i + 1) by unfold qmin; rw [if_pos (by omega)]]
        · rw [if_neg h5, qb_s hsp, qb_s hsp, qg_t (by constructor <;> omega), qg_t (by constructor <;> omega), show qmax acc.2 (600 / R.pa (i + 1)) = 600 / R.pa (i + 1) by unfold qmax; rw [if_pos (by omega)]]
          by_cases h6 : acc.1 ≤ 600 / R.pa (i + 1)
          · rw [if_pos h6, show qmin acc.1 (600 / R.pa (i + 1)) = acc.1 by unfold qmin; rw [if_neg (by omega)]]
          · rw [if_neg h6, qb_s hsp, show qmin acc.1 (600 / R.pa (i + 1)) = 600 / R.pa (i + 1) by unfold qmin; rw [if_pos (by omega)]]
      · rw [if_neg (by omega), hI _ ha hb, List.filter_cons_of_neg (by simpa using h)]
theorem speeds_ok {n9 t : Nat} {S : qS} {R : QR} {p : Int} (hn : 40 ≤ n9) (hV : QV R) (hM : QMr S 117 R) (hQ : QM S R) (hp : p = (t : Int)) (ht : t < qtr R) : MX4_speeds n9 S p = some (qdf R t) := by
  have h30 := hV.n30
  have htl := qtr_le R
  have hl15 := qcars_len hV
  unfold MX4_speeds
  simp only [ql]
  rw [speeds_l_ok (n9 := n9) hn hV hM hQ hp (by omega) _ (qcars R).length n9 0 0 (601, -1) rfl (by omega) (by omega) (by decide) (by decide), List.drop_zero, qcars_filter ht]
  have hb := qsdf_R hV (CGt R t) (601, -1) (fun i hi => (CGt_to ht hi).2) (by decide) (by decide)
  rw [qg_t (by constructor <;> omega)]
  unfold qdf
  generalize hl : CGt R t = l
  cases l with
  | nil => rfl
  | cons i l =>
    have hi := (CGt_to (i := i) ht (by rw [hl]; exact List.mem_cons_self)).2
    have hm : ∀ j, j ∈ l → j + 1 < R.n := fun j hj => (CGt_to (i := j) ht (by rw [hl]; exact List.mem_cons_of_mem _ hj)).2
    have h1 := spd_R hV hi
    have h2 : 0 ≤ (qsdf R (i :: l) (601, -1)).2 := by
      refine qsdf_pos (l := l) hV hi l _ hm ?_
      show 0 ≤ qmax (-1) (600 / R.pa (i + 1))
      unfold qmax
      split <;> omega
    rw [if_neg (by omega), if_neg (by rw [List.length_cons]; omega)]
