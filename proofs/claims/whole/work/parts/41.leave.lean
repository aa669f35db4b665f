/-! leave -/
theorem CR.plan {S S' : qS} {A : QA} (h : CR S A) (hF : qF PL S S') (hP : S' 19 0 = 0) : CR S' A := by
  refine h.keep (fun p j hk => ?_) hP
  rw [hF p (fun hm => ?_)]
  have : p = 17 ∨ p = 18 ∨ p = 19 ∨ p = 20 ∨ p = 21 ∨ p = 22 ∨ p = 23 ∨ p = 24 ∨ p = 25 ∨ p = 26 := by simpa [PL] using hm
  rcases this with rfl | rfl | rfl | rfl | rfl | rfl | rfl | rfl | rfl | rfl <;> (unfold cK at hk; simp at hk)
theorem PL_out {S S' : qS} (hF : qF PL S S') : cOut S S' := fun p j hp => by
  rw [hF p (fun hm => ?_)]
  have : p = 17 ∨ p = 18 ∨ p = 19 ∨ p = 20 ∨ p = 21 ∨ p = 22 ∨ p = 23 ∨ p = 24 ∨ p = 25 ∨ p = 26 := by simpa [PL] using hm
  omega
theorem QP.z {S : qS} {R : QR} (h : QP S R) : S 19 0 = 0 := h.2.1.2.1 0 (Nat.zero_le _)
/-- the class works its present plan out -/
theorem plan_c {n9 : Nat} {S : qS} {A : QA} (hn : 40 ≤ n9) (hA : AOk A) (hC : CR S A) : ∃ S', MX0_workOut n9 S 7 = some S' ∧ CR S' A ∧ QP S' A.R ∧ cOut S S' := by
  obtain ⟨S', e1, e2, e3⟩ := workOut_ok (n9 := n9) q7 hA.1 hn hC.1.1 hC.1.2
  exact ⟨S', e1, hC.plan e2 e3.z, e3, PL_out e2⟩
theorem mlA_k : ∀ p j, mK p j = true → mlA p j = false := by
  intro p j h
  unfold mK at h
  unfold mlA
  simp at h ⊢
  omega
theorem mlA_o {p j : Nat} (h : p < 110 ∨ 127 ≤ p) : mlA p j = false := by unfold mlA; simp; omega
/-- the reference lays its present plan -/
theorem plan_m {n9 : Nat} {S : qS} {A : QA} (hn : 40 ≤ n9) (hA : AOk A) (hM : MR S A) : ∃ S', MX4_lay n9 S 117 = some S' ∧ MR S' A ∧ QM S' A.R ∧ mOut S S' ∧ S' 110 0 = S 110 0 := by
  obtain ⟨S', e1, e2, e3⟩ := lay_ok (n9 := n9) w117 hA.1 hn hM.1
  exact ⟨S', e1, hM.keep (fun p j hk => e2 p j (mlA_k p j hk)), e3, fun p j hp => e2 p j (mlA_o hp), e2 110 0 rfl⟩
theorem mcarWeight_ok {n9 : Nat} {S : qS} {w i : Nat} {R : QR} {p : Int} (hw : wr2 w) (hV : QV R) (hM : QMr S w R) (hp : p = (i : Int)) (hi : i + 1 < R.n) : MX4_carWeight n9 S w p = some (R.we i + R.we (i + 1)) := by
  have h30 := hV.n30
  unfold MX4_carWeight
  rw [qg_t hw.g, hw.l, qg_t (by omega), qg_t (by omega), show (65 + p).toNat = 65 + i by omega, show (65 + p + 1).toNat = 65 + (i + 1) by omega, hM.we i (by omega), hM.we (i + 1) hi]
theorem leaveIn_l_ok {n9 w : Nat} {S : qS} {R : QR} (hw : wr2 w) (hV : QV R) (hM : QMr S w R) (hQ : QM S R) (k : Int → Option (Int × qS)) : ∀ (l : List Nat) (f c : Nat) (x acc : Int), x = (c : Int) → c + l.length = (qcars R).length → (∀ j, j < l.length → S 126 (c + j) = ((l.getD j 0 : Nat) : Int)) → (∀ i, i ∈ l → i + 1 < R.n) → l.length < f →
    MX4_leaveIn_l17 n9 w S (qft R 1 : Int) k f acc x = k ((l.filter (fun i => decide (i < qft R 1))).foldl (fun x i => x + (R.we i + R.we (i + 1))) acc) := by
  have h30 := hV.n30
  have hl15 := qcars_len hV
  have h24 := hQ.1.2.1
  have hqf : qft R 1 ≤ 40 := by
    rcases Nat.lt_or_ge (qtr R) 1 with h | h
    · unfold qft
      have h0 : qtr R = 0 := by omega
      have h1 : sts R R.n = [] := List.length_eq_zero_iff.mp h0
      rw [h1]
      show ([R.n] : List Nat).getD 1 0 ≤ 40
      exact Nat.zero_le _
    · have := qft_le R (t := 1) h; omega
  intro l
  induction l with
  | nil =>
    intro f c x acc hx hc h126 hm hf
    cases f with
    | zero => cases hf
    | succ f =>
      have hc : c = (qcars R).length := hc
      rw [MX4_leaveIn_l17, qg_t (by constructor <;> omega), h24, qg_t (by constructor <;> omega), if_pos (by omega)]
      rfl
  | cons i l ih =>
    intro f c x acc hx hc h126 hm hf
    rw [List.length_cons] at hc hf
    cases f with
    | zero => omega
    | succ f =>
      have hi := hm i List.mem_cons_self
      have hv : S 126 x.toNat = (i : Int) := by rw [show x.toNat = c by omega]; exact h126 0 (by rw [List.length_cons]; omega)
      have hI := fun acc' => ih f (c + 1) (x + 1) acc' (by omega) (by omega) (fun j hj => by
        have := h126 (j + 1) (by rw [List.length_cons]; omega)
        rw [show c + 1 + j = c + (j + 1) by omega, this]
        rfl) (fun j hj => hm j (List.mem_cons_of_mem _ hj)) (by omega)
      rw [MX4_leaveIn_l17, qg_t (by constructor <;> omega), h24, qg_t (by constructor <;> omega), if_neg (by omega), qg_t (by omega), hv, qg_t (by constructor <;> omega), qg_t (by constructor <;> omega)]
      simp only [ql]
      by_cases h : i < qft R 1
      · rw [if_neg (by omega), qg_t (by omega), qb_s (mcarWeight_ok hw hV hM rfl hi), hI, List.filter_cons_of_pos (by simpa using h)]
        rfl
      · rw [if_pos (by omega), hI, List.filter_cons_of_neg (by simpa using h), Int.add_zero]
theorem first_filter {R : QR} (h : 0 < R.n) : (qcars R).filter (fun i => decide (i < qft R 1)) = CGt R 0 := by
  have h1 : 0 < qtr R := sts_pos R R.n h
  rw [← qcars_filter h1]
  apply List.filter_congr
  intro i hi
  have h2 := qcars_mem hi
  obtain ⟨a, b, c⟩ := qto_ok R (i := i) (by omega)
  have h3 := qft_zero R h
  by_cases h4 : i < qft R 1
  · have : qto R i = 0 := qto_uniq R (by omega) h1 (by omega) h4
    simp [h4, this]
  · have : qto R i ≠ 0 := fun h5 => by rw [h5] at c; exact h4 c
    simp [h4, this]
def aWm (w p j : Nat) : Bool := mlA p j || p == w
theorem leaveIn_ok {n9 w : Nat} {S : qS} {R : QR} (hw : wr2 w) (hn : 2000 ≤ n9) (hV : QV R) (hM : QMr S w R) (h0 : 0 < R.n) :
    ∃ S', MX4_leaveIn n9 S w = some (qtw R 0, S') ∧ QMr S' w (qleave R) ∧ qH (aWm w) S S' := by
  have h30 := hV.n30
  have hl := hw.l
  have hq1 := qft1 h0
  have htr : 0 < qtr R := sts_pos R R.n h0
  obtain ⟨S1, e1, e2, e3⟩ := lay_ok (n9 := n9) hw hV (by omega) hM
  have hM1 := hM.gg (mlA_w hw) e2
  obtain ⟨S2, c1, c2, c3⟩ := cutOut_ok (n9 := n9) (S := S1) (a := 0) (c := qft R 1) (p1 := 0) (p2 := (qft R 1 : Int)) hw hn hV hM1 (by omega) rfl rfl
  obtain ⟨S3, d1, d2⟩ := mcopy_ok (n9 := n9) (S := S2) (u0 := w) (u2 := w) (a := 6) (b := 5) (m := 29) (p1 := 6) (p3 := 5) (p4 := 29) hw.g hw.g (by omega) (by omega) (Or.inr (by omega)) (by omega) (by decide) rfl rfl rfl
  have hl15 := qcars_len hV
  have hwt := leaveIn_l_ok (n9 := n9) hw hV hM1 e3 (fun x6 => qb (MX4_cutOut n9 S1 w 0 (qft R 1 : Int)) fun a8 => qb (MX4_copy n9 a8 w 6 w 5 29) fun a10 => qg (0 ≤ (34 : Int) ∧ (34 : Int) < (qlen w)) <| some (x6, q2 a10 w (34 : Int).toNat 0)) (qcars R) n9 0 0 0 rfl (by omega) (fun j hj => by rw [Nat.zero_add]; exact e3.2.2.1 j hj) (fun i hi => qcars_mem hi) (by omega)
  rw [first_filter h0] at hwt
  have e124 : S1 124 (1 : Int).toNat = (qft R 1 : Int) := e3.2.1.1 1 htr
  have r : ∀ j, (q2 S3 w 34 0) w j = if j = 34 then 0 else if 5 ≤ j ∧ j < 34 then S2 w (j + 1) else S2 w j := fun j => by
    rw [q2_at, d2]
    by_cases hj : j = 34
    · rw [if_pos hj, if_pos hj]
    · rw [if_neg hj, if_neg hj]
      by_cases hc : 5 ≤ j ∧ j < 34
      · have hc2 : w = w ∧ 5 ≤ j ∧ j < 5 + 29 := ⟨rfl, by omega, by omega⟩
        rw [if_pos hc2, if_pos hc, show j - 5 + 6 = j + 1 by omega]
      · rw [if_neg (by omega), if_neg hc]
  refine ⟨q2 S3 w 34 0, ?_, ⟨?_, fun j hj => ?_, fun j hj => ?_, fun t ht => ?_, fun k hk => ?_⟩, fun p j hp => ?_⟩
  · unfold MX4_leaveIn
    rw [qg_t hw.g, qb_s e1, qg_t (by decide)]
    simp only [ql]
    rw [e124, hwt, qb_s c1, qb_s d1, qg_t (by omega)]
    rfl
  · rw [r, if_neg (by omega), if_neg (by omega)]; exact c2.n
  · rw [r, if_neg (by omega), if_neg (by omega)]; exact c2.pa j hj
  · rw [r, if_neg (by omega), if_neg (by omega)]; exact c2.we j hj
  · rw [r]
    show _ = if t < 29 then R.bi (t + 1) else 0
    by_cases h9 : t < 29
    · rw [if_neg (by omega), if_pos (by omega), if_pos h9, show 5 + t + 1 = 5 + (t + 1) by omega]
      exact c2.bi (t + 1) (by omega)
    · rw [if_pos (by omega), if_neg h9]
  · rw [r, if_neg (by omega), if_neg (by omega)]; exact c2.se k hk
  · unfold aWm at hp
    have hp1 : p ≠ w ∧ mlA p j = false := by
      constructor
      · intro e; subst e; simp at hp
      · cases hb : mlA p j
        · rfl
        · rw [hb] at hp; simp at hp
    rw [q2_p hp1.1, d2, if_neg (fun h => hp1.1 h.1), c3 p j (by simp [aW, hp1.1]), e2 p j hp1.2]
