theorem qtw_R {R : QR} (hV : QV R) {t : Nat} (ht : t < qtr R) : 0 ≤ qtw R t ∧ qtw R t ≤ 2970 := by
  have h30 := hV.n30
  have h1 := fold_R hV (CGt R t) 0 (fun i hi => (CGt_to ht hi).2)
  have hcg := CG_len R (qft R t) (qft R (t + 1)) (-1) hV.s2.1 (qft R (t + 1) - qft R t) (qft R t)
  have e : (CGt R t).length = (CG R (qft R t) (qft R (t + 1)) (-1) (qft R (t + 1) - qft R t) (qft R t)).length := rfl
  have hle := qft_le R (t := t + 1) ht
  unfold qtw
  omega
theorem leave_c {n9 : Nat} {S : qS} {A : QA} (hn : 2000 ≤ n9) (hA : AOk A) (hC : CR S A) : (A.R.n = 0 → COp S (ML_leave n9 S) 1 0 A) ∧ (0 < A.R.n → COp S (ML_leave n9 S) 0 (qtw A.R 0) (A.rem.setR (qleave A.R))) := by
  have hV := hA.1
  have h30 := hV.n30
  have hn7 : S 7 4 = (A.R.n : Int) := hC.1.1.n
  refine ⟨fun hc => ?_, fun hc => ?_⟩
  · have hx : MX3_leave n9 S = some (Sum.inl "java/lang/IllegalStateException", S) := by
      unfold MX3_leave
      rw [hn7, qg_t (by constructor <;> omega), if_pos (by omega)]
    unfold ML_leave
    rw [qb_s hx, qyp_l, if_pos rfl]
    exact COp.thr hC (Or.inl rfl)
  · have htr : 0 < qtr A.R := sts_pos A.R A.R.n hc
    have hw := qtw_R hV htr
    obtain ⟨S0, p1, p2, p3, p4⟩ := plan_c (n9 := n9) (by omega) hA hC
    obtain ⟨S1, e1, e2, e3, e4⟩ := remember_ok (n9 := n9) (by omega) hA p2
    obtain ⟨S2, g1, g2, g3⟩ := (dropFirst_ok (n9 := n9) q7 (by omega) hV e4).1 hc
    have hx : MX3_leave n9 S = some (Sum.inr (qtw A.R 0), S2) := by
      unfold MX3_leave
      rw [hn7, qg_t (by constructor <;> omega), if_neg (by omega), qb_s p1, qb_s (weightOfTrain_ok (p := 0) (t := 0) q7 (by omega) hV p2.1.1 p3 htr rfl), qb_s e1, qb_s g1]
    unfold ML_leave
    rw [qb_s hx, qyp_r, qg_t (by constructor <;> omega), ql]
    exact COp.ret (S' := S2) (CR.row e2 g2 g3) (fun q j hq => ((cOut.row g3 q j hq).trans (e3 q j hq)).trans (p4 q j hq))
theorem MR.rowm {S S' : qS} {A : QA} {R' : QR} (hA : AOk A) (h : MR S A) (hM : QMr S' 117 R') (hH : qH (aWm 117) S S') : MR S' (A.setR R') := by
  obtain ⟨h1, ⟨h3, h4⟩, h5, h6, h7⟩ := h
  have f : ∀ q j, mK q j = true → q ≠ 117 → S' q j = S q j := fun q j hq h117 => hH q j (by unfold aWm; rw [mlA_k q j hq]; simp [h117])
  exact ⟨hM, ⟨by rw [f 110 2 rfl (by decide)]; exact h3, fun j hj => by rw [f 111 j rfl (by decide)]; exact h4 j hj⟩, fun k hk => ⟨by rw [f 121 k rfl (by decide)]; exact (h5 k hk).1, fun R hR => QMo.of (hA.2.2.1 k hk R hR).n30 ((h5 k hk).2 R hR) (fun j hj => f 120 _ rfl (by decide))⟩, by rw [f 110 15 rfl (by decide)]; exact h6, fun i R hR => QMo.of (hA.2.2.2.2 R (List.mem_of_getElem? hR)).n30 (h7 i R hR) (fun j hj => f 119 _ rfl (by decide))⟩
theorem mOut.rowm {S S' : qS} (hH : qH (aWm 117) S S') : mOut S S' := fun p j hp => hH p j (by
  unfold aWm
  rw [mlA_o hp]
  simp
  omega)
theorem leave_m {n9 : Nat} {S : qS} {A : QA} (hn : 2000 ≤ n9) (hA : AOk A) (hM : MR S A) : (A.R.n = 0 → MOp S (MX4_leave n9 S) 1 0 A) ∧ (0 < A.R.n → MOp S (MX4_leave n9 S) 0 (qtw A.R 0) (A.rem.setR (qleave A.R))) := by
  have hV := hA.1
  have h30 := hV.n30
  have hn7 : S 117 (0 : Int).toNat = (A.R.n : Int) := hM.1.n
  refine ⟨fun hc => ?_, fun hc => ?_⟩
  · have hx : MX4_leave n9 S = some (0, q2 S 110 0 1) := by
      unfold MX4_leave
      rw [qg_t (by decide), hn7, qg_t (by constructor <;> omega)]
      simp only [ql]
      rw [if_pos (by omega), qb_s ref1]
      rfl
    rw [hx]
    exact MOp.no hM (Or.inl rfl)
  · have htr : 0 < qtr A.R := sts_pos A.R A.R.n hc
    have hw := qtw_R hV htr
    obtain ⟨S2, e1, e2, e3, e4⟩ := mact (n9 := n9) hn hA hM
    obtain ⟨S3, g1, g2, g3⟩ := leaveIn_ok (n9 := n9) (S := S2) (R := A.R) w117 hn hV e2.1 hc
    have hx : MX4_leave n9 S = some (qtw A.R 0, S3) := by
      unfold MX4_leave
      rw [qg_t (by decide), hn7, qg_t (by constructor <;> omega)]
      simp only [ql]
      rw [if_neg (by omega), qb_s ref0]
      simp only [if_true]
      rw [qg_t (by decide), qb_s e1, qb_s g1]
    exact ⟨_, S3, hx, MR.rowm hA.rem e2 g2 g3, by rw [g3 110 0 rfl]; exact e4, fun _ => rfl, by constructor <;> omega, fun q j hq => (mOut.rowm g3 q j hq).trans (e3 q j hq)⟩
/-! the reference's questions to its plan -/
theorem trainOf_l_ok {S : qS} {R : QR} {i : Nat} {p : Int} (hV : QV R) (hQ : QM S R) (hp : p = (i : Int)) (hi : i < R.n) : ∀ (d f t : Nat) (x : Int), x = (t : Int) → t + d = qto R i → d < f → MX4_trainOf_l2 S p f x = some (qto R i : Int) := by
  have h30 := hV.n30
  have htl := qtr_le R
  obtain ⟨a, b, c⟩ := qto_ok R hi
  intro d
  induction d with
  | zero =>
    intro f t x hx ht hf
    cases f with
    | zero => omega
    | succ f =>
      have ht : t = qto R i := ht
      have hv : S 124 (x + 1).toNat = (qft R (t + 1) : Int) := by rw [show (x + 1).toNat = t + 1 by omega]; exact hQ.2.1.1 _ (by omega)
      have hle := qft_le R (t := t + 1) (by omega)
      rw [← ht] at c
      rw [MX4_trainOf_l2, qg_t (by omega), hv, qg_t (by constructor <;> omega), qg_t (by constructor <;> omega), if_pos (by omega), hx, ht]
  | succ d ih =>
    intro f t x hx ht hf
    cases f with
    | zero => omega
    | succ f =>
      have hv : S 124 (x + 1).toNat = (qft R (t + 1) : Int) := by rw [show (x + 1).toNat = t + 1 by omega]; exact hQ.2.1.1 _ (by omega)
      have hle := qft_le R (t := t + 1) (by omega)
      have hm := qft_mono R (t := t + 1) (u := qto R i) (by omega) (by omega)
      rw [MX4_trainOf_l2, qg_t (by omega), hv, qg_t (by constructor <;> omega), qg_t (by constructor <;> omega), if_neg (by omega)]
      exact ih f (t + 1) (x + 1) (by omega) (by omega) (by omega)
theorem trainOf_ok {n9 : Nat} {S : qS} {R : QR} {i : Nat} {p : Int} (hn : 40 ≤ n9) (hV : QV R) (hQ : QM S R) (hp : p = (i : Int)) (hi : i < R.n) : MX4_trainOf n9 S p = some (qto R i : Int) := by
  have h30 := hV.n30
  have htl := qtr_le R
  obtain ⟨a, b, c⟩ := qto_ok R hi
  exact trainOf_l_ok hV hQ hp hi (qto R i) n9 0 0 rfl (by omega) (by omega)
theorem allWeight_l_ok {n9 w : Nat} {S : qS} {R : QR} (hw : wr2 w) (hV : QV R) (hM : QMr S w R) (hQ : QM S R) : ∀ (l : List Nat) (f c : Nat) (x acc : Int), x = (c : Int) → c + l.length = (qcars R).length → (∀ j, j < l.length → S 126 (c + j) = ((l.getD j 0 : Nat) : Int)) → (∀ i, i ∈ l → i + 1 < R.n) → l.length < f →
    MX4_allWeight_l4 n9 S w f acc x = some (acc + qwt R l) := by
  have h30 := hV.n30
  have hl15 := qcars_len hV
  have h24 := hQ.1.2.1
  intro l
  induction l with
  | nil =>
    intro f c x acc hx hc h126 hm hf
    cases f with
    | zero => cases hf
    | succ f =>
      have hc : c = (qcars R).length := hc
      rw [MX4_allWeight_l4, qg_t (by constructor <;> omega), h24, qg_t (by constructor <;> omega), if_pos (by omega)]
      show some acc = some (acc + 0)
      rw [Int.add_zero]
  | cons i l ih =>
    intro f c x acc hx hc h126 hm hf
    rw [List.length_cons] at hc hf
    cases f with
    | zero => omega
    | succ f =>
      have hi := hm i List.mem_cons_self
      have hv : S 126 x.toNat = (i : Int) := by rw [show x.toNat = c by omega]; exact h126 0 (by rw [List.length_cons]; omega)
      rw [MX4_allWeight_l4, qg_t (by constructor <;> omega), h24, qg_t (by constructor <;> omega), if_neg (by omega), qg_t (by omega), hv, qb_s (mcarWeight_ok hw hV hM rfl hi), ql, ih f (c + 1) (x + 1) _ (by omega) (by omega) (fun j hj => by
        have := h126 (j + 1) (by rw [List.length_cons]; omega)
        rw [show c + 1 + j = c + (j + 1) by omega, this]
        rfl) (fun j hj => hm j (List.mem_cons_of_mem _ hj)) (by omega)]
      show some (acc + (R.we i + R.we (i + 1)) + qwt R l) = some (acc + (R.we i + R.we (i + 1) + qwt R l))
      rw [Int.add_assoc]
theorem allWeight_ok {n9 w : Nat} {S : qS} {R : QR} (hw : wr2 w) (hn : 40 ≤ n9) (hV : QV R) (hM : QMr S w R) (hQ : QM S R) : MX4_allWeight n9 S w = some (qwt R (qcars R)) := by
  have hl15 := qcars_len hV
  unfold MX4_allWeight
  rw [qg_t hw.g, allWeight_l_ok hw hV hM hQ (qcars R) n9 0 0 0 rfl (by omega) (fun j hj => by rw [Nat.zero_add]; exact hQ.2.2.1 j hj) (fun i hi => qcars_mem hi) (by omega), Int.zero_add]
theorem qwt_R {R : QR} (hV : QV R) : ∀ l : List Nat, (∀ i, i ∈ l → i + 1 < R.n) → 0 ≤ qwt R l ∧ qwt R l ≤ 198 * (l.length : Int) := by
  intro l
  induction l with
  | nil => intro _; exact ⟨Int.le_refl _, by show (0 : Int) ≤ 198 * 0; omega⟩
  | cons i l ih =>
    intro h
    have hi := h i List.mem_cons_self
    have h1 := hV.we i (by omega)
    have h2 := hV.we (i + 1) hi
    have h3 := ih (fun j hj => h j (List.mem_cons_of_mem _ hj))
    show 0 ≤ R.we i + R.we (i + 1) + qwt R l ∧ R.we i + R.we (i + 1) + qwt R l ≤ _
    rw [List.length_cons]
    omega
theorem qwtc_R {R : QR} (hV : QV R) : 0 ≤ qwt R (qcars R) ∧ qwt R (qcars R) ≤ 2970 := by
  have h1 := qwt_R hV (qcars R) (fun i hi => qcars_mem hi)
  have h2 := qcars_len hV
  omega
/-- the car of an axle, as the reference looks for it -/
theorem carOf_l_ok {n9 : Nat} {S : qS} {R : QR} {p : Int} {j : Nat} (hV : QV R) (hQ : QM S R) (hp : p = (j : Int)) (hj : j < 40) : ∀ (l L : List Nat) (f : Nat) (x acc : Int), x = (L.length : Int) → L ++ l = qcars R → l.length < f → qR acc →
    MX4_carOf_l4 n9 S p f acc x = some (l.foldl (fun (y : Int × Nat) i => (if j = i ∨ j = i + 1 then (y.2 : Int) else y.1, y.2 + 1)) (acc, L.length)).1 := by
  have h30 := hV.n30
  have hl15 := qcars_len hV
  have h24 := hQ.1.2.1
  intro l
  induction l with
  | nil =>
    intro L f x acc hx hc hf hR
    cases f with
    | zero => cases hf
    | succ f =>
      rw [List.append_nil] at hc
      rw [MX4_carOf_l4, qg_t (by rw [hc] at hx; constructor <;> omega), h24, qg_t (by constructor <;> omega), if_pos (by rw [hc] at hx; omega)]
      rfl
  | cons i l ih =>
    intro L f x acc hx hc hf hR
    rw [List.length_cons] at hf
    cases f with
    | zero => omega
    | succ f =>
      have hlen : L.length + (l.length + 1) = (qcars R).length := by rw [← hc, List.length_append, List.length_cons]
      have hmem : i ∈ qcars R := by rw [← hc]; exact List.mem_append_right _ List.mem_cons_self
      have hi := qcars_mem hmem
      have hv : S 126 x.toNat = (i : Int) := by
        rw [show x.toNat = L.length by omega, hQ.2.2.1 L.length (by omega), ← hc]
        have := getD_add (l := L) (r := i :: l) (j := 0)
        rw [Nat.add_zero] at this
        rw [this]
        rfl
      have hI := fun acc' (h : qR acc') => ih (L ++ [i]) f (x + 1) acc' (by rw [List.length_append, List.length_singleton]; omega) (by rw [List.append_assoc]; exact hc) (by omega) h
      rw [MX4_carOf_l4, qg_t (by constructor <;> omega), h24, qg_t (by constructor <;> omega), if_neg (by omega), qg_t (by omega), hv, qg_t (by constructor <;> omega), qb_s (in_ok (qRl_of (by constructor <;> omega)) (by decide) (by decide)), qg_t q01R]
      simp only [ql]
      rw [List.foldl_cons]
      rw [List.length_append, List.length_singleton] at hI
      by_cases h : j = i ∨ j = i + 1
      · have hc2 : 0 ≤ p - (i : Int) ∧ p - (i : Int) ≤ 1 := by omega
        rw [if_pos hc2, if_neg (by decide), hI x (by constructor <;> omega), if_pos h, hx]
      · have hc2 : ¬ (0 ≤ p - (i : Int) ∧ p - (i : Int) ≤ 1) := by omega
        rw [if_neg hc2, if_pos rfl, hI acc hR, if_neg h]
