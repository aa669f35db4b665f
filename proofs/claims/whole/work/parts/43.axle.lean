/-! the car of an axle; axle -/
abbrev qsd (l : List Nat) : Prop := l.Pairwise (fun a b => a + 2 ≤ b)
theorem CG_sd (R : QR) (a e : Nat) (bar : Int) : ∀ m b, m ≤ e → qsd (CG R a e bar m b) := by
  intro m
  induction m using Nat.strongRecOn with
  | _ m ih =>
    intro b hm
    match m, ih, hm with
    | 0, _, _ => exact List.Pairwise.nil
    | 1, _, _ => exact List.Pairwise.nil
    | m + 2, ih, hm =>
      rw [CG]
      split
      · refine List.Pairwise.cons (fun i hi => ?_) (ih m (by omega) (e - m) (by omega))
        have := CG_mem R a e bar m (e - m) (by omega) i hi
        omega
      · exact ih (m + 1) (by omega) b (by omega)
theorem qcl_below {R : QR} : ∀ {u i : Nat}, u ≤ qtr R → i ∈ qcl R u → i + 2 ≤ qft R u := by
  intro u
  induction u with
  | zero => intro i _ h; cases h
  | succ u ih =>
    intro i hu h
    have hl := qft_lt R (t := u) hu
    rcases List.mem_append.mp h with h | h
    · have := ih (by omega) h; omega
    · exact (CGt_mem (t := u) hu h).2
theorem qcl_sd {R : QR} : ∀ u, u ≤ qtr R → qsd (qcl R u) := by
  intro u
  induction u with
  | zero => intro _; exact List.Pairwise.nil
  | succ u ih =>
    intro hu
    have hl := qft_lt R (t := u) hu
    show qsd (qcl R u ++ CGt R u)
    refine List.pairwise_append.mpr ⟨ih (by omega), CG_sd R _ _ _ _ _ (by omega), fun i hi k hk => ?_⟩
    have h1 := qcl_below (by omega) hi
    have h2 := (CGt_mem (t := u) hu hk).1
    omega
theorem qcf_fold {j : Nat} : ∀ (l L : List Nat), qsd (L ++ l) → (l.foldl (fun (y : Int × Nat) i => (if j = i ∨ j = i + 1 then (y.2 : Int) else y.1, y.2 + 1)) (qcf L 0 j, L.length)).1 = qcf (L ++ l) 0 j := by
  intro l
  induction l with
  | nil => intro L _; rw [List.append_nil]; rfl
  | cons i l ih =>
    intro L h
    have h1 : ∀ k, k ∈ L → k + 2 ≤ i := fun k hk => (List.pairwise_append.mp h).2.2 k hk i List.mem_cons_self
    have h2 := ih (L ++ [i]) (by rw [List.append_assoc]; exact h)
    rw [List.append_assoc, qcf_snoc L 0 j h1, List.length_append, List.length_singleton, Nat.zero_add] at h2
    rw [List.foldl_cons]
    exact h2
theorem carOf_ok {n9 : Nat} {S : qS} {R : QR} {p : Int} {j : Nat} (hn : 40 ≤ n9) (hV : QV R) (hQ : QM S R) (hp : p = (j : Int)) (hj : j < 40) : MX4_carOf n9 S p = some (qcf (qcars R) 0 j) := by
  have hl15 := qcars_len hV
  have h1 := carOf_l_ok (n9 := n9) hV hQ hp hj (qcars R) [] n9 0 (-1) rfl rfl (by omega) (by decide)
  have h2 := qcf_fold (j := j) (qcars R) [] (qcl_sd _ (Nat.le_refl _))
  unfold MX4_carOf
  rw [h1]
  exact congrArg some h2
theorem qcf_R : ∀ (l : List Nat) (c j : Nat), -1 ≤ qcf l c j ∧ qcf l c j ≤ (c : Int) + (l.length : Int) := by
  intro l
  induction l with
  | nil => intro c j; exact ⟨Int.le_refl _, by show (-1 : Int) ≤ (c : Int) + 0; omega⟩
  | cons i l ih =>
    intro c j
    have := ih (c + 1) j
    show -1 ≤ (if j = i ∨ j = i + 1 then (c : Int) else qcf l (c + 1) j) ∧ (if j = i ∨ j = i + 1 then (c : Int) else qcf l (c + 1) j) ≤ _
    rw [List.length_cons]
    split <;> omega
/-- what axle answers -/
def qax (R : QR) (i : Nat) (what : Int) : Int := if what = 0 then R.pa i else if what = 1 then R.we i else if what = 2 then (qto R i : Int) else qcf (qcars R) 0 i
theorem qax_R {R : QR} (hV : QV R) {i : Nat} (hi : i < R.n) (what : Int) : qR (qax R i what) := by
  have h30 := hV.n30
  have h1 := hV.pa i hi
  have h2 := hV.we i hi
  have h3 := (qto_ok R hi).1
  have h4 := qtr_le R
  have h5 := qcf_R (qcars R) 0 i
  have h6 := qcars_len hV
  unfold qax
  split
  · constructor <;> omega
  · split
    · constructor <;> omega
    · split <;> (constructor <;> omega)
theorem axle_c {n9 : Nat} {S : qS} {A : QA} {p w : Int} (hn : 2000 ≤ n9) (hp : qR p) (hw : qR w) (hA : AOk A) (hC : CR S A) : (¬ (0 ≤ p ∧ p < (A.R.n : Int)) → COp S (ML_axle n9 S p w) 1 0 A) ∧ ((0 ≤ p ∧ p < (A.R.n : Int)) → ¬ (0 ≤ w ∧ w ≤ 3) → COp S (ML_axle n9 S p w) 2 0 A) ∧ ((0 ≤ p ∧ p < (A.R.n : Int)) → (0 ≤ w ∧ w ≤ 3) → COp S (ML_axle n9 S p w) 0 (qax A.R p.toNat w) A) := by
  have hV := hA.1
  have h30 := hV.n30
  refine ⟨fun hc => ?_, fun hc h2 => ?_, fun hc h2 => ?_⟩
  · have hx : MX3_axle n9 S p w = some (Sum.inl "java/lang/IndexOutOfBoundsException", S) := by
      unfold MX3_axle
      rw [qb_s (demandAxle_ok hV hC.1.1 hp), if_neg hc]
      rfl
    unfold ML_axle
    rw [qb_s hx, qyp_l, if_pos rfl]
    exact COp.thr hC (Or.inl rfl)
  · have hx : MX3_axle n9 S p w = some (Sum.inl "java/lang/IllegalArgumentException", S) := by
      unfold MX3_axle
      rw [qb_s (demandAxle_ok hV hC.1.1 hp), if_pos hc, qy_inr, qg_t hw, ql]
      by_cases h3 : w < 0
      · rw [if_pos h3]
      · rw [if_neg h3, if_neg (by omega)]
    unfold ML_axle
    rw [qb_s hx, qyp_l, if_neg iae_ioo, if_pos rfl]
    exact COp.thr hC (Or.inr rfl)
  · obtain ⟨S1, e1, e2, e3, e4⟩ := plan_c (n9 := n9) (by omega) hA hC
    have hi : p.toNat < A.R.n := by omega
    have hpi : p = (p.toNat : Int) := by omega
    have hx : MX3_axle n9 S p w = some (Sum.inr (qax A.R p.toNat w), S1) := by
      unfold MX3_axle qax
      rw [qb_s (demandAxle_ok hV hC.1.1 hp), if_pos hc, qy_inr, qg_t hw, ql, if_neg (by omega), if_pos (by omega), qb_s e1]
      by_cases w0 : w = 0
      · rw [if_pos w0, if_pos w0, qb_s (at_pa q7 hV e2.1.1 hpi hi)]
      · rw [if_neg w0, if_neg w0]
        by_cases w1 : w = 1
        · rw [if_pos w1, if_pos w1, qb_s (at_we q7 hV e2.1.1 hpi hi)]
        · rw [if_neg w1, if_neg w1]
          by_cases w2 : w = 2
          · rw [if_pos w2, if_pos w2, qb_s (at_in kk21 hpi (by omega)), e3.2.2.1 _ hi]
          · rw [if_neg w2, if_neg w2, qb_s (at_in kk22 hpi (by omega)), e3.2.2.2.1 _ hi]
    unfold ML_axle
    rw [qb_s hx, qyp_r, qg_t (qax_R hV hi w), ql]
    exact COp.ret (S' := S1) e2 e4
theorem axle_m {n9 : Nat} {S : qS} {A : QA} {p w : Int} (hn : 2000 ≤ n9) (hp : qR p) (hw : qR w) (hA : AOk A) (hM : MR S A) : (¬ (0 ≤ p ∧ p < (A.R.n : Int)) → MOp S (MX4_axle n9 S p w) 1 0 A) ∧ ((0 ≤ p ∧ p < (A.R.n : Int)) → ¬ (0 ≤ w ∧ w ≤ 3) → MOp S (MX4_axle n9 S p w) 2 0 A) ∧ ((0 ≤ p ∧ p < (A.R.n : Int)) → (0 ≤ w ∧ w ≤ 3) → MOp S (MX4_axle n9 S p w) 0 (qax A.R p.toNat w) A) := by
  have hV := hA.1
  have h30 := hV.n30
  refine ⟨fun hc => ?_, fun hc h2 => ?_, fun hc h2 => ?_⟩
  · have hx : MX4_axle n9 S p w = some (0, q2 S 110 0 1) := by
      unfold MX4_axle
      rw [qb_s (isAxle_ok hV hM.1 hp), qg_t q01R]
      simp only [ql]
      rw [if_neg hc, if_pos rfl, qb_s ref1]
      rfl
    rw [hx]
    exact MOp.no hM (Or.inl rfl)
  · have hx : MX4_axle n9 S p w = some (0, q2 S 110 0 2) := by
      unfold MX4_axle
      rw [qb_s (isAxle_ok hV hM.1 hp), qg_t q01R]
      simp only [ql]
      rw [if_pos hc, if_neg (by decide), qg_t hw, qb_s (in00 hw (by decide) (by decide) h2), qg_t (by decide), if_pos rfl, qb_s ref2]
      rfl
    rw [hx]
    exact MOp.no hM (Or.inr rfl)
  · obtain ⟨S1, e1, e2, e3, e4, e5⟩ := plan_m (n9 := n9) (by omega) hA (hM.ref (k := 0))
    have hi : p.toNat < A.R.n := by omega
    have hpi : p = (p.toNat : Int) := by omega
    have k1 : S1 117 (35 + p).toNat = A.R.pa p.toNat := by rw [show (35 + p).toNat = 35 + p.toNat by omega]; exact e2.1.pa _ hi
    have k2 : S1 117 (65 + p).toNat = A.R.we p.toNat := by rw [show (65 + p).toNat = 65 + p.toNat by omega]; exact e2.1.we _ hi
    have hx : MX4_axle n9 S p w = some (qax A.R p.toNat w, S1) := by
      unfold MX4_axle qax
      rw [qb_s (isAxle_ok hV hM.1 hp), qg_t q01R]
      simp only [ql]
      rw [if_pos hc, if_neg (by decide), qg_t hw, qb_s (in01 hw (by decide) (by decide) h2), qg_t (by decide), if_neg (by decide), qb_s ref0]
      simp only [if_true]
      rw [qg_t (by decide), qb_s e1, qg_t hw]
      by_cases w0 : w = 0
      · rw [if_pos w0, if_pos w0, qg_t (by omega), k1]
      · rw [if_neg w0, if_neg w0]
        by_cases w1 : w = 1
        · rw [if_pos w1, if_pos w1, qg_t (by omega), k2]
        · rw [if_neg w1, if_neg w1]
          by_cases w2 : w = 2
          · rw [if_pos w2, if_pos w2, qb_s (trainOf_ok (by omega) hV e3 hpi hi)]
          · rw [if_neg w2, if_neg w2, qb_s (carOf_ok (by omega) hV e3 hpi (by omega))]
    exact ⟨_, S1, hx, e2, by rw [e5, q2_s], fun _ => rfl, qax_R hV hi w, fun q j hq => (e4 q j hq).trans (mOut.ref q j hq)⟩
