/-! setting, append, clearText -/
theorem setting_c {n9 : Nat} {S : qS} {A : QA} {p : Int} (hp : qR p) (hA : AOk A) (hC : CR S A) : (¬ (0 ≤ p ∧ p < 4) → COp S (ML_setting n9 S p) 1 0 A) ∧ ((0 ≤ p ∧ p < 4) → COp S (ML_setting n9 S p) 0 (A.R.se p.toNat) A) := by
  have hV := hA.1
  refine ⟨fun hc => ?_, fun hc => ?_⟩
  · have hx : MX3_setting n9 S p = some (Sum.inl "java/lang/IllegalArgumentException") := by
      unfold MX3_setting
      rw [qb_s (isSetting_ok hp), qg_t q01R, if_neg hc, if_pos rfl]
    unfold ML_setting
    rw [qb_s hx, qy_inl, if_pos rfl]
    exact COp.thr hC (Or.inl rfl)
  · have hs : qR (A.R.se p.toNat) := by
      have h0 := hV.s0
      have h1 := hV.s1
      have h2 := hV.s2
      have h3 := hV.s3
      have h4 : p.toNat = 0 ∨ p.toNat = 1 ∨ p.toNat = 2 ∨ p.toNat = 3 := by omega
      rcases h4 with h | h | h | h <;> (rw [h]; constructor <;> omega)
    have hx : MX3_setting n9 S p = some (Sum.inr (A.R.se p.toNat)) := by
      unfold MX3_setting
      rw [qb_s (isSetting_ok hp), qg_t q01R, if_pos hc, if_neg (by decide), qb_s (at_se (j := p.toNat) q7 hC.1.1 (by omega) (by omega))]
    unfold ML_setting
    rw [qb_s hx, qy_inr, qg_t hs, ql]
    exact COp.ret hC (fun _ _ _ => rfl)
theorem setting_m {n9 : Nat} {S : qS} {A : QA} {p : Int} (hp : qR p) (hA : AOk A) (hM : MR S A) : (¬ (0 ≤ p ∧ p < 4) → MOp S (MX4_setting n9 S p) 1 0 A) ∧ ((0 ≤ p ∧ p < 4) → MOp S (MX4_setting n9 S p) 0 (A.R.se p.toNat) A) := by
  have hV := hA.1
  refine ⟨fun hc => ?_, fun hc => ?_⟩
  · have hx : MX4_setting n9 S p = some (0, q2 S 110 0 1) := by
      unfold MX4_setting
      rw [qg_t hp, qb_s (in00 hp (by decide) (by decide) (by omega)), qg_t (by decide)]
      simp only [ql, if_true]
      rw [qb_s ref1]
      rfl
    rw [hx]
    exact MOp.no hM (Or.inl rfl)
  · have hs : qR (A.R.se p.toNat) := by
      have h0 := hV.s0
      have h1 := hV.s1
      have h2 := hV.s2
      have h3 := hV.s3
      have h4 : p.toNat = 0 ∨ p.toNat = 1 ∨ p.toNat = 2 ∨ p.toNat = 3 := by omega
      rcases h4 with h | h | h | h <;> (rw [h]; constructor <;> omega)
    have hix : (1 + p).toNat = 1 + p.toNat := by omega
    have e5 : q2 S 110 0 0 117 (1 + p.toNat) = A.R.se p.toNat := by rw [q2_p (by decide)]; exact hM.1.se p.toNat (by omega)
    have hx : MX4_setting n9 S p = some (A.R.se p.toNat, q2 S 110 0 0) := by
      unfold MX4_setting
      rw [qg_t hp, qb_s (in01 hp (by decide) (by decide) (by omega)), qg_t (by decide)]
      simp only [ql]
      rw [if_neg (by decide), qb_s ref0]
      simp only [if_true]
      rw [qg_t (by decide), qg_t (by omega), hix, e5]
    exact ⟨_, _, hx, hM.ref, q2_s, fun _ => rfl, hs, mOut.ref⟩
def QA.cut (A : QA) : QA := (A.R, (0, A.ch), A.2.2.1, A.2.2.2)
def QA.app (A : QA) (c : Int) : QA := (A.R, (A.len + 1, fun j => if j = A.len then c else A.ch j), A.2.2.1, A.2.2.2)
theorem AOk.cut {A : QA} (h : AOk A) : AOk A.cut := ⟨h.1, ⟨Nat.zero_le _, fun j hj => absurd hj (Nat.not_lt_zero j)⟩, h.2.2⟩
theorem AOk.app {A : QA} {c : Int} (h : AOk A) (hl : A.len < 120) (hc : 0 ≤ c ∧ c ≤ 255) : AOk (A.app c) := ⟨h.1, ⟨hl, fun j hj => by
  have hj : j < A.len + 1 := hj
  show 0 ≤ (if j = A.len then c else A.ch j) ∧ (if j = A.len then c else A.ch j) ≤ 255
  split
  · exact hc
  · exact h.2.1.2 j (by omega)⟩, h.2.2⟩
theorem CR.txt {S S' : qS} {A A' : QA} (h : CR S A) (he : A'.R = A.R ∧ A'.sv = A.sv ∧ A'.U = A.U) (hk : ∀ p j, (p ≠ 1 ∧ p ≠ 2) → S' p j = S p j) (ht : S' 1 1 = (A'.len : Int) ∧ ∀ j, j < A'.len → S' 2 j = A'.ch j) : CR S' A' := by
  obtain ⟨⟨h1, h2⟩, h3, h5, h6, h7, h8⟩ := h
  obtain ⟨e1, e2, e3⟩ := he
  refine ⟨⟨by rw [e1]; exact h1.cg (fun q j a b => hk q j (by omega)), by rw [hk _ _ (by decide)]; exact h2⟩, ht, fun k hk2 => ⟨by rw [e2, hk _ _ (by decide)]; exact (h5 k hk2).1, fun R hR => ((h5 k hk2).2 R (by rw [← e2]; exact hR)).cg (fun q j a b => hk q j (by omega))⟩, by rw [hk _ _ (by decide)]; exact h6, by rw [hk _ _ (by decide), e3]; exact h7, fun i R hR => ?_⟩
  rw [hk 0 7 (by decide)]
  exact (h8 i R (by rw [← e3]; exact hR)).cg (fun q j a b => hk q j (by omega))
theorem MR.txt {S S' : qS} {A A' : QA} (hA : AOk A) (h : MR S A) (he : A'.R = A.R ∧ A'.sv = A.sv ∧ A'.U = A.U) (hk : ∀ p j, p ≠ 111 → (p ≠ 110 ∨ j = 15) → S' p j = S p j) (ht : S' 110 2 = (A'.len : Int) ∧ ∀ j, j < A'.len → S' 111 j = A'.ch j) : MR S' A' := by
  obtain ⟨h1, h3, h5, h6, h7⟩ := h
  obtain ⟨e1, e2, e3⟩ := he
  refine ⟨?_, ht, fun k hk2 => ⟨by rw [e2, hk _ _ (by decide) (by omega)]; exact (h5 k hk2).1, fun R hR => ?_⟩, by rw [hk _ _ (by decide) (by omega), e3]; exact h6, fun i R hR => ?_⟩
  · rw [e1]
    exact QMo.r (QMo.of hA.1.n30 h1.o (fun j hj => hk _ _ (by decide) (by omega)))
  · rw [e2] at hR
    exact QMo.of (hA.2.2.1 k hk2 R hR).n30 ((h5 k hk2).2 R hR) (fun j hj => hk _ _ (by decide) (by omega))
  · rw [e3] at hR ⊢
    exact QMo.of (hA.2.2.2.2 R (List.mem_of_getElem? hR)).n30 (h7 i R hR) (fun j hj => hk _ _ (by decide) (by omega))
theorem clear_c {n9 : Nat} {S : qS} {A : QA} (hC : CR S A) : COq S (MX3_clearText n9 S) (A.len : Int) A.cut := by
  refine ⟨q2 S 1 1 0, ?_, hC.txt ⟨rfl, rfl, rfl⟩ (fun p j hp => q2_p hp.1) ⟨q2_s, fun j hj => absurd hj (Nat.not_lt_zero j)⟩, fun p j hp => q2_p (by omega)⟩
  unfold MX3_clearText
  simp only [ql]
  rw [hC.2.1.1]
theorem clear_m {n9 : Nat} {S : qS} {A : QA} (hA : AOk A) (hM : MR S A) : MOp S (MX4_clearText n9 S) 0 (A.len : Int) A.cut := by
  have hl := hA.2.1.1
  refine ⟨_, q2 (q2 S 110 0 0) 110 2 0, ?_, hM.txt hA ⟨rfl, rfl, rfl⟩ (fun p j h1 h2 => by rw [q2_ne (by omega), q2_ne (by omega)]) ⟨q2_s, fun j hj => absurd hj (Nat.not_lt_zero j)⟩, by rw [q2_j (by decide), q2_s], fun _ => rfl, by constructor <;> omega, fun p j hp => by rw [q2_p (by omega), q2_p (by omega)]⟩
  unfold MX4_clearText
  simp only [ql]
  rw [q2_j (by decide), hM.2.1.1]
theorem append_c {n9 : Nat} {S : qS} {A : QA} {c : Int} (hp : qR c) (hA : AOk A) (hC : CR S A) : (¬ (0 ≤ c ∧ c ≤ 255) → COp S (ML_append n9 S c) 1 0 A) ∧ ((0 ≤ c ∧ c ≤ 255) → A.len = 120 → COp S (ML_append n9 S c) 2 0 A) ∧ ((0 ≤ c ∧ c ≤ 255) → A.len < 120 → COp S (ML_append n9 S c) 0 ((A.len : Int) + 1) (A.app c)) := by
  have hl := hA.2.1.1
  have h11 := hC.2.1.1
  refine ⟨fun hc => ?_, fun hc hL => ?_, fun hc hL => ?_⟩
  · have hx : MX3_append n9 S c = some (Sum.inl "java/lang/IllegalArgumentException", S) := by
      unfold MX3_append
      rw [qg_t hp, ql]
      by_cases h1 : c < 0
      · rw [if_pos h1]
      · rw [if_neg h1, if_neg (by omega)]
    unfold ML_append
    rw [qb_s hx, qyp_l, if_pos rfl]
    exact COp.thr hC (Or.inl rfl)
  · have hadd : MX2_add n9 S c = some (0, S) := by
      unfold MX2_add
      rw [h11, qg_t (by constructor <;> omega), if_neg (by omega), if_neg (by omega)]
    have hx : MX3_append n9 S c = some (Sum.inl "java/lang/IllegalStateException", S) := by
      unfold MX3_append
      rw [qg_t hp, ql, if_neg (by omega), if_pos (by omega), qb_s hadd]
      rfl
    unfold ML_append
    rw [qb_s hx, qyp_l, if_neg ise_iae, if_pos rfl]
    exact COp.thr hC (Or.inr rfl)
  · generalize hS1 : q2 (q2 S 2 A.len c) 1 1 ((A.len : Int) + 1) = S1
    have hadd : MX2_add n9 S c = some (1, S1) := by
      unfold MX2_add
      rw [h11, qg_t (by constructor <;> omega), if_neg (by omega), if_pos (by omega), qg_t (by omega)]
      simp only [ql]
      rw [q2_p (by decide), h11, toNat_c, hS1]
    have g11 : S1 1 1 = (A.len : Int) + 1 := by rw [← hS1, q2_s]
    have hx : MX3_append n9 S c = some (Sum.inr ((A.len : Int) + 1), S1) := by
      unfold MX3_append
      rw [qg_t hp, ql, if_neg (by omega), if_pos (by omega), qb_s hadd]
      show some (Sum.inr (S1 1 1), S1) = _
      rw [g11]
    have hR : CR S1 (A.app c) := hC.txt ⟨rfl, rfl, rfl⟩ (fun p j hp => by rw [← hS1, q2_p hp.1, q2_p hp.2]) ⟨by rw [g11]; show (A.len : Int) + 1 = ((A.len + 1 : Nat) : Int); omega, fun j hj => by
      have hj : j < A.len + 1 := hj
      rw [← hS1, q2_p (by decide), q2_at]
      show _ = if j = A.len then c else A.ch j
      by_cases h : j = A.len
      · rw [if_pos h, if_pos h]
      · rw [if_neg h, if_neg h]; exact hC.2.1.2 j (by omega)⟩
    unfold ML_append
    rw [qb_s hx, qyp_r, qg_t (by constructor <;> omega), ql]
    exact COp.ret (S' := S1) hR (fun p j hp => by rw [← hS1, q2_p (by omega), q2_p (by omega)])
theorem append_m {n9 : Nat} {S : qS} {A : QA} {c : Int} (hp : qR c) (hA : AOk A) (hM : MR S A) : (¬ (0 ≤ c ∧ c ≤ 255) → MOp S (MX4_append n9 S c) 1 0 A) ∧ ((0 ≤ c ∧ c ≤ 255) → A.len = 120 → MOp S (MX4_append n9 S c) 2 0 A) ∧ ((0 ≤ c ∧ c ≤ 255) → A.len < 120 → MOp S (MX4_append n9 S c) 0 ((A.len : Int) + 1) (A.app c)) := by
  have hl := hA.2.1.1
  have h11 := hM.2.1.1
  refine ⟨fun hc => ?_, fun hc hL => ?_, fun hc hL => ?_⟩
  · have hx : MX4_append n9 S c = some (0, q2 S 110 0 1) := by
      unfold MX4_append
      rw [qg_t hp, qb_s (in00 hp (by decide) (by decide) hc), qg_t (by decide)]
      simp only [ql, if_true]
      rw [qb_s ref1]
      rfl
    rw [hx]
    exact MOp.no hM (Or.inl rfl)
  · have hx : MX4_append n9 S c = some (0, q2 S 110 0 2) := by
      unfold MX4_append
      rw [qg_t hp, qb_s (in01 hp (by decide) (by decide) hc), qg_t (by decide)]
      simp only [ql]
      rw [if_neg (by decide), h11, qg_t (by constructor <;> omega), if_pos (by omega), qb_s ref2]
      rfl
    rw [hx]
    exact MOp.no hM (Or.inr rfl)
  · generalize hS1 : q2 (q2 (q2 S 110 0 0) 111 A.len c) 110 2 ((A.len : Int) + 1) = S1
    have g2 : S1 110 2 = (A.len : Int) + 1 := by rw [← hS1, q2_s]
    have h2 : q2 S 110 0 0 110 2 = (A.len : Int) := by rw [q2_j (by decide)]; exact h11
    have hx : MX4_append n9 S c = some ((A.len : Int) + 1, S1) := by
      unfold MX4_append
      rw [qg_t hp, qb_s (in01 hp (by decide) (by decide) hc), qg_t (by decide)]
      simp only [ql]
      rw [if_neg (by decide), h11, qg_t (by constructor <;> omega), if_neg (by omega), qb_s ref0]
      simp only [if_true]
      rw [qg_t (by decide), qg_t (show 0 ≤ q2 S 110 0 0 110 2 ∧ q2 S 110 0 0 110 2 < 120 by rw [h2]; omega), h2, toNat_c, q2_p (S := q2 S 110 0 0) (by decide), h2, hS1, g2]
    refine ⟨_, S1, hx, hM.txt hA ⟨rfl, rfl, rfl⟩ (fun p j h1 h3 => by rw [← hS1, q2_ne (by omega), q2_p h1, q2_ne (by omega)]) ⟨by rw [g2]; show (A.len : Int) + 1 = ((A.len + 1 : Nat) : Int); omega, fun j hj => ?_⟩, by rw [← hS1, q2_j (by decide), q2_p (by decide), q2_s], fun _ => rfl, by constructor <;> omega, fun p j hp => by rw [← hS1, q2_p (by omega), q2_p (by omega), q2_p (by omega)]⟩
    have hj : j < A.len + 1 := hj
    rw [← hS1, q2_p (by decide), q2_at]
    show _ = if j = A.len then c else A.ch j
    by_cases h : j = A.len
    · rw [if_pos h, if_pos h]
    · rw [if_neg h, if_neg h, q2_p (by decide)]; exact hM.2.1.2 j (by omega)
