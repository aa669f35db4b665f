/-! what both sides do to what they remember -/
theorem in_ok {n9 : Nat} {S : qS} {p lo hi : Int} (hp : qRl p) (h1 : qRl lo) (h2 : qRl hi) : MX4_in n9 S p lo hi = some (if lo ≤ p ∧ p ≤ hi then 1 else 0) := by
  unfold MX4_in
  rw [qg_t hp, qg_t h1]
  by_cases h : p < lo
  · rw [if_pos (qcmp_lt.mpr h), if_neg (by omega)]
  · rw [if_neg (fun z => h (qcmp_lt.mp z)), qg_t h2]
    by_cases h3 : hi < p
    · rw [if_pos (qcmp_gt.mpr h3), if_neg (by omega)]
    · rw [if_neg (fun z => h3 (qcmp_gt.mp z)), if_pos (by omega)]
theorem refused_ok {n9 : Nat} {S : qS} {k : Int} (h : qR k) : MX4_refused n9 S k = some (if k ≤ 0 then 0 else 1, q2 S 110 0 k) := by
  unfold MX4_refused
  rw [ql, qg_t h]
  split <;> rfl
theorem has_ok {n9 : Nat} {S : qS} {r : Nat} {R : QR} {p : Int} (hr : qr2 r) (hV : QV R) (hC : QCr S r R) (hp : qR p) : MX1_has n9 S r p = some (if 0 ≤ p ∧ p < (R.n : Int) then 1 else 0) := by
  have h30 := hV.n30
  unfold MX1_has
  rw [qg_t hr.k, qg_t hp]
  by_cases h : p < 0
  · rw [if_pos h, if_neg (by omega)]
  · rw [if_neg h, hC.n, qg_t (by constructor <;> omega)]
    by_cases h2 : (R.n : Int) ≤ p
    · rw [if_pos h2, if_neg (by omega)]
    · rw [if_neg h2, if_pos (by omega)]
theorem isPause_ok {n9 : Nat} {S : qS} {p : Int} (hp : qR p) : MX3_isPause n9 S p = some (if 1 ≤ p ∧ p ≤ 60 then 1 else 0) := by
  unfold MX3_isPause
  rw [qg_t hp]
  by_cases h : p < 1
  · rw [if_pos h, if_neg (by omega)]
  · rw [if_neg h]
    by_cases h2 : 60 < p
    · rw [if_pos h2, if_neg (by omega)]
    · rw [if_neg h2, if_pos (by omega)]
theorem isWeight_ok {n9 : Nat} {S : qS} {p : Int} (hp : qR p) : MX3_isWeight n9 S p = some (if 1 ≤ p ∧ p ≤ 99 then 1 else 0) := by
  unfold MX3_isWeight
  rw [qg_t hp]
  by_cases h : p < 1
  · rw [if_pos h, if_neg (by omega)]
  · rw [if_neg h]
    by_cases h2 : 99 < p
    · rw [if_pos h2, if_neg (by omega)]
    · rw [if_neg h2, if_pos (by omega)]
theorem q01 {c : Prop} [Decidable c] : (if c then (1 : Int) else 0) = 0 ∨ (if c then (1 : Int) else 0) = 1 := by split; exact Or.inr rfl; exact Or.inl rfl
theorem q01R {c : Prop} [Decidable c] : qR (if c then (1 : Int) else 0) := by split <;> decide
theorem misPause_ok {n9 : Nat} {S : qS} {p : Int} (hp : qR p) : MX4_isPause n9 S p = some (if 1 ≤ p ∧ p ≤ 60 then 1 else 0) := by
  unfold MX4_isPause
  rw [qg_t hp, qb_s (in_ok (qRl_of hp) (by decide) (by decide)), qg_t q01]
theorem misWeight_ok {n9 : Nat} {S : qS} {p : Int} (hp : qR p) : MX4_isWeight n9 S p = some (if 1 ≤ p ∧ p ≤ 99 then 1 else 0) := by
  unfold MX4_isWeight
  rw [qg_t hp, qb_s (in_ok (qRl_of hp) (by decide) (by decide)), qg_t q01]
theorem isAxle_ok {n9 : Nat} {S : qS} {R : QR} {p : Int} (hV : QV R) (hM : QMr S 117 R) (hp : qR p) : MX4_isAxle n9 S p = some (if 0 ≤ p ∧ p < (R.n : Int) then 1 else 0) := by
  have h30 := hV.n30
  have h0 : S 117 (0 : Int).toNat = (R.n : Int) := hM.n
  unfold MX4_isAxle
  rw [qg_t hp, qg_t (by decide), h0, qg_t (by constructor <;> omega), qb_s (in_ok (qRl_of hp) (by decide) (by constructor <;> omega)), qg_t q01]
  by_cases h : 0 ≤ p ∧ p < (R.n : Int)
  · rw [if_pos h, if_pos (by omega)]
  · rw [if_neg h, if_neg (by omega)]
/-- with the recording remembered -/
def QA.rem (A : QA) : QA := (A.R, A.2.1, A.2.2.1, (A.R :: A.U).take 14)
def QA.setR (A : QA) (R : QR) : QA := (R, A.2.1, A.2.2.1, A.2.2.2)
theorem AOk.rem {A : QA} (h : AOk A) : AOk A.rem := by
  obtain ⟨h1, h2, h3, h4, h5⟩ := h
  refine ⟨h1, h2, h3, ?_, fun R hR => ?_⟩
  · show ((A.R :: A.U).take 14).length ≤ 14
    rw [List.length_take]
    omega
  · rcases List.mem_cons.mp (List.mem_of_mem_take hR) with rfl | h
    · exact h1
    · exact h5 R h
theorem AOk.setR {A : QA} {R : QR} (h : AOk A) (hR : QV R) : AOk (A.setR R) := ⟨hR, h.2.1, h.2.2.1, h.2.2.2⟩
theorem k_st {k : Nat} (h : k < 14) : qk (30 + 5 * k) = 2 := qk_st h
/-- what lies beyond the class -/
abbrev cOut (S S' : qS) : Prop := ∀ p j, 110 ≤ p → S' p j = S p j
/-- what lies beyond the reference -/
abbrev mOut (S S' : qS) : Prop := ∀ p j, (p < 110 ∨ 127 ≤ p) → S' p j = S p j
theorem cOut.of {A : Nat → Nat → Bool} {S S' : qS} (h : qH A S S') (hA : ∀ p j, 110 ≤ p → A p j = false) : cOut S S' := fun p j hp => h p j (hA p j hp)
theorem remember_ok {n9 : Nat} {S : qS} {A : QA} (hn : 40 ≤ n9) (hA : AOk A) (hC : CR S A) : ∃ S', MX3_remember n9 S = some S' ∧ CR S' A.rem ∧ cOut S S' ∧ QCr S' 7 A.R := by
  obtain ⟨⟨h1, h2⟩, ⟨h3, h4⟩, h5, h6, h7', h8⟩ := id hC
  have h30 := hA.1.n30
  obtain ⟨p, hp⟩ : ∃ p : Nat, S 0 7 = (p : Int) := ⟨(S 0 7).toNat, by omega⟩
  have hp14 : p < 14 := by omega
  have hpn : (S 0 7).toNat = p := by omega
  obtain ⟨S1, e1, e2, e3⟩ := copy_ok (n9 := n9) (S := S) (u0 := 7) (u1 := 30 + 5 * p) hn (by decide +kernel) (k_st hp14) (by omega)
  have f : ∀ q j, (q < 30 + 5 * p ∨ 30 + 5 * p + 4 < q) → S1 q j = S q j := fun q j hq => e2 q j (by unfold aRec; simp; omega)
  have hU := hA.2.2.2.1
  have hmin : qmin ((A.U.length : Int) + 1) 14 = (((A.R :: A.U).take 14).length : Int) := by
    rw [List.length_take, List.length_cons]
    unfold qmin
    split <;> omega
  generalize hS2 : q2 (q2 S1 0 7 (((p : Int) + 1) % 14)) 0 8 (qmin ((A.U.length : Int) + 1) 14) = S2
  have g : ∀ q j, q ≠ 0 → S2 q j = S1 q j := fun q j hq => by rw [← hS2, q2_p hq, q2_p hq]
  have hp7 : S2 0 7 = (((p + 1) % 14 : Nat) : Int) := by rw [← hS2, q2_j (by decide), q2_s]; omega
  have h7 : ∀ R, QCr S 7 R → QCr S2 7 R := fun R hR => by
    have e : ∀ q, 7 ≤ q → q ≤ 11 → S2 q = S q := fun q a b => funext fun j => by rw [g q j (by omega), f q j (by omega)]
    unfold QCr
    rw [e 7 (by omega) (by omega), e (7 + 1) (by omega) (by omega), e (7 + 2) (by omega) (by omega), e (7 + 3) (by omega) (by omega), e (7 + 4) (by omega) (by omega)]
    exact hR
  have hrec : ∀ r R, QCr S1 r R → r ≠ 0 → QCr S2 r R := fun r R hR hr => by
    have e : ∀ q, q ≠ 0 → S2 q = S1 q := fun q a => funext fun j => g q j a
    unfold QCr
    rw [e r hr, e (r + 1) (by omega), e (r + 2) (by omega), e (r + 3) (by omega), e (r + 4) (by omega)]
    exact hR
  have hkeep : ∀ r R, QCr S r R → (r + 4 < 30 + 5 * p ∨ 30 + 5 * p + 4 < r) → QCr S1 r R := fun r R hR hr => by
    have e : ∀ q, r ≤ q → q ≤ r + 4 → S1 q = S q := fun q a b => funext fun j => f q j (by omega)
    unfold QCr
    rw [e r (by omega) (by omega), e (r + 1) (by omega) (by omega), e (r + 2) (by omega) (by omega), e (r + 3) (by omega) (by omega), e (r + 4) (by omega) (by omega)]
    exact hR
  refine ⟨S2, ?_, ⟨⟨h7 _ h1, by rw [g _ _ (by decide), f 19 0 (by omega)]; exact h2⟩, ⟨by rw [g _ _ (by decide), f 1 1 (by omega)]; exact h3, fun j hj => by rw [g _ _ (by decide), f 2 j (by omega)]; exact h4 j hj⟩, fun k hk => ⟨by rw [g _ _ (by decide), f 29 k (by omega)]; exact (h5 k hk).1, fun R hR => ?_⟩, by rw [hp7]; omega, ?_, fun i R hi => ?_⟩, fun q j hq => by rw [g _ _ (by omega), f q j (by omega)], h7 _ h1⟩
  · unfold MX3_remember
    rw [qg_t h6, hpn, qb_s e1, f 0 7 (by omega), hp, qg_t (by omega)]
    simp only [ql]
    rw [q2_j (q := 0) (i := 8) (by decide), f 0 8 (by omega), h7', qg_t (by constructor <;> omega), hS2]
  · exact hrec _ R (hkeep _ R ((h5 k hk).2 R hR) (by omega)) (by omega)
  · rw [← hS2, q2_s, hmin]; rfl
  · have hi : ((A.R :: A.U).take 14)[i]? = some R := hi
    rw [hp7]
    have hil : i < 14 := by
      have := (List.getElem?_eq_some_iff.mp hi).1
      rw [List.length_take] at this
      omega
    rw [List.getElem?_take, if_pos hil] at hi
    cases i with
    | zero =>
      cases hi
      rw [show ((((p + 1) % 14 : Nat) : Int).toNat + 13 - 0) % 14 = p by omega]
      exact hrec _ _ (e3 _ h30 h1) (by omega)
    | succ i =>
      have hi : A.U[i]? = some R := hi
      have h9 := h8 i R hi
      rw [hpn] at h9
      rw [show ((((p + 1) % 14 : Nat) : Int).toNat + 13 - (i + 1)) % 14 = (p + 13 - i) % 14 by omega]
      exact hrec _ R (hkeep _ R h9 (by omega)) (by omega)
