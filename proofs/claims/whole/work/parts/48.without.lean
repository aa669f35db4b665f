/-! without, suspect -/
theorem struck_c {n9 : Nat} {S : qS} {A : QA} {p : Int} {i : Nat} (hn : 2000 ≤ n9) (hA : AOk A) (hC : CR S A) (hp : p = (i : Int)) (hi : i < A.R.n) : ∃ S1 S2 S3, MX3_copy n9 S 7 12 = some S1 ∧ MX1_dropAxle n9 S1 12 p = some (1, S2) ∧ MX0_workOut n9 S2 12 = some S3 ∧ CR S3 A ∧ QP S3 (qstrike A.R i) ∧ cOut S S3 := by
  have h30 := hA.1.n30
  obtain ⟨S1, e1, e2, e3, e4⟩ := try_c (n9 := n9) (by omega) hA hC
  obtain ⟨S2, g1, g2, g3⟩ := (dropAxle_ok (n9 := n9) (p := p) q12 (by omega) hA.1 e3 (by constructor <;> omega)).1 (by omega)
  rw [show p.toNat = i by omega] at g2
  obtain ⟨S3, k1, k2, k3, k4, k5⟩ := tplan_c (n9 := n9) (by omega) (qstrike_V hA.1 hi) (e2.trial g3) g2
  exact ⟨S1, S2, S3, e1, g1, k1, k2, k4, fun q j hq => ((k5 q j hq).trans (cOut.trial g3 q j hq)).trans (e4 q j hq)⟩
theorem struck_m {n9 : Nat} {S : qS} {A : QA} {p : Int} {i : Nat} (hn : 2000 ≤ n9) (hA : AOk A) (hM : MR S A) (hp : p = (i : Int)) (hi : i < A.R.n) : ∃ (S1 : qS) (r : Int) (S2 S3 : qS), MX4_tryIt n9 S = some S1 ∧ MX4_strikeIn n9 S1 118 p = some (r, S2) ∧ MX4_lay n9 S2 118 = some S3 ∧ MR S3 A ∧ QMr S3 118 (qstrike A.R i) ∧ QM S3 (qstrike A.R i) ∧ mOut S S3 ∧ S3 110 0 = S 110 0 := by
  obtain ⟨S1, e1, e2, e3, e4, e5⟩ := try_m (n9 := n9) hn hA hM
  obtain ⟨S2, g1, g2, g3⟩ := mstrikeIn_ok (n9 := n9) (p := p) w118 hn hA.1 e3 hi hp
  obtain ⟨S3, k1, k2, k3, k4, k5, k6⟩ := tplan_m (n9 := n9) (by omega) (qstrike_V hA.1 hi) (e2.trial (aW_m g3)) g2
  exact ⟨S1, _, S2, S3, e1, g1, k1, k2, k3, k4, fun q j hq => ((k5 q j hq).trans (mOut.trial (aW_m g3) q j hq)).trans (e4 q j hq), by rw [k6, g3 110 0 rfl, e5]⟩
theorem without_c {n9 : Nat} {S : qS} {A : QA} {p : Int} (hn : 2000 ≤ n9) (hp : qR p) (hA : AOk A) (hC : CR S A) : (¬ (0 ≤ p ∧ p < (A.R.n : Int)) → COp S (ML_without n9 S p) 1 0 A) ∧ ((0 ≤ p ∧ p < (A.R.n : Int)) → COp S (ML_without n9 S p) 0 (qwt (qstrike A.R p.toNat) (qcars (qstrike A.R p.toNat))) A) := by
  have hV := hA.1
  refine ⟨fun hc => ?_, fun hc => ?_⟩
  · have hx : MX3_without n9 S p = some (Sum.inl "java/lang/IndexOutOfBoundsException", S) := by
      unfold MX3_without
      rw [qb_s (demandAxle_ok hV hC.1.1 hp), if_neg hc]
      rfl
    unfold ML_without
    rw [qb_s hx, qyp_l, if_pos rfl]
    exact COp.thr hC (Or.inl rfl)
  · have hi : p.toNat < A.R.n := by omega
    have hw := qwtc_R (qstrike_V hV hi)
    obtain ⟨S1, S2, S3, e1, e2, e3, e4, e5, e6⟩ := struck_c (n9 := n9) (p := p) (i := p.toNat) hn hA hC (by omega) hi
    have hx : MX3_without n9 S p = some (Sum.inr (qwt (qstrike A.R p.toNat) (qcars (qstrike A.R p.toNat))), S3) := by
      unfold MX3_without
      rw [qb_s (demandAxle_ok hV hC.1.1 hp), if_pos hc, qy_inr, qb_s e1, qb_s e2, qb_s e3, e5.1.2.2.2]
    unfold ML_without
    rw [qb_s hx, qyp_r, qg_t (by constructor <;> omega), ql]
    exact COp.ret (S' := S3) e4 e6
theorem without_m {n9 : Nat} {S : qS} {A : QA} {p : Int} (hn : 2000 ≤ n9) (hp : qR p) (hA : AOk A) (hM : MR S A) : (¬ (0 ≤ p ∧ p < (A.R.n : Int)) → MOp S (MX4_without n9 S p) 1 0 A) ∧ ((0 ≤ p ∧ p < (A.R.n : Int)) → MOp S (MX4_without n9 S p) 0 (qwt (qstrike A.R p.toNat) (qcars (qstrike A.R p.toNat))) A) := by
  have hV := hA.1
  refine ⟨fun hc => ?_, fun hc => ?_⟩
  · have hx : MX4_without n9 S p = some (0, q2 S 110 0 1) := by
      unfold MX4_without
      rw [qb_s (isAxle_ok hV hM.1 hp), qg_t q01R]
      simp only [ql]
      rw [if_neg hc, if_pos rfl, qb_s ref1]
      rfl
    rw [hx]
    exact MOp.no hM (Or.inl rfl)
  · have hi : p.toNat < A.R.n := by omega
    have hVs := qstrike_V hV hi
    have hw := qwtc_R hVs
    obtain ⟨S1, r, S2, S3, e1, e2, e3, e4, e5, e6, e7, e8⟩ := struck_m (n9 := n9) (p := p) (i := p.toNat) hn hA (hM.ref (k := 0)) (by omega) hi
    have hx : MX4_without n9 S p = some (qwt (qstrike A.R p.toNat) (qcars (qstrike A.R p.toNat)), S3) := by
      unfold MX4_without
      rw [qb_s (isAxle_ok hV hM.1 hp), qg_t q01R]
      simp only [ql]
      rw [if_pos hc, if_neg (by decide), qb_s ref0]
      simp only [if_true]
      rw [qg_t (by decide), qb_s e1, qb_s e2, qb_s e3, qb_s (allWeight_ok w118 (by omega) hVs e5 e6)]
    exact ⟨_, S3, hx, e4, by rw [e8, q2_s], fun _ => rfl, by constructor <;> omega, fun q j hq => (e7 q j hq).trans (mOut.ref q j hq)⟩
theorem qco_R {R : QR} (hV : QV R) : 0 ≤ qco R (qtr R) ∧ qco R (qtr R) ≤ 60000 := by
  have h30 := hV.n30
  have htl := qtr_le R
  have key : ∀ u, u ≤ qtr R → 0 ≤ qco R u ∧ qco R u ≤ 2000 * (u : Int) := by
    intro u
    induction u with
    | zero => intro _; exact ⟨Int.le_refl _, by show (0 : Int) ≤ 2000 * 0; omega⟩
    | succ u ih =>
      intro hu
      have h1 := ih (by omega)
      have h2 := qct_R hV (t := u) hu
      show 0 ≤ qco R u + qct R u ∧ qco R u + qct R u ≤ 2000 * ((u + 1 : Nat) : Int)
      omega
  have := key (qtr R) (Nat.le_refl _)
  omega
/-- suspect's search from axle i on, with d left -/
def qss (R : QR) : Nat → Nat → Int → Int → Int
  | 0, _, _, found => found
  | d + 1, i, least, found => if qco (qstrike R i) (qtr (qstrike R i)) < least then qss R d (i + 1) (qco (qstrike R i) (qtr (qstrike R i))) (i : Int) else qss R d (i + 1) least found
theorem suspect_cl {n9 : Nat} {A : QA} (hn : 2000 ≤ n9) (hA : AOk A) : ∀ (d f i : Nat) (S : qS) (x least found : Int), x = (i : Int) → i + d = A.R.n → d < f → CR S A → qR least → ∃ S', MX3_suspect_l23 n9 f S least found x = some (qss A.R d i least found, S') ∧ CR S' A ∧ cOut S S' := by
  have h30 := hA.1.n30
  intro d
  induction d with
  | zero =>
    intro f i S x least found hx hi hf hC hl
    cases f with
    | zero => omega
    | succ f =>
      refine ⟨S, ?_, hC, fun _ _ _ => rfl⟩
      rw [MX3_suspect_l23, qg_t (by constructor <;> omega), hC.1.1.n, qg_t (by constructor <;> omega), if_pos (by omega)]
      rfl
  | succ d ih =>
    intro f i S x least found hx hi hf hC hl
    cases f with
    | zero => omega
    | succ f =>
      have hin : i < A.R.n := by omega
      have hco := qco_R (qstrike_V hA.1 hin)
      obtain ⟨S1, S2, S3, e1, e2, e3, e4, e5, e6⟩ := struck_c (n9 := n9) (p := x) (i := i) hn hA hC hx hin
      rw [MX3_suspect_l23, qg_t (by constructor <;> omega), hC.1.1.n, qg_t (by constructor <;> omega), if_neg (by omega), qb_s e1, qb_s e2, qb_s e3, e5.1.2.2.1, qg_t (by constructor <;> omega), qg_t hl]
      simp only [ql]
      by_cases h : least ≤ qco (qstrike A.R i) (qtr (qstrike A.R i))
      · rw [if_pos h]
        obtain ⟨S', k1, k2, k3⟩ := ih f (i + 1) S3 (x + 1) least found (by omega) (by omega) (by omega) e4 hl
        refine ⟨S', ?_, k2, fun q j hq => (k3 q j hq).trans (e6 q j hq)⟩
        rw [k1]
        show _ = some ((if qco (qstrike A.R i) (qtr (qstrike A.R i)) < least then _ else _), S')
        rw [if_neg (by omega)]
      · rw [if_neg h]
        obtain ⟨S', k1, k2, k3⟩ := ih f (i + 1) S3 (x + 1) (qco (qstrike A.R i) (qtr (qstrike A.R i))) x (by omega) (by omega) (by omega) e4 (by constructor <;> omega)
        refine ⟨S', ?_, k2, fun q j hq => (k3 q j hq).trans (e6 q j hq)⟩
        rw [k1]
        show _ = some ((if qco (qstrike A.R i) (qtr (qstrike A.R i)) < least then _ else _), S')
        rw [if_pos (by omega), hx]
