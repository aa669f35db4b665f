theorem suspect_ml {n9 : Nat} {A : QA} (hn : 2000 ≤ n9) (hA : AOk A) : ∀ (d f i : Nat) (S : qS) (x least found : Int), x = (i : Int) → i + d = A.R.n → d < f → MR S A → qR least → ∃ S', MX4_suspect_l22 n9 f S least found x = some (qss A.R d i least found, S') ∧ MR S' A ∧ mOut S S' ∧ S' 110 0 = S 110 0 := by
  have h30 := hA.1.n30
  intro d
  induction d with
  | zero =>
    intro f i S x least found hx hi hf hM hl
    cases f with
    | zero => omega
    | succ f =>
      have hn0 : S 117 (0 : Int).toNat = (A.R.n : Int) := hM.1.n
      refine ⟨S, ?_, hM, fun _ _ _ => rfl, rfl⟩
      rw [MX4_suspect_l22, qg_t (by decide), qg_t (by constructor <;> omega), hn0, qg_t (by constructor <;> omega), if_pos (by omega)]
      rfl
  | succ d ih =>
    intro f i S x least found hx hi hf hM hl
    cases f with
    | zero => omega
    | succ f =>
      have hn0 : S 117 (0 : Int).toNat = (A.R.n : Int) := hM.1.n
      have hin : i < A.R.n := by omega
      have hco := qco_R (qstrike_V hA.1 hin)
      obtain ⟨S1, r, S2, S3, e1, e2, e3, e4, e5, e6, e7, e8⟩ := struck_m (n9 := n9) (p := x) (i := i) hn hA hM hx hin
      rw [MX4_suspect_l22, qg_t (by decide), qg_t (by constructor <;> omega), hn0, qg_t (by constructor <;> omega), if_neg (by omega), qb_s e1, qb_s e2, qb_s e3, e6.1.2.2, qg_t (by constructor <;> omega), qg_t hl]
      simp only [ql]
      by_cases h : least ≤ qco (qstrike A.R i) (qtr (qstrike A.R i))
      · rw [if_pos h, if_pos h]
        obtain ⟨S', k1, k2, k3, k4⟩ := ih f (i + 1) S3 (x + 1) least found (by omega) (by omega) (by omega) e4 hl
        refine ⟨S', ?_, k2, fun q j hq => (k3 q j hq).trans (e7 q j hq), by rw [k4, e8]⟩
        rw [k1]
        show _ = some ((if qco (qstrike A.R i) (qtr (qstrike A.R i)) < least then _ else _), S')
        rw [if_neg (by omega)]
      · rw [if_neg h, if_neg h]
        obtain ⟨S', k1, k2, k3, k4⟩ := ih f (i + 1) S3 (x + 1) (qco (qstrike A.R i) (qtr (qstrike A.R i))) x (by omega) (by omega) (by omega) e4 (by constructor <;> omega)
        refine ⟨S', ?_, k2, fun q j hq => (k3 q j hq).trans (e7 q j hq), by rw [k4, e8]⟩
        rw [k1]
        show _ = some ((if qco (qstrike A.R i) (qtr (qstrike A.R i)) < least then _ else _), S')
        rw [if_pos (by omega), hx]
theorem qss_R {R : QR} : ∀ (d i : Nat) (least found : Int), -1 ≤ found ∧ found ≤ 100 → i + d ≤ 100 → -1 ≤ qss R d i least found ∧ qss R d i least found ≤ 100 := by
  intro d
  induction d with
  | zero => intro i least found h _; exact h
  | succ d ih =>
    intro i least found h hi
    unfold qss
    split
    · exact ih (i + 1) _ _ (by omega) (by omega)
    · exact ih (i + 1) _ _ h (by omega)
def qsp (R : QR) : Int := qss R R.n 0 (qco R (qtr R)) (-1)
theorem suspect_c {n9 : Nat} {S : qS} {A : QA} (hn : 2000 ≤ n9) (hA : AOk A) (hC : CR S A) : COq S (MX3_suspect n9 S) (qsp A.R) A := by
  have h30 := hA.1.n30
  have hco := qco_R hA.1
  obtain ⟨S1, e1, e2, e3, e4⟩ := plan_c (n9 := n9) (by omega) hA hC
  obtain ⟨S', k1, k2, k3⟩ := suspect_cl (n9 := n9) hn hA A.R.n n9 0 S1 0 (qco A.R (qtr A.R)) (-1) rfl (by omega) (by omega) e2 (by constructor <;> omega)
  refine ⟨S', ?_, k2, fun q j hq => (k3 q j hq).trans (e4 q j hq)⟩
  unfold MX3_suspect
  rw [qb_s e1]
  simp only [ql]
  rw [e3.1.2.2.1]
  exact k1
theorem suspect_m {n9 : Nat} {S : qS} {A : QA} (hn : 2000 ≤ n9) (hA : AOk A) (hM : MR S A) : MOp S (MX4_suspect n9 S) 0 (qsp A.R) A := by
  have h30 := hA.1.n30
  have hco := qco_R hA.1
  obtain ⟨S1, e1, e2, e3, e4, e5⟩ := plan_m (n9 := n9) (by omega) hA (hM.ref (k := 0))
  obtain ⟨S', k1, k2, k3, k4⟩ := suspect_ml (n9 := n9) hn hA A.R.n n9 0 S1 0 (qco A.R (qtr A.R)) (-1) rfl (by omega) (by omega) e2 (by constructor <;> omega)
  have hr := qss_R (R := A.R) A.R.n 0 (qco A.R (qtr A.R)) (-1) (by omega) (by omega)
  refine ⟨_, S', ?_, k2, by rw [k4, e5, q2_s], fun _ => rfl, ?_, fun q j hq => ((k3 q j hq).trans (e4 q j hq)).trans (mOut.ref q j hq)⟩
  · unfold MX4_suspect
    simp only [ql]
    rw [qb_s e1, e3.1.2.2]
    exact k1
  · unfold qsp
    constructor <;> omega
