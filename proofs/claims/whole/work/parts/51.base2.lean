theorem bestBase_ml {n9 : Nat} {A : QA} (hn : 2000 ≤ n9) (hA : AOk A) : ∀ (d f : Nat) (S : qS) (b found least : Int), b + d = 21 → 1 ≤ b → d < f → MR S A → qR found → qR least →
    ∃ S', MX4_bestBase_l11 n9 f S found least b = some (qbb A.R d b found least, S') ∧ MR S' A ∧ mOut S S' ∧ S' 110 0 = S 110 0 := by
  intro d
  induction d with
  | zero =>
    intro f S b found least hb h1 hf hM hfo hl
    cases f with
    | zero => omega
    | succ f =>
      refine ⟨S, ?_, hM, fun _ _ _ => rfl, rfl⟩
      rw [MX4_bestBase_l11, qg_t (by constructor <;> omega), if_pos (by omega)]
      rfl
  | succ d ih =>
    intro f S b found least hb h1 hf hM hfo hl
    cases f with
    | zero => omega
    | succ f =>
      have hbb : 1 ≤ b ∧ b ≤ 20 := by omega
      obtain ⟨S1, t1, t2, t3, t4, t5⟩ := try_m (n9 := n9) hn hA hM
      have hVb := base_V hA.1 hbb
      have hco := qco_R hVb
      have g2 : QMr (q2 S1 118 1 b) 118 (qputs A.R 0 b) := by
        obtain ⟨m1, m2, m3, m4, m5⟩ := t3
        refine ⟨by rw [q2_j (by decide)]; exact m1, fun j hj => by rw [q2_j (by omega)]; exact m2 j hj, fun j hj => by rw [q2_j (by omega)]; exact m3 j hj, fun t ht => by rw [q2_j (by omega)]; exact m4 t ht, fun k hk => ?_⟩
        rw [q2_at]
        show _ = if k = 0 then b else A.R.se k
        by_cases h : k = 0
        · rw [if_pos (by omega), if_pos h]
        · rw [if_neg (by omega), if_neg h]; exact m5 k hk
      have g3 : qH (aWm 118) S1 (q2 S1 118 1 b) := aW_m (qH.rfl.q2 rfl)
      obtain ⟨S2, k1, k2, k3, k4, k5, k6⟩ := tplan_m (n9 := n9) (by omega) hVb (t2.trial g3) g2
      have hcost : S2 110 25 = qbc A.R b := k4.1.2.2
      have hcoR : qR (qbc A.R b) := by unfold qbc; constructor <;> omega
      have ho : mOut S S2 := fun q j hq => ((k5 q j hq).trans (mOut.trial g3 q j hq)).trans (t4 q j hq)
      have h0 : S2 110 0 = S 110 0 := by rw [k6, g3 110 0 rfl, t5]
      have fin : ∀ fo le, qR fo → qR le → qbb A.R (d + 1) b found least = qbb A.R d (b + 1) fo le → ∃ S', MX4_bestBase_l11 n9 f S2 fo le (b + 1) = some (qbb A.R (d + 1) b found least, S') ∧ MR S' A ∧ mOut S S' ∧ S' 110 0 = S 110 0 := by
        intro fo le h1' h2' he
        obtain ⟨S', m1, m2, m3, m4⟩ := ih f S2 (b + 1) fo le (by omega) (by omega) (by omega) k2 h1' h2'
        exact ⟨S', by rw [he]; exact m1, m2, fun q j hq => (m3 q j hq).trans (ho q j hq), by rw [m4, h0]⟩
      rw [MX4_bestBase_l11, qg_t (by constructor <;> omega), if_neg (by omega), qb_s t1, qg_t (by decide)]
      simp only [ql]
      rw [show (1 : Int).toNat = 1 from rfl, qb_s k1, qg_t hfo, hcost]
      simp only [if_true]
      by_cases hf1 : found = -1
      · rw [if_pos hf1, qg_t (by decide), if_neg (by decide), if_neg (by decide)]
        exact fin b (qbc A.R b) (by constructor <;> omega) hcoR (by rw [qbb, if_pos (Or.inl hf1)])
      · rw [if_neg hf1, qg_t hcoR, qg_t hl]
        by_cases hle : least ≤ qbc A.R b
        · rw [if_pos hle, qg_t (by decide)]
          exact fin found least hfo hl (by rw [qbb, if_neg (by omega)])
        · rw [if_neg hle, qg_t (by decide), if_neg (by decide), if_neg (by decide)]
          exact fin b (qbc A.R b) (by constructor <;> omega) hcoR (by rw [qbb, if_pos (by omega)])
theorem qbb_R {R : QR} : ∀ (d : Nat) (b found least : Int), -1 ≤ found ∧ found ≤ 100 → 0 ≤ b → b + d ≤ 100 → -1 ≤ qbb R d b found least ∧ qbb R d b found least ≤ 100 := by
  intro d
  induction d with
  | zero => intro b found least h _ _; exact h
  | succ d ih =>
    intro b found least h h0 hi
    unfold qbb
    split
    · exact ih (b + 1) _ _ (by omega) (by omega) (by omega)
    · exact ih (b + 1) _ _ h (by omega) (by omega)
theorem bestBase_m {n9 : Nat} {S : qS} {A : QA} (hn : 2000 ≤ n9) (hA : AOk A) (hM : MR S A) : MOp S (MX4_bestBase n9 S) 0 (qbb A.R 20 1 (-1) 0) A := by
  obtain ⟨S', k1, k2, k3, k4⟩ := bestBase_ml (n9 := n9) hn hA 20 n9 (q2 S 110 0 0) 1 (-1) 0 (by decide) (by decide) (by omega) (hM.ref (k := 0)) (by decide) (by decide)
  have hr := qbb_R (R := A.R) 20 1 (-1) 0 (by decide) (by decide) (by decide)
  refine ⟨_, S', ?_, k2, by rw [k4, q2_s], fun _ => rfl, by constructor <;> omega, fun q j hq => (k3 q j hq).trans (mOut.ref q j hq)⟩
  unfold MX4_bestBase
  simp only [ql]
  exact k1
