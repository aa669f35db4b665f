/-! bestBase -/
/-- the recording with another base -/
theorem QCr.base {S : qS} {r : Nat} {R : QR} {a b : Int} (h : QCr S r (qputs (qputs R 0 a) 0 b)) : QCr S r (qputs R 0 b) := by
  obtain ⟨h1, h2, h3, h4, h5⟩ := h
  refine ⟨h1, h2, h3, h4, fun k hk => ?_⟩
  rw [h5 k hk]
  show (if k = 0 then b else (if k = 0 then a else R.se k)) = if k = 0 then b else R.se k
  by_cases h : k = 0
  · rw [if_pos h, if_pos h]
  · rw [if_neg h, if_neg h, if_neg h]
def qbc (R : QR) (b : Int) : Int := qco (qputs R 0 b) (qtr (qputs R 0 b))
/-- the search for the best base from b on, with d left -/
def qbb (R : QR) : Nat → Int → Int → Int → Int
  | 0, _, found, _ => found
  | d + 1, b, found, least => if found = -1 ∨ qbc R b < least then qbb R d (b + 1) b (qbc R b) else qbb R d (b + 1) found least
theorem base_V {R : QR} (hV : QV R) {b : Int} (h : 1 ≤ b ∧ b ≤ 20) : QV (qputs R 0 b) := qputs_V hV (Or.inl ⟨rfl, h⟩)
theorem bestBase_cl {n9 : Nat} {A : QA} (hn : 2000 ≤ n9) (hA : AOk A) : ∀ (d f : Nat) (S : qS) (b found least : Int), b + d = 21 → 1 ≤ b → d < f → CR S A → (∃ T, QCr S 12 T ∧ ∀ c, QCr S 12 T → (∀ S', QCr S' 12 (qputs T 0 c) → QCr S' 12 (qputs A.R 0 c))) → qR found → qR least →
    ∃ S', MX3_bestBase_l21 n9 f S found least b = some (qbb A.R d b found least, S') ∧ CR S' A ∧ cOut S S' := by
  intro d
  induction d with
  | zero =>
    intro f S b found least hb h1 hf hC hT hfo hl
    cases f with
    | zero => omega
    | succ f =>
      refine ⟨S, ?_, hC, fun _ _ _ => rfl⟩
      have h20 : qF2i (0 : Int).toNat = 20 := rfl
      rw [MX3_bestBase_l21, qg_t (by decide), qg_t (by constructor <;> omega), qg_t (by rw [h20]; decide), h20, if_pos (by omega)]
      rfl
  | succ d ih =>
    intro f S b found least hb h1 hf hC hT hfo hl
    cases f with
    | zero => omega
    | succ f =>
      have h20 : qF2i (0 : Int).toNat = 20 := rfl
      obtain ⟨T, hT1, hT2⟩ := hT
      have hbb : 1 ≤ b ∧ b ≤ 20 := by omega
      obtain ⟨S1, g1, g2, g3⟩ := (putSetting_ok (n9 := n9) (p := 0) (v := b) q12 hT1 (by decide) (by constructor <;> omega)).1 (Or.inl ⟨rfl, hbb⟩)
      have g4 : QCr S1 12 (qputs A.R 0 b) := hT2 b hT1 S1 g2
      have hVb := base_V hA.1 hbb
      have hco := qco_R hVb
      obtain ⟨S2, k1, k2, k3, k4, k5⟩ := tplan_c (n9 := n9) (by omega) hVb (hC.trial g3) g4
      have hcost : S2 17 11 = qbc A.R b := k4.1.2.2.1
      have hcoR : qR (qbc A.R b) := by unfold qbc; constructor <;> omega
      have ho : cOut S S2 := fun q j hq => (k5 q j hq).trans (cOut.trial g3 q j hq)
      have hI := fun fo le (h1' : qR fo) (h2' : qR le) => ih f S2 (b + 1) fo le (by omega) (by omega) (by omega) k2 ⟨_, k3, fun c _ S' hS' => hS'.base⟩ h1' h2'
      rw [MX3_bestBase_l21, qg_t (by decide), qg_t (by constructor <;> omega), qg_t (by rw [h20]; decide), h20, if_neg (by omega), qb_s g1, qb_s k1, qg_t hfo]
      simp only [ql]
      rw [hcost]
      have fin : ∀ fo le, qR fo → qR le → qbb A.R (d + 1) b found least = qbb A.R d (b + 1) fo le → ∃ S', MX3_bestBase_l21 n9 f S2 fo le (b + 1) = some (qbb A.R (d + 1) b found least, S') ∧ CR S' A ∧ cOut S S' := by
        intro fo le h1' h2' he
        obtain ⟨S', m1, m2, m3⟩ := hI fo le h1' h2'
        exact ⟨S', by rw [he]; exact m1, m2, fun q j hq => (m3 q j hq).trans (ho q j hq)⟩
      by_cases hf1 : found = -1
      · rw [if_pos hf1]
        exact fin b (qbc A.R b) (by constructor <;> omega) hcoR (by rw [qbb, if_pos (Or.inl hf1)])
      · rw [if_neg hf1, qg_t hcoR, qg_t hl]
        by_cases hle : least ≤ qbc A.R b
        · rw [if_pos hle]
          exact fin found least hfo hl (by rw [qbb, if_neg (by omega)])
        · rw [if_neg hle]
          exact fin b (qbc A.R b) (by constructor <;> omega) hcoR (by rw [qbb, if_pos (by omega)])
theorem bestBase_c {n9 : Nat} {S : qS} {A : QA} (hn : 2000 ≤ n9) (hA : AOk A) (hC : CR S A) : COq S (MX3_bestBase n9 S) (qbb A.R 20 1 (-1) 0) A := by
  obtain ⟨S1, e1, e2, e3, e4⟩ := try_c (n9 := n9) (by omega) hA hC
  obtain ⟨S', k1, k2, k3⟩ := bestBase_cl (n9 := n9) hn hA 20 n9 S1 1 (-1) 0 (by decide) (by decide) (by omega) e2 ⟨A.R, e3, fun c _ S' h => h⟩ (by decide) (by decide)
  refine ⟨S', ?_, k2, fun q j hq => (k3 q j hq).trans (e4 q j hq)⟩
  unfold MX3_bestBase
  rw [qb_s e1, qg_t (by decide)]
  exact k1
