/-! the whole text is read, on the reference's side -/
theorem read_l_m {n9 : Nat} {A : QA} (hn : 2000 ≤ n9) (hA : AOk A) (k : qS → Option (Int × qS)) : ∀ (d f : Nat) (S : qS) (X : QX), A.len ≤ X.pl + d → d < f → DT S A → XV A X → TM S X →
    ∃ S', MX4_readText_l30 n9 k f S = k S' ∧ qH aD S S' ∧ (∀ e, qrun A d X = Sum.inl e → S' 110 4 = 0 ∧ S' 110 3 = (e : Int)) ∧ (∀ X', qrun A d X = Sum.inr X' → TM S' X' ∧ XV A X' ∧ A.len ≤ X'.pl) := by
  have h120 := hA.2.1.1
  intro d
  induction d with
  | zero =>
    intro f S X hd hf hT hX hM
    cases f with
    | zero => omega
    | succ f =>
      have hpl := hX.1.1
      refine ⟨S, ?_, qH.rfl, fun e he => (by cases he), fun X' he => by cases he; exact ⟨hM, hX, hd⟩⟩
      rw [MX4_readText_l30, hM.1.2, qg_t (by decide), if_neg (by decide), hM.1.1, qg_t (by constructor <;> omega), hT.1, qg_t (by constructor <;> omega), if_pos (by omega)]
  | succ d ih =>
    intro f S X hd hf hT hX hM
    have hpl := hX.1.1
    cases f with
    | zero => omega
    | succ f =>
      by_cases hlt : X.pl < A.len
      · obtain ⟨S1, e1, e2, e3, e4⟩ := readPart_m (n9 := n9) hn hA hT hX hM hlt
        rw [MX4_readText_l30, hM.1.2, qg_t (by decide), if_neg (by decide), hM.1.1, qg_t (by constructor <;> omega), hT.1, qg_t (by constructor <;> omega), if_neg (by omega), qb_s e1]
        cases hq : qstep A X with
        | inl e =>
          rw [qrun_err hlt hq]
          have hS := e3 e hq
          refine ⟨S1, ?_, e2, fun e' he => by cases he; exact hS, fun X' he => by cases he⟩
          cases f with
          | zero => omega
          | succ f => rw [MX4_readText_l30, hS.1, qg_t (by decide), if_pos rfl]
        | inr X1 =>
          have hV1 := qstep_V hX hlt hq
          rw [qrun_ok hlt hq]
          obtain ⟨S', k1, k2, k3, k4⟩ := ih f S1 X1 (by omega) (by omega) (hT.fr e2) hV1.1 (e4 X1 hq)
          exact ⟨S', k1, qH.tr e2 k2, k3, k4⟩
      · rw [qrun_end hlt]
        refine ⟨S, ?_, qH.rfl, fun e he => (by cases he), fun X' he => by cases he; exact ⟨hM, hX, by omega⟩⟩
        rw [MX4_readText_l30, hM.1.2, qg_t (by decide), if_neg (by decide), hM.1.1, qg_t (by constructor <;> omega), hT.1, qg_t (by constructor <;> omega), if_pos (by omega)]
theorem readText_m {n9 : Nat} {S : qS} {A : QA} (hn : 2000 ≤ n9) (hA : AOk A) (hT : DT S A) : ∃ r S', MX4_readText n9 S = some (r, S') ∧ qH aD S S' ∧ (∀ e, qread A = Sum.inl e → r = (e : Int)) ∧ (∀ X, qread A = Sum.inr X → r = -1 ∧ TM S' X ∧ XV A X ∧ X.op = 0) := by
  have h120 := hA.2.1.1
  have hr := qch_R hA 0
  unfold MX4_readText
  dsimp only [ql]
  generalize hS7 : q2 (q2 (q2 (q2 S 110 3 0) 110 4 1) 110 7 0) 110 11 0 = S7
  have hH : qH aD S S7 := hS7 ▸ ((((qH.rfl.q2 rfl).q2 rfl).q2 rfl).q2 rfl)
  have hT7 := hT.fr hH
  have e3 : S7 110 3 = 0 := by rw [← hS7, q2_j (by decide), q2_j (by decide), q2_j (by decide), q2_s]
  have e4 : S7 110 4 = 1 := by rw [← hS7, q2_j (by decide), q2_j (by decide), q2_s]
  have e7 : S7 110 7 = 0 := by rw [← hS7, q2_j (by decide), q2_s]
  have e11 : S7 110 11 = 0 := by rw [← hS7, q2_s]
  rw [qb_s (isNext_m (k := 0) hA hT7 e3 (by omega) (by decide))]
  by_cases h82 : qch A 0 = 82
  · have hl := qch_lt (A := A) (k := 0) (by omega)
    obtain ⟨S1, a1, a2, a3, a4⟩ := acc_1 (n9 := n9) e4 e3
    have hT1 := hT7.fr (aGD a2)
    have hM1 : TM S1 qX0 := ⟨⟨a4, a3⟩, by rw [a2 110 7 rfl]; exact e7, by rw [a2 110 11 rfl]; exact e11, fun j hj => absurd hj (Nat.not_lt_zero j), fun k hk => absurd hk (Nat.not_lt_zero k), fun k hk => absurd hk (Nat.not_lt_zero k), fun h => absurd h (Nat.not_lt_zero 0)⟩
    obtain ⟨S', k1, k2, k3, k4⟩ := read_l_m (n9 := n9) hn hA (fun S13 => qg (qR (S13 110 4)) <| if (S13 110 4) = 0 then (some ((S13 110 3), S13)) else (qg (qR (S13 110 11)) <| if (S13 110 11) = 0 then (some ((-1), S13)) else (some ((S13 110 3), S13)))) A.len n9 S1 qX0 (by show A.len ≤ 1 + A.len; omega) (by omega) hT1 (qX0_V hl) hM1
    have hH' := qH.tr (qH.tr hH (aGD a2)) k2
    rw [if_pos h82, qb_s a1, k1]
    cases hq : qrun A A.len qX0 with
    | inl e =>
      have he := k3 e hq
      have hq' := qread_e h82 hq
      rw [he.1, qg_t (by decide), if_pos rfl]
      exact ⟨_, S', rfl, hH', fun e' h => by rw [hq'] at h; cases h; exact he.2, fun X h => by rw [hq'] at h; cases h⟩
    | inr X =>
      obtain ⟨g1, g2, g3⟩ := k4 X hq
      have hq' := qread_o h82 hq
      have hop := g2.1.2
      have hpl := g2.1.1
      rw [g1.1.2, qg_t (by decide), if_neg (by decide), g1.2.2.1, qg_t (by constructor <;> omega)]
      by_cases h0 : X.op = 0
      · rw [if_pos h0] at hq'
        rw [if_pos (by omega)]
        exact ⟨_, S', rfl, hH', fun e' h => (by rw [hq'] at h; cases h), fun X1 h => by rw [hq'] at h; cases h; exact ⟨rfl, g1, g2, h0⟩⟩
      · rw [if_neg h0] at hq'
        rw [if_neg (by omega)]
        exact ⟨_, S', rfl, hH', fun e' h => (by rw [hq'] at h; cases h; rw [g1.1.1]; omega), fun X1 h => by rw [hq'] at h; cases h⟩
  · obtain ⟨S1, a1, a2, a3, a4⟩ := acc_0 (n9 := n9) (v := 0) (Or.inr ⟨e4, rfl⟩) (by decide) e3
    have hq' := qread_0 h82
    have hH' := qH.tr hH (aGD a2)
    rw [if_neg h82, qb_s a1]
    -- nothing is read where the first character is wrong
    have lp : MX4_readText_l30 n9 (fun S13 => qg (qR (S13 110 4)) <| if (S13 110 4) = 0 then (some ((S13 110 3), S13)) else (qg (qR (S13 110 11)) <| if (S13 110 11) = 0 then (some ((-1), S13)) else (some ((S13 110 3), S13)))) n9 S1 = some (S1 110 3, S1) := by
      obtain ⟨f, rfl⟩ : ∃ f, n9 = f + 1 := ⟨n9 - 1, by omega⟩
      rw [MX4_readText_l30, a3, qg_t (by decide), if_pos rfl, qg_t (by decide), if_pos rfl]
    rw [lp]
    exact ⟨_, S1, rfl, hH', fun e' h => by rw [hq'] at h; cases h; exact a4, fun X h => by rw [hq'] at h; cases h⟩
theorem CR.text {S S' : qS} {A : QA} (h : CR S A) (hH : qH aT S S') : CR S' A :=
  h.keep (fun p j hk => hH p j (by unfold cK at hk; unfold aT; simp at hk ⊢; omega)) (by rw [hH 19 0 rfl]; exact h.1.2)
theorem cOut.text {S S' : qS} (hH : qH aT S S') : cOut S S' := fun p j hp => hH p j (by unfold aT; simp; omega)
theorem MR.text {S S' : qS} {A : QA} (h : MR S A) (hH : qH aD S S') : MR S' A := h.keep (fun p j hk => hH p j (by
  unfold mK at hk
  unfold aD
  simp at hk ⊢
  omega))
theorem mOut.text {S S' : qS} (hH : qH aD S S') : mOut S S' := fun p j hp => hH p j (by unfold aD; simp; omega)
theorem qread_b {A : QA} (hA : AOk A) {e : Nat} (h : qread A = Sum.inl e) : e ≤ 130 := by
  have h120 := hA.2.1.1
  by_cases h82 : qch A 0 = 82
  · have hl := qch_lt (A := A) (k := 0) (by omega)
    cases hq : qrun A A.len qX0 with
    | inl e' =>
      rw [qread_e h82 hq] at h
      cases h
      exact qrun_e hA _ _ _ (qX0_V hl) hq
    | inr X =>
      rw [qread_o h82 hq] at h
      by_cases h0 : X.op = 0
      · rw [if_pos h0] at h; cases h
      · rw [if_neg h0] at h; cases h; omega
  · rw [qread_0 h82] at h
    cases h
    exact Nat.zero_le _
theorem qread_X {A : QA} (hA : AOk A) {X : QX} (h : qread A = Sum.inr X) : X.to ≤ 90000 ∧ (∀ j, j < X.to → j < 30 → (1 ≤ X.pa j ∧ X.pa j ≤ 60) ∧ (1 ≤ X.we j ∧ X.we j ≤ 99)) := by
  have key : ∀ (d : Nat) (X0 : QX), XV A X0 → ∀ X, qrun A d X0 = Sum.inr X → XV A X := by
    intro d
    induction d with
    | zero => intro X0 h0 X h; cases h; exact h0
    | succ d ih =>
      intro X0 h0 X h
      by_cases hlt : X0.pl < A.len
      · cases hq : qstep A X0 with
        | inl e => rw [qrun_err hlt hq] at h; cases h
        | inr X1 => rw [qrun_ok hlt hq] at h; exact ih X1 (qstep_V h0 hlt hq).1 X h
      · rw [qrun_end hlt] at h; cases h; exact h0
  by_cases h82 : qch A 0 = 82
  · have hl := qch_lt (A := A) (k := 0) (by omega)
    cases hq : qrun A A.len qX0 with
    | inl e' => rw [qread_e h82 hq] at h; cases h
    | inr X1 =>
      have hX1 := key _ _ (qX0_V hl) _ hq
      rw [qread_o h82 hq] at h
      by_cases h0 : X1.op = 0
      · rw [if_pos h0] at h; cases h; exact ⟨hX1.to_le hA, hX1.2.2.1⟩
      · rw [if_neg h0] at h; cases h
  · rw [qread_0 h82] at h; cases h
/-- the error's position -/
def qep (A : QA) : Int := match qread A with
  | Sum.inl e => (e : Int)
  | Sum.inr _ => -1
def qat (A : QA) : Int := match qread A with
  | Sum.inl _ => -1
  | Sum.inr X => (X.to : Int)
theorem qep_e {A : QA} {e : Nat} (h : qread A = Sum.inl e) : qep A = (e : Int) ∧ qat A = -1 := by unfold qep qat; rw [h]; exact ⟨rfl, rfl⟩
theorem qep_x {A : QA} {X : QX} (h : qread A = Sum.inr X) : qep A = -1 ∧ qat A = (X.to : Int) := by unfold qep qat; rw [h]; exact ⟨rfl, rfl⟩
theorem errorPosition_c {n9 : Nat} {S : qS} {A : QA} (hn : 2000 ≤ n9) (hA : AOk A) (hC : CR S A) : COq S (MX3_errorPosition n9 S) (qep A) A := by
  obtain ⟨S', e1, e2, e3, e4⟩ := read_c (n9 := n9) hn hA hC.2.1
  refine ⟨S', ?_, hC.text e2, cOut.text e2⟩
  unfold MX3_errorPosition
  rw [qb_s e1]
  cases hq : qread A with
  | inl e => rw [(qep_e hq).1, e3 e hq]
  | inr X => rw [(qep_x hq).1, (e4 X hq).1]
theorem errorPosition_m {n9 : Nat} {S : qS} {A : QA} (hn : 2000 ≤ n9) (hA : AOk A) (hM : MR S A) : MOp S (MX4_errorPosition n9 S) 0 (qep A) A := by
  have hM1 := hM.ref (k := 0)
  obtain ⟨r, S', e1, e2, e3, e4⟩ := readText_m (n9 := n9) (S := q2 S 110 0 0) hn hA hM1.2.1
  have hx : MX4_errorPosition n9 S = some (r, S') := by
    unfold MX4_errorPosition
    rw [ql, qb_s e1]
  have hr : r = qep A ∧ qR (qep A) := by
    cases hq : qread A with
    | inl e =>
      have hb := qread_b hA hq
      rw [(qep_e hq).1]
      exact ⟨e3 e hq, by constructor <;> omega⟩
    | inr X => rw [(qep_x hq).1]; exact ⟨(e4 X hq).1, by decide⟩
  exact ⟨r, S', hx, hM1.text e2, by rw [e2 110 0 rfl, q2_s], fun _ => hr.1, by rw [hr.1]; exact hr.2, fun q j hq => (mOut.text e2 q j hq).trans (mOut.ref q j hq)⟩
theorem axlesTold_c {n9 : Nat} {S : qS} {A : QA} (hn : 2000 ≤ n9) (hA : AOk A) (hC : CR S A) : COq S (MX3_axlesTold n9 S) (qat A) A := by
  obtain ⟨S', e1, e2, e3, e4⟩ := read_c (n9 := n9) hn hA hC.2.1
  refine ⟨S', ?_, hC.text e2, cOut.text e2⟩
  unfold MX3_axlesTold
  rw [qb_s e1]
  cases hq : qread A with
  | inl e =>
    have hb := qread_b hA hq
    rw [(qep_e hq).2, e3 e hq, qg_t (by constructor <;> omega), if_neg (by omega)]
  | inr X =>
    rw [(qep_x hq).2, (e4 X hq).1, qg_t (by decide), if_pos rfl, (e4 X hq).2.1.1]
theorem axlesTold_m {n9 : Nat} {S : qS} {A : QA} (hn : 2000 ≤ n9) (hA : AOk A) (hM : MR S A) : MOp S (MX4_axlesTold n9 S) 0 (qat A) A := by
  have hM1 := hM.ref (k := 0)
  obtain ⟨r, S', e1, e2, e3, e4⟩ := readText_m (n9 := n9) (S := q2 S 110 0 0) hn hA hM1.2.1
  have hx : MX4_axlesTold n9 S = some (qat A, S') ∧ qR (qat A) := by
    unfold MX4_axlesTold
    rw [ql, qb_s e1]
    dsimp only
    cases hq : qread A with
    | inl e =>
      have hb := qread_b hA hq
      rw [(qep_e hq).2, e3 e hq, qg_t (by constructor <;> omega), if_neg (by omega)]
      exact ⟨rfl, by decide⟩
    | inr X =>
      have hb := qread_X hA hq
      rw [(qep_x hq).2, (e4 X hq).1, qg_t (by decide), if_pos rfl, (e4 X hq).2.1.2.1]
      exact ⟨rfl, by constructor <;> omega⟩
  exact ⟨_, S', hx.1, hM1.text e2, by rw [e2 110 0 rfl, q2_s], fun _ => rfl, hx.2, fun q j hq => (mOut.text e2 q j hq).trans (mOut.ref q j hq)⟩
