/-- the parts up to the end of the text -/
def qrun (A : QA) : Nat → QX → Sum Nat QX
  | 0, X => Sum.inr X
  | d + 1, X => if X.pl < A.len then (match qstep A X with
    | Sum.inl e => Sum.inl e
    | Sum.inr X' => qrun A d X') else Sum.inr X
theorem qrun_end {A : QA} {d : Nat} {X : QX} (h : ¬ X.pl < A.len) : qrun A d X = Sum.inr X := by
  cases d with
  | zero => rfl
  | succ d => rw [qrun, if_neg h]
theorem qrun_err {A : QA} {d e : Nat} {X : QX} (h : X.pl < A.len) (hq : qstep A X = Sum.inl e) : qrun A (d + 1) X = Sum.inl e := by
  rw [qrun, if_pos h, hq]
theorem qrun_ok {A : QA} {d : Nat} {X X' : QX} (h : X.pl < A.len) (hq : qstep A X = Sum.inr X') : qrun A (d + 1) X = qrun A d X' := by
  rw [qrun, if_pos h, hq]
theorem qaxx_e {A : QA} {X : QX} {e : Nat} (h : qaxx A X = Sum.inl e) : e ≤ X.pl + 3 := by
  unfold qaxx at h
  repeat' split at h
  all_goals cases h
  all_goals omega
theorem qstep_e {A : QA} {X : QX} {e : Nat} (h : qstep A X = Sum.inl e) : e ≤ X.pl + 3 := by
  unfold qstep at h
  repeat' split at h
  all_goals first
    | exact qaxx_e h
    | (cases h <;> omega)
theorem qrun_e {A : QA} (hA : AOk A) : ∀ (d : Nat) (X : QX) (e : Nat), XV A X → qrun A d X = Sum.inl e → e ≤ 130 := by
  have h120 := hA.2.1.1
  intro d
  induction d with
  | zero => intro X e _ h; cases h
  | succ d ih =>
    intro X e hX h
    by_cases hlt : X.pl < A.len
    · cases hq : qstep A X with
      | inl e' =>
        rw [qrun_err hlt hq] at h
        cases h
        have := qstep_e hq
        omega
      | inr X' =>
        rw [qrun_ok hlt hq] at h
        exact ih X' e (qstep_V hX hlt hq).1 h
    · rw [qrun_end hlt] at h; cases h
theorem read_l_c {n9 : Nat} {A : QA} (hn : 2000 ≤ n9) (hA : AOk A) (k : qS → Option qS) : ∀ (d f pt : Nat) (S : qS) (X : QX) (p x : Int), p = (X.pl : Int) → x = (pt : Int) → pt + 1 ≤ X.pl → A.len ≤ X.pl + d → d < f → CT S A → XV A X → TC S X → S 1 5 = -1 →
    ∃ S', MX2_read_l35 n9 k f S p x = k S' ∧ qH aT S S' ∧ (∀ e, qrun A d X = Sum.inl e → S' 1 5 = (e : Int)) ∧ (∀ X', qrun A d X = Sum.inr X' → S' 1 5 = -1 ∧ TC S' X' ∧ XV A X' ∧ A.len ≤ X'.pl) := by
  have h120 := hA.2.1.1
  intro d
  induction d with
  | zero =>
    intro f pt S X p x hp hx hpt hd hf hT hX hC h5
    cases f with
    | zero => omega
    | succ f =>
      refine ⟨S, ?_, qH.rfl, fun e he => (by cases he), fun X' he => by cases he; exact ⟨h5, hC, hX, hd⟩⟩
      have hpl := hX.1.1
      rw [MX2_read_l35, qg_t (by constructor <;> omega)]
      by_cases h1 : 120 ≤ x
      · rw [if_pos h1]
      · rw [if_neg h1, qg_t (by constructor <;> omega), hT.1, qg_t (by constructor <;> omega), if_pos (by omega)]
  | succ d ih =>
    intro f pt S X p x hp hx hpt hd hf hT hX hC h5
    have hpl := hX.1.1
    cases f with
    | zero => omega
    | succ f =>
      by_cases hlt : X.pl < A.len
      · rw [MX2_read_l35, qg_t (by constructor <;> omega), if_neg (by omega), qg_t (by constructor <;> omega), hT.1, qg_t (by constructor <;> omega), if_neg (by omega), h5, qg_t (by decide), if_pos rfl]
        obtain ⟨r, S1, e1, e2, e3, e4, e5⟩ := readPart_c (n9 := n9) hn hA hT hX hC h5 hp hlt
        rw [qb_s e1]
        cases hq : qstep A X with
        | inl e =>
          rw [qrun_err hlt hq]
          refine ⟨S1, ?_, e3, fun e' he => by cases he; exact e4 e hq, fun X' he => by cases he⟩
          have hS := e4 e hq
          have hT1 := hT.fr e3
          cases f with
          | zero => omega
          | succ f =>
            rw [MX2_read_l35, qg_t (by constructor <;> omega)]
            by_cases h1 : 120 ≤ x + 1
            · rw [if_pos h1]
            · rw [if_neg h1]
              show (qg (qR r) <| _) = _
              rw [qg_t e2]
              show (qg (qR (S1 1 1)) <| if S1 1 1 ≤ r then k S1 else _) = _
              rw [hT1.1, qg_t (by constructor <;> omega)]
              by_cases h2 : (A.len : Int) ≤ r
              · rw [if_pos h2]
              · have he := qstep_e hq
                rw [if_neg h2]
                show (qg (qR (S1 1 5)) <| if S1 1 5 = -1 then _ else k S1) = _
                rw [hS, qg_t (by constructor <;> omega), if_neg (by omega)]
        | inr X1 =>
          obtain ⟨g1, g2, g3⟩ := e5 X1 hq
          have hV1 := qstep_V hX hlt hq
          rw [qrun_ok hlt hq]
          obtain ⟨S', k1, k2, k3, k4⟩ := ih f (pt + 1) S1 X1 r (x + 1) g1 (by omega) (by omega) (by omega) (by omega) (hT.fr e3) hV1.1 g3 g2
          exact ⟨S', k1, qH.tr e3 k2, k3, k4⟩
      · rw [qrun_end hlt]
        refine ⟨S, ?_, qH.rfl, fun e he => (by cases he), fun X' he => by cases he; exact ⟨h5, hC, hX, by omega⟩⟩
        rw [MX2_read_l35, qg_t (by constructor <;> omega)]
        by_cases h1 : 120 ≤ x
        · rw [if_pos h1]
        · rw [if_neg h1, qg_t (by constructor <;> omega), hT.1, qg_t (by constructor <;> omega), if_pos (by omega)]
def qX0 : QX := qmk 1 0 0 (fun _ => 1) (fun _ => 1) (fun _ => 2) (fun _ => 0)
theorem qX0_V {A : QA} (h : 0 < A.len) : XV A qX0 :=
  ⟨⟨h, by decide⟩, fun k hk => absurd hk (Nat.not_lt_zero k), fun j hj _ => absurd hj (Nat.not_lt_zero j), ⟨fun e => absurd (show (0 : Nat) = 1 from e) (by decide), fun e => absurd (show (0 : Nat) = 2 from e) (by decide), fun e => absurd (show (0 : Nat) = 3 from e) (by decide)⟩, fun _ => Nat.zero_le _, fun e => absurd (show (0 : Nat) = 1 from e) (by decide), fun e => absurd (show (0 : Nat) = 2 from e) (by decide), fun e => absurd (show (0 : Nat) = 3 from e) (by decide)⟩
/-- the error's place, or what was told -/
def qread (A : QA) : Sum Nat QX := if qch A 0 = 82 then (match qrun A A.len qX0 with
  | Sum.inl e => Sum.inl e
  | Sum.inr X => if X.op = 0 then Sum.inr X else Sum.inl A.len) else Sum.inl 0
theorem qread_0 {A : QA} (h : ¬ qch A 0 = 82) : qread A = Sum.inl 0 := by unfold qread; rw [if_neg h]
theorem qread_e {A : QA} {e : Nat} (h : qch A 0 = 82) (hq : qrun A A.len qX0 = Sum.inl e) : qread A = Sum.inl e := by unfold qread; rw [if_pos h, hq]
theorem qread_o {A : QA} {X : QX} (h : qch A 0 = 82) (hq : qrun A A.len qX0 = Sum.inr X) : qread A = if X.op = 0 then Sum.inr X else Sum.inl A.len := by unfold qread; rw [if_pos h, hq]
theorem read_c {n9 : Nat} {S : qS} {A : QA} (hn : 2000 ≤ n9) (hA : AOk A) (hT : CT S A) : ∃ S', MX2_read n9 S = some S' ∧ qH aT S S' ∧ (∀ e, qread A = Sum.inl e → S' 1 5 = (e : Int)) ∧ (∀ X, qread A = Sum.inr X → S' 1 5 = -1 ∧ TC S' X ∧ XV A X ∧ X.op = 0) := by
  have h120 := hA.2.1.1
  have hr := qch_R hA 0
  unfold MX2_read
  dsimp only [ql]
  generalize hS5 : q2 (q2 (q2 S 1 4 0) 1 8 0) 1 5 (-1) = S5
  have hH : qH aT S S5 := hS5 ▸ (((qH.rfl.q2 rfl).q2 rfl).q2 rfl)
  have hT5 := hT.fr hH
  have e4 : S5 1 4 = 0 := by rw [← hS5, q2_j (by decide), q2_j (by decide), q2_s]
  have e8 : S5 1 8 = 0 := by rw [← hS5, q2_j (by decide), q2_s]
  have e5 : S5 1 5 = -1 := by rw [← hS5, q2_s]
  rw [qb_s (charAt_ok (p := 0) (k := 0) hA hT5 rfl (by omega)), qg_t (by constructor <;> omega)]
  by_cases h82 : qch A 0 = 82
  · have hl := qch_lt (A := A) (k := 0) (by omega)
    have hC0 : TC S5 qX0 := ⟨e4, e8, fun j hj => absurd hj (Nat.not_lt_zero j), fun k hk => absurd hk (Nat.not_lt_zero k)⟩
    obtain ⟨S', k1, k2, k3, k4⟩ := read_l_c (n9 := n9) hn hA (fun S11 => qg (qR (S11 1 5)) <| if (S11 1 5) = (-1) then (qg (qR (S11 1 8)) <| if (S11 1 8) ≤ 0 then (some S11) else (some (q2 S11 1 5 (S11 1 1)))) else (some S11)) A.len n9 0 S5 qX0 1 0 rfl rfl (Nat.le_refl _) (by show A.len ≤ 1 + A.len; omega) (by omega) hT5 (qX0_V hl) hC0 e5
    rw [if_pos h82, k1]
    have hT' := hT5.fr k2
    cases hq : qrun A A.len qX0 with
    | inl e =>
      have he := k3 e hq
      have hq' := qread_e h82 hq
      have hb := qrun_e hA _ _ _ (qX0_V hl) hq
      rw [he, qg_t (by constructor <;> omega), if_neg (by omega)]
      exact ⟨S', rfl, qH.tr hH k2, fun e' h => by rw [hq'] at h; cases h; exact he, fun X h => by rw [hq'] at h; cases h⟩
    | inr X =>
      obtain ⟨g1, g2, g3, g4⟩ := k4 X hq
      have hq' := qread_o h82 hq
      have hop := g3.1.2
      rw [g1, qg_t (by decide), if_pos rfl, g2.2.1, qg_t (by constructor <;> omega), hT'.1]
      by_cases h0 : X.op = 0
      · rw [if_pos h0] at hq'
        rw [if_pos (by omega)]
        exact ⟨S', rfl, qH.tr hH k2, fun e' h => (by rw [hq'] at h; cases h), fun X1 h => by rw [hq'] at h; cases h; exact ⟨g1, g2, g3, h0⟩⟩
      · rw [if_neg h0] at hq'
        rw [if_neg (by omega)]
        exact ⟨_, rfl, (qH.tr hH k2).q2 rfl, fun e' h => by rw [hq'] at h; cases h; rw [q2_s], fun X1 h => by rw [hq'] at h; cases h⟩
  · rw [if_neg h82]
    have hq' := qread_0 h82
    exact ⟨_, rfl, hH.q2 rfl, fun e' h => by rw [hq'] at h; cases h; rw [q2_s]; rfl, fun X1 h => by rw [hq'] at h; cases h⟩
