/-! the text, the class's side -/
def aT (p j : Nat) : Bool := (p == 1 && !(j == 1)) || p == 3 || p == 4 || p == 5 || p == 6
abbrev CT (S : qS) (A : QA) : Prop := S 1 1 = (A.len : Int) ∧ ∀ j, j < A.len → S 2 j = A.ch j
theorem CT.fr {S S' : qS} {A : QA} (h : CT S A) (hH : qH aT S S') : CT S' A := ⟨by rw [hH 1 1 rfl]; exact h.1, fun j hj => by rw [hH 2 j rfl]; exact h.2 j hj⟩
abbrev TC (S : qS) (X : QX) : Prop := S 1 4 = (X.to : Int) ∧ S 1 8 = (X.op : Int) ∧ (∀ j, j < X.to → j < 30 → S 3 j = X.pa j ∧ S 4 j = X.we j) ∧ (∀ k, k < X.op → S 5 k = X.ti k ∧ S 6 k = (X.be k : Int))
theorem kk3 : qk 3 = 30 + 10 := by decide +kernel
theorem kk4 : qk 4 = 30 + 10 := by decide +kernel
theorem kk5 : qk 5 = 3 + 10 := by decide +kernel
theorem kk6 : qk 6 = 3 + 10 := by decide +kernel
theorem charAt_ok {n9 k : Nat} {S : qS} {A : QA} {p : Int} (hA : AOk A) (hT : CT S A) (hp : p = (k : Int)) (hk : k ≤ 1000) : MX2_characterAt n9 S p = some (qch A k) := by
  have h120 := hA.2.1.1
  unfold MX2_characterAt qch
  rw [qg_t (by constructor <;> omega)]
  dsimp only [ql]
  rw [if_neg (show ¬ p < 0 by omega), hT.1, qg_t (by constructor <;> omega)]
  by_cases h : k < A.len
  · rw [if_neg (show ¬ (A.len : Int) ≤ p by omega), if_neg (show ¬ 120 ≤ p by omega), qg_t (by decide), if_neg (by decide), qg_t (by omega), show p.toNat = k by omega, hT.2 k h, if_pos h]
  · rw [if_pos (show (A.len : Int) ≤ p by omega), qg_t (by decide), if_pos rfl, if_neg h]
theorem digAt_ok {n9 k : Nat} {S : qS} {A : QA} {p : Int} (hA : AOk A) (hT : CT S A) (hp : p = (k : Int)) (hk : k ≤ 1000) : MX2_digitAt n9 S p = some (qdg A k) := by
  have hr := qch_R hA k
  unfold MX2_digitAt qdg
  rw [qb_s (charAt_ok hA hT hp hk), qg_t (by constructor <;> omega)]
  by_cases h : 48 ≤ qch A k ∧ qch A k ≤ 57
  · rw [if_neg (by omega), if_neg (by omega), if_pos h]
  · rw [if_neg h]
    by_cases h1 : qch A k < 48
    · rw [if_pos h1]
    · rw [if_neg h1, if_pos (by omega)]
theorem readNum_ok {n9 k : Nat} {S : qS} {A : QA} {p m : Int} (hA : AOk A) (hT : CT S A) (hp : p = (k : Int)) (hk : k ≤ 999) (hm : qR m) :
    ((qdg A k = -1 ∨ m < 10 * qdg A k) → MX2_readNumber n9 S p m = some (0, q2 S 1 5 p)) ∧
    (¬ (qdg A k = -1 ∨ m < 10 * qdg A k) → (qdg A (k + 1) = -1 ∨ 10 * qdg A k + qdg A (k + 1) < 1 ∨ m < 10 * qdg A k + qdg A (k + 1)) → MX2_readNumber n9 S p m = some (0, q2 S 1 5 (p + 1))) ∧
    (¬ (qdg A k = -1 ∨ m < 10 * qdg A k) → ¬ (qdg A (k + 1) = -1 ∨ 10 * qdg A k + qdg A (k + 1) < 1 ∨ m < 10 * qdg A k + qdg A (k + 1)) → MX2_readNumber n9 S p m = some (10 * qdg A k + qdg A (k + 1), S)) := by
  have r1 := qdg_R A k
  have r2 := qdg_R A (k + 1)
  have d1 := digAt_ok (n9 := n9) hA hT hp (by omega)
  have d2 := digAt_ok (n9 := n9) (p := p + 1) (k := k + 1) hA hT (by omega) (by omega)
  unfold MX2_readNumber
  simp only [ql]
  rw [qb_s d1, qg_t (by constructor <;> omega)]
  refine ⟨fun h => ?_, fun h h2 => ?_, fun h h2 => ?_⟩
  · by_cases h1 : qdg A k = -1
    · rw [if_pos h1]
    · rw [if_neg h1, qg_t (by constructor <;> omega), qg_t hm, if_neg (show ¬ 10 * qdg A k ≤ m by omega)]
  · rw [if_neg (show ¬ qdg A k = -1 by omega), qg_t (by constructor <;> omega), qg_t hm, if_pos (show 10 * qdg A k ≤ m by omega), qb_s d2, qg_t (by constructor <;> omega)]
    by_cases h1 : qdg A (k + 1) = -1
    · rw [if_pos h1]
    · rw [if_neg h1, qg_t (by constructor <;> omega)]
      by_cases h3 : 10 * qdg A k + qdg A (k + 1) < 1
      · rw [if_pos h3]
      · rw [if_neg h3, if_neg (show ¬ 10 * qdg A k + qdg A (k + 1) ≤ m by omega)]
  · rw [if_neg (show ¬ qdg A k = -1 by omega), qg_t (by constructor <;> omega), qg_t hm, if_pos (show 10 * qdg A k ≤ m by omega), qb_s d2, qg_t (by constructor <;> omega), if_neg (show ¬ qdg A (k + 1) = -1 by omega), qg_t (by constructor <;> omega), if_neg (show ¬ 10 * qdg A k + qdg A (k + 1) < 1 by omega), if_pos (show 10 * qdg A k + qdg A (k + 1) ≤ m by omega)]
/-- what a part's reading comes to -/
abbrev CO (S : qS) (m : Option (Int × qS)) (o : Sum Nat QX) : Prop := ∃ r S', m = some (r, S') ∧ qR r ∧ qH aT S S' ∧ (∀ e, o = Sum.inl e → S' 1 5 = (e : Int)) ∧ (∀ X', o = Sum.inr X' → r = (X'.pl : Int) ∧ S' 1 5 = -1 ∧ TC S' X')
theorem CO.err {S : qS} {r x : Int} {e : Nat} (hr : qR r) (hx : x = (e : Int)) : CO S (some (r, q2 S 1 5 x)) (Sum.inl e) :=
  ⟨r, _, rfl, hr, qH.rfl.q2 rfl, fun e' he => by cases he; rw [q2_s, hx], fun X' he => by cases he⟩
theorem CO.bind {S : qS} {m : Option (Int × qS)} {o : Sum Nat QX} (h : CO S m o) : CO S (qb m fun a => some (a.1, a.2)) o := by
  obtain ⟨r, S', h1, h2⟩ := h
  exact ⟨r, S', by rw [h1]; rfl, h2⟩
theorem readAxle_c {n9 : Nat} {S : qS} {A : QA} {X : QX} {p : Int} (hA : AOk A) (hT : CT S A) (hX : XV A X) (hC : TC S X) (h5 : S 1 5 = -1) (hp : p = (X.pl : Int)) : CO S (MX2_readAxle n9 S p) (qaxx A X) := by
  have h120 := hA.2.1.1
  have hpl := hX.1.1
  have hto := hX.to_le hA
  have r1 := qdg_R A X.pl
  have r2 := qdg_R A (X.pl + 1)
  have r3 := qdg_R A (X.pl + 2)
  have r4 := qdg_R A (X.pl + 3)
  obtain ⟨u1, u2, u3⟩ := readNum_ok (n9 := n9) (k := X.pl) (p := p) (m := 60) hA hT hp (by omega) (by decide)
  obtain ⟨v1, v2, v3⟩ := readNum_ok (n9 := n9) (k := X.pl + 2) (p := p + 2) (m := 99) hA hT (by omega) (by omega) (by decide)
  unfold MX2_readAxle qaxx
  by_cases c1 : 0 ≤ qdg A X.pl ∧ qdg A X.pl ≤ 6
  · rw [if_neg (not_not_intro c1)]
    by_cases c2 : 0 ≤ qdg A (X.pl + 1) ∧ 1 ≤ 10 * qdg A X.pl + qdg A (X.pl + 1) ∧ 10 * qdg A X.pl + qdg A (X.pl + 1) ≤ 60
    · rw [if_neg (not_not_intro c2), qb_s (u3 (by omega) (by omega))]
      show CO S (qg (qR (S 1 5)) <| if S 1 5 = -1 then _ else _) _
      rw [h5, qg_t (by decide), if_pos rfl]
      by_cases c3 : 0 ≤ qdg A (X.pl + 2)
      · rw [if_neg (not_not_intro c3)]
        by_cases c4 : 0 ≤ qdg A (X.pl + 3) ∧ 1 ≤ 10 * qdg A (X.pl + 2) + qdg A (X.pl + 3)
        · rw [if_neg (not_not_intro c4), qb_s (v3 (by omega) (by rw [show X.pl + 2 + 1 = X.pl + 3 from rfl]; omega))]
          rw [show X.pl + 2 + 1 = X.pl + 3 from rfl]
          generalize 10 * qdg A X.pl + qdg A (X.pl + 1) = x
          generalize 10 * qdg A (X.pl + 2) + qdg A (X.pl + 3) = y
          show CO S (qg (qR (S 1 5)) <| if S 1 5 = -1 then _ else _) _
          rw [h5, qg_t (by decide), if_pos rfl]
          dsimp only [ql]
          have t0 := hC.1
          rw [qg_t (show qR (S 1 4) by constructor <;> omega), if_neg (show ¬ S 1 4 < 0 by omega)]
          by_cases h30 : 30 ≤ X.to
          · rw [if_pos (show 30 ≤ S 1 4 by omega), hC.1]
            refine ⟨_, _, rfl, (by constructor <;> omega), qH.rfl.q2 rfl, fun e he => (by cases he), fun X' he => ?_⟩
            cases he
            refine ⟨by show p + 4 = ((X.pl + 4 : Nat) : Int); omega, by rw [q2_j (by decide)]; exact h5, ?_, ?_, fun j hj hj2 => ?_, fun k hk => ?_⟩
            · rw [q2_s]; show (X.to : Int) + 1 = ((X.to + 1 : Nat) : Int); omega
            · rw [q2_j (by decide)]; exact hC.2.1
            · rw [q2_p (by decide), q2_p (by decide)]
              show S 3 j = (if j = X.to then x else X.pa j) ∧ S 4 j = (if j = X.to then y else X.we j)
              rw [if_neg (by omega), if_neg (by omega)]
              exact hC.2.2.1 j (by omega) hj2
            · rw [q2_p (by decide), q2_p (by decide)]
              exact hC.2.2.2 k hk
          · have tn : (S 1 4).toNat = X.to := by omega
            have e1 : q2 S 3 X.to x 1 4 = (X.to : Int) := by rw [q2_p (by decide)]; exact hC.1
            have e1' : q2 S 3 (S 1 4).toNat x 1 4 = (X.to : Int) := by rw [tn]; exact e1
            have e2 : q2 (q2 S 3 X.to x) 4 X.to y 1 4 = (X.to : Int) := by rw [q2_p (by decide)]; exact e1
            rw [if_neg (show ¬ 30 ≤ S 1 4 by omega), qg_t (show 0 ≤ S 1 4 ∧ S 1 4 < 30 by omega), qg_t (show 0 ≤ q2 S 3 (S 1 4).toNat x 1 4 ∧ q2 S 3 (S 1 4).toNat x 1 4 < 30 by omega)]
            rw [tn, e1, show ((X.to : Int)).toNat = X.to by omega, e2]
            refine ⟨_, _, rfl, (by constructor <;> omega), ((qH.rfl.q2 rfl).q2 rfl).q2 rfl, fun e he => (by cases he), fun X' he => ?_⟩
            cases he
            refine ⟨by show p + 4 = ((X.pl + 4 : Nat) : Int); omega, by rw [q2_j (by decide), q2_p (by decide), q2_p (by decide)]; exact h5, ?_, ?_, fun j hj hj2 => ?_, fun k hk => ?_⟩
            · rw [q2_s]; show (X.to : Int) + 1 = ((X.to + 1 : Nat) : Int); omega
            · rw [q2_j (by decide), q2_p (by decide), q2_p (by decide)]; exact hC.2.1
            · have hj : j < X.to + 1 := hj
              rw [q2_p (by decide), q2_p (by decide), q2_at, q2_p (by decide), q2_at, q2_p (by decide)]
              show (if j = X.to then x else S 3 j) = (if j = X.to then x else X.pa j) ∧ (if j = X.to then y else S 4 j) = (if j = X.to then y else X.we j)
              by_cases e : j = X.to
              · rw [if_pos e, if_pos e, if_pos e, if_pos e]; exact ⟨rfl, rfl⟩
              · rw [if_neg e, if_neg e, if_neg e, if_neg e]; exact hC.2.2.1 j (by omega) hj2
            · rw [q2_p (by decide), q2_p (by decide), q2_p (by decide), q2_p (by decide), q2_p (by decide), q2_p (by decide)]
              exact hC.2.2.2 k hk
        · rw [if_pos c4, qb_s (v2 (by omega) (by rw [show X.pl + 2 + 1 = X.pl + 3 from rfl]; omega))]
          show CO S (qg (qR (q2 S 1 5 (p + 2 + 1) 1 5)) <| if q2 S 1 5 (p + 2 + 1) 1 5 = -1 then _ else _) _
          rw [q2_s, qg_t (by constructor <;> omega), if_neg (by omega)]
          exact CO.err (by constructor <;> omega) (by omega)
      · rw [if_pos c3, qb_s (v1 (by omega))]
        show CO S (qg (qR (q2 S 1 5 (p + 2) 1 5)) <| if q2 S 1 5 (p + 2) 1 5 = -1 then _ else _) _
        rw [q2_s, qg_t (by constructor <;> omega), if_neg (by omega)]
        exact CO.err (by constructor <;> omega) (by omega)
    · rw [if_pos c2, qb_s (u2 (by omega) (by omega))]
      show CO S (qg (qR (q2 S 1 5 (p + 1) 1 5)) <| if q2 S 1 5 (p + 1) 1 5 = -1 then _ else _) _
      rw [q2_s, qg_t (by constructor <;> omega), if_neg (by omega)]
      exact CO.err (by constructor <;> omega) (by omega)
  · rw [if_pos c1, qb_s (u1 (by omega))]
    show CO S (qg (qR (q2 S 1 5 p 1 5)) <| if q2 S 1 5 p 1 5 = -1 then _ else _) _
    rw [q2_s, qg_t (by constructor <;> omega), if_neg (by omega)]
    exact CO.err (by constructor <;> omega) hp
