/-! closing a repeat, a part, reading, on the class's side -/
def a34 (p _j : Nat) : Bool := p == 3 || p == 4
theorem a34T {S S' : qS} (h : qH a34 S S') : qH aT S S' := h.mono (fun p j hp => by
  unfold aT at hp
  unfold a34
  simp at hp ⊢
  omega)
theorem close_l_ok {n9 row en : Nat} {p x16 x20 : Int} (h16 : x16 = (row : Int)) (h20 : x20 = (en : Int)) (hen : en ≤ 1000000) (hr : 0 < row) (k : qS → Option (Int × qS)) : ∀ (d f i : Nat) (S : qS) (x : Int) (pa we : Nat → Int), x = (i : Int) → d = min en 30 - i → row ≤ i → i ≤ 1000000 → d < f → (∀ j, j < i → j < 30 → S 3 j = pa j ∧ S 4 j = we j) →
    ∃ S', MX2_closeRepeat_l88 n9 p x16 x20 k f S x = k S' ∧ qH a34 S S' ∧ (∀ j, j < i + d → j < 30 → S' 3 j = qfl row d i pa j ∧ S' 4 j = qfl row d i we j) := by
  intro d
  induction d with
  | zero =>
    intro f i S x pa we hx hd hri hi hf h
    cases f with
    | zero => omega
    | succ f =>
      refine ⟨S, ?_, qH.rfl, h⟩
      rw [MX2_closeRepeat_l88, qg_t (by constructor <;> omega), qg_t (by constructor <;> omega)]
      by_cases h1 : x20 ≤ x
      · rw [if_pos h1]
      · rw [if_neg h1, if_pos (by omega)]
  | succ d ih =>
    intro f i S x pa we hx hd hri hi hf h
    cases f with
    | zero => omega
    | succ f =>
      have hi30 : i < 30 := by omega
      obtain ⟨g3, g4⟩ := h (i - row) (by omega) (by omega)
      rw [MX2_closeRepeat_l88, qg_t (by constructor <;> omega), qg_t (by constructor <;> omega), if_neg (by omega), if_neg (by omega), qb_s (at_in (j := i - row) kk3 (by omega) (by omega)), qg_t (by omega), ql, qb_s (at_in (j := i - row) kk4 (by omega) (by omega)), qg_t (by omega), ql, show x.toNat = i by omega, q2_p (S := S) (q := 4) (by decide), g3, g4]
      generalize hS1 : q2 (q2 S 3 i (pa (i - row))) 4 i (we (i - row)) = S1
      have hH : qH a34 S S1 := hS1 ▸ ((qH.rfl.q2 rfl).q2 rfl)
      obtain ⟨S', e1, e2, e3⟩ := ih f (i + 1) S1 (x + 1) (fun j => if j = i then pa (i - row) else pa j) (fun j => if j = i then we (i - row) else we j) (by omega) (by omega) (by omega) (by omega) (by omega) (fun j hj hj2 => by
        rw [← hS1, q2_p (by decide), q2_at, q2_at, q2_p (by decide)]
        show (if j = i then pa (i - row) else S 3 j) = (if j = i then pa (i - row) else pa j) ∧ (if j = i then we (i - row) else S 4 j) = (if j = i then we (i - row) else we j)
        by_cases e : j = i
        · rw [if_pos e, if_pos e, if_pos e, if_pos e]; exact ⟨rfl, rfl⟩
        · rw [if_neg e, if_neg e, if_neg e, if_neg e]; exact h j (by omega) hj2)
      refine ⟨S', e1, qH.tr hH e2, fun j hj hj2 => ?_⟩
      exact e3 j (by omega) hj2
theorem endEq {to be : Nat} {t : Int} (ht : 2 ≤ t ∧ t ≤ 9) (hb : be ≤ to) : (to : Int) + ((to : Int) - (be : Int)) * (t - 1) = ((be + (to - be) * t.toNat : Nat) : Int) := by
  obtain ⟨n, rfl⟩ : ∃ n : Nat, t = (n : Int) := ⟨t.toNat, by omega⟩
  rw [Int.toNat_natCast]
  have : n = 2 ∨ n = 3 ∨ n = 4 ∨ n = 5 ∨ n = 6 ∨ n = 7 ∨ n = 8 ∨ n = 9 := by omega
  rcases this with rfl | rfl | rfl | rfl | rfl | rfl | rfl | rfl <;> omega
theorem qend_le {A : QA} {X : QX} (hA : AOk A) (h : XV A X) (hp : X.pl < A.len) (h0 : ¬ (X.op = 0 ∨ X.to = X.be (X.op - 1))) : qend X ≤ 90000 := (qclose_V h hp h0).1.to_le hA
theorem close_c {n9 : Nat} {S : qS} {A : QA} {X : QX} {p : Int} (hn : 2000 ≤ n9) (hA : AOk A) (hX : XV A X) (hC : TC S X) (h5 : S 1 5 = -1) (hp : p = (X.pl : Int)) (hl : X.pl < A.len) : CO S (MX2_closeRepeat n9 S p) (if X.op = 0 ∨ X.to = X.be (X.op - 1) then Sum.inl X.pl else Sum.inr (qclose X)) := by
  have h120 := hA.2.1.1
  have hto := hX.to_le hA
  have h3 := hX.1.2
  unfold MX2_closeRepeat
  rw [hC.2.1, qg_t (by constructor <;> omega)]
  simp only [ql]
  by_cases h0 : X.op = 0
  · rw [if_pos (show (X.op : Int) ≤ 0 by omega), if_pos (Or.inl h0)]
    exact CO.err (by constructor <;> omega) hp
  · have hbe := hX.be_le (k := X.op - 1) (by omega)
    obtain ⟨c5, c6⟩ := hC.2.2.2 (X.op - 1) (by omega)
    rw [if_neg (show ¬ (X.op : Int) ≤ 0 by omega), qb_s (at_in (j := X.op - 1) kk6 (by omega) (by omega)), c6, hC.1, qg_t (by constructor <;> omega), qg_t (by constructor <;> omega)]
    by_cases h1 : X.to = X.be (X.op - 1)
    · rw [if_pos (show (X.to : Int) = (X.be (X.op - 1) : Int) by omega), if_pos (Or.inr h1)]
      exact CO.err (by constructor <;> omega) hp
    · have hne : ¬ (X.op = 0 ∨ X.to = X.be (X.op - 1)) := by omega
      have hel := qend_le hA hX hl hne
      have hcl := qclose_V hX hl hne
      have ht := hX.2.1 (X.op - 1) (by omega)
      have heq := endEq (to := X.to) (be := X.be (X.op - 1)) ht hbe
      rw [if_neg (show ¬ (X.to : Int) = (X.be (X.op - 1) : Int) by omega), if_neg hne]
      have eop : q2 S 1 8 ((X.op : Int) - 1) 1 8 = ((X.op - 1 : Nat) : Int) := by rw [q2_s]; omega
      have eto : q2 S 1 8 ((X.op : Int) - 1) 1 4 = (X.to : Int) := by rw [q2_j (by decide)]; exact hC.1
      have e6 : q2 S 1 8 ((X.op : Int) - 1) 6 (X.op - 1) = (X.be (X.op - 1) : Int) := by rw [q2_p (by decide)]; exact c6
      have e5 : q2 S 1 8 ((X.op : Int) - 1) 5 (X.op - 1) = X.ti (X.op - 1) := by rw [q2_p (by decide)]; exact c5
      rw [eop, eto, qb_s (at_in (j := X.op - 1) kk6 rfl (by omega)), qb_s (at_in (j := X.op - 1) kk5 rfl (by omega)), e6, e5, heq]
      obtain ⟨S', k1, k2, k3⟩ := close_l_ok (n9 := n9) (row := X.to - X.be (X.op - 1)) (en := qend X) (p := p) (x16 := (X.to : Int) - (X.be (X.op - 1) : Int)) (x20 := ((X.be (X.op - 1) + (X.to - X.be (X.op - 1)) * (X.ti (X.op - 1)).toNat : Nat) : Int)) (by omega) rfl (by omega) (by omega) (fun S24 => some (p + 1, q2 S24 1 4 ((X.be (X.op - 1) + (X.to - X.be (X.op - 1)) * (X.ti (X.op - 1)).toNat : Nat) : Int))) (min (qend X) 30 - X.to) n9 X.to (q2 S 1 8 ((X.op : Int) - 1)) (X.to : Int) X.pa X.we rfl rfl (by omega) (by omega) (by omega) (fun j hj hj2 => by
        rw [q2_p (by decide), q2_p (by decide)]
        exact hC.2.2.1 j hj hj2)
      rw [k1]
      refine ⟨_, _, rfl, (by constructor <;> omega), (qH.tr (qH.rfl.q2 rfl) (a34T k2)).q2 rfl, fun e he => by cases he, fun X' he => ?_⟩
      cases he
      refine ⟨by show p + 1 = ((X.pl + 1 : Nat) : Int); omega, by rw [q2_j (by decide), k2 1 5 rfl, q2_j (by decide)]; exact h5, by rw [q2_s]; rfl, by rw [q2_j (by decide), k2 1 8 rfl, q2_s]; show (X.op : Int) - 1 = ((X.op - 1 : Nat) : Int); omega, fun j hj hj2 => ?_, fun k hk => ?_⟩
      · have hj : j < qend X := hj
        rw [q2_p (by decide), q2_p (by decide)]
        exact k3 j (by have := hcl.2.1; omega) hj2
      · have hk : k < X.op - 1 := hk
        rw [q2_p (by decide), q2_p (by decide), k2 5 k rfl, k2 6 k rfl, q2_p (by decide), q2_p (by decide)]
        exact hC.2.2.2 k (by omega)
theorem readPart_c {n9 : Nat} {S : qS} {A : QA} {X : QX} {p : Int} (hn : 2000 ≤ n9) (hA : AOk A) (hT : CT S A) (hX : XV A X) (hC : TC S X) (h5 : S 1 5 = -1) (hp : p = (X.pl : Int)) (hl : X.pl < A.len) : CO S (MX2_readPart n9 S p) (qstep A X) := by
  have h120 := hA.2.1.1
  have hr := qch_R hA X.pl
  have hr1 := qch_R hA (X.pl + 1)
  have h3 := hX.1.2
  have hto := hX.to_le hA
  unfold MX2_readPart qstep
  rw [qb_s (charAt_ok hA hT hp (by omega)), qg_t (by constructor <;> omega)]
  by_cases c1 : qch A X.pl = 41
  · rw [if_pos c1, if_pos c1]
    exact CO.bind (close_c hn hA hX hC h5 hp hl)
  · rw [if_neg c1, if_neg c1]
    dsimp only [ql]
    -- what comes when no repeat is opened
    have key : CO S (if qch A X.pl < 48 then (if qch A X.pl < 55 then qg (qR 0) <| if (0 : Int) = 0 then some (p, q2 S 1 5 p) else some (p, q2 S 1 5 (p + 1)) else if 57 < qch A X.pl then qg (qR 0) <| if (0 : Int) = 0 then some (p, q2 S 1 5 p) else some (p, q2 S 1 5 (p + 1)) else qg (qR (S 1 8)) <| if 3 ≤ S 1 8 then qg (qR 0) <| if (0 : Int) = 0 then some (p, q2 S 1 5 p) else some (p, q2 S 1 5 (p + 1)) else qg (qR 1) <| if (1 : Int) = 0 then some (p, q2 S 1 5 p) else some (p, q2 S 1 5 (p + 1))) else if 54 < qch A X.pl then (if qch A X.pl < 55 then qg (qR 0) <| if (0 : Int) = 0 then some (p, q2 S 1 5 p) else some (p, q2 S 1 5 (p + 1)) else if 57 < qch A X.pl then qg (qR 0) <| if (0 : Int) = 0 then some (p, q2 S 1 5 p) else some (p, q2 S 1 5 (p + 1)) else qg (qR (S 1 8)) <| if 3 ≤ S 1 8 then qg (qR 0) <| if (0 : Int) = 0 then some (p, q2 S 1 5 p) else some (p, q2 S 1 5 (p + 1)) else qg (qR 1) <| if (1 : Int) = 0 then some (p, q2 S 1 5 p) else some (p, q2 S 1 5 (p + 1))) else (qb (MX2_readAxle n9 S p) fun a28 => some (a28.1, a28.2))) (if 48 ≤ qch A X.pl ∧ qch A X.pl ≤ 54 then qaxx A X else Sum.inl (if (55 ≤ qch A X.pl ∧ qch A X.pl ≤ 57) ∧ X.op < 3 then X.pl + 1 else X.pl)) := by
      by_cases c3 : 48 ≤ qch A X.pl ∧ qch A X.pl ≤ 54
      · rw [if_neg (show ¬ qch A X.pl < 48 by omega), if_neg (show ¬ 54 < qch A X.pl by omega), if_pos c3]
        exact CO.bind (readAxle_c hA hT hX hC h5 hp)
      · rw [if_neg c3]
        have kz : ∀ {e : Nat}, p = (e : Int) → CO S (qg (qR 0) <| if (0 : Int) = 0 then some (p, q2 S 1 5 p) else some (p, q2 S 1 5 (p + 1))) (Sum.inl e) := fun he => by
          rw [qg_t (by decide), if_pos rfl]
          exact CO.err (by constructor <;> omega) he
        have kk : CO S (if qch A X.pl < 55 then qg (qR 0) <| if (0 : Int) = 0 then some (p, q2 S 1 5 p) else some (p, q2 S 1 5 (p + 1)) else if 57 < qch A X.pl then qg (qR 0) <| if (0 : Int) = 0 then some (p, q2 S 1 5 p) else some (p, q2 S 1 5 (p + 1)) else qg (qR (S 1 8)) <| if 3 ≤ S 1 8 then qg (qR 0) <| if (0 : Int) = 0 then some (p, q2 S 1 5 p) else some (p, q2 S 1 5 (p + 1)) else qg (qR 1) <| if (1 : Int) = 0 then some (p, q2 S 1 5 p) else some (p, q2 S 1 5 (p + 1))) (Sum.inl (if (55 ≤ qch A X.pl ∧ qch A X.pl ≤ 57) ∧ X.op < 3 then X.pl + 1 else X.pl)) := by
          by_cases d1 : qch A X.pl < 55
          · rw [if_pos d1, if_neg (show ¬ ((55 ≤ qch A X.pl ∧ qch A X.pl ≤ 57) ∧ X.op < 3) by omega)]
            exact kz hp
          · rw [if_neg d1]
            by_cases d2 : 57 < qch A X.pl
            · rw [if_pos d2, if_neg (show ¬ ((55 ≤ qch A X.pl ∧ qch A X.pl ≤ 57) ∧ X.op < 3) by omega)]
              exact kz hp
            · rw [if_neg d2, hC.2.1, qg_t (by constructor <;> omega)]
              by_cases d3 : X.op < 3
              · rw [if_neg (show ¬ 3 ≤ (X.op : Int) by omega), if_pos (show (55 ≤ qch A X.pl ∧ qch A X.pl ≤ 57) ∧ X.op < 3 by omega), qg_t (by decide), if_neg (by decide)]
                exact CO.err (by constructor <;> omega) (by omega)
              · rw [if_pos (show 3 ≤ (X.op : Int) by omega), if_neg (show ¬ ((55 ≤ qch A X.pl ∧ qch A X.pl ≤ 57) ∧ X.op < 3) by omega)]
                exact kz hp
        by_cases c4 : qch A X.pl < 48
        · rw [if_pos c4]
          exact kk
        · rw [if_neg c4, if_pos (show 54 < qch A X.pl by omega)]
          exact kk
    by_cases b1 : qch A X.pl < 50
    · rw [if_pos b1, if_neg (show ¬ ((50 ≤ qch A X.pl ∧ qch A X.pl ≤ 57) ∧ X.op < 3 ∧ qch A (X.pl + 1) = 40) by omega)]
      exact key
    · rw [if_neg b1]
      by_cases b2 : 57 < qch A X.pl
      · rw [if_pos b2, if_neg (show ¬ ((50 ≤ qch A X.pl ∧ qch A X.pl ≤ 57) ∧ X.op < 3 ∧ qch A (X.pl + 1) = 40) by omega)]
        exact key
      · rw [if_neg b2]
        by_cases b3 : X.op < 3
        · rw [hC.2.1] at key ⊢
          rw [qg_t (show qR (X.op : Int) by constructor <;> omega), if_neg (show ¬ 3 ≤ (X.op : Int) by omega), qb_s (charAt_ok (p := p + 1) (k := X.pl + 1) hA hT (by omega) (by omega)), qg_t (show qR (qch A (X.pl + 1)) by constructor <;> omega)]
          by_cases b4 : qch A (X.pl + 1) = 40
          · rw [if_pos b4, if_pos (show (50 ≤ qch A X.pl ∧ qch A X.pl ≤ 57) ∧ X.op < 3 ∧ qch A (X.pl + 1) = 40 from ⟨by omega, b3, b4⟩), qg_t (by omega), show ((X.op : Int)).toNat = X.op by omega]
            have e1 : q2 S 5 X.op (qch A X.pl - 48) 1 8 = (X.op : Int) := by rw [q2_p (by decide)]; exact hC.2.1
            have e2 : q2 S 5 X.op (qch A X.pl - 48) 1 4 = (X.to : Int) := by rw [q2_p (by decide)]; exact hC.1
            rw [e1, e2, qg_t (by omega), show ((X.op : Int)).toNat = X.op by omega]
            have e3 : q2 (q2 S 5 X.op (qch A X.pl - 48)) 6 X.op (X.to : Int) 1 8 = (X.op : Int) := by rw [q2_p (by decide)]; exact e1
            rw [e3]
            refine ⟨_, _, rfl, (by constructor <;> omega), ((qH.rfl.q2 rfl).q2 rfl).q2 rfl, fun e he => by cases he, fun X' he => ?_⟩
            cases he
            refine ⟨by show p + 2 = ((X.pl + 2 : Nat) : Int); omega, by rw [q2_j (by decide), q2_p (by decide), q2_p (by decide)]; exact h5, by rw [q2_j (by decide), q2_p (by decide)]; exact e2, by rw [q2_s]; show (X.op : Int) + 1 = ((X.op + 1 : Nat) : Int); omega, fun j hj hj2 => ?_, fun k hk => ?_⟩
            · rw [q2_p (by decide), q2_p (by decide), q2_p (by decide), q2_p (by decide), q2_p (by decide), q2_p (by decide)]
              exact hC.2.2.1 j hj hj2
            · have hk : k < X.op + 1 := hk
              rw [q2_p (by decide), q2_p (by decide), q2_p (by decide), q2_at, q2_at, q2_p (by decide)]
              show (if k = X.op then qch A X.pl - 48 else S 5 k) = (if k = X.op then qch A X.pl - 48 else X.ti k) ∧ (if k = X.op then (X.to : Int) else S 6 k) = (((if k = X.op then X.to else X.be k) : Nat) : Int)
              by_cases e : k = X.op
              · rw [if_pos e, if_pos e, if_pos e, if_pos e]; exact ⟨rfl, rfl⟩
              · rw [if_neg e, if_neg e, if_neg e, if_neg e]; exact hC.2.2.2 k (by omega)
          · rw [if_neg b4, if_neg (fun h => b4 h.2.2)]
            exact key
        · have hne : ¬ ((50 ≤ qch A X.pl ∧ qch A X.pl ≤ 57) ∧ X.op < 3 ∧ qch A (X.pl + 1) = 40) := fun h => b3 h.2.1
          rw [if_neg hne]
          rw [hC.2.1] at key ⊢
          rw [qg_t (show qR (X.op : Int) by constructor <;> omega), if_pos (show 3 ≤ (X.op : Int) by omega)]
          exact key
/-- the parts up to the end of the text -/
def qrun (A : QA) : Nat → QX → Sum Nat QX
  | 0, X => Sum.inr X
  | d + 1, X => if X.pl < A.len then (match qstep A X with
    | Sum.inl e => Sum.inl e
    | Sum.inr X' => qrun A d X') else Sum.inr X
theorem qrun_end {A : QA} {d : Nat} {X : QX} (h : ¬ X.pl < A.len) : qrun A d X = Sum.inr X := by
  cases d with
  | zero => rfl
  | succ d => rw [qrun, if_neg h]
theorem qrun_err {A : QA} {d e : Nat} {X : QX} (h : X.pl < A.len) (hq : qstep A X = Sum.inl e) : qrun A (d + 1) X = Sum.inl e := by
  rw [qrun, if_pos h, hq]
theorem qrun_ok {A : QA} {d : Nat} {X X' : QX} (h : X.pl < A.len) (hq : qstep A X = Sum.inr X') : qrun A (d + 1) X = qrun A d X' := by
  rw [qrun, if_pos h, hq]
theorem qaxx_e {A : QA} {X : QX} {e : Nat} (h : qaxx A X = Sum.inl e) : e ≤ X.pl + 3 := by
  unfold qaxx at h
  repeat' split at h
  all_goals cases h
  all_goals omega
theorem qstep_e {A : QA} {X : QX} {e : Nat} (h : qstep A X = Sum.inl e) : e ≤ X.pl + 3 := by
  unfold qstep at h
  repeat' split at h
  all_goals first
    | (cases h; omega)
    | exact qaxx_e h
theorem qrun_e {A : QA} (hA : AOk A) : ∀ (d : Nat) (X : QX) (e : Nat), XV A X → qrun A d X = Sum.inl e → e ≤ 130 := by
  have h120 := hA.2.1.1
  intro d
  induction d with
  | zero => intro X e _ h; cases h
  | succ d ih =>
    intro X e hX h
    by_cases hlt : X.pl < A.len
    · cases hq : qstep A X with
      | inl e' =>
        rw [qrun_err hlt hq] at h
        cases h
        have := qstep_e hq
        omega
      | inr X' =>
        rw [qrun_ok hlt hq] at h
        exact ih X' e (qstep_V hX hlt hq).1 h
    · rw [qrun_end hlt] at h; cases h
theorem read_l_c {n9 : Nat} {A : QA} (hn : 2000 ≤ n9) (hA : AOk A) (k : qS → Option qS) : ∀ (d f pt : Nat) (S : qS) (X : QX) (p x : Int), p = (X.pl : Int) → x = (pt : Int) → pt + 1 ≤ X.pl → A.len ≤ X.pl + d → d < f → CT S A → XV A X → TC S X → S 1 5 = -1 →
    ∃ S', MX2_read_l35 n9 k f S p x = k S' ∧ qH aT S S' ∧ (∀ e, qrun A d X = Sum.inl e → S' 1 5 = (e : Int)) ∧ (∀ X', qrun A d X = Sum.inr X' → S' 1 5 = -1 ∧ TC S' X' ∧ XV A X' ∧ A.len ≤ X'.pl) := by
  have h120 := hA.2.1.1
  intro d
  induction d with
  | zero =>
    intro f pt S X p x hp hx hpt hd hf hT hX hC h5
    cases f with
    | zero => omega
    | succ f =>
      refine ⟨S, ?_, qH.rfl, fun e he => by cases he, fun X' he => by cases he; exact ⟨h5, hC, hX, hd⟩⟩
      have hpl := hX.1.1
      rw [MX2_read_l35, qg_t (by constructor <;> omega)]
      by_cases h1 : 120 ≤ x
      · rw [if_pos h1]
      · rw [if_neg h1, qg_t (by constructor <;> omega), hT.1, qg_t (by constructor <;> omega), if_pos (by omega)]
  | succ d ih =>
    intro f pt S X p x hp hx hpt hd hf hT hX hC h5
    have hpl := hX.1.1
    cases f with
    | zero => omega
    | succ f =>
      by_cases hlt : X.pl < A.len
      · rw [MX2_read_l35, qg_t (by constructor <;> omega), if_neg (by omega), qg_t (by constructor <;> omega), hT.1, qg_t (by constructor <;> omega), if_neg (by omega), h5, qg_t (by decide), if_pos rfl]
        obtain ⟨r, S1, e1, e2, e3, e4, e5⟩ := readPart_c (n9 := n9) hn hA hT hX hC h5 hp hlt
        rw [qb_s e1]
        cases hq : qstep A X with
        | inl e =>
          rw [qrun_err hlt hq]
          refine ⟨S1, ?_, e3, fun e' he => by cases he; exact e4 e hq, fun X' he => by cases he⟩
          have hS := e4 e hq
          have hT1 := hT.fr e3
          cases f with
          | zero => omega
          | succ f =>
            rw [MX2_read_l35, qg_t (by constructor <;> omega)]
            by_cases h1 : 120 ≤ x + 1
            · rw [if_pos h1]
            · rw [if_neg h1]
              show (qg (qR r) <| _) = _
              rw [qg_t e2]
              show (qg (qR (S1 1 1)) <| if S1 1 1 ≤ r then k S1 else _) = _
              rw [hT1.1, qg_t (by constructor <;> omega)]
              by_cases h2 : (A.len : Int) ≤ r
              · rw [if_pos h2]
              · have he := qstep_e hq
                rw [if_neg h2]
                show (qg (qR (S1 1 5)) <| if S1 1 5 = -1 then _ else k S1) = _
                rw [hS, qg_t (by constructor <;> omega), if_neg (by omega)]
        | inr X1 =>
          obtain ⟨g1, g2, g3⟩ := e5 X1 hq
          have hV1 := qstep_V hX hlt hq
          rw [qrun_ok hlt hq]
          obtain ⟨S', k1, k2, k3, k4⟩ := ih f (pt + 1) S1 X1 r (x + 1) g1 (by omega) (by omega) (by omega) (by omega) (hT.fr e3) hV1.1 g3 g2
          exact ⟨S', k1, qH.tr e3 k2, k3, k4⟩
      · rw [qrun_end hlt]
        refine ⟨S, ?_, qH.rfl, fun e he => by cases he, fun X' he => by cases he; exact ⟨h5, hC, hX, by omega⟩⟩
        rw [MX2_read_l35, qg_t (by constructor <;> omega)]
        by_cases h1 : 120 ≤ x
        · rw [if_pos h1]
        · rw [if_neg h1, qg_t (by constructor <;> omega), hT.1, qg_t (by constructor <;> omega), if_pos (by omega)]
def qX0 : QX := qmk 1 0 0 (fun _ => 1) (fun _ => 1) (fun _ => 2) (fun _ => 0)
theorem qX0_V {A : QA} (h : 0 < A.len) : XV A qX0 :=
  ⟨⟨h, by decide⟩, fun k hk => absurd hk (Nat.not_lt_zero k), fun j hj _ => absurd hj (Nat.not_lt_zero j), ⟨fun e => by cases e, fun e => by cases e, fun e => by cases e⟩, fun _ => Nat.zero_le _, fun e => by cases e, fun e => by cases e, fun e => by cases e⟩
/-- the error's place, or what was told -/
def qread (A : QA) : Sum Nat QX := if qch A 0 = 82 then (match qrun A A.len qX0 with
  | Sum.inl e => Sum.inl e
  | Sum.inr X => if X.op = 0 then Sum.inr X else Sum.inl A.len) else Sum.inl 0
theorem qread_0 {A : QA} (h : ¬ qch A 0 = 82) : qread A = Sum.inl 0 := by unfold qread; rw [if_neg h]
theorem qread_e {A : QA} {e : Nat} (h : qch A 0 = 82) (hq : qrun A A.len qX0 = Sum.inl e) : qread A = Sum.inl e := by unfold qread; rw [if_pos h, hq]
theorem qread_o {A : QA} {X : QX} (h : qch A 0 = 82) (hq : qrun A A.len qX0 = Sum.inr X) : qread A = if X.op = 0 then Sum.inr X else Sum.inl A.len := by unfold qread; rw [if_pos h, hq]
theorem read_c {n9 : Nat} {S : qS} {A : QA} (hn : 2000 ≤ n9) (hA : AOk A) (hT : CT S A) : ∃ S', MX2_read n9 S = some S' ∧ qH aT S S' ∧ (∀ e, qread A = Sum.inl e → S' 1 5 = (e : Int)) ∧ (∀ X, qread A = Sum.inr X → S' 1 5 = -1 ∧ TC S' X ∧ XV A X ∧ X.op = 0) := by
  have h120 := hA.2.1.1
  have hr := qch_R hA 0
  unfold MX2_read
  dsimp only [ql]
  generalize hS5 : q2 (q2 (q2 S 1 4 0) 1 8 0) 1 5 (-1) = S5
  have hH : qH aT S S5 := hS5 ▸ (((qH.rfl.q2 rfl).q2 rfl).q2 rfl)
  have hT5 := hT.fr hH
  have e4 : S5 1 4 = 0 := by rw [← hS5, q2_j (by decide), q2_j (by decide), q2_s]
  have e8 : S5 1 8 = 0 := by rw [← hS5, q2_j (by decide), q2_s]
  have e5 : S5 1 5 = -1 := by rw [← hS5, q2_s]
  rw [qb_s (charAt_ok (p := 0) (k := 0) hA hT5 rfl (by omega)), qg_t (by constructor <;> omega)]
  by_cases h82 : qch A 0 = 82
  · have hl := qch_lt (A := A) (k := 0) (by omega)
    have hC0 : TC S5 qX0 := ⟨e4, e8, fun j hj => absurd hj (Nat.not_lt_zero j), fun k hk => absurd hk (Nat.not_lt_zero k)⟩
    obtain ⟨S', k1, k2, k3, k4⟩ := read_l_c (n9 := n9) hn hA (fun S11 => qg (qR (S11 1 5)) <| if (S11 1 5) = (-1) then (qg (qR (S11 1 8)) <| if (S11 1 8) ≤ 0 then (some S11) else (some (q2 S11 1 5 (S11 1 1)))) else (some S11)) A.len n9 0 S5 qX0 1 0 rfl rfl (Nat.le_refl _) (by show A.len ≤ 1 + A.len; omega) (by omega) hT5 (qX0_V hl) hC0 e5
    rw [if_pos h82, k1]
    have hT' := hT5.fr k2
    cases hq : qrun A A.len qX0 with
    | inl e =>
      have he := k3 e hq
      have hq' := qread_e h82 hq
      have hb := qrun_e hA _ _ _ (qX0_V hl) hq
      rw [he, qg_t (by constructor <;> omega), if_neg (by omega)]
      exact ⟨S', rfl, qH.tr hH k2, fun e' h => by rw [hq'] at h; cases h; exact he, fun X h => by rw [hq'] at h; cases h⟩
    | inr X =>
      obtain ⟨g1, g2, g3, g4⟩ := k4 X hq
      have hq' := qread_o h82 hq
      have hop := g3.1.2
      rw [g1, qg_t (by decide), if_pos rfl, g2.2.1, qg_t (by constructor <;> omega), hT'.1]
      by_cases h0 : X.op = 0
      · rw [if_pos h0] at hq'
        rw [if_pos (by omega)]
        exact ⟨S', rfl, qH.tr hH k2, fun e' h => by rw [hq'] at h; cases h, fun X1 h => by rw [hq'] at h; cases h; exact ⟨g1, g2, g3, h0⟩⟩
      · rw [if_neg h0] at hq'
        rw [if_neg (by omega)]
        exact ⟨_, rfl, (qH.tr hH k2).q2 rfl, fun e' h => by rw [hq'] at h; cases h; rw [q2_s], fun X1 h => by rw [hq'] at h; cases h⟩
  · rw [if_neg h82]
    have hq' := qread_0 h82
    exact ⟨_, rfl, hH.q2 rfl, fun e' h => by rw [hq'] at h; cases h; rw [q2_s]; rfl, fun X1 h => by rw [hq'] at h; cases h⟩
