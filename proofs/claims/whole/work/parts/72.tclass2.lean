/-! closing a repeat, a part, reading, on the class's side -/
def a34 (p _j : Nat) : Bool := p == 3 || p == 4
theorem a34T {S S' : qS} (h : qH a34 S S') : qH aT S S' := h.mono (fun p j hp => by
  unfold aT at hp
  unfold a34
  simp at hp ⊢
  omega)
theorem close_l_ok {n9 row en : Nat} {p x16 x20 : Int} (h16 : x16 = (row : Int)) (h20 : x20 = (en : Int)) (hen : en ≤ 1000000) (hr : 0 < row) (k : qS → Option (Int × qS)) : ∀ (d f i : Nat) (S : qS) (x : Int) (pa we : Nat → Int), x = (i : Int) → d = min en 30 - i → row ≤ i → i ≤ 1000000 → d < f → (∀ j, j < i → j < 30 → S 3 j = pa j ∧ S 4 j = we j) →
    ∃ S', MX2_closeRepeat_l88 n9 p x16 x20 k f S x = k S' ∧ qH a34 S S' ∧ (∀ j, j < i + d → j < 30 → S' 3 j = qfl row d i pa j ∧ S' 4 j = qfl row d i we j) := by
  intro d
  induction d with
  | zero =>
    intro f i S x pa we hx hd hri hi hf h
    cases f with
    | zero => omega
    | succ f =>
      refine ⟨S, ?_, qH.rfl, h⟩
      rw [MX2_closeRepeat_l88, qg_t (by constructor <;> omega), qg_t (by constructor <;> omega)]
      by_cases h1 : x20 ≤ x
      · rw [if_pos h1]
      · rw [if_neg h1, if_pos (by omega)]
  | succ d ih =>
    intro f i S x pa we hx hd hri hi hf h
    cases f with
    | zero => omega
    | succ f =>
      have hi30 : i < 30 := by omega
      obtain ⟨g3, g4⟩ := h (i - row) (by omega) (by omega)
      rw [MX2_closeRepeat_l88, qg_t (by constructor <;> omega), qg_t (by constructor <;> omega), if_neg (by omega), if_neg (by omega), qb_s (at_in (j := i - row) kk3 (by omega) (by omega)), qg_t (by omega), ql, qb_s (at_in (j := i - row) kk4 (by omega) (by omega)), qg_t (by omega), ql, show x.toNat = i by omega, q2_p (S := S) (q := 4) (by decide), g3, g4]
      generalize hS1 : q2 (q2 S 3 i (pa (i - row))) 4 i (we (i - row)) = S1
      have hH : qH a34 S S1 := hS1 ▸ ((qH.rfl.q2 rfl).q2 rfl)
      obtain ⟨S', e1, e2, e3⟩ := ih f (i + 1) S1 (x + 1) (fun j => if j = i then pa (i - row) else pa j) (fun j => if j = i then we (i - row) else we j) (by omega) (by omega) (by omega) (by omega) (by omega) (fun j hj hj2 => by
        rw [← hS1, q2_p (by decide), q2_at, q2_at, q2_p (by decide)]
        show (if j = i then pa (i - row) else S 3 j) = (if j = i then pa (i - row) else pa j) ∧ (if j = i then we (i - row) else S 4 j) = (if j = i then we (i - row) else we j)
        by_cases e : j = i
        · rw [if_pos e, if_pos e, if_pos e, if_pos e]; exact ⟨rfl, rfl⟩
        · rw [if_neg e, if_neg e, if_neg e, if_neg e]; exact h j (by omega) hj2)
      refine ⟨S', e1, qH.tr hH e2, fun j hj hj2 => ?_⟩
      exact e3 j (by omega) hj2
theorem endEq {to be : Nat} {t : Int} (ht : 2 ≤ t ∧ t ≤ 9) (hb : be ≤ to) : (to : Int) + ((to : Int) - (be : Int)) * (t - 1) = ((be + (to - be) * t.toNat : Nat) : Int) := by
  obtain ⟨n, rfl⟩ : ∃ n : Nat, t = (n : Int) := ⟨t.toNat, by omega⟩
  rw [Int.toNat_natCast]
  have : n = 2 ∨ n = 3 ∨ n = 4 ∨ n = 5 ∨ n = 6 ∨ n = 7 ∨ n = 8 ∨ n = 9 := by omega
  rcases this with rfl | rfl | rfl | rfl | rfl | rfl | rfl | rfl <;> omega
theorem qend_le {A : QA} {X : QX} (hA : AOk A) (h : XV A X) (hp : X.pl < A.len) (h0 : ¬ (X.op = 0 ∨ X.to = X.be (X.op - 1))) : qend X ≤ 90000 := (qclose_V h hp h0).1.to_le hA
theorem close_c {n9 : Nat} {S : qS} {A : QA} {X : QX} {p : Int} (hn : 2000 ≤ n9) (hA : AOk A) (hX : XV A X) (hC : TC S X) (h5 : S 1 5 = -1) (hp : p = (X.pl : Int)) (hl : X.pl < A.len) : CO S (MX2_closeRepeat n9 S p) (if X.op = 0 ∨ X.to = X.be (X.op - 1) then Sum.inl X.pl else Sum.inr (qclose X)) := by
  have h120 := hA.2.1.1
  have hto := hX.to_le hA
  have h3 := hX.1.2
  unfold MX2_closeRepeat
  rw [hC.2.1, qg_t (by constructor <;> omega)]
  simp only [ql]
  by_cases h0 : X.op = 0
  · rw [if_pos (show (X.op : Int) ≤ 0 by omega), if_pos (Or.inl h0)]
    exact CO.err (by constructor <;> omega) hp
  · have hbe := hX.be_le (k := X.op - 1) (by omega)
    obtain ⟨c5, c6⟩ := hC.2.2.2 (X.op - 1) (by omega)
    rw [if_neg (show ¬ (X.op : Int) ≤ 0 by omega), qb_s (at_in (j := X.op - 1) kk6 (by omega) (by omega)), c6, hC.1, qg_t (by constructor <;> omega), qg_t (by constructor <;> omega)]
    by_cases h1 : X.to = X.be (X.op - 1)
    · rw [if_pos (show (X.to : Int) = (X.be (X.op - 1) : Int) by omega), if_pos (Or.inr h1)]
      exact CO.err (by constructor <;> omega) hp
    · have hne : ¬ (X.op = 0 ∨ X.to = X.be (X.op - 1)) := by omega
      have hel := qend_le hA hX hl hne
      have hcl := qclose_V hX hl hne
      have ht := hX.2.1 (X.op - 1) (by omega)
      have heq := endEq (to := X.to) (be := X.be (X.op - 1)) ht hbe
      rw [if_neg (show ¬ (X.to : Int) = (X.be (X.op - 1) : Int) by omega), if_neg hne]
      have eop : q2 S 1 8 ((X.op : Int) - 1) 1 8 = ((X.op - 1 : Nat) : Int) := by rw [q2_s]; omega
      have eto : q2 S 1 8 ((X.op : Int) - 1) 1 4 = (X.to : Int) := by rw [q2_j (by decide)]; exact hC.1
      have e6 : q2 S 1 8 ((X.op : Int) - 1) 6 (X.op - 1) = (X.be (X.op - 1) : Int) := by rw [q2_p (by decide)]; exact c6
      have e5 : q2 S 1 8 ((X.op : Int) - 1) 5 (X.op - 1) = X.ti (X.op - 1) := by rw [q2_p (by decide)]; exact c5
      rw [eop, eto, qb_s (at_in (j := X.op - 1) kk6 rfl (by omega)), qb_s (at_in (j := X.op - 1) kk5 rfl (by omega)), e6, e5, heq]
      obtain ⟨S', k1, k2, k3⟩ := close_l_ok (n9 := n9) (row := X.to - X.be (X.op - 1)) (en := qend X) (p := p) (x16 := (X.to : Int) - (X.be (X.op - 1) : Int)) (x20 := ((X.be (X.op - 1) + (X.to - X.be (X.op - 1)) * (X.ti (X.op - 1)).toNat : Nat) : Int)) (by omega) rfl (by omega) (by omega) (fun S24 => some (p + 1, q2 S24 1 4 ((X.be (X.op - 1) + (X.to - X.be (X.op - 1)) * (X.ti (X.op - 1)).toNat : Nat) : Int))) (min (qend X) 30 - X.to) n9 X.to (q2 S 1 8 ((X.op : Int) - 1)) (X.to : Int) X.pa X.we rfl rfl (by omega) (by omega) (by omega) (fun j hj hj2 => by
        rw [q2_p (by decide), q2_p (by decide)]
        exact hC.2.2.1 j hj hj2)
      rw [k1]
      refine ⟨_, _, rfl, (by constructor <;> omega), (qH.tr (qH.rfl.q2 rfl) (a34T k2)).q2 rfl, fun e he => (by cases he), fun X' he => ?_⟩
      cases he
      refine ⟨by show p + 1 = ((X.pl + 1 : Nat) : Int); omega, by rw [q2_j (by decide), k2 1 5 rfl, q2_j (by decide)]; exact h5, by rw [q2_s]; rfl, by rw [q2_j (by decide), k2 1 8 rfl, q2_s]; show (X.op : Int) - 1 = ((X.op - 1 : Nat) : Int); omega, fun j hj hj2 => ?_, fun k hk => ?_⟩
      · have hj : j < qend X := hj
        rw [q2_p (by decide), q2_p (by decide)]
        exact k3 j (by have := hcl.2.1; omega) hj2
      · have hk : k < X.op - 1 := hk
        rw [q2_p (by decide), q2_p (by decide), k2 5 k rfl, k2 6 k rfl, q2_p (by decide), q2_p (by decide)]
        exact hC.2.2.2 k (by omega)
theorem readPart_c {n9 : Nat} {S : qS} {A : QA} {X : QX} {p : Int} (hn : 2000 ≤ n9) (hA : AOk A) (hT : CT S A) (hX : XV A X) (hC : TC S X) (h5 : S 1 5 = -1) (hp : p = (X.pl : Int)) (hl : X.pl < A.len) : CO S (MX2_readPart n9 S p) (qstep A X) := by
  have h120 := hA.2.1.1
  have hr := qch_R hA X.pl
  have hr1 := qch_R hA (X.pl + 1)
  have h3 := hX.1.2
  have hto := hX.to_le hA
  unfold MX2_readPart qstep
  rw [qb_s (charAt_ok hA hT hp (by omega)), qg_t (by constructor <;> omega)]
  by_cases c1 : qch A X.pl = 41
  · rw [if_pos c1, if_pos c1]
    exact CO.bind (close_c hn hA hX hC h5 hp hl)
  · rw [if_neg c1, if_neg c1]
    dsimp only [ql]
    -- what comes when no repeat is opened
    have key : CO S (if qch A X.pl < 48 then (if qch A X.pl < 55 then qg (qR 0) <| if (0 : Int) = 0 then some (p, q2 S 1 5 p) else some (p, q2 S 1 5 (p + 1)) else if 57 < qch A X.pl then qg (qR 0) <| if (0 : Int) = 0 then some (p, q2 S 1 5 p) else some (p, q2 S 1 5 (p + 1)) else qg (qR (S 1 8)) <| if 3 ≤ S 1 8 then qg (qR 0) <| if (0 : Int) = 0 then some (p, q2 S 1 5 p) else some (p, q2 S 1 5 (p + 1)) else qg (qR 1) <| if (1 : Int) = 0 then some (p, q2 S 1 5 p) else some (p, q2 S 1 5 (p + 1))) else if 54 < qch A X.pl then (if qch A X.pl < 55 then qg (qR 0) <| if (0 : Int) = 0 then some (p, q2 S 1 5 p) else some (p, q2 S 1 5 (p + 1)) else if 57 < qch A X.pl then qg (qR 0) <| if (0 : Int) = 0 then some (p, q2 S 1 5 p) else some (p, q2 S 1 5 (p + 1)) else qg (qR (S 1 8)) <| if 3 ≤ S 1 8 then qg (qR 0) <| if (0 : Int) = 0 then some (p, q2 S 1 5 p) else some (p, q2 S 1 5 (p + 1)) else qg (qR 1) <| if (1 : Int) = 0 then some (p, q2 S 1 5 p) else some (p, q2 S 1 5 (p + 1))) else (qb (MX2_readAxle n9 S p) fun a28 => some (a28.1, a28.2))) (if 48 ≤ qch A X.pl ∧ qch A X.pl ≤ 54 then qaxx A X else Sum.inl (if (55 ≤ qch A X.pl ∧ qch A X.pl ≤ 57) ∧ X.op < 3 then X.pl + 1 else X.pl)) := by
      by_cases c3 : 48 ≤ qch A X.pl ∧ qch A X.pl ≤ 54
      · rw [if_neg (show ¬ qch A X.pl < 48 by omega), if_neg (show ¬ 54 < qch A X.pl by omega), if_pos c3]
        exact CO.bind (readAxle_c hA hT hX hC h5 hp)
      · rw [if_neg c3]
        have kz : ∀ {e : Nat}, p = (e : Int) → CO S (qg (qR 0) <| if (0 : Int) = 0 then some (p, q2 S 1 5 p) else some (p, q2 S 1 5 (p + 1))) (Sum.inl e) := fun he => by
          rw [qg_t (by decide), if_pos rfl]
          exact CO.err (by constructor <;> omega) he
        have kk : CO S (if qch A X.pl < 55 then qg (qR 0) <| if (0 : Int) = 0 then some (p, q2 S 1 5 p) else some (p, q2 S 1 5 (p + 1)) else if 57 < qch A X.pl then qg (qR 0) <| if (0 : Int) = 0 then some (p, q2 S 1 5 p) else some (p, q2 S 1 5 (p + 1)) else qg (qR (S 1 8)) <| if 3 ≤ S 1 8 then qg (qR 0) <| if (0 : Int) = 0 then some (p, q2 S 1 5 p) else some (p, q2 S 1 5 (p + 1)) else qg (qR 1) <| if (1 : Int) = 0 then some (p, q2 S 1 5 p) else some (p, q2 S 1 5 (p + 1))) (Sum.inl (if (55 ≤ qch A X.pl ∧ qch A X.pl ≤ 57) ∧ X.op < 3 then X.pl + 1 else X.pl)) := by
          by_cases d1 : qch A X.pl < 55
          · rw [if_pos d1, if_neg (show ¬ ((55 ≤ qch A X.pl ∧ qch A X.pl ≤ 57) ∧ X.op < 3) by omega)]
            exact kz hp
          · rw [if_neg d1]
            by_cases d2 : 57 < qch A X.pl
            · rw [if_pos d2, if_neg (show ¬ ((55 ≤ qch A X.pl ∧ qch A X.pl ≤ 57) ∧ X.op < 3) by omega)]
              exact kz hp
            · rw [if_neg d2, hC.2.1, qg_t (by constructor <;> omega)]
              by_cases d3 : X.op < 3
              · rw [if_neg (show ¬ 3 ≤ (X.op : Int) by omega), if_pos (show (55 ≤ qch A X.pl ∧ qch A X.pl ≤ 57) ∧ X.op < 3 by omega), qg_t (by decide), if_neg (by decide)]
                exact CO.err (by constructor <;> omega) (by omega)
              · rw [if_pos (show 3 ≤ (X.op : Int) by omega), if_neg (show ¬ ((55 ≤ qch A X.pl ∧ qch A X.pl ≤ 57) ∧ X.op < 3) by omega)]
                exact kz hp
        by_cases c4 : qch A X.pl < 48
        · rw [if_pos c4]
          exact kk
        · rw [if_neg c4, if_pos (show 54 < qch A X.pl by omega)]
          exact kk
    by_cases b1 : qch A X.pl < 50
    · rw [if_pos b1, if_neg (show ¬ ((50 ≤ qch A X.pl ∧ qch A X.pl ≤ 57) ∧ X.op < 3 ∧ qch A (X.pl + 1) = 40) by omega)]
      exact key
    · rw [if_neg b1]
      by_cases b2 : 57 < qch A X.pl
      · rw [if_pos b2, if_neg (show ¬ ((50 ≤ qch A X.pl ∧ qch A X.pl ≤ 57) ∧ X.op < 3 ∧ qch A (X.pl + 1) = 40) by omega)]
        exact key
      · rw [if_neg b2]
        by_cases b3 : X.op < 3
        · rw [hC.2.1] at key ⊢
          rw [qg_t (show qR (X.op : Int) by constructor <;> omega), if_neg (show ¬ 3 ≤ (X.op : Int) by omega), qb_s (charAt_ok (p := p + 1) (k := X.pl + 1) hA hT (by omega) (by omega)), qg_t (show qR (qch A (X.pl + 1)) by constructor <;> omega)]
          by_cases b4 : qch A (X.pl + 1) = 40
          · rw [if_pos b4, if_pos (show (50 ≤ qch A X.pl ∧ qch A X.pl ≤ 57) ∧ X.op < 3 ∧ qch A (X.pl + 1) = 40 from ⟨by omega, b3, b4⟩), qg_t (by omega), show ((X.op : Int)).toNat = X.op by omega]
            have e1 : q2 S 5 X.op (qch A X.pl - 48) 1 8 = (X.op : Int) := by rw [q2_p (by decide)]; exact hC.2.1
            have e2 : q2 S 5 X.op (qch A X.pl - 48) 1 4 = (X.to : Int) := by rw [q2_p (by decide)]; exact hC.1
            rw [e1, e2, qg_t (by omega), show ((X.op : Int)).toNat = X.op by omega]
            have e3 : q2 (q2 S 5 X.op (qch A X.pl - 48)) 6 X.op (X.to : Int) 1 8 = (X.op : Int) := by rw [q2_p (by decide)]; exact e1
            rw [e3]
            refine ⟨_, _, rfl, (by constructor <;> omega), ((qH.rfl.q2 rfl).q2 rfl).q2 rfl, fun e he => (by cases he), fun X' he => ?_⟩
            cases he
            refine ⟨by show p + 2 = ((X.pl + 2 : Nat) : Int); omega, by rw [q2_j (by decide), q2_p (by decide), q2_p (by decide)]; exact h5, by rw [q2_j (by decide), q2_p (by decide)]; exact e2, by rw [q2_s]; show (X.op : Int) + 1 = ((X.op + 1 : Nat) : Int); omega, fun j hj hj2 => ?_, fun k hk => ?_⟩
            · rw [q2_p (by decide), q2_p (by decide), q2_p (by decide), q2_p (by decide), q2_p (by decide), q2_p (by decide)]
              exact hC.2.2.1 j hj hj2
            · have hk : k < X.op + 1 := hk
              rw [q2_p (by decide), q2_p (by decide), q2_at, q2_p (by decide), q2_at, q2_p (by decide)]
              show (if k = X.op then qch A X.pl - 48 else S 5 k) = (if k = X.op then qch A X.pl - 48 else X.ti k) ∧ (if k = X.op then (X.to : Int) else S 6 k) = (((if k = X.op then X.to else X.be k) : Nat) : Int)
              by_cases e : k = X.op
              · rw [if_pos e, if_pos e, if_pos e, if_pos e]; exact ⟨rfl, rfl⟩
              · rw [if_neg e, if_neg e, if_neg e, if_neg e]; exact hC.2.2.2 k (by omega)
          · rw [if_neg b4, if_neg (show ¬ ((50 ≤ qch A X.pl ∧ qch A X.pl ≤ 57) ∧ X.op < 3 ∧ qch A (X.pl + 1) = 40) from fun h => b4 h.2.2)]
            exact key
        · have hne : ¬ ((50 ≤ qch A X.pl ∧ qch A X.pl ≤ 57) ∧ X.op < 3 ∧ qch A (X.pl + 1) = 40) := fun h => b3 h.2.1
          rw [if_neg hne]
          rw [hC.2.1] at key ⊢
          rw [qg_t (show qR (X.op : Int) by constructor <;> omega), if_pos (show 3 ≤ (X.op : Int) by omega)]
          exact key
