/-! opening and closing a repeat, a part, reading, on the reference's side -/
def a1213 (p _j : Nat) : Bool := p == 112 || p == 113
theorem a12D {S S' : qS} (h : qH a1213 S S') : qH aD S S' := h.mono (fun p j hp => by
  unfold aD at hp
  unfold a1213
  simp at hp ⊢
  omega)
theorem close_l_m {n9 row en be : Nat} {x10 x12 x15 : Int} (h10 : x10 = (be : Int)) (h12 : x12 = (row : Int)) (h15 : x10 + x15 = (en : Int)) (hen : en ≤ 1000000) (hr : 0 < row) (k : qS → Option qS) : ∀ (d f i : Nat) (S : qS) (x : Int) (pa we : Nat → Int), x10 + x = (i : Int) → d = min en 30 - i → be + row ≤ i → i ≤ 1000000 → d < f → (∀ j, j < i → j < 30 → S 112 j = pa j ∧ S 113 j = we j) →
    ∃ S', MX4_closeRow_l61 x10 x12 x15 k f S x = k S' ∧ qH a1213 S S' ∧ (∀ j, j < i + d → j < 30 → S' 112 j = qfl row d i pa j ∧ S' 113 j = qfl row d i we j) := by
  intro d
  induction d with
  | zero =>
    intro f i S x pa we hx hd hri hi hf h
    cases f with
    | zero => omega
    | succ f =>
      refine ⟨S, ?_, qH.rfl, h⟩
      rw [MX4_closeRow_l61, qg_t (by constructor <;> omega), qg_t (by constructor <;> omega)]
      by_cases h1 : x15 ≤ x
      · rw [if_pos h1]
      · rw [if_neg h1, qg_t (by constructor <;> omega), if_pos (by omega)]
  | succ d ih =>
    intro f i S x pa we hx hd hri hi hf h
    cases f with
    | zero => omega
    | succ f =>
      have hi30 : i < 30 := by omega
      obtain ⟨g3, g4⟩ := h (i - row) (by omega) (by omega)
      rw [MX4_closeRow_l61, qg_t (by constructor <;> omega), qg_t (by constructor <;> omega), if_neg (by omega), qg_t (by constructor <;> omega), if_neg (by omega), qg_t (by omega), qg_t (by omega), ql, qg_t (by omega), qg_t (by omega), ql, show (x10 + x).toNat = i by omega, show (x10 + x - x12).toNat = i - row by omega, q2_p (S := S) (q := 113) (by decide), g3, g4]
      generalize hS1 : q2 (q2 S 112 i (pa (i - row))) 113 i (we (i - row)) = S1
      have hH : qH a1213 S S1 := hS1 ▸ ((qH.rfl.q2 rfl).q2 rfl)
      obtain ⟨S', e1, e2, e3⟩ := ih f (i + 1) S1 (x + 1) (fun j => if j = i then pa (i - row) else pa j) (fun j => if j = i then we (i - row) else we j) (by omega) (by omega) (by omega) (by omega) (by omega) (fun j hj hj2 => by
        rw [← hS1, q2_p (by decide), q2_at, q2_at, q2_p (by decide)]
        show (if j = i then pa (i - row) else S 112 j) = (if j = i then pa (i - row) else pa j) ∧ (if j = i then we (i - row) else S 113 j) = (if j = i then we (i - row) else we j)
        by_cases e : j = i
        · rw [if_pos e, if_pos e, if_pos e, if_pos e]; exact ⟨rfl, rfl⟩
        · rw [if_neg e, if_neg e, if_neg e, if_neg e]; exact h j (by omega) hj2)
      refine ⟨S', e1, qH.tr hH e2, fun j hj hj2 => ?_⟩
      exact e3 j (by omega) hj2
theorem endEq2 {to be : Nat} {t : Int} (ht : 2 ≤ t ∧ t ≤ 9) (hb : be ≤ to) : (be : Int) + ((to : Int) - (be : Int)) * t = ((be + (to - be) * t.toNat : Nat) : Int) := by
  obtain ⟨n, rfl⟩ : ∃ n : Nat, t = (n : Int) := ⟨t.toNat, by omega⟩
  rw [Int.toNat_natCast]
  have : n = 2 ∨ n = 3 ∨ n = 4 ∨ n = 5 ∨ n = 6 ∨ n = 7 ∨ n = 8 ∨ n = 9 := by omega
  rcases this with rfl | rfl | rfl | rfl | rfl | rfl | rfl | rfl <;> omega
theorem closeRow_m {n9 : Nat} {S : qS} {A : QA} {X : QX} (hn : 2000 ≤ n9) (hA : AOk A) (hX : XV A X) (hM : TM S X) (h0 : 0 < X.op) (hl : X.pl < A.len) : MO S (MX4_closeRow n9 S) (if X.op = 0 ∨ X.to = X.be (X.op - 1) then Sum.inl X.pl else Sum.inr (qclose X)) := by
  have h120 := hA.2.1.1
  have hto := hX.to_le hA
  have hop := hX.1.2
  obtain ⟨⟨m3, m4⟩, m7, m11, mr, mk, mp, mt⟩ := hM
  have hbe := hX.be_le (k := X.op - 1) (by omega)
  obtain ⟨c5, c4⟩ := mk (X.op - 1) (by omega)
  have c6 := mp (X.op - 1) (by omega)
  rw [show X.op - 1 + 1 = X.op by omega] at c4 c5 c6
  have ct := mt h0
  unfold MX4_closeRow
  dsimp only [ql]
  rw [m11, qg_t (kk116 hop), show ((X.op : Int)).toNat = X.op by omega, qg_t (by constructor <;> omega)]
  by_cases h1 : X.to = X.be (X.op - 1)
  · have hz : S 116 X.op ≤ 0 := by
      rcases Int.lt_or_le 0 (S 116 X.op) with h | h
      · exact absurd h1 (ct.mp h)
      · exact h
    obtain ⟨S', e1, e2, e3, e4⟩ := acc_0 (n9 := n9) (v := 0) (Or.inr ⟨m4, rfl⟩) (by decide) m3
    rw [if_pos hz, if_pos (Or.inr h1)]
    refine MO.err (S' := S') ?_ e2 e3 e4
    rw [qb_s e1, e3, qg_t (by decide), if_pos rfl]
  · have hz : ¬ S 116 X.op ≤ 0 := by
      have := ct.mpr h1
      omega
    have hne : ¬ (X.op = 0 ∨ X.to = X.be (X.op - 1)) := by omega
    have hel := qend_le hA hX hl hne
    have hcl := qclose_V hX hl hne
    have ht := hX.2.1 (X.op - 1) (by omega)
    have heq := endEq2 (to := X.to) (be := X.be (X.op - 1)) ht hbe
    obtain ⟨S1, e1, e2, e3, e4⟩ := acc_1 (n9 := n9) m4 m3
    have f : ∀ p j, (p = 110 → j ≠ 3 ∧ j ≠ 4) → S1 p j = S p j := fun p j h => e2 p j (by unfold aG; simp; omega)
    have g7 : S1 110 7 = (X.to : Int) := by rw [f 110 7 (by omega)]; exact m7
    have g11 : S1 110 11 = (X.op : Int) := by rw [f 110 11 (by omega)]; exact m11
    have g4 : S1 114 X.op = (X.be (X.op - 1) : Int) := by rw [f 114 X.op (by omega)]; exact c4
    have g5 : S1 115 X.op = X.ti (X.op - 1) := by rw [f 115 X.op (by omega)]; exact c5
    rw [if_neg hz, if_neg hne, qb_s e1, e3, qg_t (by decide), if_neg (by decide), g11, qg_t (kk116 hop), qg_t (kk116 hop), show ((X.op : Int)).toNat = X.op by omega, g4, g5, g7]
    have hx15 : (X.be (X.op - 1) : Int) + ((X.to : Int) - (X.be (X.op - 1) : Int)) * X.ti (X.op - 1) = (qend X : Int) := heq
    obtain ⟨S2, k1, k2, k3⟩ := close_l_m (n9 := n9) (row := X.to - X.be (X.op - 1)) (en := qend X) (be := X.be (X.op - 1)) (x10 := (X.be (X.op - 1) : Int)) (x12 := (X.to : Int) - (X.be (X.op - 1) : Int)) (x15 := ((X.to : Int) - (X.be (X.op - 1) : Int)) * X.ti (X.op - 1)) rfl (by omega) hx15 (by omega) (by omega) (fun S17 => qg (0 ≤ ((q2 (q2 S17 110 7 ((X.be (X.op - 1) : Int) + ((X.to : Int) - (X.be (X.op - 1) : Int)) * X.ti (X.op - 1))) 110 11 ((q2 S17 110 7 ((X.be (X.op - 1) : Int) + ((X.to : Int) - (X.be (X.op - 1) : Int)) * X.ti (X.op - 1))) 110 11 - 1)) 110 11) ∧ ((q2 (q2 S17 110 7 ((X.be (X.op - 1) : Int) + ((X.to : Int) - (X.be (X.op - 1) : Int)) * X.ti (X.op - 1))) 110 11 ((q2 S17 110 7 ((X.be (X.op - 1) : Int) + ((X.to : Int) - (X.be (X.op - 1) : Int)) * X.ti (X.op - 1))) 110 11 - 1)) 110 11) < 4) <| qg (0 ≤ ((q2 (q2 S17 110 7 ((X.be (X.op - 1) : Int) + ((X.to : Int) - (X.be (X.op - 1) : Int)) * X.ti (X.op - 1))) 110 11 ((q2 S17 110 7 ((X.be (X.op - 1) : Int) + ((X.to : Int) - (X.be (X.op - 1) : Int)) * X.ti (X.op - 1))) 110 11 - 1)) 110 11) ∧ ((q2 (q2 S17 110 7 ((X.be (X.op - 1) : Int) + ((X.to : Int) - (X.be (X.op - 1) : Int)) * X.ti (X.op - 1))) 110 11 ((q2 S17 110 7 ((X.be (X.op - 1) : Int) + ((X.to : Int) - (X.be (X.op - 1) : Int)) * X.ti (X.op - 1))) 110 11 - 1)) 110 11) < 4) <| some (q2 (q2 (q2 S17 110 7 ((X.be (X.op - 1) : Int) + ((X.to : Int) - (X.be (X.op - 1) : Int)) * X.ti (X.op - 1))) 110 11 ((q2 S17 110 7 ((X.be (X.op - 1) : Int) + ((X.to : Int) - (X.be (X.op - 1) : Int)) * X.ti (X.op - 1))) 110 11 - 1)) 116 ((q2 (q2 S17 110 7 ((X.be (X.op - 1) : Int) + ((X.to : Int) - (X.be (X.op - 1) : Int)) * X.ti (X.op - 1))) 110 11 ((q2 S17 110 7 ((X.be (X.op - 1) : Int) + ((X.to : Int) - (X.be (X.op - 1) : Int)) * X.ti (X.op - 1))) 110 11 - 1)) 110 11).toNat ((q2 (q2 S17 110 7 ((X.be (X.op - 1) : Int) + ((X.to : Int) - (X.be (X.op - 1) : Int)) * X.ti (X.op - 1))) 110 11 ((q2 S17 110 7 ((X.be (X.op - 1) : Int) + ((X.to : Int) - (X.be (X.op - 1) : Int)) * X.ti (X.op - 1))) 110 11 - 1)) 116 ((q2 (q2 S17 110 7 ((X.be (X.op - 1) : Int) + ((X.to : Int) - (X.be (X.op - 1) : Int)) * X.ti (X.op - 1))) 110 11 ((q2 S17 110 7 ((X.be (X.op - 1) : Int) + ((X.to : Int) - (X.be (X.op - 1) : Int)) * X.ti (X.op - 1))) 110 11 - 1)) 110 11).toNat + 1))) (min (qend X) 30 - X.to) n9 X.to S1 ((X.to : Int) - (X.be (X.op - 1) : Int)) X.pa X.we (by omega) rfl (by omega) (by omega) (by omega) (fun j hj hj2 => by
      rw [f 112 j (by omega), f 113 j (by omega)]
      exact mr j hj hj2)
    rw [k1, hx15]
    have w11 : q2 (q2 S2 110 7 (qend X : Int)) 110 11 (q2 S2 110 7 (qend X : Int) 110 11 - 1) 110 11 = ((X.op - 1 : Nat) : Int) := by
      rw [q2_s, q2_j (by decide), k2 110 11 rfl, g11]; omega
    have w116 : q2 (q2 S2 110 7 (qend X : Int)) 110 11 (q2 S2 110 7 (qend X : Int) 110 11 - 1) 116 (X.op - 1) = S 116 (X.op - 1) := by
      rw [q2_p (by decide), q2_p (by decide), k2 116 _ rfl, f 116 _ (by omega)]
    rw [w11, qg_t (kk116 (by omega)), qg_t (kk116 (by omega)), show ((X.op - 1 : Nat) : Int).toNat = X.op - 1 by omega, w116]
    refine ⟨_, rfl, ((((qH.tr (aGD e2) (a12D k2)).q2 rfl).q2 rfl).q2 rfl), fun e he => (by cases he), fun X' he => ?_⟩
    cases he
    refine ⟨⟨by rw [q2_p (by decide), q2_j (by decide), q2_j (by decide), k2 110 3 rfl, e4]; rfl, by rw [q2_p (by decide), q2_j (by decide), q2_j (by decide), k2 110 4 rfl, e3]⟩, by rw [q2_p (by decide), q2_j (by decide), q2_s]; rfl, by rw [q2_p (by decide), w11]; rfl, fun j hj hj2 => ?_, fun k hk => ?_, fun k hk => ?_, fun h0' => ?_⟩
    · have hj : j < qend X := hj
      rw [q2_p (by decide), q2_p (by decide), q2_p (by decide), q2_p (by decide), q2_p (by decide), q2_p (by decide)]
      exact k3 j (by have := hcl.2.1; omega) hj2
    · have hk : k < X.op - 1 := hk
      rw [q2_p (by decide), q2_p (by decide), q2_p (by decide), q2_p (by decide), q2_p (by decide), q2_p (by decide), k2 115 _ rfl, k2 114 _ rfl, f 115 _ (by omega), f 114 _ (by omega)]
      exact mk k (by omega)
    · have hk : k < X.op - 1 := hk
      have hb := mp k (by omega)
      rw [q2_at]
      show 0 ≤ (if k + 1 = X.op - 1 then S 116 (X.op - 1) + 1 else _) ∧ (if k + 1 = X.op - 1 then S 116 (X.op - 1) + 1 else _) ≤ ((X.pl + 1 : Nat) : Int)
      by_cases e : k + 1 = X.op - 1
      · rw [if_pos e, ← e]; omega
      · rw [if_neg e, q2_p (by decide), q2_p (by decide), k2 116 _ rfl, f 116 _ (by omega)]; omega
    · have h0' : 0 < X.op - 1 := h0'
      have hb := mp (X.op - 2) (by omega)
      rw [show X.op - 2 + 1 = X.op - 1 by omega] at hb
      have hq := hcl.2.2 (X.op - 1 - 1) (by omega)
      show 0 < q2 _ 116 (X.op - 1) (S 116 (X.op - 1) + 1) 116 (X.op - 1) ↔ qend X ≠ X.be (X.op - 1 - 1)
      rw [q2_s]
      constructor
      · intro _; omega
      · intro _; omega
theorem openRow_m {n9 : Nat} {S : qS} {A : QA} {X : QX} (hA : AOk A) (hT : DT S A) (hX : XV A X) (hM : TM S X) (h2 : 2 ≤ qdg A X.pl) : (X.op < 3 → qch A (X.pl + 1) = 40 → MO S (MX4_openRow n9 S) (Sum.inr (qopen A X))) ∧ (¬ (X.op < 3 ∧ qch A (X.pl + 1) = 40) → MO S (MX4_openRow n9 S) (Sum.inl (X.pl + 1))) := by
  have h120 := hA.2.1.1
  have hpl := hX.1.1
  have hop := hX.1.2
  have r1 := qdg_R A X.pl
  have hd : qdg A X.pl = qch A X.pl - 48 := by
    unfold qdg at h2 ⊢
    by_cases h : 48 ≤ qch A X.pl ∧ qch A X.pl ≤ 57
    · rw [if_pos h]
    · rw [if_neg h] at h2; omega
  obtain ⟨S1, a1, a2, a3, a4⟩ := dig_1 (n9 := n9) (lo := 2) (hi := 9) hA hT hM.1.2 hM.1.1 (by omega) (by decide) (by decide) ⟨h2, r1.2⟩
  have hT1 := hT.fr (aGD a2)
  obtain ⟨⟨m3, m4⟩, m7, m11, mr, mk, mp, mt⟩ := hM
  have g11 : S1 110 11 = (X.op : Int) := by rw [a2 110 11 rfl]; exact m11
  unfold MX4_openRow
  dsimp only [ql]
  rw [qb_s a1]
  dsimp only
  rw [qg_t (show qR (S1 110 11) by constructor <;> omega)]
  refine ⟨fun h3 h4 => ?_, fun h => ?_⟩
  · obtain ⟨S2, e1, e2, e3, e4⟩ := acc_1 (n9 := n9) a3 a4
    have hH := qH.tr a2 e2
    have f : ∀ p j, (p = 110 → j ≠ 3 ∧ j ≠ 4) → S2 p j = S p j := fun p j h => hH p j (by unfold aG; simp; omega)
    have w11 : S2 110 11 = (X.op : Int) := by rw [f 110 11 (by omega)]; exact m11
    have w7 : S2 110 7 = (X.to : Int) := by rw [f 110 7 (by omega)]; exact m7
    rw [if_neg (show ¬ 3 ≤ S1 110 11 by omega), qb_s (isNext_m (k := X.pl + 1) hA hT1 a4 (by omega) (by decide)), qg_t q01R, if_pos h4, if_neg (by decide), qb_s e1, e3, qg_t (by decide), if_neg (by decide), w11]
    have x1 : q2 S2 110 11 ((X.op : Int) + 1) 110 11 = ((X.op + 1 : Nat) : Int) := by rw [q2_s]; rfl
    have x2 : ∀ {q j v}, q ≠ 110 → q2 (q2 S2 110 11 ((X.op : Int) + 1)) q j v 110 11 = ((X.op + 1 : Nat) : Int) := fun {q j v} hq => by rw [q2_p (fun e => hq e.symm)]; exact x1
    have x7 : q2 S2 110 11 ((X.op : Int) + 1) 110 7 = (X.to : Int) := by rw [q2_j (by decide)]; exact w7
    rw [x1, qg_t (kk116 (by omega)), show ((X.op + 1 : Nat) : Int).toNat = X.op + 1 by omega, x7, x2 (by decide), qg_t (kk116 (by omega)), show ((X.op + 1 : Nat) : Int).toNat = X.op + 1 by omega]
    have x3 : q2 (q2 (q2 S2 110 11 ((X.op : Int) + 1)) 114 (X.op + 1) (X.to : Int)) 115 (X.op + 1) (qdg A X.pl) 110 11 = ((X.op + 1 : Nat) : Int) := by rw [q2_p (by decide)]; exact x2 (by decide)
    rw [x3, qg_t (kk116 (by omega)), show ((X.op + 1 : Nat) : Int).toNat = X.op + 1 by omega]
    refine ⟨_, rfl, (((((aGD hH).q2 rfl).q2 rfl).q2 rfl).q2 rfl), fun e he => (by cases he), fun X' he => ?_⟩
    cases he
    refine ⟨⟨by rw [q2_p (by decide), q2_p (by decide), q2_p (by decide), q2_j (by decide), e4]; show ((X.pl + 1 : Nat) : Int) + 1 = ((X.pl + 2 : Nat) : Int); omega, by rw [q2_p (by decide), q2_p (by decide), q2_p (by decide), q2_j (by decide), e3]⟩, by rw [q2_p (by decide), q2_p (by decide), q2_p (by decide), x7]; rfl, by rw [q2_p (by decide), x3]; rfl, fun j hj hj2 => ?_, fun k hk => ?_, fun k hk => ?_, fun h0' => ?_⟩
    · rw [q2_p (by decide), q2_p (by decide), q2_p (by decide), q2_p (by decide), q2_p (by decide), q2_p (by decide), q2_p (by decide), q2_p (by decide), f 112 _ (by omega), f 113 _ (by omega)]
      exact mr j hj hj2
    · have hk : k < X.op + 1 := hk
      rw [q2_p (by decide), q2_at, q2_p (by decide), q2_p (by decide), q2_p (by decide), q2_p (by decide), q2_at, q2_p (by decide), f 115 _ (by omega), f 114 _ (by omega), hd]
      show _ = (if k = X.op then qch A X.pl - 48 else X.ti k) ∧ _ = (((if k = X.op then X.to else X.be k) : Nat) : Int)
      by_cases e : k = X.op
      · rw [if_pos (by omega), if_pos e, if_pos (by omega), if_pos e]; exact ⟨rfl, rfl⟩
      · rw [if_neg (by omega), if_neg e, if_neg (by omega), if_neg e]; exact mk k (by omega)
    · have hk : k < X.op + 1 := hk
      rw [q2_at]
      by_cases e : k + 1 = X.op + 1
      · rw [if_pos e]; show (0 : Int) ≤ 0 ∧ (0 : Int) ≤ ((X.pl + 2 : Nat) : Int); omega
      · have hb := mp k (by omega)
        rw [if_neg e, q2_p (by decide), q2_p (by decide), q2_p (by decide), f 116 _ (by omega)]
        show _ ∧ _ ≤ ((X.pl + 2 : Nat) : Int)
        omega
    · show 0 < q2 _ 116 (X.op + 1) 0 116 (X.op + 1) ↔ X.to ≠ (if X.op + 1 - 1 = X.op then X.to else X.be (X.op + 1 - 1))
      rw [q2_s, if_pos (by omega)]
      constructor
      · intro h; omega
      · intro h; exact absurd rfl h
  · obtain ⟨S2, e1, e2, e3, e4⟩ := acc_0 (n9 := n9) (v := 0) (Or.inr ⟨a3, rfl⟩) (by decide) a4
    by_cases h3 : X.op < 3
    · rw [if_neg (show ¬ 3 ≤ S1 110 11 by omega), qb_s (isNext_m (k := X.pl + 1) hA hT1 a4 (by omega) (by decide)), qg_t q01R, if_neg (fun z => h ⟨h3, z⟩), if_pos rfl]
      refine MO.err (S' := S2) ?_ (qH.tr a2 e2) e3 e4
      rw [qb_s e1, e3, qg_t (by decide), if_pos rfl]
    · rw [if_pos (show 3 ≤ S1 110 11 by omega)]
      refine MO.err (S' := S2) ?_ (qH.tr a2 e2) e3 e4
      rw [qb_s e1, e3, qg_t (by decide), if_pos rfl]
theorem readPart_m {n9 : Nat} {S : qS} {A : QA} {X : QX} (hn : 2000 ≤ n9) (hA : AOk A) (hT : DT S A) (hX : XV A X) (hM : TM S X) (hl : X.pl < A.len) : MO S (MX4_readPart n9 S) (qstep A X) := by
  have h120 := hA.2.1.1
  have hop := hX.1.2
  have hr := qch_R hA X.pl
  have hr1 := qch_R hA (X.pl + 1)
  have hrd := qdg_R A X.pl
  have hax := readAxle_m (n9 := n9) hA hT hX hM
  have e3 := hM.1.1
  have e11 := hM.2.2.1
  have hd : (48 ≤ qch A X.pl ∧ qch A X.pl ≤ 57 ∧ qdg A X.pl = qch A X.pl - 48) ∨ (¬ (48 ≤ qch A X.pl ∧ qch A X.pl ≤ 57) ∧ qdg A X.pl = -1) := by
    unfold qdg
    by_cases h : 48 ≤ qch A X.pl ∧ qch A X.pl ≤ 57
    · rw [if_pos h]; exact Or.inl ⟨h.1, h.2, rfl⟩
    · rw [if_neg h]; exact Or.inr ⟨h, rfl⟩
  -- the parenthesis first
  have cl : ∀ (m : Option qS) (o : Sum Nat QX), (¬ (0 < X.op ∧ qch A X.pl = 41) → MO S m o) → o = (if qch A X.pl = 41 ∧ 0 < X.op then (if X.op = 0 ∨ X.to = X.be (X.op - 1) then Sum.inl X.pl else Sum.inr (qclose X)) else o) → MO S (qg (qR (X.op : Int)) <| if (X.op : Int) ≤ 0 then m else (qb (MX4_isNext n9 S 41) fun a19 => qg (qR a19) <| if a19 = 0 then m else (qb (MX4_closeRow n9 S) fun a23 => some a23))) o := by
    intro m o h ho
    rw [qg_t (by constructor <;> omega)]
    by_cases h0 : 0 < X.op
    · rw [if_neg (by omega), qb_s (isNext_m (k := X.pl) hA hT e3 (by omega) (by decide)), qg_t q01R]
      by_cases h41 : qch A X.pl = 41
      · rw [if_pos h41, if_neg (by decide), ho, if_pos ⟨h41, h0⟩]
        exact MO.bind (closeRow_m hn hA hX hM h0 hl)
      · rw [if_neg h41, if_pos rfl]
        exact h (fun z => h41 z.2)
    · rw [if_pos (by omega)]
      exact h (fun z => h0 z.1)
  have step41 : 0 < X.op → qch A X.pl = 41 → qstep A X = (if X.op = 0 ∨ X.to = X.be (X.op - 1) then Sum.inl X.pl else Sum.inr (qclose X)) := fun h1 h2 => by unfold qstep; rw [if_pos h2]
  have ho : qstep A X = (if qch A X.pl = 41 ∧ 0 < X.op then (if X.op = 0 ∨ X.to = X.be (X.op - 1) then Sum.inl X.pl else Sum.inr (qclose X)) else qstep A X) := by
    by_cases h : qch A X.pl = 41 ∧ 0 < X.op
    · rw [if_pos h]; exact step41 h.2 h.1
    · rw [if_neg h]
  -- it is read as an axle
  have asAxle : (¬ (0 < X.op ∧ qch A X.pl = 41)) → ¬ ((7 ≤ qdg A X.pl ∧ qdg A X.pl ≤ 9) ∧ X.op < 3) → ¬ ((2 ≤ qdg A X.pl ∧ qdg A X.pl ≤ 6) ∧ qch A (X.pl + 1) = 40) → qstep A X = qaxx A X := by
    intro h41 h7 h2
    have herr : ¬ (48 ≤ qch A X.pl ∧ qch A X.pl ≤ 54) → qaxx A X = Sum.inl X.pl := fun h => by
      unfold qaxx
      rw [if_pos (by omega)]
    unfold qstep
    by_cases c1 : qch A X.pl = 41
    · rw [if_pos c1, if_pos (Or.inl (by omega)), herr (by omega)]
    · rw [if_neg c1, if_neg (by omega)]
      by_cases c3 : 48 ≤ qch A X.pl ∧ qch A X.pl ≤ 54
      · rw [if_pos c3]
      · rw [if_neg c3, herr c3, if_neg (by omega)]
  have asRow : (¬ (0 < X.op ∧ qch A X.pl = 41)) → (((7 ≤ qdg A X.pl ∧ qdg A X.pl ≤ 9) ∧ X.op < 3) ∨ ((2 ≤ qdg A X.pl ∧ qdg A X.pl ≤ 6) ∧ qch A (X.pl + 1) = 40)) → MO S (MX4_openRow n9 S) (qstep A X) := by
    intro h41 h
    obtain ⟨o1, o2⟩ := openRow_m (n9 := n9) hA hT hX hM (by omega)
    unfold qstep
    rw [if_neg (show ¬ qch A X.pl = 41 by omega)]
    by_cases c2 : X.op < 3 ∧ qch A (X.pl + 1) = 40
    · rw [if_pos (show (50 ≤ qch A X.pl ∧ qch A X.pl ≤ 57) ∧ X.op < 3 ∧ qch A (X.pl + 1) = 40 from ⟨by omega, c2⟩)]
      exact o1 c2.1 c2.2
    · rw [if_neg (fun z => c2 z.2)]
      have o2 := o2 c2
      by_cases c3 : 48 ≤ qch A X.pl ∧ qch A X.pl ≤ 54
      · have h40 : qch A (X.pl + 1) = 40 := by omega
        have hdn : qdg A (X.pl + 1) = -1 := by unfold qdg; rw [h40, if_neg (by decide)]
        have : qaxx A X = Sum.inl (X.pl + 1) := by
          unfold qaxx
          rw [if_neg (not_not_intro (show 0 ≤ qdg A X.pl ∧ qdg A X.pl ≤ 6 by omega)), if_pos (by omega)]
        rw [if_pos c3, this]
        exact o2
      · rw [if_neg c3, if_pos (show (55 ≤ qch A X.pl ∧ qch A X.pl ≤ 57) ∧ X.op < 3 by omega)]
        exact o2
  unfold MX4_readPart
  dsimp only [ql]
  rw [e3, qb_s (digAt_m (k := X.pl) hA hT rfl (by omega)), qg_t (by constructor <;> omega), qb_s (in_ok (by constructor <;> omega) (by decide) (by decide)), qg_t q01R, e11]
  have row1 : MO S (qg (qR (X.op : Int)) <| if (X.op : Int) ≤ 0 then (qg (qR 1) <| if (1 : Int) = 0 then (qb (MX4_readAxle n9 S) fun a13 => some a13) else (qb (MX4_openRow n9 S) fun a15 => some a15)) else (qb (MX4_isNext n9 S 41) fun a19 => qg (qR a19) <| if a19 = 0 then (qg (qR 1) <| if (1 : Int) = 0 then (qb (MX4_readAxle n9 S) fun a13 => some a13) else (qb (MX4_openRow n9 S) fun a15 => some a15)) else (qb (MX4_closeRow n9 S) fun a23 => some a23))) (qstep A X) ∨ ¬ (((7 ≤ qdg A X.pl ∧ qdg A X.pl ≤ 9) ∧ X.op < 3) ∨ ((2 ≤ qdg A X.pl ∧ qdg A X.pl ≤ 6) ∧ qch A (X.pl + 1) = 40)) := by
    by_cases hc : ((7 ≤ qdg A X.pl ∧ qdg A X.pl ≤ 9) ∧ X.op < 3) ∨ ((2 ≤ qdg A X.pl ∧ qdg A X.pl ≤ 6) ∧ qch A (X.pl + 1) = 40)
    · refine Or.inl (cl _ _ (fun h41 => ?_) ho)
      rw [qg_t (by decide), if_neg (by decide)]
      exact MO.bind (asRow h41 hc)
    · exact Or.inr hc
  have row0 : (¬ ((7 ≤ qdg A X.pl ∧ qdg A X.pl ≤ 9) ∧ X.op < 3)) → (¬ ((2 ≤ qdg A X.pl ∧ qdg A X.pl ≤ 6) ∧ qch A (X.pl + 1) = 40)) → MO S (qg (qR (X.op : Int)) <| if (X.op : Int) ≤ 0 then (qg (qR 0) <| if (0 : Int) = 0 then (qb (MX4_readAxle n9 S) fun a13 => some a13) else (qb (MX4_openRow n9 S) fun a15 => some a15)) else (qb (MX4_isNext n9 S 41) fun a19 => qg (qR a19) <| if a19 = 0 then (qg (qR 0) <| if (0 : Int) = 0 then (qb (MX4_readAxle n9 S) fun a13 => some a13) else (qb (MX4_openRow n9 S) fun a15 => some a15)) else (qb (MX4_closeRow n9 S) fun a23 => some a23))) (qstep A X) := by
    intro h7 h2
    refine cl _ _ (fun h41 => ?_) ho
    rw [qg_t (by decide), if_pos rfl, asAxle h41 h7 h2]
    exact MO.bind hax
  -- two to six
  have six : (¬ ((7 ≤ qdg A X.pl ∧ qdg A X.pl ≤ 9) ∧ X.op < 3)) → MO S (qb (MX4_in n9 S (qdg A X.pl) 2 6) fun a29 => qg (qR a29) <| if a29 = 0 then (qg (qR (X.op : Int)) <| if (X.op : Int) ≤ 0 then (qg (qR 0) <| if (0 : Int) = 0 then (qb (MX4_readAxle n9 S) fun a13 => some a13) else (qb (MX4_openRow n9 S) fun a15 => some a15)) else (qb (MX4_isNext n9 S 41) fun a19 => qg (qR a19) <| if a19 = 0 then (qg (qR 0) <| if (0 : Int) = 0 then (qb (MX4_readAxle n9 S) fun a13 => some a13) else (qb (MX4_openRow n9 S) fun a15 => some a15)) else (qb (MX4_closeRow n9 S) fun a23 => some a23))) else (qg (qR ((X.pl : Int) + 1)) <| qg (qR (S 110 2)) <| if (S 110 2) ≤ ((X.pl : Int) + 1) then (qg (qR (X.op : Int)) <| if (X.op : Int) ≤ 0 then (qg (qR 0) <| if (0 : Int) = 0 then (qb (MX4_readAxle n9 S) fun a13 => some a13) else (qb (MX4_openRow n9 S) fun a15 => some a15)) else (qb (MX4_isNext n9 S 41) fun a19 => qg (qR a19) <| if a19 = 0 then (qg (qR 0) <| if (0 : Int) = 0 then (qb (MX4_readAxle n9 S) fun a13 => some a13) else (qb (MX4_openRow n9 S) fun a15 => some a15)) else (qb (MX4_closeRow n9 S) fun a23 => some a23))) else (qg (0 ≤ ((X.pl : Int) + 1) ∧ ((X.pl : Int) + 1) < 120) <| qg (qR (S 111 ((X.pl : Int) + 1).toNat)) <| if (S 111 ((X.pl : Int) + 1).toNat) = 40 then (qg (qR (X.op : Int)) <| if (X.op : Int) ≤ 0 then (qg (qR 1) <| if (1 : Int) = 0 then (qb (MX4_readAxle n9 S) fun a13 => some a13) else (qb (MX4_openRow n9 S) fun a15 => some a15)) else (qb (MX4_isNext n9 S 41) fun a19 => qg (qR a19) <| if a19 = 0 then (qg (qR 1) <| if (1 : Int) = 0 then (qb (MX4_readAxle n9 S) fun a13 => some a13) else (qb (MX4_openRow n9 S) fun a15 => some a15)) else (qb (MX4_closeRow n9 S) fun a23 => some a23))) else (qg (qR (X.op : Int)) <| if (X.op : Int) ≤ 0 then (qg (qR 0) <| if (0 : Int) = 0 then (qb (MX4_readAxle n9 S) fun a13 => some a13) else (qb (MX4_openRow n9 S) fun a15 => some a15)) else (qb (MX4_isNext n9 S 41) fun a19 => qg (qR a19) <| if a19 = 0 then (qg (qR 0) <| if (0 : Int) = 0 then (qb (MX4_readAxle n9 S) fun a13 => some a13) else (qb (MX4_openRow n9 S) fun a15 => some a15)) else (qb (MX4_closeRow n9 S) fun a23 => some a23)))))) (qstep A X) := by
    intro h7
    rw [qb_s (in_ok (by constructor <;> omega) (by decide) (by decide)), qg_t q01R]
    by_cases h2 : 2 ≤ qdg A X.pl ∧ qdg A X.pl ≤ 6
    · rw [if_pos h2, if_neg (by decide), qg_t (show qR ((X.pl : Int) + 1) by constructor <;> omega), hT.1, qg_t (show qR (A.len : Int) by constructor <;> omega)]
      by_cases hin : X.pl + 1 < A.len
      · have e : qch A (X.pl + 1) = A.ch (X.pl + 1) := by unfold qch; rw [if_pos hin]
        rw [if_neg (show ¬ (A.len : Int) ≤ (X.pl : Int) + 1 by omega), qg_t (show 0 ≤ (X.pl : Int) + 1 ∧ (X.pl : Int) + 1 < 120 by omega), show ((X.pl : Int) + 1).toNat = X.pl + 1 by omega, hT.2 _ hin, ← e, qg_t (show qR (qch A (X.pl + 1)) by constructor <;> omega)]
        by_cases h40 : qch A (X.pl + 1) = 40
        · rw [if_pos h40]
          exact row1.resolve_right (fun z => z (Or.inr ⟨h2, h40⟩))
        · rw [if_neg h40]
          exact row0 h7 (fun z => h40 z.2)
      · have e : qch A (X.pl + 1) = -1 := by unfold qch; rw [if_neg hin]
        rw [if_pos (show (A.len : Int) ≤ (X.pl : Int) + 1 by omega)]
        exact row0 h7 (by omega)
    · rw [if_neg h2, if_pos rfl]
      exact row0 h7 (fun z => h2 z.1)
  by_cases h7 : 7 ≤ qdg A X.pl ∧ qdg A X.pl ≤ 9
  · rw [if_pos h7, if_neg (by decide)]
    rw [qg_t (show qR (X.op : Int) by constructor <;> omega)]
    by_cases h3 : X.op < 3
    · rw [if_pos (show (X.op : Int) < 3 by omega)]
      exact row1.resolve_right (fun z => z (Or.inl ⟨h7, h3⟩))
    · rw [if_neg (show ¬ (X.op : Int) < 3 by omega)]
      exact six (fun z => h3 z.2)
  · rw [if_neg h7, if_pos rfl]
    exact six (fun z => h7 z.1)
