/-! the text, the reference's side -/
def aD (p j : Nat) : Bool := (p == 110 && (j == 3 || j == 4 || j == 7 || j == 11)) || (112 ≤ p && p ≤ 116)
def aG (p j : Nat) : Bool := p == 110 && (j == 3 || j == 4)
theorem aGD {S S' : qS} (h : qH aG S S') : qH aD S S' := h.mono (fun p j hp => by
  unfold aD at hp
  unfold aG
  simp at hp ⊢
  omega)
abbrev DT (S : qS) (A : QA) : Prop := S 110 2 = (A.len : Int) ∧ ∀ j, j < A.len → S 111 j = A.ch j
theorem DT.fr {S S' : qS} {A : QA} (h : DT S A) (hH : qH aD S S') : DT S' A := ⟨by rw [hH 110 2 rfl]; exact h.1, fun j hj => by rw [hH 111 j rfl]; exact h.2 j hj⟩
abbrev TM (S : qS) (X : QX) : Prop := (S 110 3 = (X.pl : Int) ∧ S 110 4 = 1) ∧ S 110 7 = (X.to : Int) ∧ S 110 11 = (X.op : Int) ∧ (∀ j, j < X.to → j < 30 → S 112 j = X.pa j ∧ S 113 j = X.we j) ∧
  (∀ k, k < X.op → S 115 (k + 1) = X.ti k ∧ S 114 (k + 1) = (X.be k : Int)) ∧ (∀ k, k < X.op → 0 ≤ S 116 (k + 1) ∧ S 116 (k + 1) ≤ (X.pl : Int)) ∧ (0 < X.op → (0 < S 116 X.op ↔ X.to ≠ X.be (X.op - 1)))
theorem isNext_m {n9 k : Nat} {S : qS} {A : QA} {c : Int} (hA : AOk A) (hT : DT S A) (h3 : S 110 3 = (k : Int)) (hk : k ≤ 1000) (hc : 0 ≤ c ∧ c < 300) : MX4_isNext n9 S c = some (if qch A k = c then 1 else 0) := by
  have h120 := hA.2.1.1
  have hr := qch_R hA k
  unfold MX4_isNext
  rw [h3, hT.1, qg_t (by constructor <;> omega), qg_t (by constructor <;> omega)]
  by_cases h : k < A.len
  · have e : qch A k = A.ch k := by unfold qch; rw [if_pos h]
    rw [if_neg (by omega), qg_t (by omega), show ((k : Int)).toNat = k by omega, hT.2 k h, ← e, qg_t (by constructor <;> omega), qg_t (by constructor <;> omega)]
    by_cases h2 : qch A k = c
    · rw [if_pos h2, if_pos h2]
    · rw [if_neg h2, if_neg h2]
  · have e : qch A k = -1 := by unfold qch; rw [if_neg h]
    rw [if_pos (by omega), if_neg (by omega)]
theorem digAt_m {n9 k : Nat} {S : qS} {A : QA} {p : Int} (hA : AOk A) (hT : DT S A) (hp : p = (k : Int)) (hk : k ≤ 1000) : MX4_digitAt n9 S p = some (qdg A k) := by
  have h120 := hA.2.1.1
  have hr := qch_R hA k
  unfold MX4_digitAt qdg
  rw [qg_t (by constructor <;> omega), hT.1, qg_t (by constructor <;> omega)]
  by_cases h : k < A.len
  · have e : qch A k = A.ch k := by unfold qch; rw [if_pos h]
    rw [if_neg (by omega), qg_t (by omega), show p.toNat = k by omega, hT.2 k h, ← e, qg_t (by constructor <;> omega), qb_s (in_ok (by constructor <;> omega) (by decide) (by decide)), qg_t q01R]
    by_cases h2 : 48 ≤ qch A k ∧ qch A k ≤ 57
    · rw [if_pos h2, if_neg (by decide), qg_t (by omega), if_pos h2]
    · rw [if_neg h2, if_pos rfl, if_neg h2]
  · have e : qch A k = -1 := by unfold qch; rw [if_neg h]
    rw [if_pos (by omega), if_neg (by omega)]
theorem acc_1 {n9 : Nat} {S : qS} {k : Int} (h4 : S 110 4 = 1) (h3 : S 110 3 = k) : ∃ S', MX4_accept n9 S 1 = some S' ∧ qH aG S S' ∧ S' 110 4 = 1 ∧ S' 110 3 = k + 1 := by
  refine ⟨q2 (q2 S 110 4 1) 110 3 (k + 1), ?_, (qH.rfl.q2 rfl).q2 rfl, by rw [q2_j (by decide), q2_s], by rw [q2_s]⟩
  unfold MX4_accept
  dsimp only [ql]
  rw [h4, qg_t (by decide), if_neg (by decide), qg_t (by decide), if_neg (by decide), qg_t (by decide), q2_s, qg_t (by decide), if_neg (by decide), q2_j (by decide), h3]
theorem acc_0 {n9 : Nat} {S : qS} {k v : Int} (h : S 110 4 = 0 ∨ (S 110 4 = 1 ∧ v = 0)) (hv : qR v) (h3 : S 110 3 = k) : ∃ S', MX4_accept n9 S v = some S' ∧ qH aG S S' ∧ S' 110 4 = 0 ∧ S' 110 3 = k := by
  have e : ∀ c : Int, (q2 (q2 S 110 4 0) 110 3 ((q2 S 110 4 0) 110 3 + 0)) 110 3 = S 110 3 := fun _ => by rw [q2_s, q2_j (by decide), Int.add_zero]
  refine ⟨q2 (q2 S 110 4 0) 110 3 ((q2 S 110 4 0) 110 3 + 0), ?_, (qH.rfl.q2 rfl).q2 rfl, by rw [q2_j (by decide), q2_s], (e 0).trans h3⟩
  unfold MX4_accept
  dsimp only [ql]
  have t : ∀ {α : Type} {x y : Option α}, (qg (qR ((q2 S 110 4 0) 110 4)) <| if (q2 S 110 4 0) 110 4 = 0 then x else y) = x := fun {α x y} => by rw [q2_s, qg_t (by decide), if_pos rfl]
  rcases h with h | ⟨h, h'⟩
  · rw [h, qg_t (by decide), if_pos rfl, qg_t (by decide), t]
  · rw [h, h', qg_t (by decide), if_neg (by decide), qg_t (by decide), if_pos rfl, qg_t (by decide), t]
theorem dig_1 {n9 k : Nat} {S : qS} {A : QA} {lo hi : Int} (hA : AOk A) (hT : DT S A) (h4 : S 110 4 = 1) (h3 : S 110 3 = (k : Int)) (hk : k ≤ 1000) (hlo : 0 ≤ lo ∧ lo ≤ 9) (hhi : 0 ≤ hi ∧ hi ≤ 9) (h : lo ≤ qdg A k ∧ qdg A k ≤ hi) : ∃ S', MX4_digit n9 S lo hi = some (qdg A k, S') ∧ qH aG S S' ∧ S' 110 4 = 1 ∧ S' 110 3 = ((k + 1 : Nat) : Int) := by
  have hr := qdg_R A k
  obtain ⟨S', e1, e2, e3, e4⟩ := acc_1 (n9 := n9) h4 h3
  refine ⟨S', ?_, e2, e3, by rw [e4]; omega⟩
  unfold MX4_digit
  dsimp only [ql]
  rw [h3, qb_s (digAt_m (k := k) hA hT rfl hk), qg_t (by constructor <;> omega), if_neg (by omega), qg_t (by constructor <;> omega), qg_t (by constructor <;> omega), qb_s (in_ok (by constructor <;> omega) (by constructor <;> omega) (by constructor <;> omega)), qg_t q01R, if_pos h, if_neg (by decide), qb_s e1, e3, qg_t (by decide), if_neg (by decide)]
theorem dig_0 {n9 k : Nat} {S : qS} {A : QA} {lo hi : Int} (hA : AOk A) (hT : DT S A) (h4 : S 110 4 = 0 ∨ S 110 4 = 1) (h3 : S 110 3 = (k : Int)) (hk : k ≤ 1000) (hlo : 0 ≤ lo ∧ lo ≤ 9) (hhi : 0 ≤ hi ∧ hi ≤ 9) (h : S 110 4 = 0 ∨ ¬ (lo ≤ qdg A k ∧ qdg A k ≤ hi)) : ∃ S', MX4_digit n9 S lo hi = some (lo, S') ∧ qH aG S S' ∧ S' 110 4 = 0 ∧ S' 110 3 = (k : Int) := by
  have hr := qdg_R A k
  have key : ∀ v : Int, qR v → (S 110 4 = 0 ∨ (S 110 4 = 1 ∧ v = 0)) → ∃ S', (qb (MX4_accept n9 S v) fun a6 => qg (qR (a6 110 4)) <| if (a6 110 4) = 0 then (some (lo, a6)) else (some (qdg A k, a6))) = some (lo, S') ∧ qH aG S S' ∧ S' 110 4 = 0 ∧ S' 110 3 = (k : Int) := fun v hv hc => by
    obtain ⟨S', e1, e2, e3, e4⟩ := acc_0 (n9 := n9) hc hv h3
    refine ⟨S', ?_, e2, e3, e4⟩
    rw [qb_s e1, e3, qg_t (by decide), if_pos rfl]
  have z0 : S 110 4 = 0 ∨ (S 110 4 = 1 ∧ (0 : Int) = 0) := h4.elim Or.inl (fun h => Or.inr ⟨h, rfl⟩)
  unfold MX4_digit
  dsimp only [ql]
  rw [h3, qb_s (digAt_m (k := k) hA hT rfl hk), qg_t (by constructor <;> omega)]
  by_cases h1 : qdg A k = -1
  · rw [if_pos h1]
    exact key 0 (by decide) z0
  · rw [if_neg h1, qg_t (by constructor <;> omega), qg_t (by constructor <;> omega), qb_s (in_ok (by constructor <;> omega) (by constructor <;> omega) (by constructor <;> omega)), qg_t q01R]
    by_cases h2 : lo ≤ qdg A k ∧ qdg A k ≤ hi
    · rw [if_pos h2, if_neg (by decide)]
      exact key 1 (by decide) (Or.inl (h.elim id (fun z => absurd h2 z)))
    · rw [if_neg h2, if_pos rfl]
      exact key 0 (by decide) z0
abbrev MO (S : qS) (m : Option qS) (o : Sum Nat QX) : Prop := ∃ S', m = some S' ∧ qH aD S S' ∧ (∀ e, o = Sum.inl e → S' 110 4 = 0 ∧ S' 110 3 = (e : Int)) ∧ (∀ X', o = Sum.inr X' → TM S' X')
theorem MO.err {S S' : qS} {m : Option qS} {e : Nat} (hm : m = some S') (hH : qH aG S S') (h4 : S' 110 4 = 0) (h3 : S' 110 3 = (e : Int)) : MO S m (Sum.inl e) := ⟨S', hm, aGD hH, fun e' he => by cases he; exact ⟨h4, h3⟩, fun X' he => by cases he⟩
theorem MO.bind {S : qS} {m : Option qS} {o : Sum Nat QX} (h : MO S m o) : MO S (qb m fun a => some a) o := by
  obtain ⟨S', h1, h2⟩ := h
  exact ⟨S', by rw [h1]; rfl, h2⟩
theorem kk116 {k : Nat} (h : k ≤ 3) : 0 ≤ (k : Int) ∧ (k : Int) < 4 := by omega
theorem readAxle_m {n9 : Nat} {S : qS} {A : QA} {X : QX} (hA : AOk A) (hT : DT S A) (hX : XV A X) (hM : TM S X) : MO S (MX4_readAxle n9 S) (qaxx A X) := by
  have h120 := hA.2.1.1
  have hpl := hX.1.1
  have hop3 := hX.1.2
  have hto := hX.to_le hA
  have r1 := qdg_R A X.pl
  have r2 := qdg_R A (X.pl + 1)
  have r3 := qdg_R A (X.pl + 2)
  have r4 := qdg_R A (X.pl + 3)
  -- once it is wrong, it stays so
  have tail3 : ∀ (a8 : qS) (e : Nat), qH aG S a8 → a8 110 4 = 0 → a8 110 3 = (e : Int) → e ≤ 500 → ∀ x10 : Int, MO S (qb (MX4_digit n9 a8 0 9) fun a12 => qg (qR a12.1) <| if a12.1 = 0 then (qb (MX4_digit n9 a12.2 1 9) fun a17 => qg (qR (a17.2 110 4)) <| if (a17.2 110 4) = 0 then (some a17.2) else (qb (MX4_take n9 a17.2 x10 ((10 * a12.1) + a17.1)) fun a23 => qg (0 ≤ (a23 110 11) ∧ (a23 110 11) < 4) <| qg (0 ≤ (a23 110 11) ∧ (a23 110 11) < 4) <| some (q2 a23 116 (a23 110 11).toNat ((a23 116 (a23 110 11).toNat) + 1)))) else (qb (MX4_digit n9 a12.2 0 9) fun a17 => qg (qR (a17.2 110 4)) <| if (a17.2 110 4) = 0 then (some a17.2) else (qb (MX4_take n9 a17.2 x10 ((10 * a12.1) + a17.1)) fun a23 => qg (0 ≤ (a23 110 11) ∧ (a23 110 11) < 4) <| qg (0 ≤ (a23 110 11) ∧ (a23 110 11) < 4) <| some (q2 a23 116 (a23 110 11).toNat ((a23 116 (a23 110 11).toNat) + 1))))) (Sum.inl e) := by
    intro a8 e hH h4 h3 he x10
    obtain ⟨S3, b1, b2, b3, b4⟩ := dig_0 (n9 := n9) (lo := 0) (hi := 9) hA (hT.fr (aGD hH)) (Or.inl h4) h3 (by omega) (by decide) (by decide) (Or.inl h4)
    have hH3 := qH.tr hH b2
    obtain ⟨S4, d1, d2, d3, d4⟩ := dig_0 (n9 := n9) (lo := 1) (hi := 9) hA (hT.fr (aGD hH3)) (Or.inl b3) b4 (by omega) (by decide) (by decide) (Or.inl b3)
    refine MO.err (S' := S4) ?_ (qH.tr hH3 d2) d3 d4
    rw [qb_s b1]
    dsimp only
    rw [qg_t (by decide), if_pos rfl, qb_s d1]
    dsimp only
    rw [qg_t (show qR (S4 110 4) by rw [d3]; decide), if_pos d3]
  unfold MX4_readAxle qaxx
  dsimp only [ql]
  by_cases c1 : 0 ≤ qdg A X.pl ∧ qdg A X.pl ≤ 6
  · rw [if_neg (not_not_intro c1)]
    obtain ⟨S1, a1, a2, a3, a4⟩ := dig_1 (n9 := n9) (lo := 0) (hi := 6) hA hT hM.1.2 hM.1.1 (by omega) (by decide) (by decide) c1
    have hT1 := hT.fr (aGD a2)
    rw [qb_s a1]
    -- the second digit, whatever its bounds
    have dig2 : ∀ lo hi : Int, (0 ≤ lo ∧ lo ≤ 9) → (0 ≤ hi ∧ hi ≤ 9) → ((lo ≤ qdg A (X.pl + 1) ∧ qdg A (X.pl + 1) ≤ hi) ↔ (0 ≤ qdg A (X.pl + 1) ∧ 1 ≤ 10 * qdg A X.pl + qdg A (X.pl + 1) ∧ 10 * qdg A X.pl + qdg A (X.pl + 1) ≤ 60)) → MO S (qb (MX4_digit n9 S1 lo hi) fun a8 => qb (MX4_digit n9 a8.2 0 9) fun a12 => qg (qR a12.1) <| if a12.1 = 0 then (qb (MX4_digit n9 a12.2 1 9) fun a17 => qg (qR (a17.2 110 4)) <| if (a17.2 110 4) = 0 then (some a17.2) else (qb (MX4_take n9 a17.2 ((10 * qdg A X.pl) + a8.1) ((10 * a12.1) + a17.1)) fun a23 => qg (0 ≤ (a23 110 11) ∧ (a23 110 11) < 4) <| qg (0 ≤ (a23 110 11) ∧ (a23 110 11) < 4) <| some (q2 a23 116 (a23 110 11).toNat ((a23 116 (a23 110 11).toNat) + 1)))) else (qb (MX4_digit n9 a12.2 0 9) fun a17 => qg (qR (a17.2 110 4)) <| if (a17.2 110 4) = 0 then (some a17.2) else (qb (MX4_take n9 a17.2 ((10 * qdg A X.pl) + a8.1) ((10 * a12.1) + a17.1)) fun a23 => qg (0 ≤ (a23 110 11) ∧ (a23 110 11) < 4) <| qg (0 ≤ (a23 110 11) ∧ (a23 110 11) < 4) <| some (q2 a23 116 (a23 110 11).toNat ((a23 116 (a23 110 11).toNat) + 1))))) (if ¬ (0 ≤ qdg A (X.pl + 1) ∧ 1 ≤ 10 * qdg A X.pl + qdg A (X.pl + 1) ∧ 10 * qdg A X.pl + qdg A (X.pl + 1) ≤ 60) then Sum.inl (X.pl + 1) else if ¬ (0 ≤ qdg A (X.pl + 2)) then Sum.inl (X.pl + 2) else if ¬ (0 ≤ qdg A (X.pl + 3) ∧ 1 ≤ 10 * qdg A (X.pl + 2) + qdg A (X.pl + 3)) then Sum.inl (X.pl + 3) else Sum.inr (qaxl X (10 * qdg A X.pl + qdg A (X.pl + 1)) (10 * qdg A (X.pl + 2) + qdg A (X.pl + 3)))) := by
      intro lo hi hlo hhi hiff
      by_cases c2 : 0 ≤ qdg A (X.pl + 1) ∧ 1 ≤ 10 * qdg A X.pl + qdg A (X.pl + 1) ∧ 10 * qdg A X.pl + qdg A (X.pl + 1) ≤ 60
      · rw [if_neg (not_not_intro c2)]
        obtain ⟨S2, b1, b2, b3, b4⟩ := dig_1 (n9 := n9) hA hT1 a3 a4 (by omega) hlo hhi (hiff.mpr c2)
        have hH2 := qH.tr a2 b2
        have hT2 := hT.fr (aGD hH2)
        rw [qb_s b1]
        dsimp only
        by_cases c3 : 0 ≤ qdg A (X.pl + 2)
        · rw [if_neg (not_not_intro c3)]
          obtain ⟨S3, d1, d2, d3, d4⟩ := dig_1 (n9 := n9) (lo := 0) (hi := 9) hA hT2 b3 b4 (by omega) (by decide) (by decide) ⟨c3, r3.2⟩
          have hH3 := qH.tr hH2 d2
          have hT3 := hT.fr (aGD hH3)
          rw [qb_s d1]
          dsimp only
          rw [show X.pl + 1 + 1 = X.pl + 2 from rfl, qg_t (by constructor <;> omega)]
          -- the fourth
          have dig4 : ∀ lo : Int, (0 ≤ lo ∧ lo ≤ 9) → ((lo ≤ qdg A (X.pl + 3) ∧ qdg A (X.pl + 3) ≤ 9) ↔ (0 ≤ qdg A (X.pl + 3) ∧ 1 ≤ 10 * qdg A (X.pl + 2) + qdg A (X.pl + 3))) → MO S (qb (MX4_digit n9 S3 lo 9) fun a17 => qg (qR (a17.2 110 4)) <| if (a17.2 110 4) = 0 then (some a17.2) else (qb (MX4_take n9 a17.2 ((10 * qdg A X.pl) + qdg A (X.pl + 1)) ((10 * qdg A (X.pl + 2)) + a17.1)) fun a23 => qg (0 ≤ (a23 110 11) ∧ (a23 110 11) < 4) <| qg (0 ≤ (a23 110 11) ∧ (a23 110 11) < 4) <| some (q2 a23 116 (a23 110 11).toNat ((a23 116 (a23 110 11).toNat) + 1)))) (if ¬ (0 ≤ qdg A (X.pl + 3) ∧ 1 ≤ 10 * qdg A (X.pl + 2) + qdg A (X.pl + 3)) then Sum.inl (X.pl + 3) else Sum.inr (qaxl X (10 * qdg A X.pl + qdg A (X.pl + 1)) (10 * qdg A (X.pl + 2) + qdg A (X.pl + 3)))) := by
            intro lo hlo hiff
            by_cases c4 : 0 ≤ qdg A (X.pl + 3) ∧ 1 ≤ 10 * qdg A (X.pl + 2) + qdg A (X.pl + 3)
            · rw [if_neg (not_not_intro c4)]
              obtain ⟨S4, g1, g2, g3, g4⟩ := dig_1 (n9 := n9) (k := X.pl + 3) hA hT3 d3 d4 (by omega) hlo (by decide) (hiff.mpr c4)
              have hH4 := qH.tr hH3 g2
              rw [qb_s g1]
              dsimp only
              generalize 10 * qdg A X.pl + qdg A (X.pl + 1) = x
              generalize 10 * qdg A (X.pl + 2) + qdg A (X.pl + 3) = y
              rw [qg_t (show qR (S4 110 4) by rw [g3]; decide), if_neg (show ¬ S4 110 4 = 0 by rw [g3]; decide)]
              have f7 : S4 110 7 = (X.to : Int) := by rw [hH4 110 7 rfl]; exact hM.2.1
              have f11 : S4 110 11 = (X.op : Int) := by rw [hH4 110 11 rfl]; exact hM.2.2.1
              have f2 : ∀ j, S4 112 j = S 112 j := fun j => hH4 112 j rfl
              have f3 : ∀ j, S4 113 j = S 113 j := fun j => hH4 113 j rfl
              have f4 : ∀ j, S4 114 j = S 114 j := fun j => hH4 114 j rfl
              have f5 : ∀ j, S4 115 j = S 115 j := fun j => hH4 115 j rfl
              have f6 : ∀ j, S4 116 j = S 116 j := fun j => hH4 116 j rfl
              obtain ⟨⟨m3, m4⟩, m7, m11, mr, mk, mp, mt⟩ := hM
              -- the axle is taken
              have tk : ∃ S5, MX4_take n9 S4 x y = some S5 ∧ qH aD S4 S5 ∧ S5 110 3 = S4 110 3 ∧ S5 110 4 = S4 110 4 ∧ S5 110 7 = (X.to : Int) + 1 ∧ S5 110 11 = (X.op : Int) ∧ (∀ j, S5 114 j = S4 114 j ∧ S5 115 j = S4 115 j ∧ S5 116 j = S4 116 j) ∧ (∀ j, j < X.to + 1 → j < 30 → S5 112 j = (if j = X.to then x else X.pa j) ∧ S5 113 j = (if j = X.to then y else X.we j)) := by
                unfold MX4_take
                dsimp only [ql]
                rw [f7, qg_t (by constructor <;> omega)]
                by_cases h30 : 30 ≤ X.to
                · rw [if_pos (by omega)]
                  refine ⟨_, rfl, qH.rfl.q2 rfl, by rw [q2_j (by decide)], by rw [q2_j (by decide)], by rw [q2_s], by rw [q2_j (by decide)]; exact f11, fun j => ⟨by rw [q2_p (by decide)], by rw [q2_p (by decide)], by rw [q2_p (by decide)]⟩, fun j hj hj2 => ?_⟩
                  rw [if_neg (by omega), if_neg (by omega), q2_p (by decide), q2_p (by decide), f2, f3]
                  exact mr j (by omega) hj2
                · have e1 : q2 S4 112 X.to x 110 7 = (X.to : Int) := by rw [q2_p (by decide)]; exact f7
                  have e2 : q2 (q2 S4 112 X.to x) 113 X.to y 110 7 = (X.to : Int) := by rw [q2_p (by decide)]; exact e1
                  rw [if_neg (by omega), qg_t (by omega), show ((X.to : Int)).toNat = X.to by omega, e1, qg_t (by omega), show ((X.to : Int)).toNat = X.to by omega, e2]
                  refine ⟨_, rfl, ((qH.rfl.q2 rfl).q2 rfl).q2 rfl, by rw [q2_j (by decide), q2_p (by decide), q2_p (by decide)], by rw [q2_j (by decide), q2_p (by decide), q2_p (by decide)], by rw [q2_s], by rw [q2_j (by decide), q2_p (by decide), q2_p (by decide)]; exact f11, fun j => ⟨by rw [q2_p (by decide), q2_p (by decide), q2_p (by decide)], by rw [q2_p (by decide), q2_p (by decide), q2_p (by decide)], by rw [q2_p (by decide), q2_p (by decide), q2_p (by decide)]⟩, fun j hj hj2 => ?_⟩
                  rw [q2_p (by decide), q2_p (by decide), q2_at, q2_p (by decide), q2_at, q2_p (by decide), f2, f3]
                  by_cases e : j = X.to
                  · rw [if_pos e, if_pos e, if_pos e, if_pos e]; exact ⟨rfl, rfl⟩
                  · rw [if_neg e, if_neg e, if_neg e, if_neg e]; exact mr j (by omega) hj2
              obtain ⟨S5, t1, t2, t3, t4, t7, t11, tk, tr⟩ := tk
              rw [qb_s t1, t11, qg_t (kk116 hop3), qg_t (kk116 hop3), show ((X.op : Int)).toNat = X.op by omega, (tk X.op).2.2, f6]
              refine ⟨_, rfl, (qH.tr (aGD hH4) t2).q2 rfl, fun e he => (by cases he), fun X' he => ?_⟩
              cases he
              refine ⟨⟨by rw [q2_p (by decide), t3, g4]; rfl, by rw [q2_p (by decide), t4, g3]⟩, by rw [q2_p (by decide), t7]; rfl, by rw [q2_p (by decide), t11]; rfl, fun j hj hj2 => ?_, fun k hk => ?_, fun k hk => ?_, fun h0 => ?_⟩
              · rw [q2_p (by decide), q2_p (by decide)]
                exact tr j hj hj2
              · rw [q2_p (by decide), q2_p (by decide), (tk _).2.1, (tk _).1, f5, f4]
                exact mk k hk
              · have hb := mp k hk
                show 0 ≤ q2 S5 116 X.op (S 116 X.op + 1) 116 (k + 1) ∧ q2 S5 116 X.op (S 116 X.op + 1) 116 (k + 1) ≤ ((X.pl + 4 : Nat) : Int)
                rw [q2_at, (tk _).2.2, f6]
                by_cases e : k + 1 = X.op
                · rw [if_pos e, ← e]; omega
                · rw [if_neg e]; omega
              · have h0 : 0 < X.op := h0
                have hb := mp (X.op - 1) (by omega)
                rw [show X.op - 1 + 1 = X.op by omega] at hb
                have hbe := hX.be_le (k := X.op - 1) (by omega)
                show 0 < q2 S5 116 X.op (S 116 X.op + 1) 116 X.op ↔ X.to + 1 ≠ X.be (X.op - 1)
                rw [q2_s]
                constructor
                · intro _; omega
                · intro _; omega
            · rw [if_pos c4]
              obtain ⟨S4, g1, g2, g3, g4⟩ := dig_0 (n9 := n9) (k := X.pl + 3) hA hT3 (Or.inr d3) d4 (by omega) hlo (by decide) (Or.inr (fun z => c4 (hiff.mp z)))
              refine MO.err (S' := S4) ?_ (qH.tr hH3 g2) g3 g4
              rw [qb_s g1]
              dsimp only
              rw [qg_t (show qR (S4 110 4) by rw [g3]; decide), if_pos g3]
          by_cases z3 : qdg A (X.pl + 2) = 0
          · rw [if_pos z3]
            exact dig4 1 (by decide) (by omega)
          · rw [if_neg z3]
            exact dig4 0 (by decide) (by omega)
        · rw [if_pos c3]
          obtain ⟨S3, d1, d2, d3, d4⟩ := dig_0 (n9 := n9) (lo := 0) (hi := 9) hA hT2 (Or.inr b3) b4 (by omega) (by decide) (by decide) (Or.inr (fun z => c3 z.1))
          have hH3 := qH.tr hH2 d2
          obtain ⟨S4, g1, g2, g3, g4⟩ := dig_0 (n9 := n9) (lo := 1) (hi := 9) hA (hT.fr (aGD hH3)) (Or.inl d3) d4 (by omega) (by decide) (by decide) (Or.inl d3)
          refine MO.err (S' := S4) ?_ (qH.tr hH3 g2) g3 g4
          rw [qb_s d1]
          dsimp only
          rw [qg_t (by decide), if_pos rfl, qb_s g1]
          dsimp only
          rw [qg_t (show qR (S4 110 4) by rw [g3]; decide), if_pos g3]
      · rw [if_pos c2]
        obtain ⟨S2, b1, b2, b3, b4⟩ := dig_0 (n9 := n9) hA hT1 (Or.inr a3) a4 (by omega) hlo hhi (Or.inr (fun z => c2 (hiff.mp z)))
        rw [qb_s b1]
        exact tail3 S2 (X.pl + 1) (qH.tr a2 b2) b3 b4 (by omega) _
    dsimp only
    rw [qg_t (by constructor <;> omega)]
    by_cases z1 : qdg A X.pl = 0
    · rw [if_pos z1, if_neg (by omega)]
      exact dig2 1 9 (by decide) (by decide) (by omega)
    · rw [if_neg z1]
      by_cases z6 : qdg A X.pl = 6
      · rw [if_pos z6]
        exact dig2 0 0 (by decide) (by decide) (by omega)
      · rw [if_neg z6]
        exact dig2 0 9 (by decide) (by decide) (by omega)
  · rw [if_pos c1]
    obtain ⟨S1, a1, a2, a3, a4⟩ := dig_0 (n9 := n9) (lo := 0) (hi := 6) hA hT (Or.inr hM.1.2) hM.1.1 (by omega) (by decide) (by decide) (Or.inr c1)
    have hT1 := hT.fr (aGD a2)
    rw [qb_s a1]
    dsimp only
    obtain ⟨S2, b1, b2, b3, b4⟩ := dig_0 (n9 := n9) (lo := 1) (hi := 9) hA hT1 (Or.inl a3) a4 (by omega) (by decide) (by decide) (Or.inl a3)
    rw [qg_t (by decide), if_pos rfl, if_neg (by decide), qb_s b1]
    exact tail3 S2 X.pl (qH.tr a2 b2) b3 b4 (by omega) _
