theorem l119 : qlen 119 = 1330 ∧ 10 ≤ qk 119 ∧ qlen 117 = 95 ∧ 10 ≤ qk 117 ∧ qlen 118 = 95 ∧ 10 ≤ qk 118 ∧ qlen 120 = 190 ∧ 10 ≤ qk 120 := by decide +kernel
theorem mremember_ok {n9 : Nat} {S : qS} {A : QA} (hn : 2000 ≤ n9) (hA : AOk A) (hM : MR S A) : ∃ S', MX4_remember n9 S = some S' ∧ MR S' A.rem ∧ mOut S S' ∧ ∀ j, j ≠ 15 → S' 110 j = S 110 j := by
  obtain ⟨h1, ⟨h3, h4⟩, h5, h6, h7⟩ := id hM
  have hU := hA.2.2.2.1
  have h30 := hA.1.n30
  obtain ⟨l1, l2, l3, l4, l5, l6, l7, l8⟩ := l119
  -- behind the shift
  have hK : ∀ (b : Nat) (S1 : qS), b ≤ 13 → b = min A.U.length 13 → S1 110 15 = (b : Int) → (∀ j, j ≠ 15 → S1 110 j = S 110 j) → (∀ p j, p ≠ 110 → p ≠ 119 → S1 p j = S p j) → (∀ i R, i < b → A.U[i]? = some R → QMo S1 119 (95 * (b - 1 - i)) R) →
      ∃ S', (qb (MX4_copy n9 S1 117 0 119 (95 * (S1 110 15)) 95) fun a4 => some (q2 a4 110 15 ((a4 110 15) + 1))) = some S' ∧ MR S' A.rem ∧ mOut S S' ∧ ∀ j, j ≠ 15 → S' 110 j = S 110 j := by
    intro b S1 hb hbm g15 g110 gp gU
    obtain ⟨S2, c1, c2⟩ := mcopy_ok (n9 := n9) (S := S1) (u0 := 117) (u2 := 119) (a := 0) (b := 95 * b) (m := 95) (p1 := 0) (p3 := 95 * (S1 110 15)) (p4 := 95) l4 l2 (by omega) (by omega) (Or.inl (by decide)) (by omega) (by decide) rfl (by rw [g15]; omega) rfl
    have k110 : ∀ j, S2 110 j = S1 110 j := fun j => by rw [c2, if_neg (by omega)]
    have kp : ∀ p j, p ≠ 119 → S2 p j = S1 p j := fun p j hp => by rw [c2, if_neg (by omega)]
    have hlen : ((A.R :: A.U).take 14).length = b + 1 := by rw [List.length_take, List.length_cons]; omega
    refine ⟨q2 S2 110 15 (S2 110 15 + 1), by rw [qb_s c1], ⟨?_, ⟨?_, ?_⟩, fun k hk => ⟨?_, fun R hR => ?_⟩, ?_, fun i R hi => ?_⟩, fun p j hp => ?_, fun j hj => ?_⟩
    · have e : (q2 S2 110 15 (S2 110 15 + 1)) 117 = S 117 := funext fun j => by rw [q2_p (by decide), kp _ _ (by decide), gp _ _ (by decide) (by decide)]
      unfold QMr
      rw [e]
      exact h1
    · rw [q2_j (by decide), k110, g110 _ (by decide)]; exact h3
    · intro j hj
      rw [q2_p (by decide), kp _ _ (by decide), gp _ _ (by decide) (by decide)]; exact h4 j hj
    · rw [q2_p (by decide), kp _ _ (by decide), gp _ _ (by decide) (by decide)]; exact (h5 k hk).1
    · have e : (q2 S2 110 15 (S2 110 15 + 1)) 120 = S 120 := funext fun j => by rw [q2_p (by decide), kp _ _ (by decide), gp _ _ (by decide) (by decide)]
      unfold QMo
      rw [e]
      exact (h5 k hk).2 R hR
    · show (q2 S2 110 15 (S2 110 15 + 1)) 110 15 = (((A.R :: A.U).take 14).length : Int)
      rw [q2_s, k110, g15, hlen]
      omega
    · have hi : ((A.R :: A.U).take 14)[i]? = some R := hi
      show QMo _ 119 (95 * (((A.R :: A.U).take 14).length - 1 - i)) R
      have hil := (List.getElem?_eq_some_iff.mp hi).1
      rw [hlen] at hil ⊢
      rw [List.getElem?_take, if_pos (by omega)] at hi
      cases i with
      | zero =>
        cases hi
        refine QMo.of (S := S) (w := 117) (o := 0) h30 h1.o (fun j hj => ?_)
        rw [q2_p (by decide), c2, if_pos (by omega), gp _ _ (by decide) (by decide)]
        congr 1
        omega
      | succ i =>
        have hi : A.U[i]? = some R := hi
        have h9 := gU i R (by omega) hi
        have hRn : R.n ≤ 30 := (hA.2.2.2.2 R (List.mem_of_getElem? hi)).n30
        refine QMo.of hRn h9 (fun j hj => ?_)
        rw [q2_p (by decide), c2, if_neg (by omega)]
        congr 1
        omega
    · rw [q2_p (by omega), kp _ _ (by omega), gp _ _ (by omega) (by omega)]
    · rw [q2_j hj, k110, g110 j hj]
  unfold MX4_remember
  rw [h6, qg_t (by constructor <;> omega)]
  simp only [ql]
  by_cases h14 : A.U.length = 14
  · obtain ⟨S1, c1, c2⟩ := mcopy_ok (n9 := n9) (S := S) (u0 := 119) (u2 := 119) (a := 95) (b := 0) (m := 1235) (p1 := 95) (p3 := 0) (p4 := 1235) l2 l2 (by omega) (by omega) (Or.inr (by omega)) (by omega) (by decide) rfl rfl rfl
    have k110 : ∀ j, S1 110 j = S 110 j := fun j => by rw [c2, if_neg (by omega)]
    rw [if_pos (by omega), qb_s c1]
    exact hK 13 (q2 S1 110 15 (S1 110 15 - 1)) (Nat.le_refl _) (by omega) (by rw [q2_s, k110, h6]; omega) (fun j hj => by rw [q2_j hj, k110]) (fun p j hp hp2 => by rw [q2_p hp, c2, if_neg (by omega)]) (fun i R hi hR => by
      refine QMo.of (hA.2.2.2.2 R (List.mem_of_getElem? hR)).n30 (h7 i R hR) (fun j hj => ?_)
      rw [q2_p (by decide), c2, if_pos (by omega)]
      congr 1
      omega)
  · rw [if_neg (by omega)]
    exact hK A.U.length S (by omega) (by omega) h6 (fun _ _ => rfl) (fun _ _ _ _ => rfl) (fun i R hi hR => h7 i R hR)
