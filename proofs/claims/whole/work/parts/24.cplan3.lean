/-! the class's plan of a train: all values; its cars; the whole plan -/
theorem findValues_l_ok {n9 r a e : Nat} {bar : Int} {R : QR} (hr : qr2 r) (hV : QV R) (hn : 40 ≤ n9) (he : e ≤ R.n) (hae : a ≤ e) (hbar : qR bar) :
    ∀ (d f : Nat) (S : qS) (x : Int), x = (a : Int) + d - 1 → a + d ≤ e + 1 → d < f → QCr S r R →
      (∀ j, a + d ≤ j → j ≤ e → S 25 j = RS R a e bar (e - j) j ∧ S 26 j = qhd (CG R a e bar (e - j) j)) → (∀ j, a + d ≤ j → j + 1 < e → S 24 j = Wc R a e bar j) →
      ∃ S', MX0_findValues_l18 n9 r (a : Int) (e : Int) bar (R.se 1) f S x = some S' ∧ qF [24, 25, 26] S S' ∧ (∀ j, a ≤ j → j ≤ e → S' 25 j = RS R a e bar (e - j) j ∧ S' 26 j = qhd (CG R a e bar (e - j) j)) := by
  have h30 := hV.n30
  have hps : r ∉ [24, 25, 26] ∧ r + 1 ∉ [24, 25, 26] ∧ r + 2 ∉ [24, 25, 26] ∧ r + 3 ∉ [24, 25, 26] ∧ r + 4 ∉ [24, 25, 26] := by rcases hr with rfl | rfl <;> decide
  intro d
  induction d with
  | zero =>
    intro f S x hx hd hf hC h25 h24
    cases f with
    | zero => omega
    | succ f =>
      refine ⟨S, ?_, qF.rfl, h25⟩
      rw [MX0_findValues_l18, qg_t (by constructor <;> omega), qg_t (by constructor <;> omega), if_pos (by omega)]
  | succ d ih =>
    intro f S x hx hd hf hC h25 h24
    cases f with
    | zero => omega
    | succ f =>
      have hxi : x = ((a + d : Nat) : Int) := by omega
      obtain ⟨i, hi⟩ : ∃ i, i = a + d := ⟨_, rfl⟩
      rw [← hi] at hxi
      have hK : ∀ v : Int, (i + 1 < e → v = Wc R a e bar i) → ∃ S', (qg (0 ≤ x ∧ x < 31) <| ql (q2 S 24 x.toNat v) fun S20 => ql (fun (v22 : Int) => qb (MX0_chooseCar n9 S20 r x (e : Int) v22) fun a24 => MX0_findValues_l18 n9 r (a : Int) (e : Int) bar (R.se 1) f a24 (x + (-1))) fun (j23 : Int → Option (qS)) => if x = (a : Int) then (j23 0) else (j23 (R.se 1))) = some S' ∧ qF [24, 25, 26] S S' ∧ (∀ j, a ≤ j → j ≤ e → S' 25 j = RS R a e bar (e - j) j ∧ S' 26 j = qhd (CG R a e bar (e - j) j)) := by
        intro v hv
        simp only [ql]
        rw [qg_t (by omega), hxi, toNat_c]
        have hF0 : qF [24, 25, 26] S (q2 S 24 i v) := qF.rfl.q2 (by decide)
        have hC0 := hC.fr hF0 hps
        have hW : ∀ j, i ≤ j → j + 1 < e → (q2 S 24 i v) 24 j = Wc R a e bar j := by
          intro j h1 h2
          rw [q2_at]
          by_cases h3 : j = i
          · rw [if_pos h3, h3]; exact hv (by omega)
          · rw [if_neg h3]; exact h24 j (by omega) h2
        have hch := chooseCar_ok (n9 := n9) (S := q2 S 24 i v) (a := a) (b := i) (e := e) (bar := bar) (p2 := (i : Int)) (p3 := (e : Int)) hr hV hn hC0 he (by omega) (by omega) hW rfl rfl
        have hS : (if (i : Int) = (a : Int) then (qb (MX0_chooseCar n9 (q2 S 24 i v) r (i : Int) (e : Int) 0) fun a24 => MX0_findValues_l18 n9 r (a : Int) (e : Int) bar (R.se 1) f a24 ((i : Int) + (-1))) else (qb (MX0_chooseCar n9 (q2 S 24 i v) r (i : Int) (e : Int) (R.se 1)) fun a24 => MX0_findValues_l18 n9 r (a : Int) (e : Int) bar (R.se 1) f a24 ((i : Int) + (-1)))) = MX0_findValues_l18 n9 r (a : Int) (e : Int) bar (R.se 1) f (q2 (q2 (q2 S 24 i v) 25 i (RS R a e bar (e - i) i)) 26 i (qhd (CG R a e bar (e - i) i))) ((i : Int) + (-1)) := by
          by_cases h : i = a
          · rw [if_pos h] at hch
            rw [if_pos (by omega), qb_s hch]
          · rw [if_neg h] at hch
            rw [if_neg (by omega), qb_s hch]
        rw [hS]
        generalize hS1 : q2 (q2 (q2 S 24 i v) 25 i (RS R a e bar (e - i) i)) 26 i (qhd (CG R a e bar (e - i) i)) = S1
        have hF1 : qF [24, 25, 26] S S1 := hS1 ▸ ((hF0.q2 (by decide)).q2 (by decide))
        obtain ⟨S', e1, e2, e3⟩ := ih f S1 ((i : Int) + (-1)) (by omega) (by omega) (by omega) (hC.fr hF1 hps) (fun j h1 h2 => by
          rw [← hS1]
          by_cases h3 : j = i
          · subst h3; simp [q2]
          · simp [q2, h3]; exact h25 j (by omega) h2) (fun j h1 h2 => by
          rw [← hS1, q2_p (by decide), q2_p (by decide)]
          exact hW j (by omega) h2)
        exact ⟨S', e1, qF.tr hF1 e2, e3⟩
      rw [MX0_findValues_l18, qg_t (by constructor <;> omega), qg_t (by constructor <;> omega), if_neg (by omega), if_neg (by omega), qg_t (by constructor <;> omega), qg_t (by constructor <;> omega)]
      simp only [ql, if_true] at hK ⊢
      by_cases h1 : (e : Int) ≤ x + 1
      · rw [if_pos h1, qg_t (by decide)]
        exact hK _ (by omega)
      · rw [if_neg h1, qg_t hbar]
        by_cases h2 : x = bar
        · rw [if_pos h2, qg_t (by decide)]
          refine hK _ (fun _ => ?_)
          unfold Wc
          rw [if_neg]
          unfold qok
          rw [← h2, hxi]
          simp
        · rw [if_neg h2]
          by_cases h3 : x + 1 = bar
          · rw [if_pos h3, qg_t (by decide)]
            refine hK _ (fun _ => ?_)
            unfold Wc
            rw [if_neg]
            unfold qok
            rw [← h3, hxi]
            simp
          · have hin : i + 1 < R.n := by omega
            have h25i := (h25 (i + 2) (by omega) (by omega)).1
            rw [if_neg h3, qg_t (by decide), if_neg (by decide), qb_s (carCost_ok hr hV hC hxi hin), qb_s (at_in (j := i + 2) kk25 (by omega) (by omega)), h25i]
            refine hK _ (fun _ => ?_)
            unfold Wc
            rw [if_pos]
            unfold qok
            rw [hxi] at h2 h3
            simp [h2, h3]
theorem findValues_ok {n9 r a e : Nat} {bar : Int} {R : QR} {S : qS} {p2 p3 : Int} (hr : qr2 r) (hV : QV R) (hn : 40 ≤ n9) (hC : QCr S r R) (he : e ≤ R.n) (hae : a ≤ e) (hbar : qR bar) (h2 : p2 = (a : Int)) (h3 : p3 = (e : Int)) :
    ∃ S', MX0_findValues n9 S r p2 p3 bar = some S' ∧ qF [24, 25, 26] S S' ∧ (∀ j, a ≤ j → j ≤ e → S' 25 j = RS R a e bar (e - j) j ∧ S' 26 j = qhd (CG R a e bar (e - j) j)) := by
  have h30 := hV.n30
  subst h2
  subst h3
  obtain ⟨S', e1, e2, e3⟩ := findValues_l_ok (n9 := n9) hr hV hn he hae hbar (e + 1 - a) n9 S (e : Int) (by omega) (by omega) (by omega) hC (fun j h1 h2 => by omega) (fun j h1 h2 => by omega)
  refine ⟨S', ?_, e2, e3⟩
  unfold MX0_findValues
  rw [qg_t hr.k, qb_s (at_se (p := 1) (j := 1) hr hC rfl (by decide)), qg_t (by constructor <;> omega)]
  simp only [ql]
  rw [show qmin (e : Int) 30 = (e : Int) by unfold qmin; rw [if_neg (by omega)]]
  exact e1
theorem carWeight_ok {n9 : Nat} {S : qS} {r i : Nat} {R : QR} {p : Int} (hr : qr2 r) (hV : QV R) (hC : QCr S r R) (hp : p = (i : Int)) (hi : i + 1 < R.n) : MX1_carWeight n9 S r p = some (R.we i + R.we (i + 1)) := by
  unfold MX1_carWeight
  rw [qg_t hr.k, qb_s (at_we hr hV hC hp (by omega)), qb_s (at_we (p := p + 1) (j := i + 1) hr hV hC (by omega) hi)]
/-- the weight of cars -/
def qwt (R : QR) : List Nat → Int
  | [] => 0
  | i :: l => R.we i + R.we (i + 1) + qwt R l
/-- the car of an axle among cars that are counted from c on; none -/
def qcf : List Nat → Nat → Nat → Int
  | [], _, _ => -1
  | i :: l, c, j => if j = i ∨ j = i + 1 then (c : Int) else qcf l (c + 1) j
