/-! the class's whole plan -/
theorem qcf_snoc {i : Nat} : ∀ (L : List Nat) (c j : Nat), (∀ k, k ∈ L → k + 2 ≤ i) → qcf (L ++ [i]) c j = if j = i ∨ j = i + 1 then ((c + L.length : Nat) : Int) else qcf L c j := by
  intro L
  induction L with
  | nil => intro c j _; rfl
  | cons k L ih =>
    intro c j h
    have hk := h k List.mem_cons_self
    have h1 := ih (c + 1) j (fun q hq => h q (List.mem_cons_of_mem _ hq))
    show (if j = k ∨ j = k + 1 then (c : Int) else qcf (L ++ [i]) (c + 1) j) = if j = i ∨ j = i + 1 then ((c + (L.length + 1) : Nat) : Int) else (if j = k ∨ j = k + 1 then (c : Int) else qcf L (c + 1) j)
    rw [h1]
    by_cases h2 : j = k ∨ j = k + 1
    · rw [if_pos h2, if_neg (by omega), if_pos h2]
    · rw [if_neg h2, if_neg h2, show c + 1 + L.length = c + (L.length + 1) by omega]
theorem qwt_snoc {R : QR} {i : Nat} : ∀ L : List Nat, qwt R (L ++ [i]) = qwt R L + (R.we i + R.we (i + 1)) := by
  intro L
  induction L with
  | nil => show R.we i + R.we (i + 1) + 0 = 0 + (R.we i + R.we (i + 1)); omega
  | cons k L ih =>
    show R.we k + R.we (k + 1) + qwt R (L ++ [i]) = R.we k + R.we (k + 1) + qwt R L + (R.we i + R.we (i + 1))
    rw [ih]
    omega
/-- the cars taken so far -/
abbrev Tk (S : qS) (R : QR) (L : List Nat) : Prop := S 17 10 = (L.length : Int) ∧ (∀ c, c < L.length → S 23 c = ((L.getD c 0 : Nat) : Int)) ∧ (∀ j, j < R.n → S 22 j = qcf L 0 j) ∧ S 17 12 = qwt R L
theorem takeCars_l_ok {n9 r a e : Nat} {R : QR} (hr : qr2 r) (hV : QV R) (he : e ≤ R.n) (k : qS → Option qS) :
    ∀ (l : List Nat) (f b : Nat) (L : List Nat) (S : qS) (x : Int), CG R a e (-1) (e - b) b = l → a ≤ b → b ≤ e → l.length < f → x = qhd l → QCr S r R → (∀ j, a ≤ j → j ≤ e → S 26 j = qhd (CG R a e (-1) (e - j) j)) →
      Tk S R L → (∀ i, i ∈ L → i + 2 ≤ b) → 2 * L.length ≤ b →
      ∃ S', MX0_takeCars_l9 n9 r k f S x = some S' ∧ qF [17, 22, 23] S S' ∧ Tk S' R (L ++ l) ∧ (∀ i, i ∈ L ++ l → i + 2 ≤ e) ∧ 2 * (L ++ l).length ≤ e ∧ S' 17 9 = S 17 9 ∧ S' 17 11 = S 17 11 := by
  have h30 := hV.n30
  have hps : r ∉ [17, 22, 23] ∧ r + 1 ∉ [17, 22, 23] ∧ r + 2 ∉ [17, 22, 23] ∧ r + 3 ∉ [17, 22, 23] ∧ r + 4 ∉ [17, 22, 23] := by rcases hr with rfl | rfl <;> decide
  intro l
  induction l with
  | nil =>
    intro f b L S x hl hab hbe hf hx hC h26 hT hL h2
    cases f with
    | zero => cases hf
    | succ f =>
      refine ⟨S, ?_, qF.rfl, by rw [List.append_nil]; exact hT, by rw [List.append_nil]; exact fun i hi => by have := hL i hi; omega, by rw [List.append_nil]; omega, rfl, rfl⟩
      rw [MX0_takeCars_l9, hx]
      show qg (qR (-1)) _ = _
      rw [qg_t (by decide)]
      exact if_pos rfl
  | cons i l ih =>
    intro f b L S x hl hab hbe hf hx hC h26 hT hL h2
    cases f with
    | zero => cases hf
    | succ f =>
      obtain ⟨c1, c2, c3⟩ := CG_head R a e (-1) (e - b) b (by omega) i l hl
      obtain ⟨t1, t2, t3, t4⟩ := hT
      have hx : x = (i : Int) := hx
      have hi : i + 1 < R.n := by omega
      have hlen : L.length < 15 := by omega
      rw [MX0_takeCars_l9, qg_t (by constructor <;> omega), if_neg (by omega), t1, qg_t (by constructor <;> omega), if_neg (by omega), if_neg (by omega), qg_t (by constructor <;> omega), if_pos (by omega), qg_t (by omega)]
      simp only [ql]
      rw [qg_t (by omega), qg_t (by omega), hx]
      simp only [toNat_c, show ((i : Int) + 1).toNat = i + 1 from by omega]
      rw [q2_p (S := S) (q := 17) (by decide), q2_p (S := q2 S 23 L.length (i : Int)) (q := 17) (by decide), q2_p (S := S) (q := 17) (by decide), t1]
      have hF0 : qF [17, 22, 23] S (q2 (q2 (q2 S 23 L.length (i : Int)) 22 i (L.length : Int)) 22 (i + 1) (L.length : Int)) := ((qF.rfl.q2 (by decide)).q2 (by decide)).q2 (by decide)
      rw [qb_s (carWeight_ok hr hV (hC.fr hF0 hps) rfl hi)]
      generalize hS0 : q2 (q2 (q2 S 23 L.length (i : Int)) 22 i (L.length : Int)) 22 (i + 1) (L.length : Int) = S0 at *
      generalize hS1 : q2 (q2 S0 17 12 _) 17 10 _ = S1
      have hF1 : qF [17, 22, 23] S S1 := hS1 ▸ ((hF0.q2 (by decide)).q2 (by decide))
      have h26' : ∀ j, S1 26 j = S 26 j := fun j => by rw [hF1 26 (by decide)]
      rw [qb_s (at_in (j := i + 2) kk26 (by omega) (by omega)), h26', h26 (i + 2) (by omega) c2, ← c3]
      have g17 : ∀ j, S0 17 j = S 17 j := fun j => by rw [← hS0, q2_p (by decide), q2_p (by decide), q2_p (by decide)]
      have hT1 : Tk S1 R (L ++ [i]) := by
        refine ⟨?_, ?_, ?_, ?_⟩
        · rw [← hS1, q2_s, q2_j (by decide), g17, t1, List.length_append, List.length_singleton]; omega
        · intro c hc
          rw [List.length_append, List.length_singleton] at hc
          rw [← hS1, q2_p (by decide), q2_p (by decide), ← hS0, q2_p (by decide), q2_p (by decide), q2_at]
          by_cases h : c = L.length
          · rw [if_pos h, qgr h]
          · rw [if_neg h, qgl (by omega), t2 c (by omega)]
        · intro j hj
          rw [qcf_snoc L 0 j (fun k hk => by have := hL k hk; omega), ← hS1, q2_p (by decide), q2_p (by decide), ← hS0, q2_at, q2_at]
          by_cases h : j = i + 1
          · rw [if_pos h, if_pos (Or.inr h), Nat.zero_add]
          · rw [if_neg h]
            by_cases h' : j = i
            · rw [if_pos h', if_pos (Or.inl h'), Nat.zero_add]
            · rw [if_neg h', if_neg (by omega), q2_p (by decide)]
              exact t3 j hj
        · rw [← hS1, q2_j (by decide), q2_s, g17, t4, qwt_snoc]
      obtain ⟨S', e1, e2, e3, e4, e5, e6, e7⟩ := ih f (i + 2) (L ++ [i]) S1 (qhd l) c3.symm (by omega) c2 (by rw [List.length_cons] at hf; omega) rfl (hC.fr hF1 hps) (fun j h1 h2 => by rw [h26']; exact h26 j h1 h2) hT1 (fun q hq => by
        rcases List.mem_append.mp hq with h | h
        · have := hL q h; omega
        · rw [List.mem_singleton.mp h]; exact Nat.le_refl _) (by rw [List.length_append, List.length_singleton]; omega)
      rw [List.append_assoc, List.singleton_append] at e3 e4 e5
      refine ⟨S', e1, qF.tr hF1 e2, e3, e4, e5, ?_, ?_⟩
      · rw [e6, ← hS1, q2_j (by decide), q2_j (by decide), g17]
      · rw [e7, ← hS1, q2_j (by decide), q2_j (by decide), g17]
/-- the cars of the first t trains, what a train costs, what they cost -/
def qcl (R : QR) : Nat → List Nat
  | 0 => []
  | t + 1 => qcl R t ++ CG R (qft R t) (qft R (t + 1)) (-1) (qft R (t + 1) - qft R t) (qft R t)
def qct (R : QR) (t : Nat) : Int := (RS R (qft R t) (qft R (t + 1)) (-1) (qft R (t + 1) - qft R t) (qft R t) + 99) / 100
def qco (R : QR) : Nat → Int
  | 0 => 0
  | t + 1 => qco R t + qct R t
def qcars (R : QR) : List Nat := qcl R (qtr R)
theorem CG_len (R : QR) (a e : Nat) (bar : Int) (h2 : 0 ≤ R.se 2) (m b : Nat) : 2 * (CG R a e bar m b).length ≤ m := by
  obtain ⟨c, _, _, h⟩ := RS_form R a e bar h2 m b
  exact h
/-- the plan that the class has worked out is R's -/
abbrev QP (S : qS) (R : QR) : Prop := (S 17 9 = (qtr R : Int) ∧ S 17 10 = ((qcars R).length : Int) ∧ S 17 11 = qco R (qtr R) ∧ S 17 12 = qwt R (qcars R)) ∧
  ((∀ t, t ≤ qtr R → S 18 t = (qft R t : Int)) ∧ (∀ t, t ≤ qtr R → S 19 t = ((qcl R t).length : Int)) ∧ (∀ t, t < qtr R → S 20 t = qct R t)) ∧
  ((∀ j, j < R.n → S 21 j = (qto R j : Int)) ∧ (∀ j, j < R.n → S 22 j = qcf (qcars R) 0 j) ∧ (∀ c, c < (qcars R).length → S 23 c = (((qcars R).getD c 0 : Nat) : Int)))
theorem workOut_l_ok {n9 r : Nat} {R : QR} (hr : qr2 r) (hV : QV R) (hn : 40 ≤ n9) :
    ∀ (d f t : Nat) (S : qS) (x : Int), x = (t : Int) → t + d = qtr R → d < f → QCr S r R → S 17 9 = (qtr R : Int) → (∀ u, u ≤ qtr R → S 18 u = (qft R u : Int)) → (∀ j, j < R.n → S 21 j = (qto R j : Int)) → Tk S R (qcl R t) → (∀ i, i ∈ qcl R t → i + 2 ≤ qft R t) → 2 * (qcl R t).length ≤ qft R t →
      S 17 11 = qco R t → (∀ u, u ≤ t → S 19 u = ((qcl R u).length : Int)) → (∀ u, u < t → S 20 u = qct R u) →
      ∃ S', MX0_workOut_l22 n9 r f S x = some S' ∧ qF PL S S' ∧ QP S' R := by
  have h30 := hV.n30
  have htl := qtr_le R
  intro d
  induction d with
  | zero =>
    intro f t S x hx ht hf hC h9 h18 h21 hT hL hL2 h11 h19 h20
    have e : t = qtr R := ht
    subst e
    cases f with
    | zero => omega
    | succ f =>
      refine ⟨S, ?_, qF.rfl, ⟨h9, hT.1, h11, hT.2.2.2⟩, ⟨h18, h19, h20⟩, h21, hT.2.2.1, hT.2.1⟩
      rw [MX0_workOut_l22, qg_t (by constructor <;> omega), h9, qg_t (by constructor <;> omega), if_pos (by omega)]
  | succ d ih =>
    intro f t S x hx ht hf hC h9 h18 h21 hT hL hL2 h11 h19 h20
    cases f with
    | zero => omega
    | succ f =>
      have htr : t < qtr R := by omega
      have hae := qft_lt R htr
      have hen := qft_le R (t := t + 1) htr
      have e1t : (x + 1).toNat = t + 1 := by omega
      obtain ⟨S1, v1, v2, v3⟩ := findValues_ok (n9 := n9) (S := S) (a := qft R t) (e := qft R (t + 1)) (bar := -1) (p2 := (qft R t : Int)) (p3 := (qft R (t + 1) : Int)) hr hV hn hC hen (by omega) (by decide) rfl rfl
      have hF1 : qF PL S S1 := v2.mono (by decide)
      have hb := RS_bd (a := qft R t) (e := qft R (t + 1)) (bar := -1) hV (m := qft R (t + 1) - qft R t) (b := qft R t) (by omega)
      rw [MX0_workOut_l22, qg_t (by constructor <;> omega), h9, qg_t (by constructor <;> omega), if_neg (by omega), if_neg (by omega), qg_t (by omega)]
      simp only [ql]
      rw [qg_t (by omega), e1t, hx, toNat_c, h18 t (by omega), h18 (t + 1) (by omega), qb_s v1, qb_s (at_in (j := qft R t) kk25 rfl (by omega)), (v3 (qft R t) (Nat.le_refl _) (by omega)).1, qb_s (costOf_ok (by omega)), qg_t (by omega), qg_t (by omega)]
      have p17 : ∀ j, S1 17 j = S 17 j := fun j => by rw [v2 17 (by decide)]
      rw [q2_s, q2_p (by decide), p17, h11]
      generalize hS2 : q2 (q2 S1 20 t ((RS R (qft R t) (qft R (t + 1)) (-1) (qft R (t + 1) - qft R t) (qft R t) + 99) / 100)) 17 11 (qco R t + (RS R (qft R t) (qft R (t + 1)) (-1) (qft R (t + 1) - qft R t) (qft R t) + 99) / 100) = S2
      have hF2 : qF PL S S2 := hS2 ▸ ((hF1.q2 (by decide)).q2 (by decide))
      have g26 : ∀ j, S2 26 j = S1 26 j := fun j => by rw [← hS2, q2_p (by decide), q2_p (by decide)]
      have g17 : ∀ j, j ≠ 11 → S2 17 j = S 17 j := fun j hj => by rw [← hS2, q2_j hj, q2_p (by decide), p17]
      have g22 : ∀ j, S2 22 j = S 22 j := fun j => by rw [← hS2, q2_p (by decide), q2_p (by decide), v2 22 (by decide)]
      have g23 : ∀ j, S2 23 j = S 23 j := fun j => by rw [← hS2, q2_p (by decide), q2_p (by decide), v2 23 (by decide)]
      have hC2 := hC.pl hr hF2
      obtain ⟨t1, t2, t3, t4⟩ := hT
      have hT2 : Tk S2 R (qcl R t) := ⟨by rw [g17 10 (by decide)]; exact t1, fun c hc => by rw [g23]; exact t2 c hc, fun j hj => by rw [g22]; exact t3 j hj, by rw [g17 12 (by decide)]; exact t4⟩
      have hcl := CG_len R (qft R t) (qft R (t + 1)) (-1) hV.s2.1 (qft R (t + 1) - qft R t) (qft R t)
      obtain ⟨S3, k1, k2, k3, k4, k5, k6, k7⟩ := takeCars_l_ok (n9 := n9) (a := qft R t) (e := qft R (t + 1)) hr hV hen (fun S3 => some S3) (CG R (qft R t) (qft R (t + 1)) (-1) (qft R (t + 1) - qft R t) (qft R t)) n9 (qft R t) (qcl R t) S2 (qhd (CG R (qft R t) (qft R (t + 1)) (-1) (qft R (t + 1) - qft R t) (qft R t))) rfl (Nat.le_refl _) (by omega) (by omega) rfl hC2 (fun j h1 h2 => by rw [g26]; exact (v3 j h1 h2).2) hT2 hL hL2
      have htk : MX0_takeCars n9 S2 r (qft R t : Int) = some S3 := by
        unfold MX0_takeCars
        rw [qg_t hr.k, qb_s (at_in (j := qft R t) kk26 rfl (by omega)), g26, (v3 (qft R t) (Nat.le_refl _) (by omega)).2]
        exact k1
      rw [qb_s htk, k3.1]
      generalize hS4 : q2 S3 19 (t + 1) _ = S4
      have hF3 : qF PL S S3 := qF.tr hF2 (k2.mono (by decide))
      have hF4 : qF PL S S4 := hS4 ▸ (hF3.q2 (by decide))
      have hcl1 : qcl R (t + 1) = qcl R t ++ CG R (qft R t) (qft R (t + 1)) (-1) (qft R (t + 1) - qft R t) (qft R t) := rfl
      rw [← hcl1] at k3 k4 k5
      have w17 : ∀ j, S4 17 j = S3 17 j := fun j => by rw [← hS4, q2_p (by decide)]
      have w18 : ∀ j, S4 18 j = S 18 j := fun j => by rw [← hS4, q2_p (by decide), k2 18 (by decide), ← hS2, q2_p (by decide), q2_p (by decide), v2 18 (by decide)]
      have w21 : ∀ j, S4 21 j = S 21 j := fun j => by rw [← hS4, q2_p (by decide), k2 21 (by decide), ← hS2, q2_p (by decide), q2_p (by decide), v2 21 (by decide)]
      have w22 : ∀ j, S4 22 j = S3 22 j := fun j => by rw [← hS4, q2_p (by decide)]
      have w23 : ∀ j, S4 23 j = S3 23 j := fun j => by rw [← hS4, q2_p (by decide)]
      have w20 : ∀ j, S4 20 j = if j = t then qct R t else S 20 j := fun j => by
        rw [← hS4, q2_p (by decide), k2 20 (by decide), ← hS2, q2_p (by decide), q2_at, v2 20 (by decide)]; rfl
      have w19 : ∀ j, S4 19 j = if j = t + 1 then ((qcl R (t + 1)).length : Int) else S 19 j := fun j => by
        rw [← hS4, q2_at, k2 19 (by decide), ← hS2, q2_p (by decide), q2_p (by decide), v2 19 (by decide)]; rfl
      obtain ⟨S', e1, e2, e3⟩ := ih f (t + 1) S4 ((t : Int) + 1) (by omega) (by omega) (by omega) (hC.pl hr hF4) (by rw [w17, k6, g17 9 (by decide)]; exact h9) (fun u hu => by rw [w18]; exact h18 u hu) (fun j hj => by rw [w21]; exact h21 j hj)
        ⟨by rw [w17]; exact k3.1, fun c hc => by rw [w23]; exact k3.2.1 c hc, fun j hj => by rw [w22]; exact k3.2.2.1 j hj, by rw [w17]; exact k3.2.2.2⟩ k4 k5
        (by rw [w17, k7, ← hS2, q2_s]; rfl)
        (fun u hu => by
          rw [w19]
          by_cases h : u = t + 1
          · rw [if_pos h, h]
          · rw [if_neg h]; exact h19 u (by omega))
        (fun u hu => by
          rw [w20]
          by_cases h : u = t
          · rw [if_pos h, h]
          · rw [if_neg h]; exact h20 u (by omega))
      rw [qg_t (by omega)]
      exact ⟨S', e1, qF.tr hF4 e2, e3⟩
theorem workOut_ok {n9 r : Nat} {R : QR} {S : qS} (hr : qr2 r) (hV : QV R) (hn : 40 ≤ n9) (hC : QCr S r R) (h19 : S 19 0 = 0) :
    ∃ S', MX0_workOut n9 S r = some S' ∧ qF PL S S' ∧ QP S' R := by
  have h30 := hV.n30
  have htl := qtr_le R
  obtain ⟨S1, f1, f2, f3, f4, f5⟩ := findTrains_ok (n9 := n9) hr hV hn hC
  have hF1 : qF PL S S1 := f2.mono (by decide)
  generalize hS2 : q2 (q2 (q2 S1 17 10 0) 17 11 0) 17 12 0 = S2
  have hF2 : qF PL S S2 := hS2 ▸ (((hF1.q2 (by decide)).q2 (by decide)).q2 (by decide))
  have g : ∀ p j, p ≠ 17 → S2 p j = S1 p j := fun p j hp => by rw [← hS2, q2_p hp, q2_p hp, q2_p hp]
  obtain ⟨S', e1, e2, e3⟩ := workOut_l_ok (n9 := n9) hr hV hn (qtr R) n9 0 S2 0 rfl (by omega) (by omega) (hC.pl hr hF2) (by rw [← hS2, q2_j (by decide), q2_j (by decide), q2_j (by decide)]; exact f3) (fun u hu => by rw [g _ _ (by decide)]; exact f4 u hu) (fun j hj => by rw [g _ _ (by decide)]; exact (f5 j hj).1)
    ⟨by rw [← hS2, q2_j (by decide), q2_j (by decide), q2_s]; rfl, fun c hc => absurd hc (Nat.not_lt_zero c), fun j hj => by rw [g _ _ (by decide)]; exact (f5 j hj).2, by rw [← hS2, q2_s]; rfl⟩
    (fun i hi => by cases hi) (Nat.zero_le _) (by rw [← hS2, q2_j (by decide), q2_s]; rfl)
    (fun u hu => by
      have : u = 0 := by omega
      subst this
      rw [g _ _ (by decide), f2 19 (by decide), h19]; rfl) (fun u hu => absurd hu (Nat.not_lt_zero u))
  refine ⟨S', ?_, qF.tr hF2 e2, e3⟩
  unfold MX0_workOut
  rw [qg_t hr.k, qb_s f1]
  simp only [ql]
  rw [hS2]
  exact e1
