theorem layCars_ok {n9 w a e : Nat} {R : QR} {L : List Nat} {S : qS} {p2 p3 : Int} (hw : wr2 w) (hV : QV R) (hn : 40 ≤ n9) (he : e ≤ R.n) (hae : a ≤ e) (hM : QMr S w R) (hs : ∀ j, j < R.n → S 123 j = qps R (j + 1)) (hr : ∀ i', a ≤ i' → i' ≤ e → ∀ q, q ≤ i' - a → S 122 (32 * (i' - a) + q) = RS R a e (-1) (e - i') (a + q)) (hT : Tm S L) (hL : 2 * L.length ≤ a) (h2 : p2 = (a : Int)) (h3 : p3 = (e : Int)) :
    ∃ S', MX4_layCars n9 S w p2 p3 = some S' ∧ qH aCars S S' ∧ Tm S' (L ++ CG R a e (-1) (e - a) a) ∧ 2 * (L ++ CG R a e (-1) (e - a) a).length ≤ e := by
  have h30 := hV.n30
  subst h2
  subst h3
  obtain ⟨S', e1, e2, e3, e4⟩ := layCars_l_ok (n9 := n9) (w := w) (a := a) (e := e) hw hV he (e - a) n9 a 0 L S (a : Int) 0 (Nat.le_refl _) rfl rfl (Nat.le_refl _) (Nat.zero_le _) hae (by omega) hM hs hr hT hL
  refine ⟨S', ?_, e2, e3, e4⟩
  unfold MX4_layCars
  rw [qg_t hw.g]
  exact e1
theorem lay_l109_ok {n9 w : Nat} {R : QR} (hw : wr2 w) (hV : QV R) (hn : 40 ≤ n9) :
    ∀ (d f t : Nat) (S : qS) (x : Int), x = (t : Int) → t + d = qtr R → d < f → QMr S w R → S 110 22 = (qtr R : Int) → (∀ u, u ≤ qtr R → S 124 u = (qft R u : Int)) → (∀ j, j < R.n → S 123 j = qps R (j + 1)) → Tm S (qcl R t) → 2 * (qcl R t).length ≤ qft R t → S 110 25 = qco R t → (∀ u, u < t → S 125 u = qct R u) →
      ∃ S', MX4_lay_l109 n9 w f S x = some S' ∧ qH mlA S S' ∧ QM S' R := by
  have h30 := hV.n30
  have htl := qtr_le R
  intro d
  induction d with
  | zero =>
    intro f t S x hx ht hf hM h22 h24 h23 hT hL h25 h125
    have e : t = qtr R := ht
    subst e
    cases f with
    | zero => omega
    | succ f =>
      refine ⟨S, ?_, qH.rfl, ⟨h22, hT.1, h25⟩, ⟨h24, h125⟩, hT.2, h23⟩
      rw [MX4_lay_l109, qg_t (by constructor <;> omega), h22, qg_t (by constructor <;> omega), if_pos (by omega)]
  | succ d ih =>
    intro f t S x hx ht hf hM h22 h24 h23 hT hL h25 h125
    cases f with
    | zero => omega
    | succ f =>
      have htr : t < qtr R := by omega
      have hae := qft_lt R htr
      have hen := qft_le R (t := t + 1) htr
      have e1t : (x + 1).toNat = t + 1 := by omega
      have ext : x.toNat = t := by omega
      obtain ⟨S1, v1, v2, v3⟩ := layRest_ok (n9 := n9) (S := S) (w := w) (a := qft R t) (e := qft R (t + 1)) (bar := -1) (p2 := (qft R t : Int)) (p3 := (qft R (t + 1) : Int)) hw hV hn hen (by omega) (by decide) hM h23 rfl rfl
      have hH1 : qH mlA S S1 := v2.mono a122_ml
      generalize hS2 : q2 S1 125 t ((RS R (qft R t) (qft R (t + 1)) (-1) (qft R (t + 1) - qft R t) (qft R t) + 99) / 100) = S2
      have hH2 : qH mlA S S2 := hS2 ▸ hH1.q2 rfl
      have g : ∀ p j, p ≠ 125 → p ≠ 122 → S2 p j = S p j := fun p j h1 h2 => by
        rw [← hS2, q2_p h1, v2 p j (by unfold a122; simp [h2])]
      obtain ⟨S3, k1, k2, k3, k4⟩ := layCars_ok (n9 := n9) (S := S2) (w := w) (a := qft R t) (e := qft R (t + 1)) (L := qcl R t) (p2 := (qft R t : Int)) (p3 := (qft R (t + 1) : Int)) hw hV hn hen (by omega) (hM.gg (mlA_w hw) hH2) (fun j hj => by rw [g _ _ (by decide) (by decide)]; exact h23 j hj) (fun i' h1 h2 q h3 => by rw [← hS2, q2_p (by decide)]; exact v3 i' h1 h2 q h3) ⟨by rw [g _ _ (by decide) (by decide)]; exact hT.1, fun c hc => by rw [g _ _ (by decide) (by decide)]; exact hT.2 c hc⟩ hL rfl rfl
      have hH3 : qH mlA S S3 := qH.tr hH2 (k2.mono aCars_ml)
      have c25 : S3 110 25 = qco R t := by rw [k2 110 25 rfl, g _ _ (by decide) (by decide)]; exact h25
      have c125 : ∀ u, S3 125 u = if u = t then qct R t else S 125 u := fun u => by
        rw [k2 125 u rfl, ← hS2, q2_at, v2 125 u rfl]; rfl
      rw [MX4_lay_l109, qg_t (by constructor <;> omega), h22, qg_t (by constructor <;> omega), if_neg (by omega), qg_t (by omega), qg_t (by omega), ext, e1t, h24 t (by omega), h24 (t + 1) (by omega), qb_s v1, qg_t (by omega)]
      simp only [ql]
      rw [qg_t (by omega), qg_t (by omega), hS2, g 124 t (by decide) (by decide), g 124 (t + 1) (by decide) (by decide), h24 t (by omega), h24 (t + 1) (by omega), qb_s k1, qg_t (by omega), c25, c125, if_pos rfl]
      generalize hS4 : q2 S3 110 25 _ = S4
      have hH4 : qH mlA S S4 := hS4 ▸ hH3.q2 rfl
      have w110 : ∀ j, j ≠ 25 → S4 110 j = S3 110 j := fun j hj => by rw [← hS4, q2_j hj]
      have wp : ∀ p j, p ≠ 110 → S4 p j = S3 p j := fun p j hp => by rw [← hS4, q2_p hp]
      obtain ⟨S', e1, e2, e3⟩ := ih f (t + 1) S4 (x + 1) (by omega) (by omega) (by omega) (hM.gg (mlA_w hw) hH4) (by rw [w110 22 (by decide), k2 110 22 rfl, g _ _ (by decide) (by decide)]; exact h22) (fun u hu => by rw [wp _ _ (by decide), k2 124 u rfl, g _ _ (by decide) (by decide)]; exact h24 u hu) (fun j hj => by rw [wp _ _ (by decide), k2 123 j rfl, g _ _ (by decide) (by decide)]; exact h23 j hj)
        ⟨by rw [w110 24 (by decide)]; exact k3.1, fun c hc => by rw [wp _ _ (by decide)]; exact k3.2 c hc⟩ k4 (by rw [← hS4, q2_s]; rfl) (fun u hu => by
          rw [wp _ _ (by decide), c125]
          by_cases h : u = t
          · rw [if_pos h, h]
          · rw [if_neg h]; exact h125 u (by omega))
      exact ⟨S', e1, qH.tr hH4 e2, e3⟩
theorem lay_ok {n9 w : Nat} {R : QR} {S : qS} (hw : wr2 w) (hV : QV R) (hn : 40 ≤ n9) (hM : QMr S w R) :
    ∃ S', MX4_lay n9 S w = some S' ∧ qH mlA S S' ∧ QM S' R := by
  have h30 := hV.n30
  have htl := qtr_le R
  have hwne : w ≠ 110 ∧ w ≠ 124 := by rcases hw with rfl | rfl <;> decide
  generalize hS0 : q2 (q2 (q2 S 110 22 0) 110 24 0) 110 25 0 = S0
  have hH0 : qH mlA S S0 := hS0 ▸ (((qH.rfl.q2 rfl).q2 rfl).q2 rfl)
  obtain ⟨S1, e1, e2, e3, e4, e5, e6⟩ := lay_l21_ok (w := w) hw hV (fun (S10 : qS) => qg (0 ≤ (S10 110 22) ∧ (S10 110 22) < 31) (MX4_lay_l109 n9 w n9 (q2 S10 124 (S10 110 22).toNat (R.n : Int)) 0)) R.n n9 0 S0 0 rfl (by omega) (by omega) (hM.gg (mlA_w hw) hH0) (by rw [← hS0, q2_j (by decide), q2_j (by decide), q2_s]; rfl) (fun t h => absurd h (Nat.not_lt_zero t)) (fun t h => absurd h (Nat.not_lt_zero t))
  have hH1 : qH mlA S S1 := qH.tr hH0 e1
  generalize hS2 : q2 S1 124 (qtr R) (R.n : Int) = S2
  have hH2 : qH mlA S S2 := hS2 ▸ hH1.q2 rfl
  obtain ⟨S', g1, g2, g3⟩ := lay_l109_ok (n9 := n9) hw hV hn (qtr R) n9 0 S2 0 rfl (by omega) (by omega) (hM.gg (mlA_w hw) hH2) (by rw [← hS2, q2_p (by decide)]; exact e3) (fun u hu => by
    rw [← hS2, q2_at]
    by_cases h : u = qtr R
    · rw [if_pos h, h, qft_end]
    · rw [if_neg h, e4 u (by omega), qft_in R (by omega)]) (fun j hj => by rw [← hS2, q2_p (by decide)]; exact e5 j hj) ⟨by rw [← hS2, q2_p (by decide), e2 24 (by decide), ← hS0, q2_j (by decide), q2_s]; rfl, fun c hc => absurd hc (Nat.not_lt_zero c)⟩ (Nat.zero_le _) (by rw [← hS2, q2_p (by decide), e2 25 (by decide), ← hS0, q2_s]; rfl) (fun u hu => absurd hu (Nat.not_lt_zero u))
  refine ⟨S', ?_, qH.tr hH2 g2, g3⟩
  unfold MX4_lay
  rw [qg_t hw.g, hw.l, qg_t (by omega)]
  simp only [ql]
  rw [hS0, hM.c3.2.2.2.2, e6, e3, qg_t (by omega), toNat_c, hS2]
  exact g1
