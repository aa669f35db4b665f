/-! the class's plan -/
theorem toNat_c (i : Nat) : ((i : Int)).toNat = i := Int.toNat_natCast i
theorem at_in {n9 : Nat} {S : qS} {u N j : Nat} {p : Int} (hk : qk u = N + 10) (hp : p = (j : Int)) (h : j < N) : MX3_at n9 S u p = some (S u j) := by
  subst hp
  have hl : qlen u = N := by unfold qlen; omega
  have h2 := qlen_le u
  unfold MX3_at
  rw [qg_t (by omega), qg_t (by constructor <;> omega), if_neg (by omega), hl, if_neg (by omega), qg_t (by omega), toNat_c]
theorem at_out {n9 : Nat} {S : qS} {u N : Nat} {p : Int} (hk : qk u = N + 10) (hR : qR p) (h : p < 0 ∨ (N : Int) ≤ p) : MX3_at n9 S u p = some 0 := by
  have hl : qlen u = N := by unfold qlen; omega
  unfold MX3_at
  rw [qg_t (by omega), qg_t hR]
  by_cases h0 : p < 0
  · rw [if_pos h0]
  · rw [if_neg h0, hl, if_pos (by omega)]
def qr2 (r : Nat) : Prop := r = 7 ∨ r = 12
theorem qr2.k {r : Nat} (h : qr2 r) : qk r = 2 := by rcases h with rfl | rfl <;> decide +kernel
theorem qr2.k1 {r : Nat} (h : qr2 r) : qk (r + 1) = 30 + 10 ∧ qk (r + 2) = 30 + 10 ∧ qk (r + 3) = 30 + 10 ∧ qk (r + 4) = 4 + 10 := by rcases h with rfl | rfl <;> decide +kernel
def PL : List Nat := [17, 18, 19, 20, 21, 22, 23, 24, 25, 26]
theorem qr2.PL {r : Nat} (h : qr2 r) : r ∉ PL ∧ r + 1 ∉ PL ∧ r + 2 ∉ PL ∧ r + 3 ∉ PL ∧ r + 4 ∉ PL := by rcases h with rfl | rfl <;> decide
theorem QCr.pl {S S' : qS} {r : Nat} {R : QR} (h : QCr S r R) (hr : qr2 r) (hF : qF PL S S') : QCr S' r R := h.fr hF hr.PL
theorem kk18 : qk 18 = 31 + 10 := by decide +kernel
theorem kk19 : qk 19 = 31 + 10 := by decide +kernel
theorem kk20 : qk 20 = 30 + 10 := by decide +kernel
theorem kk21 : qk 21 = 30 + 10 := by decide +kernel
theorem kk22 : qk 22 = 30 + 10 := by decide +kernel
theorem kk23 : qk 23 = 15 + 10 := by decide +kernel
theorem kk24 : qk 24 = 31 + 10 := by decide +kernel
theorem kk25 : qk 25 = 31 + 10 := by decide +kernel
theorem kk26 : qk 26 = 31 + 10 := by decide +kernel
theorem at_pa {n9 : Nat} {S : qS} {r j : Nat} {R : QR} {p : Int} (hr : qr2 r) (hV : QV R) (hC : QCr S r R) (hp : p = (j : Int)) (hj : j < R.n) : MX3_at n9 S (r + 1) p = some (R.pa j) := by
  rw [at_in hr.k1.1 hp (by have := hV.n30; omega), hC.pa j hj]
theorem at_we {n9 : Nat} {S : qS} {r j : Nat} {R : QR} {p : Int} (hr : qr2 r) (hV : QV R) (hC : QCr S r R) (hp : p = (j : Int)) (hj : j < R.n) : MX3_at n9 S (r + 2) p = some (R.we j) := by
  rw [at_in hr.k1.2.1 hp (by have := hV.n30; omega), hC.we j hj]
theorem at_bi {n9 : Nat} {S : qS} {r j : Nat} {R : QR} {p : Int} (hr : qr2 r) (hC : QCr S r R) (hp : p = (j : Int)) (hj : j < 30) : MX3_at n9 S (r + 3) p = some (R.bi j) := by
  rw [at_in hr.k1.2.2.1 hp hj, hC.bi j hj]
theorem at_se {n9 : Nat} {S : qS} {r j : Nat} {R : QR} {p : Int} (hr : qr2 r) (hC : QCr S r R) (hp : p = (j : Int)) (hj : j < 4) : MX3_at n9 S (r + 4) p = some (R.se j) := by
  rw [at_in hr.k1.2.2.2 hp hj, hC.se j hj]
theorem beginsTrain_ok {n9 : Nat} {S : qS} {r i : Nat} {R : QR} {p : Int} (hr : qr2 r) (hV : QV R) (hC : QCr S r R) (hp : p = (i : Int)) (hi : i < R.n) : MX1_beginsTrain n9 S r p = some (if qbeg R i = true then 1 else 0) := by
  have h30 := hV.n30
  have h1 := hV.pa i hi
  have h2 := hV.s3
  unfold MX1_beginsTrain
  rw [qg_t hr.k, qg_t (by constructor <;> omega)]
  show (if p = 0 then some 1 else _) = _
  unfold qbeg
  by_cases h0 : i = 0
  · rw [if_pos (by omega), if_pos (by simp [h0])]
  · rw [if_neg (by omega), qb_s (at_pa hr hV hC hp hi), qb_s (at_se (p := 3) (j := 3) hr hC rfl (by decide)), qg_t (by constructor <;> omega), qg_t (by constructor <;> omega)]
    by_cases h3 : R.pa i < R.se 3
    · rw [if_pos h3, if_neg (by simp [h0]; omega)]
    · rw [if_neg h3, if_pos (by simp [h0]; omega)]
theorem qto_succ (R : QR) (i : Nat) : ((sts R (i + 1)).length : Int) - 1 = (qto R i : Int) := by
  have := sts_pos R (i + 1) (by omega)
  unfold qto
  omega
theorem findTrains_l7_ok {n9 r : Nat} {R : QR} (hr : qr2 r) (hV : QV R) (k : qS → Option qS) : ∀ (d f i : Nat) (S : qS) (x : Int), x = (i : Int) → i + d = R.n → d < f → QCr S r R → S 17 9 = ((sts R i).length : Int) → (∀ t, t < (sts R i).length → S 18 t = ((sts R i).getD t 0 : Nat)) → (∀ j, j < i → S 21 j = (qto R j : Int) ∧ S 22 j = -1) →
    ∃ S', qF [17, 18, 21, 22] S S' ∧ S' 17 9 = (qtr R : Int) ∧ (∀ t, t < qtr R → S' 18 t = ((sts R R.n).getD t 0 : Nat)) ∧ (∀ j, j < R.n → S' 21 j = (qto R j : Int) ∧ S' 22 j = -1) ∧ MX0_findTrains_l7 n9 r k f S x = k S' := by
  have h30 := hV.n30
  intro d
  induction d with
  | zero =>
    intro f i S x hx hi hf hC h9 h18 h21
    have hin : i = R.n := hi
    subst hin
    refine ⟨S, qF.rfl, h9, h18, h21, ?_⟩
    cases f with
    | zero => omega
    | succ f =>
      rw [MX0_findTrains_l7, qg_t (by constructor <;> omega), hC.n, qg_t (by constructor <;> omega), if_pos (by omega)]
  | succ d ih =>
    intro f i S x hx hi hf hC h9 h18 h21
    have hlen := sts_len R i
    have hin : i < R.n := by omega
    cases f with
    | zero => omega
    | succ f =>
      rw [MX0_findTrains_l7, qg_t (by constructor <;> omega), hC.n, qg_t (by constructor <;> omega), if_neg (by omega), if_neg (by omega), qb_s (beginsTrain_ok hr hV hC hx hin), qg_t (by split <;> decide)]
      have hps : r ∉ [17, 18, 21, 22] ∧ r + 1 ∉ [17, 18, 21, 22] ∧ r + 2 ∉ [17, 18, 21, 22] ∧ r + 3 ∉ [17, 18, 21, 22] ∧ r + 4 ∉ [17, 18, 21, 22] := by rcases hr with rfl | rfl <;> decide
      by_cases hb : qbeg R i = true
      · rw [if_pos hb]
        have hs : sts R (i + 1) = sts R i ++ [i] := by rw [sts, if_pos hb]
        have hto : (qto R i : Int) = ((sts R i).length : Int) := by
          have := qto_succ R i
          rw [hs, List.length_append, List.length_singleton] at this
          omega
        simp only [ql]
        rw [if_neg (by decide), h9, qg_t (by constructor <;> omega), if_neg (by omega), qg_t (by omega), qg_t (by omega), qg_t (by omega), hx]
        rw [q2_p (S := S) (q := 17) (by decide), h9]
        simp only [toNat_c]
        generalize hS1 : q2 _ _ _ _ = S1
        have hF1 : qF [17, 18, 21, 22] S S1 := hS1 ▸ ((((qF.rfl.q2 (by decide)).q2 (by decide)).q2 (by decide)).q2 (by decide))
        have a1 : S1 17 9 = ((sts R (i + 1)).length : Int) := by
          rw [← hS1, q2_p (by decide), q2_p (by decide), q2_s, hs, List.length_append, List.length_singleton]; omega
        have a2 : ∀ t, t < (sts R (i + 1)).length → S1 18 t = ((sts R (i + 1)).getD t 0 : Nat) := by
          intro t ht
          rw [hs, List.length_append, List.length_singleton] at ht
          rw [← hS1, q2_p (by decide), q2_p (by decide), q2_p (by decide), q2_at, hs]
          by_cases htl : t = (sts R i).length
          · rw [if_pos htl, qgr htl]
          · rw [if_neg htl, qgl (by omega), h18 t (by omega)]
        have a3 : ∀ j, j < i + 1 → S1 21 j = (qto R j : Int) ∧ S1 22 j = -1 := by
          intro j hj
          rw [← hS1]
          by_cases hji : j = i
          · subst hji
            simp [q2]
            omega
          · simp [q2, hji]
            exact h21 j (by omega)
        obtain ⟨S', e1, e2, e3, e4, e5⟩ := ih f (i + 1) S1 ((i : Int) + 1) (by omega) (by omega) (by omega) (hC.fr hF1 hps) a1 a2 a3
        exact ⟨S', qF.tr hF1 e1, e2, e3, e4, e5⟩
      · rw [if_neg hb]
        have hs : sts R (i + 1) = sts R i := by rw [sts, if_neg hb]
        have hto : (qto R i : Int) = ((sts R i).length : Int) - 1 := by
          have := qto_succ R i
          rw [hs] at this
          omega
        simp only [ql, if_true]
        rw [qg_t (by omega), qg_t (by omega), hx, h9]
        simp only [toNat_c]
        generalize hS1 : q2 _ _ _ _ = S1
        have hF1 : qF [17, 18, 21, 22] S S1 := hS1 ▸ ((qF.rfl.q2 (by decide)).q2 (by decide))
        have a1 : S1 17 9 = ((sts R (i + 1)).length : Int) := by
          rw [← hS1, q2_p (by decide), q2_p (by decide), h9, hs]
        have a2 : ∀ t, t < (sts R (i + 1)).length → S1 18 t = ((sts R (i + 1)).getD t 0 : Nat) := by
          intro t ht
          rw [hs] at ht
          rw [← hS1, q2_p (by decide), q2_p (by decide), hs]
          exact h18 t ht
        have a3 : ∀ j, j < i + 1 → S1 21 j = (qto R j : Int) ∧ S1 22 j = -1 := by
          intro j hj
          rw [← hS1, q2_p (q := 21) (by decide), q2_at, q2_at]
          by_cases hji : j = i
          · subst hji
            rw [if_pos rfl, if_pos rfl]
            exact ⟨by omega, rfl⟩
          · rw [if_neg hji, if_neg hji, q2_p (by decide)]
            exact h21 j (by omega)
        obtain ⟨S', e1, e2, e3, e4, e5⟩ := ih f (i + 1) S1 ((i : Int) + 1) (by omega) (by omega) (by omega) (hC.fr hF1 hps) a1 a2 a3
        exact ⟨S', qF.tr hF1 e1, e2, e3, e4, e5⟩
theorem findTrains_ok {n9 r : Nat} {R : QR} {S : qS} (hr : qr2 r) (hV : QV R) (hn : 40 ≤ n9) (hC : QCr S r R) :
    ∃ S', MX0_findTrains n9 S r = some S' ∧ qF [17, 18, 21, 22] S S' ∧ S' 17 9 = (qtr R : Int) ∧ (∀ t, t ≤ qtr R → S' 18 t = (qft R t : Int)) ∧ (∀ j, j < R.n → S' 21 j = (qto R j : Int) ∧ S' 22 j = -1) := by
  have h30 := hV.n30
  have htl := qtr_le R
  have hps : r ∉ [17, 18, 21, 22] ∧ r + 1 ∉ [17, 18, 21, 22] ∧ r + 2 ∉ [17, 18, 21, 22] ∧ r + 3 ∉ [17, 18, 21, 22] ∧ r + 4 ∉ [17, 18, 21, 22] := by rcases hr with rfl | rfl <;> decide
  unfold MX0_findTrains
  rw [qg_t hr.k, ql, ql]
  obtain ⟨S', e1, e2, e3, e4, e5⟩ := findTrains_l7_ok (n9 := n9) hr hV (fun (S3 : qS) => qg (qR (S3 17 9)) <| if 30 < (S3 17 9) then (some S3) else (qg (0 ≤ (S3 17 9) ∧ (S3 17 9) < 31) <| ql (q2 S3 18 (S3 17 9).toNat (S3 r 4)) fun S8 => some S8)) R.n n9 0 (q2 S 17 9 0) 0 rfl (by omega) (by omega)
    (hC.fr (ps := [17, 18, 21, 22]) (qF.rfl.q2 (by decide)) hps) (by rw [q2_s]; rfl) (fun t h => absurd h (Nat.not_lt_zero t)) (fun t h => absurd h (Nat.not_lt_zero t))
  have hC' := hC.fr (ps := [17, 18, 21, 22]) (qF.tr (qF.rfl.q2 (by decide)) e1) hps
  refine ⟨q2 S' 18 (qtr R) (R.n : Int), ?_, (qF.tr (qF.rfl.q2 (by decide)) e1).q2 (by decide), ?_, ?_, ?_⟩
  · rw [e5]
    show qg (qR (S' 17 9)) _ = _
    rw [e2, qg_t (by constructor <;> omega), if_neg (by omega), qg_t (by omega), ql, toNat_c, hC'.n]
  · rw [q2_p (by decide), e2]
  · intro t ht
    rw [q2_at]
    by_cases h : t = qtr R
    · rw [if_pos h, h, qft_end]
    · rw [if_neg h, e3 t (by omega), qft_in R (by omega)]
  · intro j hj
    rw [q2_p (by decide), q2_p (by decide)]
    exact e4 j hj
