theorem dropAxle_ok {n9 : Nat} {S : qS} {r : Nat} {R : QR} {p : Int} (hr : qr2 r) (hn : 40 ≤ n9) (hV : QV R) (hC : QCr S r R) (hp : qR p) :
    ((0 ≤ p ∧ p < (R.n : Int)) → ∃ S', MX1_dropAxle n9 S r p = some (1, S') ∧ QCr S' r (qstrike R p.toNat) ∧ qH (aRec r) S S') ∧ (¬ (0 ≤ p ∧ p < (R.n : Int)) → MX1_dropAxle n9 S r p = some (0, S)) := by
  have h30 := hV.n30
  refine ⟨fun h => ?_, fun h => ?_⟩
  · obtain ⟨i, hi⟩ : ∃ i : Nat, p = (i : Int) := ⟨p.toNat, by omega⟩
    subst hi
    rw [toNat_c]
    obtain ⟨S1, e1, e2, e3⟩ := dropAxles_ok (n9 := n9) (a := i) (c := 1) (p1 := (i : Int)) (p2 := 1) hr hn hV hC (by omega) rfl rfl
    have hVd : QV (qdrop R i 1) := qdrop_V hV (by omega)
    have hdn : (qdrop R i 1).n = R.n - 1 := rfl
    have hunf : MX1_dropAxle n9 S r (i : Int) = (qg (qR (if 0 ≤ (i : Int) ∧ (i : Int) < ((qdrop R i 1).n : Int) then (1 : Int) else 0)) (if (if 0 ≤ (i : Int) ∧ (i : Int) < ((qdrop R i 1).n : Int) then (1 : Int) else 0) = 0 then some (1, S1) else (qg (0 ≤ (i : Int) ∧ (i : Int) < 30) <| qg (qR ((S1 (r + 1) (i : Int).toNat) + R.pa i)) <| qg (0 ≤ (i : Int) ∧ (i : Int) < 30) <| some (1, q2 S1 (r + 1) (i : Int).toNat (qmin ((S1 (r + 1) (i : Int).toNat) + R.pa i) 60))))) := by
      unfold MX1_dropAxle
      rw [qg_t hr.k, qb_s (has_ok hr hV hC hp), qg_t q01R, if_pos h, if_neg (by decide), qb_s (at_pa hr hV hC rfl (by omega)), qb_s e1, qb_s (has_ok hr hVd e2 hp)]
      rfl
    rw [hunf, qg_t q01R]
    by_cases hl : i < R.n - 1
    · have e5 : S1 (r + 1) i = R.pa (i + 1) := by rw [e2.pa i hl]; show (if i < i then R.pa i else R.pa (i + 1)) = _; rw [if_neg (by omega)]
      have a1 := hV.pa (i + 1) (by omega)
      have a2 := hV.pa i (by omega)
      have hcd : 0 ≤ (i : Int) ∧ (i : Int) < ((qdrop R i 1).n : Int) := by rw [hdn]; omega
      rw [if_pos hcd, if_neg (by decide), qg_t (by omega), toNat_c, e5, qg_t (by constructor <;> omega), qg_t (by omega)]
      refine ⟨_, rfl, ⟨by rw [q2_p (by omega)]; exact e2.n, fun j hj => ?_, fun j hj => by rw [q2_p (by omega)]; exact e2.we j hj, fun t ht => by rw [q2_p (by omega)]; exact e2.bi t ht, fun k hk => by rw [q2_p (by omega)]; exact e2.se k hk⟩, e3.q2 (by simp [aRec])⟩
      rw [q2_at]
      show _ = if j < i then R.pa j else if j = i then qmin (R.pa (i + 1) + R.pa i) 60 else R.pa (j + 1)
      by_cases h1 : j = i
      · rw [if_pos h1, if_neg (by omega), if_pos h1]
      · rw [if_neg h1, e2.pa j hj]
        show (if j < i then R.pa j else R.pa (j + 1)) = _
        by_cases h2 : j < i
        · rw [if_pos h2, if_pos h2]
        · rw [if_neg h2, if_neg h2, if_neg h1]
    · have hcd : ¬ (0 ≤ (i : Int) ∧ (i : Int) < ((qdrop R i 1).n : Int)) := by rw [hdn]; omega
      rw [if_neg hcd, if_pos rfl]
      refine ⟨S1, rfl, ⟨e2.n, fun j hj => ?_, e2.we, e2.bi, e2.se⟩, e3⟩
      have hj : j < R.n - 1 := hj
      rw [e2.pa j hj]
      show (if j < i then R.pa j else R.pa (j + 1)) = if j < i then R.pa j else if j = i then qmin (R.pa (i + 1) + R.pa i) 60 else R.pa (j + 1)
      rw [if_pos (by omega), if_pos (by omega)]
  · unfold MX1_dropAxle
    rw [qg_t hr.k, qb_s (has_ok hr hV hC hp), qg_t q01R, if_neg h, if_pos rfl]
theorem putWeight_ok {n9 : Nat} {S : qS} {r : Nat} {R : QR} {p w : Int} (hr : qr2 r) (hV : QV R) (hC : QCr S r R) (hp : qR p) (hw : qR w) :
    (((0 ≤ p ∧ p < (R.n : Int)) ∧ (1 ≤ w ∧ w ≤ 99)) → ∃ S', MX1_putWeight n9 S r p w = some (1, S') ∧ QCr S' r (qputw R p.toNat w) ∧ qH (aRec r) S S') ∧ (¬ ((0 ≤ p ∧ p < (R.n : Int)) ∧ (1 ≤ w ∧ w ≤ 99)) → MX1_putWeight n9 S r p w = some (0, S)) := by
  have h30 := hV.n30
  refine ⟨fun ⟨h1, h2⟩ => ?_, fun h => ?_⟩
  · obtain ⟨i, hi⟩ : ∃ i : Nat, p = (i : Int) := ⟨p.toNat, by omega⟩
    subst hi
    rw [toNat_c]
    refine ⟨q2 S (r + 2) i w, ?_, ⟨by rw [q2_p (by omega)]; exact hC.n, fun j hj => by rw [q2_p (by omega)]; exact hC.pa j hj, fun j hj => ?_, fun t ht => by rw [q2_p (by omega)]; exact hC.bi t ht, fun k hk => by rw [q2_p (by omega)]; exact hC.se k hk⟩, qH.rfl.q2 (by simp [aRec])⟩
    · unfold MX1_putWeight
      rw [qg_t hr.k, qb_s (has_ok hr hV hC hp), qg_t q01R, if_pos h1, if_neg (by decide), qb_s (isWeight_ok hw), qg_t q01R, if_pos h2, if_neg (by decide), qg_t (by omega), ql, toNat_c]
    · rw [q2_at]
      show _ = if j = i then w else R.we j
      by_cases h : j = i
      · rw [if_pos h, if_pos h]
      · rw [if_neg h, if_neg h]; exact hC.we j hj
  · unfold MX1_putWeight
    rw [qg_t hr.k, qb_s (has_ok hr hV hC hp), qg_t q01R]
    by_cases h1 : 0 ≤ p ∧ p < (R.n : Int)
    · rw [if_pos h1, if_neg (by decide), qb_s (isWeight_ok hw), qg_t q01R, if_neg (fun h2 => h ⟨h1, h2⟩), if_pos rfl]
    · rw [if_neg h1, if_pos rfl]
abbrev qsi (p v : Int) : Prop := (p = 0 ∧ 1 ≤ v ∧ v ≤ 20) ∨ (p = 1 ∧ 1 ≤ v ∧ v ≤ 40) ∨ (p = 2 ∧ 0 ≤ v ∧ v ≤ 60) ∨ (p = 3 ∧ 2 ≤ v ∧ v ≤ 60)
theorem isSetting_ok {n9 : Nat} {S : qS} {p : Int} (hp : qR p) : MX3_isSetting n9 S p = some (if 0 ≤ p ∧ p < 4 then 1 else 0) := by
  unfold MX3_isSetting
  rw [qg_t hp]
  by_cases h : p < 0
  · rw [if_pos h, if_neg (by omega)]
  · rw [if_neg h]
    by_cases h2 : 4 ≤ p
    · rw [if_pos h2, if_neg (by omega)]
    · rw [if_neg h2, if_pos (by omega)]
theorem ats_ok {n9 : Nat} {S : qS} {k : Nat} (hk : k < 4) : MX3_at_s1 n9 S (k : Int) = some (qF1i k) ∧ MX3_at_s2 n9 S (k : Int) = some (qF2i k) := by
  constructor
  · unfold MX3_at_s1
    rw [qg_t (by constructor <;> omega), if_neg (by omega), if_neg (by omega), qg_t (by omega), toNat_c]
  · unfold MX3_at_s2
    rw [qg_t (by constructor <;> omega), if_neg (by omega), if_neg (by omega), qg_t (by omega), toNat_c]
theorem qF12 : ∀ k, k < 4 → (k = 0 ∧ qF1i k = 1 ∧ qF2i k = 20) ∨ (k = 1 ∧ qF1i k = 1 ∧ qF2i k = 40) ∨ (k = 2 ∧ qF1i k = 0 ∧ qF2i k = 60) ∨ (k = 3 ∧ qF1i k = 2 ∧ qF2i k = 60) := by decide
theorem isValue_ok {n9 : Nat} {S : qS} {p v : Int} (hp : qR p) (hv : qR v) : MX3_isValueOfSetting n9 S p v = some (if qsi p v then 1 else 0) := by
  unfold MX3_isValueOfSetting
  rw [qb_s (isSetting_ok hp), qg_t q01R]
  by_cases h : 0 ≤ p ∧ p < 4
  · obtain ⟨k, hk⟩ : ∃ k : Nat, p = (k : Int) := ⟨p.toNat, by omega⟩
    subst hk
    have hk4 : k < 4 := by omega
    have hF := qF12 k hk4
    rw [if_pos h, if_neg (by decide), qb_s (ats_ok hk4).1, qg_t hv, qg_t (by constructor <;> omega)]
    by_cases h1 : v < qF1i k
    · rw [if_pos h1, if_neg (by omega)]
    · rw [if_neg h1, qb_s (ats_ok hk4).2, qg_t (by constructor <;> omega)]
      by_cases h2 : qF2i k < v
      · rw [if_pos h2, if_neg (by omega)]
      · rw [if_neg h2, if_pos (by omega)]
  · rw [if_neg h, if_pos rfl, if_neg (by omega)]
theorem putSetting_ok {n9 : Nat} {S : qS} {r : Nat} {R : QR} {p v : Int} (hr : qr2 r) (hC : QCr S r R) (hp : qR p) (hv : qR v) :
    (qsi p v → ∃ S', MX1_putSetting n9 S r p v = some (1, S') ∧ QCr S' r (qputs R p.toNat v) ∧ qH (aRec r) S S') ∧ (¬ qsi p v → MX1_putSetting n9 S r p v = some (0, S)) := by
  refine ⟨fun h => ?_, fun h => ?_⟩
  · obtain ⟨i, hi⟩ : ∃ i : Nat, p = (i : Int) := ⟨p.toNat, by omega⟩
    subst hi
    rw [toNat_c]
    refine ⟨q2 S (r + 4) i v, ?_, ⟨by rw [q2_p (by omega)]; exact hC.n, fun j hj => by rw [q2_p (by omega)]; exact hC.pa j hj, fun j hj => by rw [q2_p (by omega)]; exact hC.we j hj, fun t ht => by rw [q2_p (by omega)]; exact hC.bi t ht, fun k hk => ?_⟩, qH.rfl.q2 (by simp [aRec])⟩
    · unfold MX1_putSetting
      rw [qg_t hr.k, qb_s (isValue_ok hp hv), qg_t q01R, if_pos h, if_neg (by decide), qg_t (by omega), ql, toNat_c]
    · rw [q2_at]
      show _ = if k = i then v else R.se k
      by_cases h : k = i
      · rw [if_pos h, if_pos h]
      · rw [if_neg h, if_neg h]; exact hC.se k hk
  · unfold MX1_putSetting
    rw [qg_t hr.k, qb_s (isValue_ok hp hv), qg_t q01R, if_neg h, if_pos rfl]
theorem dft_l11_ok {n9 r : Nat} {S : qS} {R : QR} (hr : qr2 r) (hV : QV R) (hC : QCr S r R) (k : Int → Option (Int × qS)) : ∀ (d f i : Nat) (x : Int), x = (i : Int) → i + d = R.n → d < f → 1 ≤ i → (sts R i).length = 1 → MX1_dropFirstTrain_l11 n9 S r k f x = k (qft R 1 : Int) := by
  have h30 := hV.n30
  intro d
  induction d with
  | zero =>
    intro f i x hx hi hf h1 hl
    cases f with
    | zero => omega
    | succ f =>
      have : i = R.n := hi
      subst this
      have hq : qft R 1 = R.n := by
        have : qtr R = 1 := hl
        rw [← this, qft_end]
      rw [MX1_dropFirstTrain_l11, qg_t (by constructor <;> omega), hC.n, qg_t (by constructor <;> omega), if_pos (by omega), hq, hx]
  | succ d ih =>
    intro f i x hx hi hf h1 hl
    cases f with
    | zero => omega
    | succ f =>
      have hin : i < R.n := by omega
      rw [MX1_dropFirstTrain_l11, qg_t (by constructor <;> omega), hC.n, qg_t (by constructor <;> omega), if_neg (by omega), qb_s (beginsTrain_ok hr hV hC hx hin), qg_t q01R]
      by_cases hb : qbeg R i = true
      · have hs : sts R (i + 1) = sts R i ++ [i] := by rw [sts, if_pos hb]
        have h2 := sts_get R (i := i + 1) (j := R.n) (t := 1) hin (by rw [hs, List.length_append, List.length_singleton]; omega)
        have hq : qft R 1 = i := by rw [qft_in R h2.1, h2.2, hs, qgr hl.symm]
        rw [if_pos hb, if_neg (by decide), hq, hx]
      · rw [if_neg hb, if_pos rfl]
        exact ih f (i + 1) (x + 1) (by omega) (by omega) (by omega) (by omega) (by rw [sts, if_neg hb]; exact hl)
theorem dft_l41_ok {n9 r : Nat} (hr : qr2 r) (S0 : qS) : ∀ (d f i : Nat) (S : qS) (x : Int), x = (i : Int) → i + d = 30 → d < f → (∀ p j, S p j = if p = r + 3 ∧ j < i then (if j < 29 then S0 p (j + 1) else 0) else S0 p j) →
    ∃ S', MX1_dropFirstTrain_l41 n9 r f S x = some (1, S') ∧ (∀ p j, S' p j = if p = r + 3 ∧ j < 30 then (if j < 29 then S0 p (j + 1) else 0) else S0 p j) := by
  intro d
  induction d with
  | zero =>
    intro f i S x hx hi hf h
    cases f with
    | zero => omega
    | succ f =>
      have : i = 30 := by omega
      subst this
      refine ⟨S, ?_, h⟩
      rw [MX1_dropFirstTrain_l41, qg_t (by constructor <;> omega), if_pos (by omega)]
  | succ d ih =>
    intro f i S x hx hi hf h
    cases f with
    | zero => omega
    | succ f =>
      have hat : MX3_at n9 S (r + 3) (x + 1) = some (if i < 29 then S0 (r + 3) (i + 1) else 0) := by
        by_cases hic : i < 29
        · rw [if_pos hic, at_in (j := i + 1) hr.k1.2.2.1 (by omega) (by omega), h, if_neg (by omega)]
        · rw [if_neg hic, at_out hr.k1.2.2.1 (by constructor <;> omega) (Or.inr (by omega))]
      rw [MX1_dropFirstTrain_l41, qg_t (by constructor <;> omega), if_neg (by omega), qb_s hat, qg_t (by omega), ql, show x.toNat = i by omega]
      refine ih f (i + 1) _ (x + 1) (by omega) (by omega) (by omega) (fun p j => ?_)
      by_cases h2 : p = r + 3 ∧ j = i
      · obtain ⟨rfl, rfl⟩ := h2
        have hcd : r + 3 = r + 3 ∧ j < j + 1 := ⟨rfl, Nat.lt_succ_self _⟩
        rw [q2_s, if_pos hcd]
      · rw [q2_ne h2, h]
        by_cases hq : p = r + 3 ∧ j < i
        · have hq2 : p = r + 3 ∧ j < i + 1 := ⟨hq.1, by omega⟩
          rw [if_pos hq, if_pos hq2]
        · rw [if_neg hq, if_neg (by omega)]
theorem dropFirst_ok {n9 : Nat} {S : qS} {r : Nat} {R : QR} (hr : qr2 r) (hn : 40 ≤ n9) (hV : QV R) (hC : QCr S r R) :
    (0 < R.n → ∃ S', MX1_dropFirstTrain n9 S r = some (1, S') ∧ QCr S' r (qleave R) ∧ qH (aRec r) S S') ∧ (R.n = 0 → MX1_dropFirstTrain n9 S r = some (0, S)) := by
  have h30 := hV.n30
  refine ⟨fun h => ?_, fun h => ?_⟩
  · have hq := qft1 h
    have hs1 : (sts R 1).length = 1 := by
      have h1 := sts_pos R 1 (by decide)
      have h2 := sts_len R 1
      omega
    obtain ⟨S1, e1, e2, e3⟩ := dropAxles_ok (n9 := n9) (a := 0) (c := qft R 1) (p1 := 0) (p2 := (qft R 1 : Int)) hr hn hV hC (by omega) rfl rfl
    obtain ⟨S2, g1, g2⟩ := dft_l41_ok (n9 := n9) hr S1 30 n9 0 S1 0 rfl rfl (by omega) (fun p j => by rw [if_neg (by omega)])
    refine ⟨S2, ?_, ⟨by rw [g2, if_neg (by omega)]; exact e2.n, fun j hj => by rw [g2, if_neg (by omega)]; exact e2.pa j hj, fun j hj => by rw [g2, if_neg (by omega)]; exact e2.we j hj, fun t ht => ?_, fun k hk => by rw [g2, if_neg (by omega)]; exact e2.se k hk⟩, fun p j hp => ?_⟩
    · unfold MX1_dropFirstTrain
      rw [qg_t hr.k, hC.n, qg_t (by constructor <;> omega), if_neg (by omega)]
      simp only [ql]
      rw [dft_l11_ok (n9 := n9) hr hV hC _ (R.n - 1) n9 1 1 rfl (by omega) (by omega) (by omega) hs1, qb_s e1, g1]
    · have hcd : r + 3 = r + 3 ∧ t < 30 := ⟨rfl, ht⟩
      rw [g2, if_pos hcd]
      show _ = if t < 29 then R.bi (t + 1) else 0
      by_cases h9 : t < 29
      · rw [if_pos h9, if_pos h9]; exact e2.bi (t + 1) (by omega)
      · rw [if_neg h9, if_neg h9]
    · have hp1 : ¬ (p = r + 3 ∧ j < 30) := by intro hq; obtain ⟨rfl, _⟩ := hq; simp [aRec] at hp
      rw [g2, if_neg hp1]
      exact e3 p j hp
  · unfold MX1_dropFirstTrain
    rw [qg_t hr.k, hC.n, h, qg_t (by decide)]
    rfl
