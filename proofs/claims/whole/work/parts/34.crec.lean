/-! changes of a recording: the class -/
def qadd (R : QR) (p w : Int) : QR := (R.n + 1, (fun j => if j = R.n then p else R.pa j), (fun j => if j = R.n then w else R.we j), R.bi, R.se)
def qputw (R : QR) (i : Nat) (w : Int) : QR := (R.n, R.pa, (fun j => if j = i then w else R.we j), R.bi, R.se)
def qputs (R : QR) (k : Nat) (v : Int) : QR := (R.n, R.pa, R.we, R.bi, (fun j => if j = k then v else R.se j))
def qputb (R : QR) (t : Nat) (v : Int) : QR := (R.n, R.pa, R.we, (fun j => if j = t then v else R.bi j), R.se)
def qdrop (R : QR) (a c : Nat) : QR := (R.n - c, (fun j => if j < a then R.pa j else R.pa (j + c)), (fun j => if j < a then R.we j else R.we (j + c)), R.bi, R.se)
def qstrike (R : QR) (i : Nat) : QR := (R.n - 1, (fun j => if j < i then R.pa j else if j = i then qmin (R.pa (i + 1) + R.pa i) 60 else R.pa (j + 1)), (fun j => if j < i then R.we j else R.we (j + 1)), R.bi, R.se)
def qshb (R : QR) : QR := (R.n, R.pa, R.we, (fun t => if t < 29 then R.bi (t + 1) else 0), R.se)
def qleave (R : QR) : QR := qshb (qdrop R 0 (qft R 1))
theorem qadd_V {R : QR} {p w : Int} (hV : QV R) (hn : R.n < 30) (hp : 1 ≤ p ∧ p ≤ 60) (hw : 1 ≤ w ∧ w ≤ 99) : QV (qadd R p w) := by
  refine ⟨hn, fun j hj => ?_, fun j hj => ?_, hV.2.2.2⟩
  · have hj : j < R.n + 1 := hj
    show 1 ≤ (if j = R.n then p else R.pa j) ∧ (if j = R.n then p else R.pa j) ≤ 60
    split
    · exact hp
    · exact hV.pa j (by omega)
  · have hj : j < R.n + 1 := hj
    show 1 ≤ (if j = R.n then w else R.we j) ∧ (if j = R.n then w else R.we j) ≤ 99
    split
    · exact hw
    · exact hV.we j (by omega)
theorem qputw_V {R : QR} {i : Nat} {w : Int} (hV : QV R) (hw : 1 ≤ w ∧ w ≤ 99) : QV (qputw R i w) := by
  refine ⟨hV.1, hV.2.1, fun j hj => ?_, hV.2.2.2⟩
  show 1 ≤ (if j = i then w else R.we j) ∧ (if j = i then w else R.we j) ≤ 99
  split
  · exact hw
  · exact hV.we j hj
theorem qputb_V {R : QR} {t : Nat} {v : Int} (hV : QV R) (hv : 0 ≤ v ∧ v ≤ 9999) : QV (qputb R t v) := by
  refine ⟨hV.1, hV.2.1, hV.2.2.1, fun j hj => ?_, hV.2.2.2.2⟩
  show 0 ≤ (if j = t then v else R.bi j) ∧ (if j = t then v else R.bi j) ≤ 9999
  split
  · exact hv
  · exact hV.bi j hj
/-- a setting and its value -/
def qsv (k : Nat) (v : Int) : Prop := (k = 0 ∧ 1 ≤ v ∧ v ≤ 20) ∨ (k = 1 ∧ 1 ≤ v ∧ v ≤ 40) ∨ (k = 2 ∧ 0 ≤ v ∧ v ≤ 60) ∨ (k = 3 ∧ 2 ≤ v ∧ v ≤ 60)
theorem qputs_V {R : QR} {k : Nat} {v : Int} (hV : QV R) (hv : qsv k v) : QV (qputs R k v) := by
  have h0 := hV.s0
  have h1 := hV.s1
  have h2 := hV.s2
  have h3 := hV.s3
  refine ⟨hV.1, hV.2.1, hV.2.2.1, hV.2.2.2.1, ?_, ?_, ?_, ?_⟩
  · show 1 ≤ (if 0 = k then v else R.se 0) ∧ (if 0 = k then v else R.se 0) ≤ 20
    unfold qsv at hv
    split <;> omega
  · show 1 ≤ (if 1 = k then v else R.se 1) ∧ (if 1 = k then v else R.se 1) ≤ 40
    unfold qsv at hv
    split <;> omega
  · show 0 ≤ (if 2 = k then v else R.se 2) ∧ (if 2 = k then v else R.se 2) ≤ 60
    unfold qsv at hv
    split <;> omega
  · show 2 ≤ (if 3 = k then v else R.se 3) ∧ (if 3 = k then v else R.se 3) ≤ 60
    unfold qsv at hv
    split <;> omega
theorem qdrop_V {R : QR} {a c : Nat} (hV : QV R) (h : a + c ≤ R.n) : QV (qdrop R a c) := by
  refine ⟨by show R.n - c ≤ 30; have := hV.1; omega, fun j hj => ?_, fun j hj => ?_, hV.2.2.2⟩
  · have hj : j < R.n - c := hj
    show 1 ≤ (if j < a then R.pa j else R.pa (j + c)) ∧ (if j < a then R.pa j else R.pa (j + c)) ≤ 60
    split
    · exact hV.pa j (by omega)
    · exact hV.pa _ (by omega)
  · have hj : j < R.n - c := hj
    show 1 ≤ (if j < a then R.we j else R.we (j + c)) ∧ (if j < a then R.we j else R.we (j + c)) ≤ 99
    split
    · exact hV.we j (by omega)
    · exact hV.we _ (by omega)
theorem qshb_V {R : QR} (hV : QV R) : QV (qshb R) := by
  refine ⟨hV.1, hV.2.1, hV.2.2.1, fun t ht => ?_, hV.2.2.2.2⟩
  show 0 ≤ (if t < 29 then R.bi (t + 1) else 0) ∧ (if t < 29 then R.bi (t + 1) else 0) ≤ 9999
  split
  · exact hV.bi _ (by omega)
  · omega
theorem qft1 {R : QR} (h : 0 < R.n) : 1 ≤ qft R 1 ∧ qft R 1 ≤ R.n := by
  have h1 : 0 < qtr R := sts_pos R R.n h
  have h2 : qft R 0 < qft R 1 := qft_lt R h1
  have h3 := qft_zero R h
  exact ⟨by omega, qft_le R h1⟩
theorem qleave_V {R : QR} (hV : QV R) (h : 0 < R.n) : QV (qleave R) := qshb_V (qdrop_V hV (by have := qft1 h; omega))
theorem qstrike_V {R : QR} {i : Nat} (hV : QV R) (h : i < R.n) : QV (qstrike R i) := by
  refine ⟨by show R.n - 1 ≤ 30; have := hV.1; omega, fun j hj => ?_, fun j hj => ?_, hV.2.2.2⟩
  · have hj : j < R.n - 1 := hj
    show 1 ≤ (if j < i then R.pa j else if j = i then qmin (R.pa (i + 1) + R.pa i) 60 else R.pa (j + 1)) ∧ (if j < i then R.pa j else if j = i then qmin (R.pa (i + 1) + R.pa i) 60 else R.pa (j + 1)) ≤ 60
    by_cases h1 : j < i
    · rw [if_pos h1]; exact hV.pa j (by omega)
    · rw [if_neg h1]
      by_cases h2 : j = i
      · rw [if_pos h2]
        have a1 := hV.pa (i + 1) (by omega)
        have a2 := hV.pa i h
        unfold qmin
        split <;> omega
      · rw [if_neg h2]; exact hV.pa _ (by omega)
  · have hj : j < R.n - 1 := hj
    show 1 ≤ (if j < i then R.we j else R.we (j + 1)) ∧ (if j < i then R.we j else R.we (j + 1)) ≤ 99
    split
    · exact hV.we j (by omega)
    · exact hV.we _ (by omega)
theorem aRec_r {r p j : Nat} (h : p < r ∨ r + 4 < p) : aRec r p j = false := by unfold aRec; simp; omega
theorem addAxle_ok {n9 : Nat} {S : qS} {r : Nat} {R : QR} {p w : Int} (hr : qr2 r) (hV : QV R) (hC : QCr S r R) (hp : qR p) (hw : qR w) :
    (((1 ≤ p ∧ p ≤ 60) ∧ (1 ≤ w ∧ w ≤ 99) ∧ R.n < 30) → ∃ S', MX1_addAxle n9 S r p w = some (1, S') ∧ QCr S' r (qadd R p w) ∧ qH (aRec r) S S') ∧ (¬ ((1 ≤ p ∧ p ≤ 60) ∧ (1 ≤ w ∧ w ≤ 99) ∧ R.n < 30) → MX1_addAxle n9 S r p w = some (0, S)) := by
  have h30 := hV.n30
  refine ⟨fun ⟨h1, h2, h3⟩ => ?_, fun h => ?_⟩
  · generalize hS' : q2 (q2 (q2 S (r + 1) R.n p) (r + 2) R.n w) r 4 ((R.n : Int) + 1) = S'
    refine ⟨S', ?_, ⟨?_, fun j hj => ?_, fun j hj => ?_, fun t ht => ?_, fun k hk => ?_⟩, hS' ▸ (((qH.rfl.q2 (by simp [aRec])).q2 (by simp [aRec])).q2 (by simp [aRec]))⟩
    · unfold MX1_addAxle
      rw [qg_t hr.k, qb_s (isPause_ok hp), if_pos h1, qg_t (by decide), if_neg (by decide), qb_s (isWeight_ok hw), if_pos h2, qg_t (by decide), if_neg (by decide), hC.n, qg_t (by constructor <;> omega), if_neg (by omega), if_pos (by omega), qg_t (by omega)]
      simp only [ql]
      rw [toNat_c, q2_p (S := S) (q := r) (by omega), hC.n, qg_t (by omega), toNat_c, q2_p (S := q2 S (r + 1) R.n p) (q := r) (by omega), q2_p (S := S) (q := r) (by omega), hC.n, hS']
    · rw [← hS', q2_s]; show (R.n : Int) + 1 = ((R.n + 1 : Nat) : Int); omega
    · have hj : j < R.n + 1 := hj
      rw [← hS', q2_p (by omega), q2_p (by omega), q2_at]
      show (if j = R.n then p else S (r + 1) j) = if j = R.n then p else R.pa j
      by_cases h : j = R.n
      · rw [if_pos h, if_pos h]
      · rw [if_neg h, if_neg h]; exact hC.pa j (by omega)
    · have hj : j < R.n + 1 := hj
      rw [← hS', q2_p (by omega), q2_at]
      show (if j = R.n then w else q2 S (r + 1) R.n p (r + 2) j) = if j = R.n then w else R.we j
      by_cases h : j = R.n
      · rw [if_pos h, if_pos h]
      · rw [if_neg h, if_neg h, q2_p (by omega)]; exact hC.we j (by omega)
    · rw [← hS', q2_p (by omega), q2_p (by omega), q2_p (by omega)]; exact hC.bi t ht
    · rw [← hS', q2_p (by omega), q2_p (by omega), q2_p (by omega)]; exact hC.se k hk
  · unfold MX1_addAxle
    rw [qg_t hr.k, qb_s (isPause_ok hp), qg_t q01R]
    by_cases h1 : 1 ≤ p ∧ p ≤ 60
    · rw [if_pos h1, if_neg (by decide), qb_s (isWeight_ok hw), qg_t q01R]
      by_cases h2 : 1 ≤ w ∧ w ≤ 99
      · rw [if_pos h2, if_neg (by decide), hC.n, qg_t (by constructor <;> omega), if_neg (by omega), if_neg (by omega)]
      · rw [if_neg h2, if_pos rfl]
    · rw [if_neg h1, if_pos rfl]
theorem dropAxles_l_ok {n9 r c : Nat} (hr : qr2 r) (hc : c ≤ 30) (k : qS → Option qS) (S0 : qS) (a : Nat) : ∀ (d f i : Nat) (S : qS) (x : Int), x = (i : Int) → i + d = 30 → a ≤ i → d < f → (∀ p j, S p j = if (p = r + 1 ∨ p = r + 2) ∧ a ≤ j ∧ j < i then (if j + c < 30 then S0 p (j + c) else 0) else S0 p j) →
    ∃ S', MX1_dropAxles_l6 n9 r (c : Int) k f S x = k S' ∧ (∀ p j, S' p j = if (p = r + 1 ∨ p = r + 2) ∧ a ≤ j ∧ j < 30 then (if j + c < 30 then S0 p (j + c) else 0) else S0 p j) := by
  intro d
  induction d with
  | zero =>
    intro f i S x hx hi ha hf h
    cases f with
    | zero => omega
    | succ f =>
      have : i = 30 := by omega
      subst this
      refine ⟨S, ?_, h⟩
      rw [MX1_dropAxles_l6, qg_t (by constructor <;> omega), if_pos (by omega)]
  | succ d ih =>
    intro f i S x hx hi ha hf h
    cases f with
    | zero => omega
    | succ f =>
      have hat : ∀ (T : qS) (u : Nat), qk u = 30 + 10 → MX3_at n9 T u (x + (c : Int)) = some (if i + c < 30 then T u (i + c) else 0) := fun T u hu => by
        by_cases hic : i + c < 30
        · rw [if_pos hic, at_in (j := i + c) hu (by omega) hic]
        · rw [if_neg hic, at_out hu (by constructor <;> omega) (Or.inr (by omega))]
      rw [MX1_dropAxles_l6, qg_t (by constructor <;> omega), if_neg (by omega), qb_s (hat S _ hr.k1.1), qg_t (by omega)]
      simp only [ql]
      rw [qb_s (hat _ _ hr.k1.2.1), qg_t (by omega), show x.toNat = i by omega]
      refine ih f (i + 1) _ (x + 1) (by omega) (by omega) (by omega) (by omega) (fun p j => ?_)
      by_cases h2 : p = r + 2 ∧ j = i
      · obtain ⟨rfl, rfl⟩ := h2
        have hcd : (r + 2 = r + 1 ∨ r + 2 = r + 2) ∧ a ≤ j ∧ j < j + 1 := ⟨Or.inr rfl, ha, Nat.lt_succ_self _⟩
        rw [q2_s, if_pos hcd]
        by_cases hic : j + c < 30
        · rw [if_pos hic, q2_p (by omega), h, if_neg (by omega), if_pos hic]
        · rw [if_neg hic, if_neg hic]
      · rw [q2_ne h2]
        by_cases h1 : p = r + 1 ∧ j = i
        · obtain ⟨rfl, rfl⟩ := h1
          have hcd : (r + 1 = r + 1 ∨ r + 1 = r + 2) ∧ a ≤ j ∧ j < j + 1 := ⟨Or.inl rfl, ha, Nat.lt_succ_self _⟩
          rw [q2_s, if_pos hcd]
          by_cases hic : j + c < 30
          · rw [if_pos hic, if_pos hic, h, if_neg (by omega)]
          · rw [if_neg hic, if_neg hic]
        · rw [q2_ne h1, h]
          by_cases hq : (p = r + 1 ∨ p = r + 2) ∧ a ≤ j ∧ j < i
          · have hq2 : (p = r + 1 ∨ p = r + 2) ∧ a ≤ j ∧ j < i + 1 := ⟨hq.1, hq.2.1, by omega⟩
            rw [if_pos hq, if_pos hq2]
          · rw [if_neg hq, if_neg (by omega)]
theorem dropAxles_ok {n9 r a c : Nat} {S : qS} {R : QR} {p1 p2 : Int} (hr : qr2 r) (hn : 40 ≤ n9) (hV : QV R) (hC : QCr S r R) (h : a + c ≤ R.n) (h1 : p1 = (a : Int)) (h2 : p2 = (c : Int)) :
    ∃ S', MX1_dropAxles n9 S r p1 p2 = some S' ∧ QCr S' r (qdrop R a c) ∧ qH (aRec r) S S' := by
  have h30 := hV.n30
  subst h1
  subst h2
  obtain ⟨S1, e1, e2⟩ := dropAxles_l_ok (n9 := n9) (c := c) hr (by omega) (fun S4 => some (q2 S4 r 4 ((S4 r 4) - (c : Int)))) S a (30 - a) n9 a S (a : Int) rfl (by omega) (Nat.le_refl _) (by omega) (fun p j => by rw [if_neg (by omega)])
  have e4 : S1 r 4 = (R.n : Int) := by rw [e2, if_neg (by omega)]; exact hC.n
  refine ⟨q2 S1 r 4 (S1 r 4 - (c : Int)), ?_, ⟨?_, fun j hj => ?_, fun j hj => ?_, fun t ht => ?_, fun k hk => ?_⟩, fun p j hp => ?_⟩
  · unfold MX1_dropAxles
    rw [qg_t hr.k, qg_t (by constructor <;> omega)]
    simp only [ql]
    rw [show qmax (a : Int) 0 = (a : Int) by unfold qmax; split <;> omega, e1]
  · rw [q2_s, e4]; show (R.n : Int) - (c : Int) = ((R.n - c : Nat) : Int); omega
  · have hj : j < R.n - c := hj
    rw [q2_p (by omega), e2]
    show _ = if j < a then R.pa j else R.pa (j + c)
    by_cases hja : j < a
    · rw [if_neg (by omega), if_pos hja]; exact hC.pa j (by omega)
    · rw [if_pos (by omega), if_pos (by omega), if_neg hja]; exact hC.pa _ (by omega)
  · have hj : j < R.n - c := hj
    rw [q2_p (by omega), e2]
    show _ = if j < a then R.we j else R.we (j + c)
    by_cases hja : j < a
    · rw [if_neg (by omega), if_pos hja]; exact hC.we j (by omega)
    · rw [if_pos (by omega), if_pos (by omega), if_neg hja]; exact hC.we _ (by omega)
  · rw [q2_p (by omega), e2, if_neg (by omega)]; exact hC.bi t ht
  · rw [q2_p (by omega), e2, if_neg (by omega)]; exact hC.se k hk
  · have hp1 : ¬ (p = r ∧ j = 4) := by intro hq; obtain ⟨rfl, rfl⟩ := hq; simp [aRec] at hp
    have hp2 : ¬ (p = r + 1 ∨ p = r + 2) := by intro hq; rcases hq with rfl | rfl <;> simp [aRec] at hp
    rw [q2_ne hp1, e2, if_neg (by omega)]
