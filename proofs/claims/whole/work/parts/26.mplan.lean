/-! the reference's plan -/
theorem q2_ne {S : qS} {p j q i : Nat} {v : Int} (h : ¬ (q = p ∧ i = j)) : q2 S p j v q i = S q i := if_neg h
/-- only what A says changes -/
def qH (A : Nat → Nat → Bool) (S S' : qS) : Prop := ∀ p j, A p j = false → S' p j = S p j
theorem qH.rfl {A : Nat → Nat → Bool} {S : qS} : qH A S S := fun _ _ _ => _root_.rfl
theorem qH.tr {A : Nat → Nat → Bool} {S S' S'' : qS} (h1 : qH A S S') (h2 : qH A S' S'') : qH A S S'' := fun p j h => (h2 p j h).trans (h1 p j h)
theorem qH.mono {A B : Nat → Nat → Bool} {S S' : qS} (h : qH A S S') (hs : ∀ p j, B p j = false → A p j = false) : qH B S S' := fun p j hp => h p j (hs p j hp)
theorem qH.q2 {A : Nat → Nat → Bool} {S S' : qS} {p j : Nat} {v : Int} (h : qH A S S') (hp : A p j = true) : qH A S (q2 S' p j v) := fun q i hq => by
  by_cases e : q = p ∧ i = j
  · obtain ⟨rfl, rfl⟩ := e
    rw [hp] at hq; cases hq
  · rw [q2_ne e]
    exact h q i hq
def wr2 (w : Nat) : Prop := w = 117 ∨ w = 118
theorem wr2.k {w : Nat} (h : wr2 w) : qk w = 95 + 10 := by rcases h with rfl | rfl <;> decide +kernel
theorem wr2.l {w : Nat} (h : wr2 w) : qlen w = 95 := by rcases h with rfl | rfl <;> decide +kernel
theorem wr2.g {w : Nat} (h : wr2 w) : 10 ≤ qk w := by rw [h.k]; decide
def mlA (p j : Nat) : Bool := (122 ≤ p && p ≤ 126) || (p == 110 && (j == 22 || j == 24 || j == 25))
theorem mlA_w {w : Nat} (h : wr2 w) : ∀ j, mlA w j = false := by rcases h with rfl | rfl <;> (intro j; rfl)
theorem QMr.gg {A : Nat → Nat → Bool} {S S' : qS} {w : Nat} {R : QR} (h : QMr S w R) (hA : ∀ j, A w j = false) (hG : qH A S S') : QMr S' w R := by
  have e : S' w = S w := funext fun j => hG w j (hA j)
  unfold QMr
  rw [e]
  exact h
theorem QMr.c3 {S : qS} {w : Nat} {R : QR} (h : QMr S w R) : S w (3 : Int).toNat = R.se 2 ∧ S w (2 : Int).toNat = R.se 1 ∧ S w (1 : Int).toNat = R.se 0 ∧ S w (4 : Int).toNat = R.se 3 ∧ S w (0 : Int).toNat = (R.n : Int) :=
  ⟨h.se 2 (by decide), h.se 1 (by decide), h.se 0 (by decide), h.se 3 (by decide), h.n⟩
theorem lay_l21_ok {w : Nat} {R : QR} (hw : wr2 w) (hV : QV R) (k : qS → Option qS) : ∀ (d f i : Nat) (S : qS) (x : Int), x = (i : Int) → i + d = R.n → d < f → QMr S w R → S 110 22 = ((sts R i).length : Int) → (∀ t, t < (sts R i).length → S 124 t = ((sts R i).getD t 0 : Nat)) → (∀ j, j < i → S 123 j = qps R (j + 1)) →
    ∃ S', qH mlA S S' ∧ (∀ j, j ≠ 22 → S' 110 j = S 110 j) ∧ S' 110 22 = (qtr R : Int) ∧ (∀ t, t < qtr R → S' 124 t = ((sts R R.n).getD t 0 : Nat)) ∧ (∀ j, j < R.n → S' 123 j = qps R (j + 1)) ∧ MX4_lay_l21 w (R.n : Int) k f S x = k S' := by
  have h30 := hV.n30
  have hs3 := hV.s3
  have hwl := hw.l
  have hwne : w ≠ 123 ∧ w ≠ 124 ∧ w ≠ 110 := by rcases hw with rfl | rfl <;> decide
  intro d
  induction d with
  | zero =>
    intro f i S x hx hi hf hM h9 h18 h23
    have hin : i = R.n := hi
    subst hin
    refine ⟨S, qH.rfl, fun _ _ => rfl, h9, h18, h23, ?_⟩
    cases f with
    | zero => omega
    | succ f => rw [MX4_lay_l21, qg_t (by constructor <;> omega), qg_t (by constructor <;> omega), if_pos (by omega)]
  | succ d ih =>
    intro f i S x hx hi hf hM h9 h18 h23
    have hlen := sts_len R i
    have hin : i < R.n := by omega
    have hpa := hV.pa i hin
    cases f with
    | zero => omega
    | succ f =>
      rw [MX4_lay_l21, qg_t (by constructor <;> omega), qg_t (by constructor <;> omega), if_neg (by omega), hwl, qg_t (by omega)]
      have hidx : (35 + x).toNat = 35 + i := by omega
      have hxi : x.toNat = i := by omega
      have epa : S w (35 + i) = R.pa i := hM.pa i hin
      simp only [ql]
      rw [hidx, hxi, epa]
      generalize hS0 : q2 S 123 i (R.pa i + qps R i) = S0
      have hG0 : qH mlA S S0 := hS0 ▸ qH.rfl.q2 rfl
      have f110 : ∀ j, S0 110 j = S 110 j := fun j => by rw [← hS0, q2_p (by decide)]
      have f124 : ∀ j, S0 124 j = S 124 j := fun j => by rw [← hS0, q2_p (by decide)]
      have fw : ∀ j, S0 w j = S w j := fun j => by rw [← hS0, q2_p hwne.1]
      have f123 : ∀ j, j < i + 1 → S0 123 j = qps R (j + 1) := fun j hj => by
        rw [← hS0, q2_at]
        by_cases h : j = i
        · rw [if_pos h, h]; show R.pa i + qps R i = qps R i + R.pa i; omega
        · rw [if_neg h]; exact h23 j (by omega)
      -- no train begins here
      have go0 : qbeg R i = false → ∃ S', qH mlA S S' ∧ (∀ j, j ≠ 22 → S' 110 j = S 110 j) ∧ S' 110 22 = (qtr R : Int) ∧ (∀ t, t < qtr R → S' 124 t = ((sts R R.n).getD t 0 : Nat)) ∧ (∀ j, j < R.n → S' 123 j = qps R (j + 1)) ∧ MX4_lay_l21 w (R.n : Int) k f S0 (x + 1) = k S' := by
        intro hb
        have hs : sts R (i + 1) = sts R i := by rw [sts, hb, if_neg (by decide)]
        obtain ⟨S', e1, e2, e3, e4, e5, e6⟩ := ih f (i + 1) S0 (x + 1) (by omega) (by omega) (by omega) (hM.gg (mlA_w hw) hG0) (by rw [f110, h9, hs]) (fun t ht => by rw [f124, hs]; rw [hs] at ht; exact h18 t ht) f123
        exact ⟨S', qH.tr hG0 e1, fun j hj => by rw [e2 j hj, f110], e3, e4, e5, e6⟩
      -- one begins
      have go1 : qbeg R i = true → ∃ S', qH mlA S S' ∧ (∀ j, j ≠ 22 → S' 110 j = S 110 j) ∧ S' 110 22 = (qtr R : Int) ∧ (∀ t, t < qtr R → S' 124 t = ((sts R R.n).getD t 0 : Nat)) ∧ (∀ j, j < R.n → S' 123 j = qps R (j + 1)) ∧ qg (0 ≤ S0 110 22 ∧ S0 110 22 < 31) (MX4_lay_l21 w (R.n : Int) k f (q2 (q2 S0 124 (S0 110 22).toNat x) 110 22 (q2 S0 124 (S0 110 22).toNat x 110 22 + 1)) (x + 1)) = k S' := by
        intro hb
        have hs : sts R (i + 1) = sts R i ++ [i] := by rw [sts, if_pos hb]
        rw [f110, h9, qg_t (by omega), q2_p (S := S0) (q := 110) (by decide), f110, h9, toNat_c]
        generalize hS1 : q2 (q2 S0 124 _ _) 110 22 _ = S1
        have hG1 : qH mlA S S1 := hS1 ▸ ((hG0.q2 rfl).q2 rfl)
        obtain ⟨S', e1, e2, e3, e4, e5, e6⟩ := ih f (i + 1) S1 (x + 1) (by omega) (by omega) (by omega) (hM.gg (mlA_w hw) hG1) (by rw [← hS1, q2_s, hs, List.length_append, List.length_singleton]; omega) (fun t ht => by
          rw [hs, List.length_append, List.length_singleton] at ht
          rw [← hS1, q2_p (by decide), q2_at, hs]
          by_cases h : t = (sts R i).length
          · rw [if_pos h, qgr h, hx]
          · rw [if_neg h, qgl (by omega), f124, h18 t (by omega)]) (fun j hj => by rw [← hS1, q2_p (by decide), q2_p (by decide)]; exact f123 j hj)
        exact ⟨S', qH.tr hG1 e1, fun j hj => by rw [e2 j hj, ← hS1, q2_j hj, q2_p (by decide), f110], e3, e4, e5, e6⟩
      by_cases h0 : i = 0
      · have hb : qbeg R i = true := by unfold qbeg; simp [h0]
        have hx0 : x = 0 := by omega
        have hq0 : qps R i = 0 := by rw [h0]; rfl
        rw [if_pos hx0, qg_t (by omega), if_pos hx0]
        rw [hq0] at hS0
        rw [hS0]
        exact go1 hb
      · have hx0 : ¬ x = 0 := by omega
        have hq0 : S 123 (x - 1).toNat = qps R i := by rw [show (x - 1).toNat = i - 1 by omega, h23 (i - 1) (by omega), show i - 1 + 1 = i by omega]
        rw [if_neg hx0, qg_t (by omega), qg_t (by omega), if_neg hx0, qg_t (by omega), qg_t (by omega), hq0, hS0, fw, fw, epa, hM.c3.2.2.2.1, qg_t (by constructor <;> omega), qg_t (by constructor <;> omega)]
        by_cases h3 : R.pa i < R.se 3
        · rw [if_pos h3]
          exact go0 (by unfold qbeg; simp [h0]; omega)
        · rw [if_neg h3]
          exact go1 (by unfold qbeg; simp [h0]; omega)
/-! one train -/
theorem RS_step {R : QR} {a e : Nat} {bar : Int} {i b : Nat} (h : i + 1 < e) : RS R a e bar (e - i) b = if qok bar i = true ∧ 100 * (qcc R i + qgp R a b i) - 1 + RS R a e bar (e - (i + 2)) (i + 2) ≤ 100 * R.se 2 + RS R a e bar (e - (i + 1)) b then 100 * (qcc R i + qgp R a b i) - 1 + RS R a e bar (e - (i + 2)) (i + 2) else 100 * R.se 2 + RS R a e bar (e - (i + 1)) b := by
  obtain ⟨m, hm⟩ : ∃ m, e - i = m + 2 := ⟨e - i - 2, by omega⟩
  rw [hm, RS, show e - (m + 2) = i by omega, show e - m = i + 2 by omega, show e - (i + 2) = m by omega, show e - (i + 1) = m + 1 by omega]
theorem CG_step {R : QR} {a e : Nat} {bar : Int} {i b : Nat} (h : i + 1 < e) : CG R a e bar (e - i) b = if qok bar i = true ∧ 100 * (qcc R i + qgp R a b i) - 1 + RS R a e bar (e - (i + 2)) (i + 2) ≤ 100 * R.se 2 + RS R a e bar (e - (i + 1)) b then i :: CG R a e bar (e - (i + 2)) (i + 2) else CG R a e bar (e - (i + 1)) b := by
  obtain ⟨m, hm⟩ : ∃ m, e - i = m + 2 := ⟨e - i - 2, by omega⟩
  rw [hm, CG, show e - (m + 2) = i by omega, show e - m = i + 2 by omega, show e - (i + 2) = m by omega, show e - (i + 1) = m + 1 by omega]
theorem RS_last {R : QR} {a e : Nat} {bar : Int} {i b : Nat} (h : i + 1 = e) : RS R a e bar (e - i) b = 100 * R.se 2 + RS R a e bar (e - (i + 1)) b ∧ CG R a e bar (e - i) b = [] := by
  rw [show e - i = 1 by omega, show e - (i + 1) = 0 by omega]
  exact ⟨by show 100 * R.se 2 = 100 * R.se 2 + 0; omega, rfl⟩
/-- what the row of rests holds from axle i on, of i itself for the first L places -/
def qrs (S : qS) (R : QR) (a e : Nat) (bar : Int) (i L : Nat) : Prop := (∀ i', i < i' → i' ≤ e → ∀ q, q ≤ i' - a → S 122 (32 * (i' - a) + q) = RS R a e bar (e - i') (a + q)) ∧ ∀ q, q < L → S 122 (32 * (i - a) + q) = RS R a e bar (e - i) (a + q)
theorem mplace {n9 : Nat} {S : qS} {a i q : Nat} {p0 p1 p2 : Int} (h0 : p0 = (a : Int)) (h1 : p1 = (i : Int)) (h2 : p2 = (q : Int)) (h : a ≤ i) : MX4_place n9 S p0 p1 p2 = some ((32 * (i - a) + q : Nat) : Int) := by
  unfold MX4_place
  congr 1
  omega
theorem canPair_ok {n9 : Nat} {S : qS} {i e : Nat} {bar p0 p1 : Int} (h0 : p0 = (i : Int)) (h1 : p1 = (e : Int)) (hi : i ≤ 40) (he : e ≤ 40) (hbar : qR bar) : MX4_canPair n9 S p0 p1 bar = some (if i + 1 < e ∧ qok bar i = true then 1 else 0) := by
  subst h0
  subst h1
  unfold MX4_canPair
  rw [qg_t (by constructor <;> omega), qg_t (by constructor <;> omega)]
  by_cases h : (e : Int) ≤ (i : Int) + 1
  · rw [if_pos h, if_neg (by omega)]
  · rw [if_neg h, qg_t (by constructor <;> omega), qg_t hbar]
    unfold qok
    by_cases h2 : (i : Int) = bar
    · rw [if_pos h2, if_neg (by simp [h2])]
    · rw [if_neg h2]
      by_cases h3 : (i : Int) + 1 = bar
      · rw [if_pos h3, if_neg (by simp [h3])]
      · rw [if_neg h3, if_pos (by simp [h2, h3]; omega)]
theorem size_ok {n9 : Nat} {S : qS} {v : Int} (h : qR v) : MX4_size n9 S v = some (qabs v) := by
  unfold MX4_size qabs
  rw [qg_t h]
  split <;> rfl
theorem mcarCost_ok {n9 : Nat} {S : qS} {w i : Nat} {R : QR} {p : Int} (hw : wr2 w) (hV : QV R) (hM : QMr S w R) (hp : p = (i : Int)) (hi : i + 1 < R.n) : MX4_carCost n9 S w p = some (qcc R i) := by
  have h30 := hV.n30
  have h1 := hV.pa (i + 1) hi
  have h2 := hV.s0
  have h3 := hV.we i (by omega)
  have h4 := hV.we (i + 1) hi
  have e1 : S w (35 + p + 1).toNat = R.pa (i + 1) := by rw [show (35 + p + 1).toNat = 35 + (i + 1) by omega]; exact hM.pa _ hi
  have e2 : S w (65 + p).toNat = R.we i := by rw [show (65 + p).toNat = 65 + i by omega]; exact hM.we _ (by omega)
  have e3 : S w (65 + p + 1).toNat = R.we (i + 1) := by rw [show (65 + p + 1).toNat = 65 + (i + 1) by omega]; exact hM.we _ hi
  unfold MX4_carCost
  rw [qg_t hw.g, hw.l, qg_t (by omega), qg_t (by omega), e1, hM.c3.2.2.1, qb_s (size_ok (by constructor <;> omega)), qg_t (by omega), qg_t (by omega), e2, e3, qb_s (size_ok (by constructor <;> omega))]
  rfl
theorem withStray_ok {n9 : Nat} {S : qS} {w a i q e : Nat} {bar : Int} {R : QR} {p2 p3 p4 : Int} (hw : wr2 w) (hV : QV R) (hM : QMr S w R) (he : e ≤ R.n) (ha : a ≤ i) (hi : i < e) (hq : q ≤ i - a) (hr : qrs S R a e bar i q) (h2 : p2 = (a : Int)) (h3 : p3 = (i : Int)) (h4 : p4 = (q : Int)) :
    MX4_withStray n9 S w p2 p3 p4 = some (100 * R.se 2 + RS R a e bar (e - (i + 1)) (a + q)) := by
  have h30 := hV.n30
  unfold MX4_withStray
  rw [qg_t hw.g, hw.l, qg_t (by omega), qb_s (mplace (a := a) (i := i + 1) (q := q) h2 (by omega) h4 (by omega)), qg_t (by omega), hM.c3.1, toNat_c, hr.1 (i + 1) (by omega) (by omega) q (by omega)]
theorem withCar_ok {n9 : Nat} {S : qS} {w a i q L e : Nat} {bar : Int} {R : QR} {p2 p3 p4 : Int} (hw : wr2 w) (hV : QV R) (hM : QMr S w R) (he : e ≤ R.n) (ha : a ≤ i) (hi : i + 1 < e) (hq : q ≤ i - a) (hr : qrs S R a e bar i L) (hs : ∀ j, j < R.n → S 123 j = qps R (j + 1)) (h2 : p2 = (a : Int)) (h3 : p3 = (i : Int)) (h4 : p4 = (q : Int)) :
    MX4_withCar n9 S w p2 p3 p4 = some (100 * (qcc R i + qgp R a (a + q) i) - 1 + RS R a e bar (e - (i + 2)) (i + 2)) := by
  have h30 := hV.n30
  have hs1 := hV.s1
  have hrest := hr.1 (i + 2) (by omega) (by omega) (i + 2 - a) (Nat.le_refl _)
  rw [show a + (i + 2 - a) = i + 2 by omega] at hrest
  unfold MX4_withCar
  rw [qg_t hw.g, qg_t (by constructor <;> omega)]
  simp only [ql]
  have hK : ∀ v : Int, (qb (MX4_carCost n9 S w p3) fun a4 => qb (MX4_place n9 S p2 (p3 + 2) ((p3 + 2) - p2)) fun a6 => qg (0 ≤ a6 ∧ a6 < 1024) <| some (((100 * (a4 + v)) - 1) + (S 122 a6.toNat))) = some (100 * (qcc R i + v) - 1 + RS R a e bar (e - (i + 2)) (i + 2)) := fun v => by
    rw [qb_s (mcarCost_ok hw hV hM h3 (by omega)), qb_s (mplace (a := a) (i := i + 2) (q := i + 2 - a) h2 (by omega) (by omega) (by omega)), qg_t (by omega), toNat_c, hrest]
  by_cases hq0 : q = 0
  · rw [if_pos (by omega), hK]
    unfold qgp
    rw [if_pos (by omega)]
  · have hps := qps_mono hV (b := a + q) (i := i + 1) (by omega) (by omega)
    have e1 : S 123 p3.toNat = qps R (i + 1) := by rw [show p3.toNat = i by omega]; exact hs i (by omega)
    have e2 : S 123 (p2 + p4 - 1).toNat = qps R (a + q) := by rw [show (p2 + p4 - 1).toNat = a + q - 1 by omega, hs _ (by omega), show a + q - 1 + 1 = a + q by omega]
    have hg : MX4_gapCost n9 S w (p2 + p4 - 1) p3 = some (qgp R a (a + q) i) := by
      unfold MX4_gapCost qgp
      rw [qg_t hw.g, qg_t (by omega), qg_t (by omega)]
      simp only [ql]
      rw [e1, e2, hw.l, qg_t (by omega), hM.c3.2.1, qg_t (by constructor <;> omega), qg_t (by constructor <;> omega), if_neg (show ¬ a + q = a by omega)]
      by_cases h : R.se 1 ≤ qps R (i + 1) - qps R (a + q)
      · rw [if_pos h, if_neg (by omega)]
      · rw [if_neg h, qg_t (by omega), if_pos (by omega)]
    rw [if_neg (by omega), qb_s hg, hK]
