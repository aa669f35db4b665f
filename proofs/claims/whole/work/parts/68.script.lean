/-! runScript -/
def qrsc (s : Int) (n : Nat) : Nat → Nat → QR → Int
  | 0, _, _ => -1
  | d + 1, k, T => match qcm T (qwg s (n - 1 - k) % 100000) with
    | none => (k : Int)
    | some T' => qrsc s n d (k + 1) T'
theorem qrsc_none {s : Int} {n d k : Nat} {T : QR} (h : qcm T (qwg s (n - 1 - k) % 100000) = none) : qrsc s n (d + 1) k T = (k : Int) := by
  rw [qrsc, h]
theorem qrsc_some {s : Int} {n d k : Nat} {T T' : QR} (h : qcm T (qwg s (n - 1 - k) % 100000) = some T') : qrsc s n (d + 1) k T = qrsc s n d (k + 1) T' := by
  rw [qrsc, h]
theorem qrsc_R {s : Int} {n : Nat} (hn : n ≤ 3) : ∀ (d k : Nat) (T : QR), k + d = n → -1 ≤ qrsc s n d k T ∧ qrsc s n d k T ≤ 3 := by
  intro d
  induction d with
  | zero => intro k T _; show (-1 : Int) ≤ -1 ∧ (-1 : Int) ≤ 3; decide
  | succ d ih =>
    intro k T h
    cases hq : qcm T (qwg s (n - 1 - k) % 100000) with
    | none => rw [qrsc_none hq]; omega
    | some T' => rw [qrsc_some hq]; exact ih (k + 1) T' (by omega)
theorem script_cl {n9 n : Nat} {A : QA} {p1 s : Int} (hn : 2000 ≤ n9) (hs : 0 ≤ s ∧ s < 9223372036854775808) (hp : p1 = (n : Int)) (hn3 : n ≤ 3) : ∀ (d f k : Nat) (S : qS) (x : Int) (T : QR), x = (k : Int) → k + d = n → d < f → CR S A → QV T → QCr S 12 T → ∃ S', MX3_runScript_l62 n9 p1 s f S x = some (Sum.inr (qrsc s n d k T), S') ∧ CR S' A ∧ cOut S S' := by
  intro d
  induction d with
  | zero =>
    intro f k S x T hx hk hf hC hV hT
    cases f with
    | zero => omega
    | succ f =>
      refine ⟨S, ?_, hC, fun _ _ _ => rfl⟩
      rw [MX3_runScript_l62, qg_t (by constructor <;> omega), qg_t (by constructor <;> omega), if_pos (by omega)]
      rfl
  | succ d ih =>
    intro f k S x T hx hk hf hC hV hT
    cases f with
    | zero => omega
    | succ f =>
      have hb := qwg_R hs.1 (n - 1 - k)
      obtain ⟨S1, a1, a2, a3, a4⟩ := cmd_c (n9 := n9) (g := qwg s (n - 1 - k) % 100000) hn (by omega) hC hV hT
      rw [MX3_runScript_l62, qg_t (by constructor <;> omega), qg_t (by constructor <;> omega), if_neg (by omega), qb_s (wlg_ok (m := n - 1 - k) (by omega) hs (by omega) (by omega)), qg_t (by omega), qb_s a1]
      dsimp only
      rw [qg_t q01R]
      cases hq : qcm T (qwg s (n - 1 - k) % 100000) with
      | none =>
        rw [qrsc_none hq, hx]
        exact ⟨S1, rfl, a2, a3⟩
      | some T' =>
        rw [qrsc_some hq]
        obtain ⟨S', b1, b2, b3⟩ := ih f (k + 1) S1 (x + 1) T' (by omega) (by omega) (by omega) a2 (qcm_V hV (by omega) hq) (a4 _ hq)
        refine ⟨S', ?_, b2, fun p j hp => (b3 p j hp).trans (a3 p j hp)⟩
        rw [← b1]
        rfl
theorem script_ml {n9 n : Nat} {A : QA} {p1 s : Int} (hn : 2000 ≤ n9) (hs : 0 ≤ s ∧ s < 9223372036854775808) (hp : p1 = (n : Int)) (hn3 : n ≤ 3) : ∀ (d f k : Nat) (S : qS) (x : Int) (T : QR), x = (k : Int) → k + d = n → d < f → MR S A → QV T → QMr S 118 T → ∃ S', MX4_runScript_l62 n9 p1 s f S x = some (qrsc s n d k T, S') ∧ MR S' A ∧ mOut S S' ∧ S' 110 0 = S 110 0 := by
  intro d
  induction d with
  | zero =>
    intro f k S x T hx hk hf hM hV hT
    cases f with
    | zero => omega
    | succ f =>
      refine ⟨S, ?_, hM, fun _ _ _ => rfl, rfl⟩
      rw [MX4_runScript_l62, qg_t (by constructor <;> omega), qg_t (by constructor <;> omega), if_pos (by omega)]
      rfl
  | succ d ih =>
    intro f k S x T hx hk hf hM hV hT
    cases f with
    | zero => omega
    | succ f =>
      have hb := qwg_R hs.1 (n - 1 - k)
      have ht := qten_R (m := n - 1 - k) (by omega)
      have hz := qwg_ten hs.1 (m := n - 1 - k) (by omega)
      obtain ⟨S1, a1, a2, a3, a3', a4⟩ := cmd_m (n9 := n9) (g := qwg s (n - 1 - k) % 100000) hn (by omega) hM hV hT
      rw [MX4_runScript_l62, qg_t (by constructor <;> omega), qg_t (by constructor <;> omega), if_neg (by omega), qb_s (tenTo_ok (m := 5 * (n - 1 - k)) (by omega) (by omega) (by omega)), qg_t (by omega), ← hz, qg_t (by omega), qb_s a1]
      dsimp only
      rw [qg_t q01R]
      cases hq : qcm T (qwg s (n - 1 - k) % 100000) with
      | none =>
        rw [qrsc_none hq, hx]
        exact ⟨S1, rfl, a2, a3, a3'⟩
      | some T' =>
        rw [qrsc_some hq]
        obtain ⟨S', b1, b2, b3, b4⟩ := ih f (k + 1) S1 (x + 1) T' (by omega) (by omega) (by omega) a2 (qcm_V hV (by omega) hq) (a4 _ hq)
        refine ⟨S', ?_, b2, fun p j hp => (b3 p j hp).trans (a3 p j hp), b4.trans a3'⟩
        rw [← b1]
        rfl
theorem qcmp_ng {x y : Int} : qcmp x y < 0 ↔ x < y := by
  unfold qcmp
  split
  · omega
  · split <;> omega
theorem qcmp_z {x y : Int} : qcmp x y = 0 ↔ x = y := by
  unfold qcmp
  split
  · omega
  · split <;> omega
/-- such a script runScript runs -/
def qsk (p s : Int) : Prop := (1 ≤ p ∧ p ≤ 3) ∧ (0 ≤ s ∧ s ≤ qten (5 * p.toNat) - 1)
theorem runScript_c {n9 : Nat} {S : qS} {A : QA} {p s : Int} (hn : 2000 ≤ n9) (hp : qR p) (hs : qRl s) (hA : AOk A) (hC : CR S A) : (¬ qsk p s → COp S (ML_runScript n9 S p s) 1 0 A) ∧ (qsk p s → COp S (ML_runScript n9 S p s) 0 (qrsc s p.toNat p.toNat 0 A.R) A) := by
  have hV := hA.1
  have hs1 := hs.2
  refine ⟨fun hc => ?_, fun hc => ?_⟩
  · have hx : MX3_runScript n9 S p s = some (Sum.inl "java/lang/IllegalArgumentException", S) := by
      unfold MX3_runScript
      rw [qg_t hp, ql]
      by_cases h1 : p < 1
      · rw [if_pos h1]
      rw [if_neg h1]
      by_cases h2 : p ≤ 3
      · rw [if_pos h2, qg_t hs, ql]
        by_cases h3 : s < 0
        · rw [if_pos (qcmp_ng.mpr h3)]
        · rw [if_neg (fun h => h3 (qcmp_ng.mp h))]
          have hb := qwg_R (s := s) (by omega) p.toNat
          have hne : ¬ qwg s p.toNat = 0 := fun h => hc ⟨⟨by omega, h2⟩, by omega, (qwg_z (by omega) (by omega)).mp h⟩
          rw [qb_s (wlg_ok (m := p.toNat) (by omega) ⟨by omega, hs1⟩ (by omega) (by omega)), qg_t (by constructor <;> omega), if_neg (fun h => hne (qcmp_z.mp h))]
      · rw [if_neg h2]
    unfold ML_runScript
    rw [qb_s hx, qyp_l, if_pos rfl]
    exact COp.thr hC (Or.inl rfl)
  · obtain ⟨⟨h1, h2⟩, h3, h4⟩ := hc
    obtain ⟨S1, e1, e2, e3, e4⟩ := try_c (n9 := n9) (by omega) hA hC
    obtain ⟨S2, g1, g2, g3⟩ := script_cl (n9 := n9) (n := p.toNat) (p1 := p) hn ⟨h3, hs1⟩ (by omega) (by omega) p.toNat n9 0 S1 0 A.R rfl (by omega) (by omega) e2 hV e3
    have hb := qrsc_R (s := s) (n := p.toNat) (by omega) p.toNat 0 A.R (by omega)
    have hz : qwg s p.toNat = 0 := (qwg_z h3 (by omega)).mpr h4
    have hx : MX3_runScript n9 S p s = some (Sum.inr (qrsc s p.toNat p.toNat 0 A.R), S2) := by
      unfold MX3_runScript
      rw [qg_t hp, ql, if_neg (by omega), if_pos h2, qg_t hs, ql, if_neg (fun h => absurd (qcmp_ng.mp h) (by omega)), qb_s (wlg_ok (m := p.toNat) (by omega) ⟨h3, hs1⟩ (by omega) (by omega)), hz, qg_t (by decide), if_pos (qcmp_z.mpr rfl), qb_s e1, g1]
    unfold ML_runScript
    rw [qb_s hx, qyp_r, qg_t (by constructor <;> omega), ql]
    exact COp.ret (S' := S2) g2 (fun q j hq => (g3 q j hq).trans (e4 q j hq))
theorem runScript_m {n9 : Nat} {S : qS} {A : QA} {p s : Int} (hn : 2000 ≤ n9) (hp : qR p) (hs : qRl s) (hA : AOk A) (hM : MR S A) : (¬ qsk p s → MOp S (MX4_runScript n9 S p s) 1 0 A) ∧ (qsk p s → MOp S (MX4_runScript n9 S p s) 0 (qrsc s p.toNat p.toNat 0 A.R) A) := by
  have hV := hA.1
  have hs1 := hs.2
  refine ⟨fun hc => ?_, fun hc => ?_⟩
  · have hx : MX4_runScript n9 S p s = some (0, q2 S 110 0 1) := by
      unfold MX4_runScript
      rw [qg_t hp]
      by_cases h1 : 1 ≤ p ∧ p ≤ 3
      · have ht := qten_R (m := p.toNat) (by omega)
        rw [qb_s (in01 hp (by decide) (by decide) h1), qg_t (by decide)]
        simp only [ql]
        rw [if_neg (by decide), if_neg (by decide), qb_s (tenTo_ok (m := 5 * p.toNat) (by omega) (by omega) (by omega)), qb_s (in_ok hs (by decide) (by constructor <;> omega)), qg_t q01R, if_neg (fun h => hc ⟨h1, h⟩), if_pos rfl, qb_s ref1]
        rfl
      · rw [qb_s (in00 hp (by decide) (by decide) h1), qg_t (by decide)]
        dsimp only [ql]
        rw [if_pos rfl, qb_s ref1]
        rfl
    rw [hx]
    exact MOp.no hM (Or.inl rfl)
  · obtain ⟨h1, h3, h4⟩ := hc
    have ht := qten_R (m := p.toNat) (by omega)
    obtain ⟨S1, e1, e2, e3, e4, e5⟩ := try_m (n9 := n9) hn hA (hM.ref (k := 0))
    obtain ⟨S2, g1, g2, g3, g4⟩ := script_ml (n9 := n9) (n := p.toNat) (p1 := p) hn ⟨h3, hs1⟩ (by omega) (by omega) p.toNat n9 0 S1 0 A.R rfl (by omega) (by omega) e2 hV e3
    have hb := qrsc_R (s := s) (n := p.toNat) (by omega) p.toNat 0 A.R (by omega)
    have hx : MX4_runScript n9 S p s = some (qrsc s p.toNat p.toNat 0 A.R, S2) := by
      unfold MX4_runScript
      rw [qg_t hp, qb_s (in01 hp (by decide) (by decide) h1), qg_t (by decide)]
      simp only [ql]
      rw [if_neg (by decide), if_neg (by decide), qb_s (tenTo_ok (m := 5 * p.toNat) (by omega) (by omega) (by omega)), qb_s (in_ok hs (by decide) (by constructor <;> omega)), qg_t q01R, if_pos (show 0 ≤ s ∧ s ≤ qten (5 * p.toNat) - 1 from ⟨h3, h4⟩), if_neg (by decide), qb_s ref0]
      simp only [if_true]
      rw [qg_t (by decide), qb_s e1, g1]
    exact ⟨_, S2, hx, g2, by rw [g4, e5, q2_s], fun _ => rfl, by constructor <;> omega, fun q j hq => ((g3 q j hq).trans (e4 q j hq)).trans (mOut.ref q j hq)⟩
