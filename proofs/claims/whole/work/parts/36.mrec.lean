/-! changes of a recording: the reference -/
def aW (w p _j : Nat) : Bool := p == w
theorem mrollIn_ok {n9 : Nat} {S : qS} {w : Nat} {R : QR} {p x : Int} (hw : wr2 w) (hV : QV R) (hM : QMr S w R) (hn : R.n < 30) :
    ∃ S', MX4_rollIn n9 S w p x = some ((R.n : Int), S') ∧ QMr S' w (qadd R p x) ∧ qH (aW w) S S' := by
  have e0 : (35 + (R.n : Int)).toNat = 35 + R.n := by omega
  have e1 : (65 + (R.n : Int)).toNat = 65 + R.n := by omega
  generalize hS' : q2 (q2 (q2 S w (35 + R.n) p) w (65 + R.n) x) w 0 ((R.n : Int) + 1) = S'
  have hr : ∀ j, S' w j = if j = 0 then (R.n : Int) + 1 else if j = 65 + R.n then x else if j = 35 + R.n then p else S w j := fun j => by
    rw [← hS', q2_at, q2_at, q2_at]
  refine ⟨S', ?_, ⟨?_, fun j hj => ?_, fun j hj => ?_, fun t ht => ?_, fun k hk => ?_⟩, hS' ▸ (((qH.rfl.q2 (by simp [aW])).q2 (by simp [aW])).q2 (by simp [aW]))⟩
  · unfold MX4_rollIn
    rw [qg_t hw.g, hw.l, qg_t (by omega)]
    simp only [ql]
    rw [hM.c3.2.2.2.2, qg_t (by omega), e0, qg_t (by omega), e1, qg_t (by omega), qg_t (by omega)]
    show some ((R.n : Int), q2 (q2 (q2 S w (35 + R.n) p) w (65 + R.n) x) w 0 ((q2 (q2 S w (35 + R.n) p) w (65 + R.n) x) w 0 + 1)) = _
    rw [q2_j (S := q2 S w (35 + R.n) p) (i := 0) (by omega), q2_j (S := S) (i := 0) (by omega), hM.n, hS']
  · rw [hr, if_pos rfl]; show (R.n : Int) + 1 = ((R.n + 1 : Nat) : Int); omega
  · have hj : j < R.n + 1 := hj
    rw [hr, if_neg (by omega), if_neg (by omega)]
    show _ = if j = R.n then p else R.pa j
    by_cases h : j = R.n
    · rw [if_pos (by omega), if_pos h]
    · rw [if_neg (by omega), if_neg h]; exact hM.pa j (by omega)
  · have hj : j < R.n + 1 := hj
    rw [hr, if_neg (by omega)]
    show _ = if j = R.n then x else R.we j
    by_cases h : j = R.n
    · rw [if_pos (by omega), if_pos h]
    · rw [if_neg (by omega), if_neg (by omega), if_neg h]; exact hM.we j (by omega)
  · rw [hr, if_neg (by omega), if_neg (by omega), if_neg (by omega)]; exact hM.bi t ht
  · rw [hr, if_neg (by omega), if_neg (by omega), if_neg (by omega)]; exact hM.se k hk
theorem cutOut_ok {n9 w a c : Nat} {S : qS} {R : QR} {p1 p2 : Int} (hw : wr2 w) (hn : 2000 ≤ n9) (hV : QV R) (hM : QMr S w R) (h : a + c ≤ R.n) (h1 : p1 = (a : Int)) (h2 : p2 = (c : Int)) :
    ∃ S', MX4_cutOut n9 S w p1 p2 = some S' ∧ QMr S' w (qdrop R a c) ∧ qH (aW w) S S' := by
  have h30 := hV.n30
  have hl := hw.l
  subst h1
  subst h2
  have hM0 : ∀ T : qS, (∀ j, j < 35 → T w j = S w j) → T w (0 : Int).toNat = (R.n : Int) := fun T hT => (hT 0 (by omega)).trans hM.n
  obtain ⟨S1, c1, c2⟩ := mcopy_ok (n9 := n9) (S := S) (u0 := w) (u2 := w) (a := 35 + a + c) (b := 35 + a) (m := R.n - a - c) (p1 := 35 + (a : Int) + (c : Int)) (p3 := 35 + (a : Int)) (p4 := (R.n : Int) - (a : Int) - (c : Int)) hw.g hw.g (by omega) (by omega) (Or.inr (by omega)) (by omega) (by omega) (by omega) (by omega) (by omega)
  obtain ⟨S2, d1, d2⟩ := mcopy_ok (n9 := n9) (S := S1) (u0 := w) (u2 := w) (a := 65 + a + c) (b := 65 + a) (m := R.n - a - c) (p1 := 65 + (a : Int) + (c : Int)) (p3 := 65 + (a : Int)) (p4 := (R.n : Int) - (a : Int) - (c : Int)) hw.g hw.g (by omega) (by omega) (Or.inr (by omega)) (by omega) (by omega) (by omega) (by omega) (by omega)
  have s1 : ∀ j, j < 35 → S1 w j = S w j := fun j hj => by rw [c2, if_neg (by omega)]
  have s2 : ∀ j, j < 35 → S2 w j = S w j := fun j hj => by rw [d2, if_neg (by omega), s1 j hj]
  refine ⟨q2 S2 w 0 ((R.n : Int) - (c : Int)), ?_, ⟨?_, fun j hj => ?_, fun j hj => ?_, fun t ht => ?_, fun k hk => ?_⟩, fun p j hp => ?_⟩
  · unfold MX4_cutOut
    rw [qg_t hw.g, hl, qg_t (by omega), hM0 S (fun _ _ => rfl), qb_s c1, qg_t (by omega), hM0 S1 s1, qb_s d1, qg_t (by omega), qg_t (by omega), hM0 S2 s2]
    rfl
  · rw [q2_s]; show (R.n : Int) - (c : Int) = ((R.n - c : Nat) : Int); omega
  · have hj : j < R.n - c := hj
    rw [q2_j (by omega), d2, if_neg (by omega), c2]
    show _ = if j < a then R.pa j else R.pa (j + c)
    by_cases hja : j < a
    · rw [if_neg (by omega), if_pos hja]; exact hM.pa j (by omega)
    · rw [if_pos (by omega), if_neg hja, show 35 + j - (35 + a) + (35 + a + c) = 35 + (j + c) by omega]; exact hM.pa _ (by omega)
  · have hj : j < R.n - c := hj
    rw [q2_j (by omega), d2]
    show _ = if j < a then R.we j else R.we (j + c)
    by_cases hja : j < a
    · rw [if_neg (by omega), if_pos hja, c2, if_neg (by omega)]; exact hM.we j (by omega)
    · rw [if_pos (by omega), if_neg hja, show 65 + j - (65 + a) + (65 + a + c) = 65 + (j + c) by omega, c2, if_neg (by omega)]; exact hM.we _ (by omega)
  · rw [q2_j (by omega), s2 _ (by omega)]; exact hM.bi t ht
  · rw [q2_j (by omega), s2 _ (by omega)]; exact hM.se k hk
  · have hpw : p ≠ w := by intro e; subst e; simp [aW] at hp
    rw [q2_p hpw, d2, if_neg (by omega), c2, if_neg (by omega)]
theorem mstrikeIn_ok {n9 w i : Nat} {S : qS} {R : QR} {p : Int} (hw : wr2 w) (hn : 2000 ≤ n9) (hV : QV R) (hM : QMr S w R) (hi : i < R.n) (hp : p = (i : Int)) :
    ∃ S', MX4_strikeIn n9 S w p = some ((R.n : Int) - 1, S') ∧ QMr S' w (qstrike R i) ∧ qH (aW w) S S' := by
  have h30 := hV.n30
  have hl := hw.l
  obtain ⟨S1, e1, e2, e3⟩ := cutOut_ok (n9 := n9) (a := i) (c := 1) (p1 := p) (p2 := 1) hw hn hV hM (by omega) hp rfl
  have hdn : ((qdrop R i 1).n : Int) = (R.n : Int) - 1 := by show ((R.n - 1 : Nat) : Int) = _; omega
  have eix : (35 + p).toNat = 35 + i := by omega
  have k0 := e2.c3.2.2.2.2
  have hpa := hM.pa i hi
  unfold MX4_strikeIn
  rw [qg_t hw.g, hl, qg_t (by omega)]
  simp only [ql]
  rw [qb_s e1, qg_t (by omega), qg_t (by constructor <;> omega), k0, hdn, qg_t (by constructor <;> omega)]
  by_cases h : (R.n : Int) - 1 ≤ p
  · rw [if_pos h, qg_t (by omega)]
    refine ⟨S1, rfl, ⟨e2.n, fun j hj => ?_, e2.we, e2.bi, e2.se⟩, e3⟩
    have hj : j < R.n - 1 := hj
    rw [e2.pa j hj]
    show (if j < i then R.pa j else R.pa (j + 1)) = if j < i then R.pa j else if j = i then qmin (R.pa (i + 1) + R.pa i) 60 else R.pa (j + 1)
    rw [if_pos (by omega), if_pos (by omega)]
  · have e5 : S1 w (35 + i) = R.pa (i + 1) := by rw [e2.pa i (by show i < R.n - 1; omega)]; show (if i < i then R.pa i else R.pa (i + 1)) = _; rw [if_neg (by omega)]
    have a1 := hV.pa (i + 1) (by omega)
    have a2 := hV.pa i hi
    have hK : ∀ v : Int, v = qmin (R.pa (i + 1) + R.pa i) 60 → ∃ S', (qg (0 ≤ 35 + p ∧ 35 + p < ((95 : Nat) : Int)) (qg (0 ≤ (0 : Int) ∧ (0 : Int) < ((95 : Nat) : Int)) (some ((q2 S1 w (35 + i) v) w (0 : Int).toNat, q2 S1 w (35 + i) v)))) = some ((R.n : Int) - 1, S') ∧ QMr S' w (qstrike R i) ∧ qH (aW w) S S' := by
      intro v hv
      rw [qg_t (by omega), qg_t (by omega), q2_j (S := S1) (by show (0 : Nat) ≠ _; omega), k0, hdn]
      refine ⟨_, rfl, ⟨by rw [q2_j (by omega)]; exact e2.n, fun j hj => ?_, fun j hj => by rw [q2_j (by have : j < R.n - 1 := hj; omega)]; exact e2.we j hj, fun t ht => by rw [q2_j (by omega)]; exact e2.bi t ht, fun k hk => by rw [q2_j (by omega)]; exact e2.se k hk⟩, e3.q2 (by simp [aW])⟩
      rw [q2_at]
      show _ = if j < i then R.pa j else if j = i then qmin (R.pa (i + 1) + R.pa i) 60 else R.pa (j + 1)
      by_cases h1 : j = i
      · rw [if_pos (by omega), if_neg (by omega), if_pos h1, hv]
      · rw [if_neg (by omega), e2.pa j hj]
        show (if j < i then R.pa j else R.pa (j + 1)) = _
        by_cases h2 : j < i
        · rw [if_pos h2, if_pos h2]
        · rw [if_neg h2, if_neg h2, if_neg h1]
    rw [if_neg h, qg_t (by omega), eix, e5, hpa, qg_t (by constructor <;> omega)]
    by_cases h6 : R.pa (i + 1) + R.pa i ≤ 60
    · rw [if_pos h6]
      exact hK _ (by unfold qmin; rw [if_neg (by omega)])
    · rw [if_neg h6]
      exact hK _ (by unfold qmin; rw [if_pos (by omega)])
theorem misSetting_ok {n9 : Nat} {S : qS} {p v : Int} (hp : qR p) (hv : qR v) : MX4_isSetting n9 S p v = some (if qsi p v then 1 else 0) := by
  have hin : ∀ lo hi : Int, qRl lo → qRl hi → MX4_in n9 S v lo hi = some (if lo ≤ v ∧ v ≤ hi then 1 else 0) := fun lo hi h1 h2 => in_ok (qRl_of hv) h1 h2
  unfold MX4_isSetting
  rw [qg_t hp]
  simp only [ql]
  by_cases h0 : p = 0
  · rw [if_pos h0, qg_t hv, qb_s (hin 1 20 (by decide) (by decide)), qg_t q01R]
    by_cases h : 1 ≤ v ∧ v ≤ 20
    · rw [if_pos h, if_neg (by decide), if_pos (by omega)]
    · rw [if_neg h, if_pos rfl, if_neg (by omega), if_neg (by omega), if_neg (by omega), if_neg (by omega)]
  · rw [if_neg h0]
    by_cases h1 : p = 1
    · rw [if_pos h1, qg_t hv, qb_s (hin 1 40 (by decide) (by decide)), qg_t q01R]
      by_cases h : 1 ≤ v ∧ v ≤ 40
      · rw [if_pos h, if_neg (by decide), if_pos (by omega)]
      · rw [if_neg h, if_pos rfl, if_neg (by omega), if_neg (by omega), if_neg (by omega)]
    · rw [if_neg h1]
      by_cases h2 : p = 2
      · rw [if_pos h2, qg_t hv, qb_s (hin 0 60 (by decide) (by decide)), qg_t q01R]
        by_cases h : 0 ≤ v ∧ v ≤ 60
        · rw [if_pos h, if_neg (by decide), if_pos (by omega)]
        · rw [if_neg h, if_pos rfl, if_neg (by omega), if_neg (by omega)]
      · rw [if_neg h2]
        by_cases h3 : p = 3
        · rw [if_pos h3, qg_t hv, qb_s (hin 2 60 (by decide) (by decide)), qg_t q01R]
          by_cases h : 2 ≤ v ∧ v ≤ 60
          · rw [if_pos h, if_neg (by decide), if_pos (by omega)]
          · rw [if_neg h, if_pos rfl, if_neg (by omega)]
        · rw [if_neg h3, if_neg (by omega)]
