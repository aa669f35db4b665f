/-! copies -/
def aRec (u p j : Nat) : Bool := p == u + 1 || p == u + 2 || p == u + 3 || p == u + 4 || (p == u && j == 4)
theorem copy_l11_ok {u0 u1 : Nat} (hd : u0 + 5 ≤ u1 ∨ u1 + 5 ≤ u0) (k : qS → Option qS) : ∀ (d f i : Nat) (S : qS) (x : Int), x = (i : Int) → i + d = 30 → d < f → (∀ j, j < i → S (u1 + 1) j = S (u0 + 1) j ∧ S (u1 + 2) j = S (u0 + 2) j ∧ S (u1 + 3) j = S (u0 + 3) j) →
    ∃ S', qH (aRec u1) S S' ∧ (∀ j, j < 30 → S' (u1 + 1) j = S' (u0 + 1) j ∧ S' (u1 + 2) j = S' (u0 + 2) j ∧ S' (u1 + 3) j = S' (u0 + 3) j) ∧ MX3_copy_l11 u0 u1 k f S x = k S' := by
  intro d
  induction d with
  | zero =>
    intro f i S x hx hi hf h
    cases f with
    | zero => omega
    | succ f =>
      refine ⟨S, qH.rfl, fun j hj => h j (by omega), ?_⟩
      rw [MX3_copy_l11, qg_t (by constructor <;> omega), if_pos (by omega)]
  | succ d ih =>
    intro f i S x hx hi hf h
    cases f with
    | zero => omega
    | succ f =>
      rw [MX3_copy_l11, qg_t (by constructor <;> omega), if_neg (by omega)]
      simp only [ql]
      rw [qg_t (by omega), qg_t (by omega), qg_t (by omega), qg_t (by omega), qg_t (by omega), qg_t (by omega), show x.toNat = i by omega]
      rw [q2_p (S := S) (q := u0 + 2) (by omega), q2_p (S := q2 S (u1 + 1) i (S (u0 + 1) i)) (q := u0 + 3) (by omega), q2_p (S := S) (q := u0 + 3) (by omega)]
      generalize hS1 : q2 (q2 (q2 S (u1 + 1) i _) (u1 + 2) i _) (u1 + 3) i _ = S1
      have hH1 : qH (aRec u1) S S1 := hS1 ▸ (((qH.rfl.q2 (by simp [aRec])).q2 (by simp [aRec])).q2 (by simp [aRec]))
      have g0 : ∀ p j, p ≠ u1 + 1 → p ≠ u1 + 2 → p ≠ u1 + 3 → S1 p j = S p j := fun p j h1 h2 h3 => by rw [← hS1, q2_p h3, q2_p h2, q2_p h1]
      obtain ⟨S', e1, e2, e3⟩ := ih f (i + 1) S1 (x + 1) (by omega) (by omega) (by omega) (fun j hj => by
        rw [g0 (u0 + 1) j (by omega) (by omega) (by omega), g0 (u0 + 2) j (by omega) (by omega) (by omega), g0 (u0 + 3) j (by omega) (by omega) (by omega)]
        by_cases hji : j = i
        · subst hji
          refine ⟨?_, ?_, ?_⟩
          · rw [← hS1, q2_p (by omega), q2_p (by omega), q2_s]
          · rw [← hS1, q2_p (by omega), q2_s]
          · rw [← hS1, q2_s]
        · obtain ⟨a1, a2, a3⟩ := h j (by omega)
          refine ⟨?_, ?_, ?_⟩
          · rw [← hS1, q2_p (by omega), q2_p (by omega), q2_j hji]; exact a1
          · rw [← hS1, q2_p (by omega), q2_j hji, q2_p (by omega)]; exact a2
          · rw [← hS1, q2_j hji, q2_p (by omega), q2_p (by omega)]; exact a3)
      exact ⟨S', qH.tr hH1 e1, e2, e3⟩
theorem copy_l61_ok {u0 u1 : Nat} (hd : u0 + 5 ≤ u1 ∨ u1 + 5 ≤ u0) (k : qS → Option qS) : ∀ (d f i : Nat) (S : qS) (x : Int), x = (i : Int) → i + d = 4 → d < f → (∀ j, j < i → S (u1 + 4) j = S (u0 + 4) j) →
    ∃ S', (∀ p j, p ≠ u1 + 4 → S' p j = S p j) ∧ (∀ j, j < 4 → S' (u1 + 4) j = S (u0 + 4) j) ∧ MX3_copy_l61 u0 u1 k f S x = k S' := by
  intro d
  induction d with
  | zero =>
    intro f i S x hx hi hf h
    cases f with
    | zero => omega
    | succ f =>
      refine ⟨S, fun _ _ _ => rfl, fun j hj => h j (by omega), ?_⟩
      rw [MX3_copy_l61, qg_t (by constructor <;> omega), if_pos (by omega)]
  | succ d ih =>
    intro f i S x hx hi hf h
    cases f with
    | zero => omega
    | succ f =>
      rw [MX3_copy_l61, qg_t (by constructor <;> omega), if_neg (by omega)]
      simp only [ql]
      rw [qg_t (by omega), qg_t (by omega), show x.toNat = i by omega]
      generalize hS1 : q2 S (u1 + 4) i _ = S1
      have g0 : ∀ p j, p ≠ u1 + 4 → S1 p j = S p j := fun p j h1 => by rw [← hS1, q2_p h1]
      obtain ⟨S', e1, e2, e3⟩ := ih f (i + 1) S1 (x + 1) (by omega) (by omega) (by omega) (fun j hj => by
        rw [g0 (u0 + 4) j (by omega)]
        by_cases hji : j = i
        · subst hji; rw [← hS1, q2_s]
        · rw [← hS1, q2_j hji]; exact h j (by omega))
      exact ⟨S', fun p j hp => by rw [e1 p j hp, g0 p j hp], fun j hj => by rw [e2 j hj, g0 _ _ (by omega)], e3⟩
theorem copy_ok {n9 u0 u1 : Nat} {S : qS} (hn : 40 ≤ n9) (h0 : qk u0 = 2) (h1 : qk u1 = 2) (hd : u0 + 5 ≤ u1 ∨ u1 + 5 ≤ u0) :
    ∃ S', MX3_copy n9 S u0 u1 = some S' ∧ qH (aRec u1) S S' ∧ (∀ R, R.n ≤ 30 → QCr S u0 R → QCr S' u1 R) := by
  obtain ⟨S1, e1, e2, e3⟩ := copy_l11_ok hd (fun S1 => MX3_copy_l61 u0 u1 (fun S3 => some (q2 S3 u1 4 (S3 u0 4))) n9 S1 0) 30 n9 0 S 0 rfl rfl (by omega) (fun j hj => absurd hj (Nat.not_lt_zero j))
  obtain ⟨S2, g1, g2, g3⟩ := copy_l61_ok hd (fun S3 => some (q2 S3 u1 4 (S3 u0 4))) 4 n9 0 S1 0 rfl rfl (by omega) (fun j hj => absurd hj (Nat.not_lt_zero j))
  have f0 : ∀ p j, u0 ≤ p → p ≤ u0 + 4 → S1 p j = S p j := fun p j h2 h3 => e1 p j (by unfold aRec; simp; omega)
  refine ⟨q2 S2 u1 4 (S2 u0 4), ?_, ?_, ?_⟩
  · unfold MX3_copy
    rw [qg_t h0, qg_t h1]
    simp only [ql]
    rw [e3, g3]
  · refine qH.q2 (qH.tr e1 (fun p j h => g1 p j ?_)) (by simp [aRec])
    intro e; subst e; simp [aRec] at h
  · intro R h30 hC
    refine ⟨?_, fun j hj => ?_, fun j hj => ?_, fun t ht => ?_, fun k hk => ?_⟩
    · rw [q2_s, g1 _ _ (by omega), f0 _ _ (by omega) (by omega)]; exact hC.n
    · rw [q2_p (by omega), g1 _ _ (by omega), (e2 j (by omega)).1, f0 _ _ (by omega) (by omega)]; exact hC.pa j hj
    · rw [q2_p (by omega), g1 _ _ (by omega), (e2 j (by omega)).2.1, f0 _ _ (by omega) (by omega)]; exact hC.we j hj
    · rw [q2_p (by omega), g1 _ _ (by omega), (e2 t (by omega)).2.2, f0 _ _ (by omega) (by omega)]; exact hC.bi t ht
    · rw [q2_p (by omega), g2 k hk, f0 _ _ (by omega) (by omega)]; exact hC.se k hk
/-- the reference's copy: from the left, where it is within one row -/
theorem mcopy_l_ok {u0 u2 a b m : Nat} (ha : a + m ≤ qlen u0) (hb : b + m ≤ qlen u2) (hsh : u0 ≠ u2 ∨ b ≤ a) (hm : m < 2000000000) (S0 : qS) : ∀ (d f i : Nat) (S : qS) (x : Int), x = (i : Int) → i + d = m → d < f → (∀ p j, S p j = if p = u2 ∧ b ≤ j ∧ j < b + i then S0 u0 (j - b + a) else S0 p j) →
    ∃ S', MX4_copy_l3 u0 (a : Int) u2 (b : Int) (m : Int) f S x = some S' ∧ (∀ p j, S' p j = if p = u2 ∧ b ≤ j ∧ j < b + m then S0 u0 (j - b + a) else S0 p j) := by
  intro d
  induction d with
  | zero =>
    intro f i S x hx hi hf h
    cases f with
    | zero => omega
    | succ f =>
      have : i = m := by omega
      subst this
      refine ⟨S, ?_, h⟩
      rw [MX4_copy_l3, qg_t (by constructor <;> omega), qg_t (by constructor <;> omega), if_pos (by omega)]
  | succ d ih =>
    intro f i S x hx hi hf h
    cases f with
    | zero => omega
    | succ f =>
      have hv : S u0 (a + i) = S0 u0 (a + i) := by rw [h, if_neg (by omega)]
      rw [MX4_copy_l3, qg_t (by constructor <;> omega), qg_t (by constructor <;> omega), if_neg (by omega), qg_t (by omega), qg_t (by omega)]
      simp only [ql]
      rw [show ((b : Int) + x).toNat = b + i by omega, show ((a : Int) + x).toNat = a + i by omega, hv]
      exact ih f (i + 1) _ (x + 1) (by omega) (by omega) (by omega) (fun p j => by
        by_cases hpj : p = u2 ∧ j = b + i
        · obtain ⟨rfl, rfl⟩ := hpj
          rw [q2_s, if_pos (by omega), show b + i - b + a = a + i by omega]
        · rw [q2_ne hpj, h]
          by_cases hc : p = u2 ∧ b ≤ j ∧ j < b + i
          · rw [if_pos hc, if_pos (by omega)]
          · rw [if_neg hc, if_neg (by omega)])
theorem mcopy_ok {n9 u0 u2 a b m : Nat} {S : qS} {p1 p3 p4 : Int} (h0 : 10 ≤ qk u0) (h2 : 10 ≤ qk u2) (ha : a + m ≤ qlen u0) (hb : b + m ≤ qlen u2) (hsh : u0 ≠ u2 ∨ b ≤ a) (hm : m < n9) (hm2 : m < 2000000000) (e1 : p1 = (a : Int)) (e3 : p3 = (b : Int)) (e4 : p4 = (m : Int)) :
    ∃ S', MX4_copy n9 S u0 p1 u2 p3 p4 = some S' ∧ (∀ p j, S' p j = if p = u2 ∧ b ≤ j ∧ j < b + m then S u0 (j - b + a) else S p j) := by
  subst e1
  subst e3
  subst e4
  obtain ⟨S', g1, g2⟩ := mcopy_l_ok ha hb hsh hm2 S m n9 0 S 0 rfl (by omega) hm (fun p j => by rw [if_neg (by omega)])
  refine ⟨S', ?_, g2⟩
  unfold MX4_copy
  rw [qg_t h0, qg_t h2]
  exact g1
/-! what both sides stand for: the recording, the text, the slots, the states to undo to (the newest first) -/
/-- the reference's row within a longer one -/
abbrev QMo (S : qS) (w o : Nat) (R : QR) : Prop := S w o = (R.n : Int) ∧ (∀ j, j < R.n → S w (o + (35 + j)) = R.pa j) ∧ (∀ j, j < R.n → S w (o + (65 + j)) = R.we j) ∧ (∀ t, t < 30 → S w (o + (5 + t)) = R.bi t) ∧ (∀ k, k < 4 → S w (o + (1 + k)) = R.se k)
theorem QMo.of {S S' : qS} {w w' o o' : Nat} {R : QR} (hn : R.n ≤ 30) (h : QMo S w o R) (hc : ∀ j, j < 95 → S' w' (o' + j) = S w (o + j)) : QMo S' w' o' R :=
  ⟨by have := hc 0 (by omega); rw [Nat.add_zero, Nat.add_zero] at this; rw [this]; exact h.1, fun j hj => by rw [hc _ (by omega)]; exact h.2.1 j hj, fun j hj => by rw [hc _ (by omega)]; exact h.2.2.1 j hj, fun t ht => by rw [hc _ (by omega)]; exact h.2.2.2.1 t ht, fun k hk => by rw [hc _ (by omega)]; exact h.2.2.2.2 k hk⟩
theorem QMr.o {S : qS} {w : Nat} {R : QR} (h : QMr S w R) : QMo S w 0 R := ⟨h.n, fun j hj => by rw [Nat.zero_add]; exact h.pa j hj, fun j hj => by rw [Nat.zero_add]; exact h.we j hj, fun t ht => by rw [Nat.zero_add]; exact h.bi t ht, fun k hk => by rw [Nat.zero_add]; exact h.se k hk⟩
theorem QMo.r {S : qS} {w : Nat} {R : QR} (h : QMo S w 0 R) : QMr S w R := by
  obtain ⟨h1, h2, h3, h4, h5⟩ := h
  simp only [Nat.zero_add] at h2 h3 h4 h5
  exact ⟨h1, h2, h3, h4, h5⟩
abbrev QA : Type := QR × (Nat × (Nat → Int)) × (Nat → Option QR) × List QR
def QA.R (A : QA) : QR := A.1
def QA.len (A : QA) : Nat := A.2.1.1
def QA.ch (A : QA) : Nat → Int := A.2.1.2
def QA.sv (A : QA) : Nat → Option QR := A.2.2.1
def QA.U (A : QA) : List QR := A.2.2.2
abbrev AOk (A : QA) : Prop := QV A.R ∧ (A.len ≤ 120 ∧ ∀ j, j < A.len → 0 ≤ A.ch j ∧ A.ch j ≤ 255) ∧ (∀ k, k < 2 → ∀ R, A.sv k = some R → QV R) ∧ (A.U.length ≤ 14 ∧ ∀ R, R ∈ A.U → QV R)
/-- the class's half -/
abbrev CR (S : qS) (A : QA) : Prop := (QCr S 7 A.R ∧ S 19 0 = 0) ∧ (S 1 1 = (A.len : Int) ∧ ∀ j, j < A.len → S 2 j = A.ch j) ∧ (∀ k, k < 2 → (S 29 k = if (A.sv k).isSome = true then 1 else 0) ∧ ∀ R, A.sv k = some R → QCr S (100 + 5 * k) R) ∧
  ((0 ≤ S 0 7 ∧ S 0 7 < 14) ∧ S 0 8 = (A.U.length : Int) ∧ ∀ i R, A.U[i]? = some R → QCr S (30 + 5 * (((S 0 7).toNat + 13 - i) % 14)) R)
/-- the reference's half -/
abbrev MR (S : qS) (A : QA) : Prop := QMr S 117 A.R ∧ (S 110 2 = (A.len : Int) ∧ ∀ j, j < A.len → S 111 j = A.ch j) ∧ (∀ k, k < 2 → (S 121 k = if (A.sv k).isSome = true then 1 else 0) ∧ ∀ R, A.sv k = some R → QMo S 120 (95 * k) R) ∧
  (S 110 15 = (A.U.length : Int) ∧ ∀ i R, A.U[i]? = some R → QMo S 119 (95 * (A.U.length - 1 - i)) R)
/-- what the class's half rests on -/
def cK (p j : Nat) : Bool := p == 0 || (p == 1 && j == 1) || p == 2 || (7 ≤ p && p ≤ 11) || p == 29 || (30 ≤ p && p ≤ 109)
def mK (p j : Nat) : Bool := (p == 110 && (j == 2 || j == 15)) || p == 111 || p == 117 || p == 119 || p == 120 || p == 121
theorem CR.keep {S S' : qS} {A : QA} (h : CR S A) (hk : ∀ p j, cK p j = true → S' p j = S p j) (h19 : S' 19 0 = 0) : CR S' A := by
  obtain ⟨⟨h1, h2⟩, ⟨h3, h4⟩, h5, h6, h7, h8⟩ := h
  have e : ∀ p, (p = 0 ∨ p = 2 ∨ (7 ≤ p ∧ p ≤ 11) ∨ p = 29 ∨ (30 ≤ p ∧ p ≤ 109)) → S' p = S p := fun p hp => funext fun j => hk p j (by unfold cK; simp; omega)
  have er : ∀ r, (r = 7 ∨ (30 ≤ r ∧ r ≤ 105)) → ∀ R, QCr S r R → QCr S' r R := fun r hr R hC => by
    unfold QCr
    rw [e r (by omega), e (r + 1) (by omega), e (r + 2) (by omega), e (r + 3) (by omega), e (r + 4) (by omega)]
    exact hC
  refine ⟨⟨er 7 (Or.inl rfl) _ h1, h19⟩, ⟨by rw [hk 1 1 rfl]; exact h3, by rw [e 2 (by omega)]; exact h4⟩, fun k hk2 => ⟨by rw [e 29 (by omega)]; exact (h5 k hk2).1, fun R hR => er _ (by omega) R ((h5 k hk2).2 R hR)⟩, by rw [e 0 (by omega)]; exact h6, by rw [e 0 (by omega)]; exact h7, fun i R hR => by
    rw [e 0 (by omega)]
    exact er _ (by omega) R (h8 i R hR)⟩
theorem MR.keep {S S' : qS} {A : QA} (h : MR S A) (hk : ∀ p j, mK p j = true → S' p j = S p j) : MR S' A := by
  obtain ⟨h1, ⟨h3, h4⟩, h5, h6, h7⟩ := h
  have e : ∀ p, (p = 111 ∨ p = 117 ∨ p = 119 ∨ p = 120 ∨ p = 121) → S' p = S p := fun p hp => funext fun j => hk p j (by unfold mK; rcases hp with rfl | rfl | rfl | rfl | rfl <;> simp)
  refine ⟨?_, ⟨by rw [hk 110 2 rfl]; exact h3, by rw [e 111 (by omega)]; exact h4⟩, fun k hk2 => ⟨by rw [e 121 (by omega)]; exact (h5 k hk2).1, fun R hR => ?_⟩, by rw [hk 110 15 rfl]; exact h6, fun i R hR => ?_⟩
  · unfold QMr
    rw [e 117 (by omega)]
    exact h1
  · unfold QMo
    rw [e 120 (by omega)]
    exact (h5 k hk2).2 R hR
  · unfold QMo
    rw [e 119 (by omega)]
    exact h7 i R hR
