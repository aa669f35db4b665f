/-! the text: what reading it does, part by part -/
def qch (A : QA) (k : Nat) : Int := if k < A.len then A.ch k else -1
def qdg (A : QA) (k : Nat) : Int := if 48 ≤ qch A k ∧ qch A k ≤ 57 then qch A k - 48 else -1
/-- place, told, how many repeats stand unclosed; pauses and weights told; of each such repeat its times and how many were told before -/
abbrev QX : Type := (Nat × Nat × Nat) × ((Nat → Int) × (Nat → Int)) × ((Nat → Int) × (Nat → Nat))
def QX.pl (X : QX) : Nat := X.1.1
def QX.to (X : QX) : Nat := X.1.2.1
def QX.op (X : QX) : Nat := X.1.2.2
def QX.pa (X : QX) : Nat → Int := X.2.1.1
def QX.we (X : QX) : Nat → Int := X.2.1.2
def QX.ti (X : QX) : Nat → Int := X.2.2.1
def QX.be (X : QX) : Nat → Nat := X.2.2.2
def qmk (pl to op : Nat) (pa we ti : Nat → Int) (be : Nat → Nat) : QX := ((pl, to, op), (pa, we), (ti, be))
theorem qmk_pl {pl to op : Nat} {pa we ti : Nat → Int} {be : Nat → Nat} : (qmk pl to op pa we ti be).pl = pl := rfl
theorem qmk_to {pl to op : Nat} {pa we ti : Nat → Int} {be : Nat → Nat} : (qmk pl to op pa we ti be).to = to := rfl
theorem qmk_op {pl to op : Nat} {pa we ti : Nat → Int} {be : Nat → Nat} : (qmk pl to op pa we ti be).op = op := rfl
theorem qmk_pa {pl to op : Nat} {pa we ti : Nat → Int} {be : Nat → Nat} : (qmk pl to op pa we ti be).pa = pa := rfl
theorem qmk_we {pl to op : Nat} {pa we ti : Nat → Int} {be : Nat → Nat} : (qmk pl to op pa we ti be).we = we := rfl
theorem qmk_ti {pl to op : Nat} {pa we ti : Nat → Int} {be : Nat → Nat} : (qmk pl to op pa we ti be).ti = ti := rfl
theorem qmk_be {pl to op : Nat} {pa we ti : Nat → Int} {be : Nat → Nat} : (qmk pl to op pa we ti be).be = be := rfl
/-- d further entries, each a copy of the one 'row' before -/
def qfl (row : Nat) : Nat → Nat → (Nat → Int) → (Nat → Int)
  | 0, _, f => f
  | d + 1, k, f => qfl row d (k + 1) (fun j => if j = k then f (k - row) else f j)
theorem qfl_lo {row : Nat} : ∀ (d k j : Nat) (f : Nat → Int), j < k → qfl row d k f j = f j := by
  intro d
  induction d with
  | zero => intro k j f _; rfl
  | succ d ih =>
    intro k j f h
    rw [qfl, ih (k + 1) j _ (by omega)]
    show (if j = k then f (k - row) else f j) = f j
    rw [if_neg (by omega)]
theorem qfl_P {row : Nat} {P : Int → Prop} (hr : 0 < row) : ∀ (d k : Nat) (f : Nat → Int), row ≤ k → (∀ j, j < k → P (f j)) → ∀ j, j < k + d → P (qfl row d k f j) := by
  intro d
  induction d with
  | zero => intro k f _ h j hj; exact h j hj
  | succ d ih =>
    intro k f hk h j hj
    rw [qfl]
    refine ih (k + 1) _ (by omega) (fun i hi => ?_) j (by omega)
    show P (if i = k then f (k - row) else f i)
    by_cases e : i = k
    · rw [if_pos e]; exact h _ (by omega)
    · rw [if_neg e]; exact h i (by omega)
/-- how many axles are told when the row is closed -/
def qend (X : QX) : Nat := X.be (X.op - 1) + (X.to - X.be (X.op - 1)) * (X.ti (X.op - 1)).toNat
def qclose (X : QX) : QX := qmk (X.pl + 1) (qend X) (X.op - 1) (qfl (X.to - X.be (X.op - 1)) (min (qend X) 30 - X.to) X.to X.pa) (qfl (X.to - X.be (X.op - 1)) (min (qend X) 30 - X.to) X.to X.we) X.ti X.be
def qopen (A : QA) (X : QX) : QX := qmk (X.pl + 2) X.to (X.op + 1) X.pa X.we (fun k => if k = X.op then qch A X.pl - 48 else X.ti k) (fun k => if k = X.op then X.to else X.be k)
def qaxl (X : QX) (p w : Int) : QX := qmk (X.pl + 4) (X.to + 1) X.op (fun j => if j = X.to then p else X.pa j) (fun j => if j = X.to then w else X.we j) X.ti X.be
/-- the four digits of an axle -/
def qaxx (A : QA) (X : QX) : Sum Nat QX :=
  if ¬ (0 ≤ qdg A X.pl ∧ qdg A X.pl ≤ 6) then Sum.inl X.pl
  else if ¬ (0 ≤ qdg A (X.pl + 1) ∧ 1 ≤ 10 * qdg A X.pl + qdg A (X.pl + 1) ∧ 10 * qdg A X.pl + qdg A (X.pl + 1) ≤ 60) then Sum.inl (X.pl + 1)
  else if ¬ (0 ≤ qdg A (X.pl + 2)) then Sum.inl (X.pl + 2)
  else if ¬ (0 ≤ qdg A (X.pl + 3) ∧ 1 ≤ 10 * qdg A (X.pl + 2) + qdg A (X.pl + 3)) then Sum.inl (X.pl + 3)
  else Sum.inr (qaxl X (10 * qdg A X.pl + qdg A (X.pl + 1)) (10 * qdg A (X.pl + 2) + qdg A (X.pl + 3)))
def qstep (A : QA) (X : QX) : Sum Nat QX :=
  if qch A X.pl = 41 then (if X.op = 0 ∨ X.to = X.be (X.op - 1) then Sum.inl X.pl else Sum.inr (qclose X))
  else if (50 ≤ qch A X.pl ∧ qch A X.pl ≤ 57) ∧ X.op < 3 ∧ qch A (X.pl + 1) = 40 then Sum.inr (qopen A X)
  else if 48 ≤ qch A X.pl ∧ qch A X.pl ≤ 54 then qaxx A X
  else Sum.inl (if (55 ≤ qch A X.pl ∧ qch A X.pl ≤ 57) ∧ X.op < 3 then X.pl + 1 else X.pl)
/-- what keeps the numbers small: each axle read counts once, nine times, .. by how deep it stands -/
abbrev XV (A : QA) (X : QX) : Prop := (X.pl ≤ A.len ∧ X.op ≤ 3) ∧ (∀ k, k < X.op → 2 ≤ X.ti k ∧ X.ti k ≤ 9) ∧
  (∀ j, j < X.to → j < 30 → (1 ≤ X.pa j ∧ X.pa j ≤ 60) ∧ (1 ≤ X.we j ∧ X.we j ≤ 99)) ∧
  ((X.op = 1 → X.be 0 ≤ X.to) ∧ (X.op = 2 → X.be 0 ≤ X.be 1 ∧ X.be 1 ≤ X.to) ∧ (X.op = 3 → X.be 0 ≤ X.be 1 ∧ X.be 1 ≤ X.be 2 ∧ X.be 2 ≤ X.to)) ∧
  ((X.op = 0 → X.to ≤ 729 * X.pl) ∧ (X.op = 1 → X.be 0 + 9 * (X.to - X.be 0) ≤ 729 * X.pl) ∧ (X.op = 2 → X.be 0 + 9 * (X.be 1 - X.be 0) + 81 * (X.to - X.be 1) ≤ 729 * X.pl) ∧ (X.op = 3 → X.be 0 + 9 * (X.be 1 - X.be 0) + 81 * (X.be 2 - X.be 1) + 729 * (X.to - X.be 2) ≤ 729 * X.pl))
theorem XV.to_le {A : QA} {X : QX} (hA : AOk A) (h : XV A X) : X.to ≤ 90000 := by
  obtain ⟨⟨h1, h2⟩, _, _, ⟨a1, a2, a3⟩, b0, b1, b2, b3⟩ := h
  have h120 := hA.2.1.1
  have : X.op = 0 ∨ X.op = 1 ∨ X.op = 2 ∨ X.op = 3 := by omega
  rcases this with e | e | e | e
  · have := b0 e; omega
  · have := b1 e; have := a1 e; omega
  · have := b2 e; have := a2 e; omega
  · have := b3 e; have := a3 e; omega
theorem XV.be_le {A : QA} {X : QX} (h : XV A X) {k : Nat} (hk : k < X.op) : X.be k ≤ X.to := by
  obtain ⟨⟨h1, h2⟩, _, _, ⟨a1, a2, a3⟩, _⟩ := h
  have : X.op = 1 ∨ X.op = 2 ∨ X.op = 3 := by omega
  rcases this with e | e | e
  · have := a1 e
    have e0 : k = 0 := by omega
    subst e0
    omega
  · have := a2 e
    have e0 : k = 0 ∨ k = 1 := by omega
    rcases e0 with rfl | rfl <;> omega
  · have := a3 e
    have e0 : k = 0 ∨ k = 1 ∨ k = 2 := by omega
    rcases e0 with rfl | rfl | rfl <;> omega
theorem qch_R {A : QA} (hA : AOk A) (k : Nat) : -1 ≤ qch A k ∧ qch A k ≤ 255 := by
  unfold qch
  split
  · rename_i h
    have := hA.2.1.2 k h
    omega
  · decide
theorem qch_lt {A : QA} {k : Nat} (h : 0 ≤ qch A k) : k < A.len := by
  unfold qch at h
  by_cases h1 : k < A.len
  · exact h1
  · rw [if_neg h1] at h; omega
theorem qdg_R (A : QA) (k : Nat) : -1 ≤ qdg A k ∧ qdg A k ≤ 9 := by
  unfold qdg
  split <;> omega
theorem qdg_lt {A : QA} {k : Nat} (h : 0 ≤ qdg A k) : k < A.len := by
  unfold qdg at h
  by_cases h1 : 48 ≤ qch A k ∧ qch A k ≤ 57
  · exact qch_lt (by omega)
  · rw [if_neg h1] at h; omega
theorem mul9 {r t : Nat} (h : t ≤ 9) : r * t ≤ 9 * r := by
  have := Nat.mul_le_mul_left r h
  omega
theorem mul1 {r t : Nat} (h : 2 ≤ t) : r + r ≤ r * t := by
  have := Nat.mul_le_mul_left r h
  omega
theorem qclose_V {A : QA} {X : QX} (h : XV A X) (hp : X.pl < A.len) (h0 : ¬ (X.op = 0 ∨ X.to = X.be (X.op - 1))) : XV A (qclose X) ∧ X.to ≤ qend X ∧ (∀ k, k < X.op - 1 → X.be k < qend X) := by
  have hb := XV.be_le h (k := X.op - 1) (by omega)
  have ht := h.2.1 (X.op - 1) (by omega)
  have m9 := mul9 (r := X.to - X.be (X.op - 1)) (t := (X.ti (X.op - 1)).toNat) (by omega)
  have m1 := mul1 (r := X.to - X.be (X.op - 1)) (t := (X.ti (X.op - 1)).toNat) (by omega)
  have he : qend X = X.be (X.op - 1) + (X.to - X.be (X.op - 1)) * (X.ti (X.op - 1)).toNat := rfl
  generalize (X.to - X.be (X.op - 1)) * (X.ti (X.op - 1)).toNat = z at m9 m1 he
  obtain ⟨⟨h1, h2⟩, h3, h4, ⟨a1, a2, a3⟩, b0, b1, b2, b3⟩ := h
  have hle : X.to ≤ qend X := by omega
  refine ⟨⟨⟨?_, ?_⟩, fun k hk => ?_, fun j hj h30 => ?_, ⟨?_, ?_, ?_⟩, ?_, ?_, ?_, ?_⟩, hle, fun k hk => ?_⟩
  · show X.pl + 1 ≤ A.len; omega
  · show X.op - 1 ≤ 3; omega
  · have hk : k < X.op - 1 := hk
    exact h3 k (by omega)
  · have hj : j < qend X := hj
    show (1 ≤ qfl _ _ _ X.pa j ∧ qfl _ _ _ X.pa j ≤ 60) ∧ (1 ≤ qfl _ _ _ X.we j ∧ qfl _ _ _ X.we j ≤ 99)
    by_cases h5 : X.to ≤ 30
    · exact ⟨qfl_P (P := fun x => 1 ≤ x ∧ x ≤ 60) (by omega) _ _ _ (by omega) (fun i hi => (h4 i hi (by omega)).1) j (by omega), qfl_P (P := fun x => 1 ≤ x ∧ x ≤ 99) (by omega) _ _ _ (by omega) (fun i hi => (h4 i hi (by omega)).2) j (by omega)⟩
    · rw [show min (qend X) 30 - X.to = 0 by omega]
      exact h4 j (by omega) h30
  · show X.op - 1 = 1 → X.be 0 ≤ qend X
    intro e
    have := a2 (by omega)
    omega
  · show X.op - 1 = 2 → X.be 0 ≤ X.be 1 ∧ X.be 1 ≤ qend X
    intro e
    have := a3 (by omega)
    omega
  · show X.op - 1 = 3 → _
    intro e
    omega
  · show X.op - 1 = 0 → qend X ≤ 729 * (X.pl + 1)
    intro e
    rw [e] at he m9
    have := b1 (by omega)
    have := a1 (by omega)
    omega
  · show X.op - 1 = 1 → X.be 0 + 9 * (qend X - X.be 0) ≤ 729 * (X.pl + 1)
    intro e
    rw [e] at he m9
    have := b2 (by omega)
    have := a2 (by omega)
    omega
  · show X.op - 1 = 2 → X.be 0 + 9 * (X.be 1 - X.be 0) + 81 * (qend X - X.be 1) ≤ 729 * (X.pl + 1)
    intro e
    rw [e] at he m9
    have := b3 (by omega)
    have := a3 (by omega)
    omega
  · show X.op - 1 = 3 → _
    intro e
    omega
  · have h5 : X.be k ≤ X.be (X.op - 1) := by
      have : X.op = 2 ∨ X.op = 3 := by omega
      rcases this with e | e
      · have := a2 e
        rw [e]
        have e0 : k = 0 := by omega
        subst e0
        exact this.1
      · have := a3 e
        rw [e]
        have e0 : k = 0 ∨ k = 1 := by omega
        rcases e0 with rfl | rfl
        · show X.be 0 ≤ X.be 2; omega
        · exact this.2.1
    omega
theorem qopen_V {A : QA} {X : QX} (h : XV A X) (h1 : 50 ≤ qch A X.pl ∧ qch A X.pl ≤ 57) (h2 : X.op < 3) (h3 : qch A (X.pl + 1) = 40) : XV A (qopen A X) := by
  have hl := qch_lt (A := A) (k := X.pl + 1) (by omega)
  obtain ⟨⟨g1, g2⟩, g3, g4, ⟨a1, a2, a3⟩, b0, b1, b2, b3⟩ := h
  have e : X.op = 0 ∨ X.op = 1 ∨ X.op = 2 := by omega
  refine ⟨⟨?_, ?_⟩, fun k hk => ?_, g4, ⟨?_, ?_, ?_⟩, ?_, ?_, ?_, ?_⟩
  · show X.pl + 2 ≤ A.len; omega
  · show X.op + 1 ≤ 3; omega
  · have hk : k < X.op + 1 := hk
    show 2 ≤ (if k = X.op then qch A X.pl - 48 else X.ti k) ∧ (if k = X.op then qch A X.pl - 48 else X.ti k) ≤ 9
    by_cases e : k = X.op
    · rw [if_pos e]; omega
    · rw [if_neg e]; exact g3 k (by omega)
  · show X.op + 1 = 1 → (if 0 = X.op then X.to else X.be 0) ≤ X.to
    intro e
    rw [if_pos (by omega)]
    exact Nat.le_refl _
  · show X.op + 1 = 2 → (if 0 = X.op then X.to else X.be 0) ≤ (if 1 = X.op then X.to else X.be 1) ∧ (if 1 = X.op then X.to else X.be 1) ≤ X.to
    intro e
    have := a1 (by omega)
    rw [if_neg (by omega), if_pos (by omega)]
    omega
  · show X.op + 1 = 3 → (if 0 = X.op then X.to else X.be 0) ≤ (if 1 = X.op then X.to else X.be 1) ∧ (if 1 = X.op then X.to else X.be 1) ≤ (if 2 = X.op then X.to else X.be 2) ∧ (if 2 = X.op then X.to else X.be 2) ≤ X.to
    intro e
    have := a2 (by omega)
    rw [if_neg (by omega), if_neg (by omega), if_pos (by omega)]
    omega
  · show X.op + 1 = 0 → _
    intro e
    omega
  · show X.op + 1 = 1 → (if 0 = X.op then X.to else X.be 0) + 9 * (X.to - (if 0 = X.op then X.to else X.be 0)) ≤ 729 * (X.pl + 2)
    intro e
    have := b0 (by omega)
    rw [if_pos (by omega)]
    omega
  · show X.op + 1 = 2 → (if 0 = X.op then X.to else X.be 0) + 9 * ((if 1 = X.op then X.to else X.be 1) - (if 0 = X.op then X.to else X.be 0)) + 81 * (X.to - (if 1 = X.op then X.to else X.be 1)) ≤ 729 * (X.pl + 2)
    intro e
    have := b1 (by omega)
    rw [if_neg (by omega), if_pos (by omega)]
    omega
  · show X.op + 1 = 3 → (if 0 = X.op then X.to else X.be 0) + 9 * ((if 1 = X.op then X.to else X.be 1) - (if 0 = X.op then X.to else X.be 0)) + 81 * ((if 2 = X.op then X.to else X.be 2) - (if 1 = X.op then X.to else X.be 1)) + 729 * (X.to - (if 2 = X.op then X.to else X.be 2)) ≤ 729 * (X.pl + 2)
    intro e
    have := b2 (by omega)
    rw [if_neg (by omega), if_neg (by omega), if_pos (by omega)]
    omega
theorem qaxl_V {A : QA} {X : QX} {p w : Int} (h : XV A X) (hl : X.pl + 3 < A.len) (hp : 1 ≤ p ∧ p ≤ 60) (hw : 1 ≤ w ∧ w ≤ 99) : XV A (qaxl X p w) := by
  obtain ⟨⟨g1, g2⟩, g3, g4, ⟨a1, a2, a3⟩, b0, b1, b2, b3⟩ := h
  refine ⟨⟨?_, g2⟩, g3, fun j hj h30 => ?_, ⟨?_, ?_, ?_⟩, ?_, ?_, ?_, ?_⟩
  · show X.pl + 4 ≤ A.len; omega
  · have hj : j < X.to + 1 := hj
    show (1 ≤ (if j = X.to then p else X.pa j) ∧ (if j = X.to then p else X.pa j) ≤ 60) ∧ (1 ≤ (if j = X.to then w else X.we j) ∧ (if j = X.to then w else X.we j) ≤ 99)
    by_cases e : j = X.to
    · rw [if_pos e, if_pos e]; exact ⟨hp, hw⟩
    · rw [if_neg e, if_neg e]; exact g4 j (by omega) h30
  · show X.op = 1 → X.be 0 ≤ X.to + 1
    intro e
    have := a1 e
    omega
  · show X.op = 2 → X.be 0 ≤ X.be 1 ∧ X.be 1 ≤ X.to + 1
    intro e
    have := a2 e
    omega
  · show X.op = 3 → X.be 0 ≤ X.be 1 ∧ X.be 1 ≤ X.be 2 ∧ X.be 2 ≤ X.to + 1
    intro e
    have := a3 e
    omega
  · show X.op = 0 → X.to + 1 ≤ 729 * (X.pl + 4)
    intro e
    have := b0 e
    omega
  · show X.op = 1 → X.be 0 + 9 * (X.to + 1 - X.be 0) ≤ 729 * (X.pl + 4)
    intro e
    have := b1 e
    have := a1 e
    omega
  · show X.op = 2 → X.be 0 + 9 * (X.be 1 - X.be 0) + 81 * (X.to + 1 - X.be 1) ≤ 729 * (X.pl + 4)
    intro e
    have := b2 e
    have := a2 e
    omega
  · show X.op = 3 → X.be 0 + 9 * (X.be 1 - X.be 0) + 81 * (X.be 2 - X.be 1) + 729 * (X.to + 1 - X.be 2) ≤ 729 * (X.pl + 4)
    intro e
    have := b3 e
    have := a3 e
    omega
theorem qaxx_V {A : QA} {X X' : QX} (h : XV A X) (hq : qaxx A X = Sum.inr X') : XV A X' ∧ X'.pl = X.pl + 4 := by
  have r1 := qdg_R A (X.pl + 2)
  have r2 := qdg_R A (X.pl + 3)
  unfold qaxx at hq
  by_cases c1 : 0 ≤ qdg A X.pl ∧ qdg A X.pl ≤ 6
  · rw [if_neg (not_not_intro c1)] at hq
    by_cases c2 : 0 ≤ qdg A (X.pl + 1) ∧ 1 ≤ 10 * qdg A X.pl + qdg A (X.pl + 1) ∧ 10 * qdg A X.pl + qdg A (X.pl + 1) ≤ 60
    · rw [if_neg (not_not_intro c2)] at hq
      by_cases c3 : 0 ≤ qdg A (X.pl + 2)
      · rw [if_neg (not_not_intro c3)] at hq
        by_cases c4 : 0 ≤ qdg A (X.pl + 3) ∧ 1 ≤ 10 * qdg A (X.pl + 2) + qdg A (X.pl + 3)
        · rw [if_neg (not_not_intro c4)] at hq
          cases hq
          exact ⟨qaxl_V h (qdg_lt c4.1) c2.2 (by omega), rfl⟩
        · rw [if_pos c4] at hq; cases hq
      · rw [if_pos c3] at hq; cases hq
    · rw [if_pos c2] at hq; cases hq
  · rw [if_pos c1] at hq; cases hq
theorem qstep_V {A : QA} {X X' : QX} (h : XV A X) (hp : X.pl < A.len) (hq : qstep A X = Sum.inr X') : XV A X' ∧ X.pl < X'.pl := by
  unfold qstep at hq
  by_cases c1 : qch A X.pl = 41
  · rw [if_pos c1] at hq
    by_cases c2 : X.op = 0 ∨ X.to = X.be (X.op - 1)
    · rw [if_pos c2] at hq; cases hq
    · rw [if_neg c2] at hq
      cases hq
      exact ⟨(qclose_V h hp c2).1, Nat.lt_succ_self _⟩
  · rw [if_neg c1] at hq
    by_cases c2 : (50 ≤ qch A X.pl ∧ qch A X.pl ≤ 57) ∧ X.op < 3 ∧ qch A (X.pl + 1) = 40
    · rw [if_pos c2] at hq
      cases hq
      refine ⟨qopen_V h c2.1 c2.2.1 c2.2.2, ?_⟩
      show X.pl < X.pl + 2
      omega
    · rw [if_neg c2] at hq
      by_cases c3 : 48 ≤ qch A X.pl ∧ qch A X.pl ≤ 54
      · rw [if_pos c3] at hq
        have := qaxx_V h hq
        exact ⟨this.1, by omega⟩
      · rw [if_neg c3] at hq
        cases hq
