/-! a script's groups -/
def qwg (s : Int) : Nat → Int
  | 0 => s
  | m + 1 => qwg s m / 100000
theorem qwg_R {s : Int} (h : 0 ≤ s) : ∀ m, 0 ≤ qwg s m ∧ qwg s m ≤ s := by
  intro m
  induction m with
  | zero => exact ⟨h, Int.le_refl _⟩
  | succ m ih =>
    show 0 ≤ qwg s m / 100000 ∧ qwg s m / 100000 ≤ s
    omega
theorem wlg_l_ok {S : qS} {s p : Int} {m : Nat} (hs : 0 ≤ s ∧ s < 9223372036854775808) (hp : p = (m : Int)) (hm : m ≤ 3) : ∀ (d f i : Nat) (x acc : Int), x = (i : Int) → i + d = m → d < f → acc = qwg s i → MX3_withoutLastGroups_l5 S p f acc x = some (qwg s m) := by
  intro d
  induction d with
  | zero =>
    intro f i x acc hx hi hf ha
    cases f with
    | zero => omega
    | succ f =>
      have e : i = m := by omega
      subst e
      rw [MX3_withoutLastGroups_l5, qg_t (by constructor <;> omega), qg_t (by constructor <;> omega), if_pos (by omega), ha]
  | succ d ih =>
    intro f i x acc hx hi hf ha
    cases f with
    | zero => omega
    | succ f =>
      have hb := qwg_R hs.1 i
      rw [MX3_withoutLastGroups_l5, qg_t (by constructor <;> omega), qg_t (by constructor <;> omega), if_neg (by omega), qg_t (by omega), ql]
      exact ih f (i + 1) (x + 1) _ (by omega) (by omega) (by omega) (by rw [ha]; rfl)
theorem wlg_ok {n9 : Nat} {S : qS} {s p : Int} {m : Nat} (hn : 40 ≤ n9) (hs : 0 ≤ s ∧ s < 9223372036854775808) (hp : p = (m : Int)) (hm : m ≤ 3) : MX3_withoutLastGroups n9 S s p = some (qwg s m) := by
  unfold MX3_withoutLastGroups
  exact wlg_l_ok hs hp hm m n9 0 0 s rfl (by omega) (by omega) rfl
def qten : Nat → Int
  | 0 => 1
  | m + 1 => qten m * 10
theorem tenTo_l_ok {S : qS} {p : Int} {m : Nat} (hp : p = (m : Int)) (hm : m ≤ 15) : ∀ (d f i : Nat) (x acc : Int), x = (i : Int) → i + d = m → d < f → acc = qten i → MX4_tenTo_l4 S p f acc x = some (qten m) := by
  intro d
  induction d with
  | zero =>
    intro f i x acc hx hi hf ha
    cases f with
    | zero => omega
    | succ f =>
      have e : i = m := by omega
      subst e
      rw [MX4_tenTo_l4, qg_t (by constructor <;> omega), qg_t (by constructor <;> omega), if_pos (by omega), ha]
  | succ d ih =>
    intro f i x acc hx hi hf ha
    cases f with
    | zero => omega
    | succ f =>
      rw [MX4_tenTo_l4, qg_t (by constructor <;> omega), qg_t (by constructor <;> omega), if_neg (by omega), ql]
      exact ih f (i + 1) (x + 1) _ (by omega) (by omega) (by omega) (by rw [ha]; rfl)
theorem tenTo_ok {n9 : Nat} {S : qS} {p : Int} {m : Nat} (hn : 40 ≤ n9) (hp : p = (m : Int)) (hm : m ≤ 15) : MX4_tenTo n9 S p = some (qten m) := by
  unfold MX4_tenTo
  exact tenTo_l_ok hp hm m n9 0 0 1 rfl (by omega) (by omega) rfl
theorem qten0 : qten 0 = 1 := rfl
theorem qten5 : qten 5 = 100000 := by decide
theorem qten10 : qten 10 = 10000000000 := by decide
theorem qten15 : qten 15 = 1000000000000000 := by decide
theorem qwg0 (s : Int) : qwg s 0 = s := rfl
theorem qwg1 (s : Int) : qwg s 1 = s / 100000 := rfl
theorem qwg2 (s : Int) : qwg s 2 = s / 100000 / 100000 := rfl
theorem qwg3 (s : Int) : qwg s 3 = s / 100000 / 100000 / 100000 := rfl
theorem m3 {m : Nat} (h : m ≤ 3) : m = 0 ∨ m = 1 ∨ m = 2 ∨ m = 3 := by omega
theorem qwg_ten {s : Int} (hs : 0 ≤ s) {m : Nat} (hm : m ≤ 3) : qwg s m = s / qten (5 * m) := by
  rcases m3 hm with rfl | rfl | rfl | rfl
  · rw [qwg0, qten0, Int.ediv_one]
  · rw [qwg1, qten5]
  · rw [qwg2, qten10]; omega
  · rw [qwg3, qten15]; omega
theorem qten_R {m : Nat} (hm : m ≤ 3) : 0 < qten (5 * m) ∧ qten (5 * m) ≤ 1000000000000000 := by
  rcases m3 hm with rfl | rfl | rfl | rfl
  · rw [qten0]; decide
  · rw [qten5]; decide
  · rw [qten10]; decide
  · rw [qten15]; decide
theorem qwg_z {s : Int} (hs : 0 ≤ s) {m : Nat} (hm : m ≤ 3) : qwg s m = 0 ↔ s ≤ qten (5 * m) - 1 := by
  rcases m3 hm with rfl | rfl | rfl | rfl
  · rw [qwg0, qten0]; omega
  · rw [qwg1, qten5]; omega
  · rw [qwg2, qten10]; omega
  · rw [qwg3, qten15]; omega
/-- what a command makes of what is tried; nothing, if it fails -/
def qcm (T : QR) (g : Int) : Option QR :=
  if g / 10000 = 1 then (if (1 ≤ g / 100 % 100 ∧ g / 100 % 100 ≤ 60) ∧ (1 ≤ g % 100 ∧ g % 100 ≤ 99) ∧ T.n < 30 then some (qadd T (g / 100 % 100) (g % 100)) else none)
  else if g / 10000 = 2 then (if g % 100 = 0 ∧ g / 100 % 100 < (T.n : Int) then some (qstrike T (g / 100 % 100).toNat) else none)
  else if g / 10000 = 3 then (if g / 100 % 100 < (T.n : Int) ∧ (1 ≤ g % 100 ∧ g % 100 ≤ 99) then some (qputw T (g / 100 % 100).toNat (g % 100)) else none)
  else if g / 10000 = 4 then (if g % 10 = 0 ∧ qsi (g / 100 % 100 / 10) (g / 10 % 100) then some (qputs T (g / 100 % 100 / 10).toNat (g / 10 % 100)) else none)
  else if g / 10000 = 5 then (if g % 10000 = 0 ∧ 0 < T.n then some (qleave T) else none)
  else if g / 10000 = 6 then (if g / 100 % 100 = 0 ∧ g % 100 ≤ ((qcars T).length : Int) then some T else none)
  else if g / 10000 = 7 then (if g / 100 % 100 = 0 ∧ (T.n : Int) - 2 * ((qcars T).length : Int) ≤ g % 100 then some T else none)
  else if g / 10000 = 8 then (if g % 10000 ≤ qwt T (qcars T) then some T else none)
  else if g / 10000 = 9 then (if g / 100 % 100 < (T.n : Int) ∧ g % 100 = (if qcf (qcars T) 0 (g / 100 % 100).toNat = -1 then 0 else 1) then some T else none)
  else none
theorem ite_some {c : Prop} [Decidable c] {α : Type} {a b : α} (h : (if c then some a else none) = some b) : c ∧ a = b := by
  by_cases hc : c
  · rw [if_pos hc] at h; exact ⟨hc, Option.some.inj h⟩
  · rw [if_neg hc] at h; cases h
theorem qcm_V {T T' : QR} {g : Int} (hV : QV T) (hg : 0 ≤ g) (h : qcm T g = some T') : QV T' := by
  unfold qcm at h
  by_cases h1 : g / 10000 = 1
  · rw [if_pos h1] at h
    obtain ⟨⟨a, b, c⟩, rfl⟩ := ite_some h
    exact qadd_V hV c a b
  rw [if_neg h1] at h
  by_cases h2 : g / 10000 = 2
  · rw [if_pos h2] at h
    obtain ⟨⟨a, b⟩, rfl⟩ := ite_some h
    exact qstrike_V hV (by omega)
  rw [if_neg h2] at h
  by_cases h3 : g / 10000 = 3
  · rw [if_pos h3] at h
    obtain ⟨⟨a, b⟩, rfl⟩ := ite_some h
    exact qputw_V hV b
  rw [if_neg h3] at h
  by_cases h4 : g / 10000 = 4
  · rw [if_pos h4] at h
    obtain ⟨⟨a, b⟩, rfl⟩ := ite_some h
    refine qputs_V hV ?_
    unfold qsv
    generalize g / 100 % 100 / 10 = k at b
    generalize g / 10 % 100 = v at b
    unfold qsi at b
    omega
  rw [if_neg h4] at h
  by_cases h5 : g / 10000 = 5
  · rw [if_pos h5] at h
    obtain ⟨⟨a, b⟩, rfl⟩ := ite_some h
    exact qleave_V hV b
  rw [if_neg h5] at h
  by_cases h6 : g / 10000 = 6
  · rw [if_pos h6] at h
    obtain ⟨_, rfl⟩ := ite_some h
    exact hV
  rw [if_neg h6] at h
  by_cases h7 : g / 10000 = 7
  · rw [if_pos h7] at h
    obtain ⟨_, rfl⟩ := ite_some h
    exact hV
  rw [if_neg h7] at h
  by_cases h8 : g / 10000 = 8
  · rw [if_pos h8] at h
    obtain ⟨_, rfl⟩ := ite_some h
    exact hV
  rw [if_neg h8] at h
  by_cases h9 : g / 10000 = 9
  · rw [if_pos h9] at h
    obtain ⟨_, rfl⟩ := ite_some h
    exact hV
  rw [if_neg h9] at h
  cases h
