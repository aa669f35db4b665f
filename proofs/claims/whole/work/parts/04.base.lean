/-! numbers: an int of the machine is qI of an integer, a long is qL of one -/
def qI (x : Int) : Int32 := Int32.ofInt x
def qL (x : Int) : Int64 := Int64.ofInt x
abbrev qR (x : Int) : Prop := -2147483648 ≤ x ∧ x < 2147483648
abbrev qRl (x : Int) : Prop := -9223372036854775808 ≤ x ∧ x < 9223372036854775808
theorem qI_toInt {x : Int} (h : qR x) : (qI x).toInt = x := Int32.toInt_ofInt_of_le (by omega) (by omega)
theorem qL_toInt {x : Int} (h : qRl x) : (qL x).toInt = x := Int64.toInt_ofInt_of_le (by omega) (by omega)
theorem qI_lt {x y : Int} (hx : qR x) (hy : qR y) : qI x < qI y ↔ x < y := by rw [Int32.lt_iff_toInt_lt, qI_toInt hx, qI_toInt hy]
theorem qI_le {x y : Int} (hx : qR x) (hy : qR y) : qI x ≤ qI y ↔ x ≤ y := by rw [Int32.le_iff_toInt_le, qI_toInt hx, qI_toInt hy]
theorem qI_eq {x y : Int} (hx : qR x) (hy : qR y) : qI x = qI y ↔ x = y := by rw [← Int32.toInt_inj, qI_toInt hx, qI_toInt hy]
theorem qL_lt {x y : Int} (hx : qRl x) (hy : qRl y) : qL x < qL y ↔ x < y := by rw [Int64.lt_iff_toInt_lt, qL_toInt hx, qL_toInt hy]
theorem qL_le {x y : Int} (hx : qRl x) (hy : qRl y) : qL x ≤ qL y ↔ x ≤ y := by rw [Int64.le_iff_toInt_le, qL_toInt hx, qL_toInt hy]
theorem qL_eq {x y : Int} (hx : qRl x) (hy : qRl y) : qL x = qL y ↔ x = y := by rw [← Int64.toInt_inj, qL_toInt hx, qL_toInt hy]
theorem qI_0 : qI 0 = 0 := rfl
theorem qR_0 : qR 0 := by decide
theorem qI_lt0 {x : Int} (hx : qR x) : qI x < 0 ↔ x < 0 := qI_lt hx qR_0
theorem qI_le0 {x : Int} (hx : qR x) : qI x ≤ 0 ↔ x ≤ 0 := qI_le hx qR_0
theorem qI_ge0 {x : Int} (hx : qR x) : 0 ≤ qI x ↔ 0 ≤ x := qI_le qR_0 hx
theorem qI_gt0 {x : Int} (hx : qR x) : 0 < qI x ↔ 0 < x := qI_lt qR_0 hx
theorem qI_eq0 {x : Int} (hx : qR x) : qI x = 0 ↔ x = 0 := qI_eq hx qR_0
theorem qI_nat {x : Int} (h0 : 0 ≤ x) (h : x < 2147483648) : (qI x).toNatClampNeg = x.toNat := Int32.toNatClampNeg_ofInt_of_le (by omega) (by omega)
theorem qI_in {x : Int} {n : Nat} (h : 0 ≤ x ∧ x < (n : Int)) (hn : n ≤ 2147483647) : vp_in (qI x) n := by
  rw [vp_in_iff, qI_toInt (by omega)]
  exact h
theorem qI_add (x y : Int) : qI x + qI y = qI (x + y) := (Int32.ofInt_add x y).symm
theorem qI_sub (x y : Int) : qI x - qI y = qI (x - y) := (Int32.ofInt_sub x y).symm
theorem qI_mul (x y : Int) : qI x * qI y = qI (x * y) := (Int32.ofInt_mul x y).symm
theorem qI_neg (x : Int) : 0 - qI x = qI (0 - x) := qI_sub 0 x
theorem qL_add (x y : Int) : qL x + qL y = qL (x + y) := (Int64.ofInt_add x y).symm
theorem qL_sub (x y : Int) : qL x - qL y = qL (x - y) := (Int64.ofInt_sub x y).symm
theorem qL_mul (x y : Int) : qL x * qL y = qL (x * y) := (Int64.ofInt_mul x y).symm
theorem qI_div {x y : Int} (h : 0 ≤ x ∧ x < 2147483648 ∧ 0 < y ∧ y < 2147483648) : qI x / qI y = qI (x / y) := by
  have h1 := Int32.ofInt_tdiv (a := x) (b := y) (by rw [show Int32.minValue.toInt = -2147483648 from rfl]; omega) (by rw [show Int32.maxValue.toInt = 2147483647 from rfl]; omega) (by rw [show Int32.minValue.toInt = -2147483648 from rfl]; omega) (by rw [show Int32.maxValue.toInt = 2147483647 from rfl]; omega)
  rw [Int.tdiv_eq_ediv_of_nonneg h.1] at h1
  exact h1.symm
theorem qI_rem {x y : Int} (h : 0 ≤ x ∧ x < 2147483648 ∧ 0 < y ∧ y < 2147483648) : qI x - qI x / qI y * qI y = qI (x % y) := by
  rw [qI_div h, qI_mul, qI_sub]
  congr 1
  have := Int.mul_ediv_add_emod x y
  rw [Int.mul_comm] at this
  omega
theorem qL_div {x y : Int} (h : 0 ≤ x ∧ x < 9223372036854775808 ∧ 0 < y ∧ y < 9223372036854775808) : qL x / qL y = qL (x / y) := by
  have h1 := Int64.ofInt_tdiv (a := x) (b := y) (by rw [show Int64.minValue.toInt = -9223372036854775808 from rfl]; omega) (by rw [show Int64.maxValue.toInt = 9223372036854775807 from rfl]; omega) (by rw [show Int64.minValue.toInt = -9223372036854775808 from rfl]; omega) (by rw [show Int64.maxValue.toInt = 9223372036854775807 from rfl]; omega)
  rw [Int.tdiv_eq_ediv_of_nonneg h.1] at h1
  exact h1.symm
theorem qL_rem {x y : Int} (h : 0 ≤ x ∧ x < 9223372036854775808 ∧ 0 < y ∧ y < 9223372036854775808) : qL x - qL x / qL y * qL y = qL (x % y) := by
  rw [qL_div h, qL_mul, qL_sub]
  congr 1
  have := Int.mul_ediv_add_emod x y
  rw [Int.mul_comm] at this
  omega
theorem qI_ne0 {y : Int} (h : 0 < y ∧ y < 2147483648) : ¬ qI y = 0 := fun e => by rw [qI_eq0 (by omega)] at e; omega
theorem qL_ne0 {y : Int} (h : 0 < y ∧ y < 9223372036854775808) : ¬ qL y = 0 := fun e => by
  have e2 : qL y = qL 0 := e
  rw [qL_eq (by omega) (by decide)] at e2
  omega
theorem qI_toL {x : Int} (h : qR x) : (qI x).toInt64 = qL x := Int32.toInt64_ofInt (by rw [show Int32.minValue.toInt = -2147483648 from rfl]; omega) (by rw [show Int32.maxValue.toInt = 2147483647 from rfl]; omega)
theorem qL_toI (x : Int) : (qL x).toInt32 = qI x := Int64.toInt32_ofInt
theorem qI_of (z : Int32) : z = qI z.toInt := (Int32.ofInt_toInt z).symm
theorem qL_of (z : Int64) : z = qL z.toInt := (Int64.ofInt_toInt z).symm
def qcmp (x y : Int) : Int := if y < x then 1 else if x = y then 0 else -1
theorem qL_cmp {x y : Int} (hx : qRl x) (hy : qRl y) : lg_cmp (qL x) (qL y) = qI (qcmp x y) := by
  unfold lg_cmp qcmp
  by_cases h1 : y < x
  · rw [if_pos ((qL_lt hy hx).mpr h1), if_pos h1]; rfl
  · rw [if_neg (fun h => h1 ((qL_lt hy hx).mp h)), if_neg h1]
    by_cases h2 : x = y
    · rw [if_pos h2, if_pos (by rw [h2])]; rfl
    · rw [if_neg h2, if_neg (fun h => h2 ((qL_eq hx hy).mp h))]; rfl
theorem qcmp_R (x y : Int) : qR (qcmp x y) := by unfold qcmp; split <;> (try split) <;> decide
theorem qcmp_lt {x y : Int} : qcmp x y < 0 ↔ x < y := by unfold qcmp; split <;> (try split) <;> omega
theorem qcmp_le {x y : Int} : qcmp x y ≤ 0 ↔ x ≤ y := by unfold qcmp; split <;> (try split) <;> omega
theorem qcmp_gt {x y : Int} : 0 < qcmp x y ↔ y < x := by unfold qcmp; split <;> (try split) <;> omega
theorem qcmp_ge {x y : Int} : 0 ≤ qcmp x y ↔ y ≤ x := by unfold qcmp; split <;> (try split) <;> omega
theorem qcmp_eq {x y : Int} : qcmp x y = 0 ↔ x = y := by unfold qcmp; split <;> (try split) <;> omega
/-! what a model is made of: guards, names, calls, branches -/
def qg {α : Type} (c : Prop) [Decidable c] (k : Option α) : Option α := if c then k else none
def ql {α β : Type} (e : β) (k : β → Option α) : Option α := k e
def qb {α β : Type} (m : Option β) (k : β → Option α) : Option α := m.bind k
theorem qg_i {α : Type} {c : Prop} [Decidable c] {k : Option α} {r : α} (h : qg c k = some r) : c ∧ k = some r := by
  unfold qg at h
  by_cases hc : c
  · rw [if_pos hc] at h; exact ⟨hc, h⟩
  · rw [if_neg hc] at h; cases h
theorem qg_t {α : Type} {c : Prop} [Decidable c] {k : Option α} (h : c) : qg c k = k := if_pos h
theorem ql_i {α β : Type} {e : β} {k : β → Option α} {r : α} (h : ql e k = some r) : ∃ x, x = e ∧ k x = some r := ⟨e, rfl, h⟩
theorem qb_i {α β : Type} {m : Option β} {k : β → Option α} {r : α} (h : qb m k = some r) : ∃ x, m = some x ∧ k x = some r := Option.bind_eq_some_iff.mp h
theorem qb_s {α β : Type} {m : Option β} {x : β} {k : β → Option α} (h : m = some x) : qb m k = k x := by rw [h]; rfl
theorem qt_i {α : Type} {c : Prop} [Decidable c] {a b : Option α} {r : α} (h : (if c then a else b) = some r) (hc : c) : a = some r := by rw [if_pos hc] at h; exact h
theorem qf_i {α : Type} {c : Prop} [Decidable c] {a b : Option α} {r : α} (h : (if c then a else b) = some r) (hc : ¬ c) : b = some r := by rw [if_neg hc] at h; exact h
abbrev qO : Type := String ⊕ Int
/-! the state: by position and index -/
abbrev qS : Type := Nat → Nat → Int
def qup (S : qS) (p : Nat) (d : Nat → Int) : qS := fun q => if q = p then d else S q
def q2 (S : qS) (p j : Nat) (v : Int) : qS := fun q i => if q = p ∧ i = j then v else S q i
theorem q2_up (S : qS) (p j : Nat) (v : Int) : q2 S p j v = qup S p (fun i => if i = j then v else S p i) := by
  funext q i
  unfold q2 qup
  by_cases h : q = p
  · subst h
    by_cases h2 : i = j
    · rw [if_pos ⟨rfl, h2⟩, if_pos rfl, if_pos h2]
    · rw [if_neg (fun z => h2 z.2), if_pos rfl, if_neg h2]
  · rw [if_neg (fun z => h z.1), if_neg h]
abbrev qG : Type := va_G × (ClassId × ClassId × ClassId × ClassId) × (Nat → Nat) × Nat × (Nat → Nat) × (Nat → Nat)
def qD (g : qG) : va_G := g.1
def qcI (g : qG) : ClassId := g.2.1.1
def qcZ (g : qG) : ClassId := g.2.1.2.1
def qcL (g : qG) : ClassId := g.2.1.2.2.1
def qcQ (g : qG) : ClassId := g.2.1.2.2.2
def qad (g : qG) : Nat → Nat := g.2.2.1
def qB (g : qG) : Nat := g.2.2.2.1
def qt (g : qG) : Nat → Nat := g.2.2.2.2.1
def qsa (g : qG) : Nat → Nat := g.2.2.2.2.2
def qcls : List vw_C := [(RX0, TX0, 13), (RX1, TX1, 5), (RX2, TX2, 9), (RX3, TX3, 9), (RX4, TX4, 26)]
def qtys (g : qG) : List (ClassId × FieldType) := [(qcI g, .int), (qcZ g, .boolean), (qcL g, .long), (qcQ g, .object "AxleScale$Recording")]
def qA (g : qG) : Nat → Prop := fun q => qB g ≤ q
def qia (d : Nat → Int) : Nat → Int32 := fun j => qI (d j)
def qla (d : Nat → Int) : Nat → Int64 := fun j => qL (d j)
def qAr (g : qG) (n : Nat) (d : Nat → Int) : va_E := .inl (qcI g, n, .inl (qia d))
def qst (g : qG) : Nat → Option Nat := fun k => some (qad g (30 + 5 * k))
def qsl (g : qG) : Nat → Option Nat := fun k => some (qad g (100 + 5 * k))

def qkl : List Nat := [0, 1, 130, 40, 40, 13, 13, 2, 40, 40, 40, 14, 2, 40, 40, 40, 14, 3, 41, 41, 40, 40, 40, 25, 41, 41, 41, 5, 6, 7, 2, 40, 40, 40, 14, 2, 40, 40, 40, 14, 2, 40, 40, 40, 14, 2, 40, 40, 40, 14, 2, 40, 40, 40, 14, 2, 40, 40, 40, 14, 2, 40, 40, 40, 14, 2, 40, 40, 40, 14, 2, 40, 40, 40, 14, 2, 40, 40, 40, 14, 2, 40, 40, 40, 14, 2, 40, 40, 40, 14, 2, 40, 40, 40, 14, 2, 40, 40, 40, 14, 2, 40, 40, 40, 14, 2, 40, 40, 40, 14, 4, 130, 40, 40, 14, 14, 14, 105, 105, 1340, 200, 7, 1034, 41, 41, 40, 25, 8]
def qk (p : Nat) : Nat := qkl.getD p 9
def qcell (g : qG) (p : Nat) (d : Nat → Int) : va_E := match qk p with
  | 0 => .inr (3, [.ref (qad g 1), .ref (qad g 7), .ref (qad g 12), .ref (qad g 17), .ref (qad g 27), .ref (qad g 28), .ref (qad g 29), .int (qI (d 7)), .int (qI (d 8))])
  | 1 => .inr (2, [.ref (qad g 2), .int (qI (d 1)), .ref (qad g 3), .ref (qad g 4), .int (qI (d 4)), .int (qI (d 5)), .ref (qad g 5), .ref (qad g 6), .int (qI (d 8))])
  | 2 => .inr (1, [.ref (qad g (p + 1)), .ref (qad g (p + 2)), .ref (qad g (p + 3)), .ref (qad g (p + 4)), .int (qI (d 4))])
  | 3 => .inr (0, [.ref (qad g 18), .ref (qad g 19), .ref (qad g 20), .ref (qad g 21), .ref (qad g 22), .ref (qad g 23), .ref (qad g 24), .ref (qad g 25), .ref (qad g 26), .int (qI (d 9)), .int (qI (d 10)), .int (qI (d 11)), .int (qI (d 12))])
  | 4 => .inr (4, [.int (qI (d 0)), .ref (qad g 111), .int (qI (d 2)), .int (qI (d 3)), .int (qI (d 4)), .ref (qad g 112), .ref (qad g 113), .int (qI (d 7)), .ref (qad g 114), .ref (qad g 115), .ref (qad g 116), .int (qI (d 11)), .ref (qad g 117), .ref (qad g 118), .ref (qad g 119), .int (qI (d 15)), .ref (qad g 120), .ref (qad g 121), .ref (qad g 122), .ref (qad g 123), .ref (qad g 124), .ref (qad g 125), .int (qI (d 22)), .ref (qad g 126), .int (qI (d 24)), .int (qI (d 25))])
  | 5 => .inl (qcQ g, 14, .inr (.inr (.inr (.inr (qst g)))))
  | 6 => .inl (qcQ g, 2, .inr (.inr (.inr (.inr (qsl g)))))
  | 7 => .inl (qcZ g, 2, .inl (qia d))
  | 8 => .inl (qcL g, 1, .inr (.inl (qla d)))
  | n + 10 => qAr g n d
  | _ => qAr g 0 d
theorem qc0 {g : qG} {p : Nat} {d : Nat → Int} (h : qk p = 0) : qcell g p d = .inr (3, [.ref (qad g 1), .ref (qad g 7), .ref (qad g 12), .ref (qad g 17), .ref (qad g 27), .ref (qad g 28), .ref (qad g 29), .int (qI (d 7)), .int (qI (d 8))]) := by unfold qcell; rw [h]
theorem qc1 {g : qG} {p : Nat} {d : Nat → Int} (h : qk p = 1) : qcell g p d = .inr (2, [.ref (qad g 2), .int (qI (d 1)), .ref (qad g 3), .ref (qad g 4), .int (qI (d 4)), .int (qI (d 5)), .ref (qad g 5), .ref (qad g 6), .int (qI (d 8))]) := by unfold qcell; rw [h]
theorem qc2 {g : qG} {p : Nat} {d : Nat → Int} (h : qk p = 2) : qcell g p d = .inr (1, [.ref (qad g (p + 1)), .ref (qad g (p + 2)), .ref (qad g (p + 3)), .ref (qad g (p + 4)), .int (qI (d 4))]) := by unfold qcell; rw [h]
theorem qc3 {g : qG} {p : Nat} {d : Nat → Int} (h : qk p = 3) : qcell g p d = .inr (0, [.ref (qad g 18), .ref (qad g 19), .ref (qad g 20), .ref (qad g 21), .ref (qad g 22), .ref (qad g 23), .ref (qad g 24), .ref (qad g 25), .ref (qad g 26), .int (qI (d 9)), .int (qI (d 10)), .int (qI (d 11)), .int (qI (d 12))]) := by unfold qcell; rw [h]
theorem qc4 {g : qG} {p : Nat} {d : Nat → Int} (h : qk p = 4) : qcell g p d = .inr (4, [.int (qI (d 0)), .ref (qad g 111), .int (qI (d 2)), .int (qI (d 3)), .int (qI (d 4)), .ref (qad g 112), .ref (qad g 113), .int (qI (d 7)), .ref (qad g 114), .ref (qad g 115), .ref (qad g 116), .int (qI (d 11)), .ref (qad g 117), .ref (qad g 118), .ref (qad g 119), .int (qI (d 15)), .ref (qad g 120), .ref (qad g 121), .ref (qad g 122), .ref (qad g 123), .ref (qad g 124), .ref (qad g 125), .int (qI (d 22)), .ref (qad g 126), .int (qI (d 24)), .int (qI (d 25))]) := by unfold qcell; rw [h]
theorem qc5 {g : qG} {p : Nat} {d : Nat → Int} (h : qk p = 5) : qcell g p d = .inl (qcQ g, 14, .inr (.inr (.inr (.inr (qst g))))) := by unfold qcell; rw [h]
theorem qc6 {g : qG} {p : Nat} {d : Nat → Int} (h : qk p = 6) : qcell g p d = .inl (qcQ g, 2, .inr (.inr (.inr (.inr (qsl g))))) := by unfold qcell; rw [h]
theorem qc7 {g : qG} {p : Nat} {d : Nat → Int} (h : qk p = 7) : qcell g p d = .inl (qcZ g, 2, .inl (qia d)) := by unfold qcell; rw [h]
theorem qc8 {g : qG} {p : Nat} {d : Nat → Int} (h : qk p = 8) : qcell g p d = .inl (qcL g, 1, .inr (.inl (qla d))) := by unfold qcell; rw [h]
theorem qcA {g : qG} {p n : Nat} {d : Nat → Int} (h : qk p = n + 10) : qcell g p d = qAr g n d := by unfold qcell; rw [h]
theorem qgetD_ge {l : List Nat} {i d : Nat} (h : l.length ≤ i) : l.getD i d = d := by rw [List.getD_eq_getElem?_getD, List.getElem?_eq_none h]; rfl
theorem qkl_len : qkl.length ≤ 128 := by decide +kernel
theorem qk_lt {p : Nat} (h : qk p ≠ 9) : p < 128 := by
  rcases Nat.lt_or_ge p 128 with h1 | h1
  · exact h1
  · exact absurd (qgetD_ge (l := qkl) (d := 9) (Nat.le_trans qkl_len h1)) h
def qrec : Nat → Prop := fun p => qk p = 2
theorem qk_rec0 : ∀ p, p < 128 → qk p = 2 → qk (p + 1) = 30 + 10 ∧ qk (p + 2) = 30 + 10 ∧ qk (p + 3) = 30 + 10 ∧ qk (p + 4) = 4 + 10 := by decide +kernel
theorem qk_rec {p : Nat} (h : qk p = 2) : qk (p + 1) = 30 + 10 ∧ qk (p + 2) = 30 + 10 ∧ qk (p + 3) = 30 + 10 ∧ qk (p + 4) = 4 + 10 := qk_rec0 p (qk_lt (by rw [h]; decide)) h
theorem qk_st {k : Nat} (h : k < 14) : qk (30 + 5 * k) = 2 := (by decide +kernel : ∀ k, k < 14 → qk (30 + 5 * k) = 2) k h
theorem qk_sl {k : Nat} (h : k < 2) : qk (100 + 5 * k) = 2 := (by decide +kernel : ∀ k, k < 2 → qk (100 + 5 * k) = 2) k h
/-! the world: the cells in their order -/
def qW (g : qG) (S : qS) : va_W := (List.range 128).map (fun p => (qad g p, qcell g p (S p)))
def qAd (g : qG) : Prop := (∀ i j : Nat, i < 128 → j < 128 → qad g i = qad g j → i = j) ∧ ∀ i : Nat, i < 128 → qA g (qad g i)
theorem qW_get {g : qG} {S : qS} {p : Nat} (h : p < 128) : (qW g S)[p]? = some (qad g p, qcell g p (S p)) := by
  unfold qW
  rw [List.getElem?_map, List.getElem?_range h]
  rfl
theorem qW_ok {g : qG} {S : qS} {p : Nat} {q : Nat × va_E} (h : (qW g S)[p]? = some q) : p < 128 ∧ q = (qad g p, qcell g p (S p)) := by
  have hl : p < 128 := by
    have := (List.getElem?_eq_some_iff.mp h).1
    simpa [qW] using this
  rw [qW_get hl] at h
  exact ⟨hl, (Option.some.inj h).symm⟩
theorem qW_set {g : qG} {S : qS} {p : Nat} {d : Nat → Int} (h : p < 128) : (qW g S).set p (qad g p, qcell g p d) = qW g (qup S p d) := by
  apply List.ext_getElem?
  intro j
  by_cases hj : j < 128
  · rw [qW_get hj]
    by_cases hp : j = p
    · subst hp
      rw [List.getElem?_set_self (by simpa [qW] using h)]
      unfold qup
      rw [if_pos rfl]
    · rw [List.getElem?_set_ne (Ne.symm hp), qW_get hj]
      unfold qup
      rw [if_neg hp]
  · have e1 : ((qW g S).set p (qad g p, qcell g p d))[j]? = none := by simp [qW]; omega
    have e2 : (qW g (qup S p d))[j]? = none := by simp [qW]; omega
    rw [e1, e2]
theorem qW_D {g : qG} {S : qS} (h : qAd g) : va_D (qA g) (qW g S) := by
  refine ⟨fun i j x y hi hj hxy => ?_, fun k q hk => ?_⟩
  · obtain ⟨h1, rfl⟩ := qW_ok hi
    obtain ⟨h2, rfl⟩ := qW_ok hj
    exact h.1 i j h1 h2 hxy
  · obtain ⟨h1, rfl⟩ := qW_ok hk
    exact h.2 k h1

