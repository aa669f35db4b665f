def qlen (q : Nat) : Nat := qk q - 10
theorem qlen_eq {q : Nat} (h : 10 ≤ qk q) : qk q = qlen q + 10 := by unfold qlen; omega
theorem qlen_le (q : Nat) : qlen q ≤ 2147483647 := by
  unfold qlen
  have h : qk q ≤ 1400 := by
    rcases Nat.lt_or_ge q 128 with h1 | h1
    · exact (by decide +kernel : ∀ q, q < 128 → qk q ≤ 1400) q h1
    · exact Nat.le_trans (Nat.le_of_eq (qgetD_ge (l := qkl) (d := 9) (Nat.le_trans qkl_len h1))) (by decide)
  omega
theorem qlen_R (q : Nat) : qR (qlen q : Int) := by
  have := qlen_le q
  constructor <;> omega
theorem qRl_of {x : Int} (h : qR x) : qRl x := by
  have h1 := h.1
  have h2 := h.2
  constructor <;> omega
def qy {α : Type} (a : qO) (x : String → Option α) (k : Int → Option α) : Option α := match a with
  | .inl E => x E
  | .inr r => k r
theorem qy_l {α : Type} {a : qO} {x : String → Option α} {k : Int → Option α} {r : α} {E : String} (h : qy a x k = some r) (he : a = .inl E) : x E = some r := by subst he; exact h
theorem qy_r {α : Type} {a : qO} {x : String → Option α} {k : Int → Option α} {r : α} {v : Int} (h : qy a x k = some r) (he : a = .inr v) : k v = some r := by subst he; exact h
