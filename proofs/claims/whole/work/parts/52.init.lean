/-! the start -/
def qR0 : QR := (0, qz, qz, qz, qF0i)
def qA0 : QA := (qR0, (0, qz), (fun _ => none), [])
theorem qR0_V : QV qR0 := by
  refine ⟨by decide, fun j hj => absurd hj (Nat.not_lt_zero j), fun j hj => absurd hj (Nat.not_lt_zero j), fun t _ => ⟨Int.le_refl _, (by decide : (0 : Int) ≤ 9999)⟩, ?_, ?_, ?_, ?_⟩ <;> decide
theorem qA0_ok : AOk qA0 := ⟨qR0_V, ⟨Nat.zero_le _, fun j hj => absurd hj (Nat.not_lt_zero j)⟩, fun k _ R h => (by cases h), Nat.zero_le _, fun R h => (by cases h)⟩
theorem qset_k : ∀ k, k < 4 → qset k = qF0i k := by decide
theorem qnow_k : ∀ k, k < 4 → qnow (1 + k) = qF0i k := by decide
theorem qnow_z : ∀ t, t < 30 → qnow (5 + t) = 0 := by decide
theorem qA0_C : CR qS0 qA0 := by
  refine ⟨⟨⟨rfl, fun j hj => absurd hj (Nat.not_lt_zero j), fun j hj => absurd hj (Nat.not_lt_zero j), fun t _ => rfl, fun k hk => qset_k k hk⟩, rfl⟩, ⟨rfl, fun j hj => absurd hj (Nat.not_lt_zero j)⟩, fun k _ => ⟨rfl, fun R h => (by cases h)⟩, by decide, rfl, fun i R h => (by cases h)⟩
theorem qA0_M : MR qS0 qA0 := by
  refine ⟨⟨rfl, fun j hj => absurd hj (Nat.not_lt_zero j), fun j hj => absurd hj (Nat.not_lt_zero j), fun t ht => qnow_z t ht, fun k hk => qnow_k k hk⟩, ⟨rfl, fun j hj => absurd hj (Nat.not_lt_zero j)⟩, fun k _ => ⟨rfl, fun R h => (by cases h)⟩, rfl, fun i R h => (by cases h)⟩
