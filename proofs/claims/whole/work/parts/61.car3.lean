theorem QM.ref {S : qS} {R : QR} {k : Int} (h : QM S R) : QM (q2 S 110 0 k) R := by
  obtain ⟨⟨a1, a2, a3⟩, ⟨b1, b2⟩, c1, c2⟩ := h
  exact ⟨⟨by rw [q2_j (by decide)]; exact a1, by rw [q2_j (by decide)]; exact a2, by rw [q2_j (by decide)]; exact a3⟩, ⟨fun t ht => by rw [q2_p (by decide)]; exact b1 t ht, fun t ht => by rw [q2_p (by decide)]; exact b2 t ht⟩, fun c hc => by rw [q2_p (by decide)]; exact c1 c hc, fun j hj => by rw [q2_p (by decide)]; exact c2 j hj⟩
theorem car_m {n9 : Nat} {S : qS} {A : QA} {p w : Int} (hn : 2000 ≤ n9) (hp : qR p) (hw : qR w) (hA : AOk A) (hM : MR S A) : (¬ (0 ≤ p ∧ p < ((qcars A.R).length : Int)) → MOp S (MX4_car n9 S p w) 1 0 A) ∧ ((0 ≤ p ∧ p < ((qcars A.R).length : Int)) → ¬ (0 ≤ w ∧ w ≤ 5) → MOp S (MX4_car n9 S p w) 2 0 A) ∧ ((0 ≤ p ∧ p < ((qcars A.R).length : Int)) → (0 ≤ w ∧ w ≤ 5) → MOp S (MX4_car n9 S p w) 0 (qca A.R p.toNat w) A) := by
  have hV := hA.1
  have h30 := hV.n30
  have hl15 := qcars_len hV
  obtain ⟨S1, e1, e2, e3, e4, e5⟩ := plan_m (n9 := n9) (by omega) hA hM
  have h24 := e3.1.2.1
  refine ⟨fun hc => ?_, fun hc h2 => ?_, fun hc h2 => ?_⟩
  · have hx : MX4_car n9 S p w = some (0, q2 S1 110 0 1) := by
      unfold MX4_car
      rw [qb_s e1, qg_t hp, h24, qg_t (by constructor <;> omega), qb_s (in00 hp (by decide) (by constructor <;> omega) (by omega)), qg_t (by decide)]
      simp only [ql, if_true]
      rw [qb_s ref1]
      rfl
    rw [hx]
    exact MOp.no2 e2 e4 (Or.inl rfl)
  · have hx : MX4_car n9 S p w = some (0, q2 S1 110 0 2) := by
      unfold MX4_car
      rw [qb_s e1, qg_t hp, h24, qg_t (by constructor <;> omega), qb_s (in01 hp (by decide) (by constructor <;> omega) (by omega)), qg_t (by decide)]
      simp only [ql]
      rw [if_neg (by decide), qg_t hw, qb_s (in00 hw (by decide) (by decide) h2), qg_t (by decide), if_pos rfl, qb_s ref2]
      rfl
    rw [hx]
    exact MOp.no2 e2 e4 (Or.inr rfl)
  · have hcl : p.toNat < (qcars A.R).length := by omega
    have hpi : p = (p.toNat : Int) := by omega
    have hm := qcars_mem (getD_mem hcl)
    have hQ := e3.ref (k := 0)
    have hMr := (e2.ref (k := 0)).1
    have hv : q2 S1 110 0 0 126 p.toNat = (((qcars A.R).getD p.toNat 0 : Nat) : Int) := hQ.2.2.1 _ hcl
    have hpa : q2 S1 110 0 0 117 (35 + (((qcars A.R).getD p.toNat 0 : Nat) : Int) + 1).toNat = A.R.pa ((qcars A.R).getD p.toNat 0 + 1) := by
      rw [show (35 + (((qcars A.R).getD p.toNat 0 : Nat) : Int) + 1).toNat = 35 + ((qcars A.R).getD p.toNat 0 + 1) by omega]
      exact hMr.pa _ hm
    have hx : MX4_car n9 S p w = some (qca A.R p.toNat w, q2 S1 110 0 0) := by
      unfold MX4_car qca
      rw [qb_s e1, qg_t hp, h24, qg_t (by constructor <;> omega), qb_s (in01 hp (by decide) (by constructor <;> omega) (by omega)), qg_t (by decide)]
      simp only [ql]
      rw [if_neg (by decide), qg_t hw, qb_s (in01 hw (by decide) (by decide) h2), qg_t (by decide), if_neg (by decide), qb_s ref0]
      simp only [if_true]
      rw [qg_t (by decide), qg_t hw]
      simp only [hv]
      rw [qg_t (by omega), qg_t (by omega), qb_s (mcarWeight_ok w117 hV hMr rfl hm), qg_t (by omega), qg_t (by omega), hpa, qb_s (mspeed_ok hV hMr hQ hpi hcl), qg_t (by omega), qb_s (trainOf_ok (by omega) hV hQ rfl (by omega)), qb_s (between_ok (by omega) hV hQ hpi hcl)]
      repeat' split
      all_goals rfl
    exact ⟨_, _, hx, e2.ref, q2_s, fun _ => rfl, qca_R hV hcl w, fun q j hq => (mOut.ref q j hq).trans (e4 q j hq)⟩
