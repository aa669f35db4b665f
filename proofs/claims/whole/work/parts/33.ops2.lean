/-! save, restore, setting, the text's two -/
theorem demandSlot_ok {n9 : Nat} {S : qS} {p : Int} (hp : qR p) : MX3_demandSlot n9 S p = some (if 0 ≤ p ∧ p < 2 then Sum.inr 0 else Sum.inl "java/lang/IndexOutOfBoundsException") := by
  unfold MX3_demandSlot
  rw [qg_t hp, ql]
  by_cases h : p < 0
  · rw [if_pos h, if_neg (by omega)]
  · rw [if_neg h]
    by_cases h2 : p < 2
    · rw [if_pos h2, if_pos (by omega)]
    · rw [if_neg h2, if_neg (by omega)]
def QA.kept (A : QA) (k : Nat) : QA := (A.R, A.2.1, (fun i => if i = k then some A.R else A.sv i), A.U)
theorem AOk.kept {A : QA} (h : AOk A) (k : Nat) : AOk (A.kept k) := ⟨h.1, h.2.1, fun i hi R hR => by
  have hR : (if i = k then some A.R else A.sv i) = some R := hR
  split at hR
  · cases hR; exact h.1
  · exact h.2.2.1 i hi R hR, h.2.2.2⟩
theorem save_c {n9 : Nat} {S : qS} {A : QA} {p : Int} (hn : 2000 ≤ n9) (hp : qR p) (hA : AOk A) (hC : CR S A) : (¬ (0 ≤ p ∧ p < 2) → COp S (ML_save n9 S p) 1 0 A) ∧ ((0 ≤ p ∧ p < 2) → COp S (ML_save n9 S p) 0 (A.R.n : Int) (A.kept p.toNat)) := by
  obtain ⟨⟨h1, h2⟩, ⟨h3, h4⟩, h5, h6, h7, h8⟩ := id hC
  have h30 := hA.1.n30
  refine ⟨fun hc => ?_, fun hc => ?_⟩
  · have hx : MX3_save n9 S p = some (Sum.inl "java/lang/IndexOutOfBoundsException", S) := by
      unfold MX3_save
      rw [qb_s (demandSlot_ok hp), if_neg hc]
      rfl
    unfold ML_save
    rw [qb_s hx, qyp_l, if_pos rfl]
    exact COp.thr hC (Or.inl rfl)
  · obtain ⟨k, hk⟩ : ∃ k : Nat, p = (k : Int) := ⟨p.toNat, by omega⟩
    subst hk
    have hk2 : k < 2 := by omega
    obtain ⟨S1, e1, e2, e3⟩ := copy_ok (n9 := n9) (S := S) (u0 := 7) (u1 := 100 + 5 * k) (by omega) (by decide +kernel) (qk_sl hk2) (by omega)
    have f : ∀ q j, (q < 100 + 5 * k ∨ 100 + 5 * k + 4 < q) → S1 q j = S q j := fun q j hq => e2 q j (by unfold aRec; simp; omega)
    generalize hS2 : q2 S1 29 k 1 = S2
    have g : ∀ q j, q ≠ 29 → S2 q j = S1 q j := fun q j hq => by rw [← hS2, q2_p hq]
    have hx : MX3_save n9 S (k : Int) = some (Sum.inr (A.R.n : Int), S2) := by
      unfold MX3_save
      rw [qb_s (demandSlot_ok hp), if_pos hc, qy_inr, qg_t (by omega), toNat_c, qb_s e1, qg_t (by omega), ql, hS2, g 7 4 (by decide), f 7 4 (by omega), h1.n]
    unfold ML_save
    rw [qb_s hx, qyp_r, qg_t (by constructor <;> omega), ql, toNat_c]
    refine COp.ret (S' := S2) ⟨⟨h1.cg (fun q j a b => by rw [g _ _ (by omega), f _ _ (by omega)]), by rw [g _ _ (by decide), f _ _ (by omega)]; exact h2⟩, ⟨by rw [g _ _ (by decide), f _ _ (by omega)]; exact h3, fun j hj => by rw [g _ _ (by decide), f _ _ (by omega)]; exact h4 j hj⟩, fun i hi => ?_, by rw [g _ _ (by decide), f _ _ (by omega)]; exact h6, by rw [g _ _ (by decide), f _ _ (by omega)]; exact h7, fun i R hR => ?_⟩ (fun q j hq => by rw [g _ _ (by omega), f _ _ (by omega)])
    · by_cases hik : i = k
      · subst hik
        refine ⟨?_, fun R hR => ?_⟩
        · rw [← hS2, q2_s]
          show (1 : Int) = if (if i = i then some A.R else A.sv i).isSome = true then 1 else 0
          rw [if_pos rfl]
          rfl
        · have hR : (if i = i then some A.R else A.sv i) = some R := hR
          rw [if_pos rfl] at hR
          cases hR
          exact (e3 _ h30 h1).cg (fun q j a b => g q j (by omega))
      · refine ⟨?_, fun R hR => ?_⟩
        · rw [← hS2, q2_j hik, f _ _ (by omega)]
          show S 29 i = if (if i = k then some A.R else A.sv i).isSome = true then 1 else 0
          rw [if_neg hik]
          exact (h5 i hi).1
        · have hR : (if i = k then some A.R else A.sv i) = some R := hR
          rw [if_neg hik] at hR
          exact ((h5 i hi).2 R hR).cg (fun q j a b => by rw [g _ _ (by omega), f _ _ (by omega)])
    · have e0 : S2 0 7 = S 0 7 := by rw [g _ _ (by decide), f _ _ (by omega)]
      rw [e0]
      have := h8 i R hR
      exact this.cg (fun q j a b => by rw [g _ _ (by omega), f _ _ (by omega)])
theorem in01 {n9 : Nat} {S : qS} {p lo hi : Int} (hp : qR p) (h1 : qRl lo) (h2 : qRl hi) (h : lo ≤ p ∧ p ≤ hi) : MX4_in n9 S p lo hi = some 1 := by rw [in_ok (qRl_of hp) h1 h2, if_pos h]
theorem in00 {n9 : Nat} {S : qS} {p lo hi : Int} (hp : qR p) (h1 : qRl lo) (h2 : qRl hi) (h : ¬ (lo ≤ p ∧ p ≤ hi)) : MX4_in n9 S p lo hi = some 0 := by rw [in_ok (qRl_of hp) h1 h2, if_neg h]
theorem ref0 {n9 : Nat} {S : qS} : MX4_refused n9 S 0 = some (0, q2 S 110 0 0) := by rw [refused_ok (by decide)]; rfl
theorem ref1 {n9 : Nat} {S : qS} : MX4_refused n9 S 1 = some (1, q2 S 110 0 1) := by rw [refused_ok (by decide)]; rfl
theorem ref2 {n9 : Nat} {S : qS} : MX4_refused n9 S 2 = some (1, q2 S 110 0 2) := by rw [refused_ok (by decide)]; rfl
theorem save_m {n9 : Nat} {S : qS} {A : QA} {p : Int} (hn : 2000 ≤ n9) (hp : qR p) (hA : AOk A) (hM : MR S A) : (¬ (0 ≤ p ∧ p < 2) → MOp S (MX4_save n9 S p) 1 0 A) ∧ ((0 ≤ p ∧ p < 2) → MOp S (MX4_save n9 S p) 0 (A.R.n : Int) (A.kept p.toNat)) := by
  have h30 := hA.1.n30
  obtain ⟨l1, l2, l3, l4, l5, l6, l7, l8⟩ := l119
  refine ⟨fun hc => ?_, fun hc => ?_⟩
  · have hx : MX4_save n9 S p = some (0, q2 S 110 0 1) := by
      unfold MX4_save
      rw [qg_t hp, qb_s (in00 hp (by decide) (by decide) (by omega)), qg_t (by decide)]
      simp only [ql, if_true]
      rw [qb_s ref1]
      rfl
    rw [hx]
    exact MOp.no hM (Or.inl rfl)
  · obtain ⟨k, hk⟩ : ∃ k : Nat, p = (k : Int) := ⟨p.toNat, by omega⟩
    subst hk
    have hk2 : k < 2 := by omega
    obtain ⟨h1, ⟨h3, h4⟩, h5, h6, h7⟩ := hM.ref (k := 0)
    obtain ⟨S1, c1, c2⟩ := mcopy_ok (n9 := n9) (S := q2 S 110 0 0) (u0 := 117) (u2 := 120) (a := 0) (b := 95 * k) (m := 95) (p1 := 0) (p3 := 95 * (k : Int)) (p4 := 95) l4 l8 (by omega) (by omega) (Or.inl (by decide)) (by omega) (by decide) rfl (by omega) rfl
    have g : ∀ q j, q ≠ 120 → S1 q j = q2 S 110 0 0 q j := fun q j hq => by rw [c2, if_neg (by omega)]
    generalize hS2 : q2 S1 121 k 1 = S2
    have f : ∀ q j, q ≠ 121 → S2 q j = S1 q j := fun q j hq => by rw [← hS2, q2_p hq]
    have hx : MX4_save n9 S (k : Int) = some ((A.R.n : Int), S2) := by
      unfold MX4_save
      rw [qg_t hp, qb_s (in01 hp (by decide) (by decide) (by omega)), qg_t (by decide)]
      simp only [ql]
      rw [if_neg (by decide), qb_s ref0]
      simp only [if_true]
      rw [qg_t (by decide), qb_s c1, qg_t (by omega), toNat_c, hS2, qg_t (by decide)]
      show some (S2 117 0, S2) = _
      rw [f _ _ (by decide), g _ _ (by decide), h1.n]
    refine ⟨_, S2, hx, ⟨?_, ⟨by rw [f _ _ (by decide), g _ _ (by decide)]; exact h3, fun j hj => by rw [f _ _ (by decide), g _ _ (by decide)]; exact h4 j hj⟩, fun i hi => ?_, by rw [f _ _ (by decide), g _ _ (by decide)]; exact h6, fun i R hR => QMo.of (hA.2.2.2.2 R (List.mem_of_getElem? hR)).n30 (h7 i R hR) (fun j hj => by rw [f _ _ (by decide), g _ _ (by decide)]; rfl)⟩, by rw [f _ _ (by decide), g _ _ (by decide), q2_s], fun _ => rfl, by constructor <;> omega, fun q j hq => by rw [f _ _ (by omega), g _ _ (by omega), q2_p (by omega)]⟩
    · exact QMo.r (QMo.of h30 h1.o (fun j hj => by rw [f _ _ (by decide), g _ _ (by decide)]))
    · by_cases hik : i = k
      · subst hik
        refine ⟨?_, fun R hR => ?_⟩
        · rw [← hS2, q2_s]
          show (1 : Int) = if (if i = i then some A.R else A.sv i).isSome = true then 1 else 0
          rw [if_pos rfl]
          rfl
        · have hR : (if i = i then some A.R else A.sv i) = some R := hR
          rw [if_pos rfl] at hR
          cases hR
          refine QMo.of h30 h1.o (fun j hj => ?_)
          rw [f _ _ (by decide), c2, if_pos (by omega)]
          exact congrArg _ (by omega)
      · refine ⟨?_, fun R hR => ?_⟩
        · rw [← hS2, q2_j hik, g _ _ (by decide)]
          show q2 S 110 0 0 121 i = if (if i = k then some A.R else A.sv i).isSome = true then 1 else 0
          rw [if_neg hik]
          exact (h5 i hi).1
        · have hR : (if i = k then some A.R else A.sv i) = some R := hR
          rw [if_neg hik] at hR
          refine QMo.of (hA.2.2.1 i hi R hR).n30 ((h5 i hi).2 R hR) (fun j hj => ?_)
          rw [f _ _ (by decide), c2, if_neg (by omega)]
def QA.got (A : QA) (R : QR) : QA := (R, A.2.1, A.2.2.1, [])
theorem AOk.got {A : QA} {R : QR} (h : AOk A) (hR : QV R) : AOk (A.got R) := ⟨hR, h.2.1, h.2.2.1, Nat.zero_le _, fun R hR => by cases hR⟩
theorem AOk.back {A : QA} {R : QR} {U : List QR} (h : AOk A) (he : A.U = R :: U) : AOk (A.back R U) := by
  obtain ⟨h1, h2, h3, h4, h5⟩ := h
  rw [he] at h4 h5
  exact ⟨h5 R List.mem_cons_self, h2, h3, by rw [List.length_cons] at h4; show U.length ≤ 14; omega, fun Q hQ => h5 Q (List.mem_cons_of_mem _ hQ)⟩
theorem restore_c {n9 : Nat} {S : qS} {A : QA} {p : Int} (hn : 2000 ≤ n9) (hp : qR p) (hA : AOk A) (hC : CR S A) : (¬ (0 ≤ p ∧ p < 2) → COp S (ML_restore n9 S p) 1 0 A) ∧ ((0 ≤ p ∧ p < 2) → A.sv p.toNat = none → COp S (ML_restore n9 S p) 2 0 A) ∧ ((0 ≤ p ∧ p < 2) → ∀ R, A.sv p.toNat = some R → COp S (ML_restore n9 S p) 0 (R.n : Int) (A.got R)) := by
  obtain ⟨⟨h1, h2⟩, ⟨h3, h4⟩, h5, h6, h7, h8⟩ := id hC
  refine ⟨fun hc => ?_, fun hc hs => ?_, fun hc R hs => ?_⟩
  · have hx : MX3_restore n9 S p = some (Sum.inl "java/lang/IndexOutOfBoundsException", S) := by
      unfold MX3_restore
      rw [qb_s (demandSlot_ok hp), if_neg hc]
      rfl
    unfold ML_restore
    rw [qb_s hx, qyp_l, if_pos rfl]
    exact COp.thr hC (Or.inl rfl)
  · have hv := (h5 p.toNat (by omega)).1
    rw [hs] at hv
    have hv : S 29 p.toNat = 0 := hv
    have hx : MX3_restore n9 S p = some (Sum.inl "java/lang/IllegalStateException", S) := by
      unfold MX3_restore
      rw [qb_s (demandSlot_ok hp), if_pos hc, qy_inr, qg_t hc, hv, qg_t (by decide), if_pos rfl]
    unfold ML_restore
    rw [qb_s hx, qyp_l, if_neg ise_ioo, if_pos rfl]
    exact COp.thr hC (Or.inr rfl)
  · obtain ⟨k, hk⟩ : ∃ k : Nat, p = (k : Int) := ⟨p.toNat, by omega⟩
    subst hk
    rw [toNat_c] at hs
    have hk2 : k < 2 := by omega
    have hv := (h5 k hk2).1
    rw [hs] at hv
    have hv : S 29 k = 1 := hv
    have hR := hA.2.2.1 k hk2 R hs
    have h30 := hR.n30
    obtain ⟨S1, e1, e2, e3⟩ := copy_ok (n9 := n9) (S := S) (u0 := 100 + 5 * k) (u1 := 7) (by omega) (qk_sl hk2) (by decide +kernel) (by omega)
    have f : ∀ q j, (q < 7 ∨ 11 < q) → S1 q j = S q j := fun q j hq => e2 q j (by unfold aRec; simp; omega)
    have e4 := e3 R h30 ((h5 k hk2).2 R hs)
    generalize hS2 : q2 S1 0 8 0 = S2
    have g : ∀ q j, q ≠ 0 → S2 q j = S1 q j := fun q j hq => by rw [← hS2, q2_p hq]
    have hx : MX3_restore n9 S (k : Int) = some (Sum.inr (R.n : Int), S2) := by
      unfold MX3_restore
      rw [qb_s (demandSlot_ok hp), if_pos hc, qy_inr, qg_t hc, toNat_c, hv, qg_t (by decide), if_neg (by decide), qg_t hc, qb_s e1, ql, hS2, g 7 4 (by decide), e4.n]
    unfold ML_restore
    rw [qb_s hx, qyp_r, qg_t (by constructor <;> omega), ql]
    refine COp.ret (S' := S2) ⟨⟨e4.cg (fun q j a b => g q j (by omega)), by rw [g _ _ (by decide), f _ _ (by omega)]; exact h2⟩, ⟨by rw [g _ _ (by decide), f _ _ (by omega)]; exact h3, fun j hj => by rw [g _ _ (by decide), f _ _ (by omega)]; exact h4 j hj⟩, fun i hi => ⟨by rw [g _ _ (by decide), f _ _ (by omega)]; exact (h5 i hi).1, fun Q hQ => ((h5 i hi).2 Q hQ).cg (fun q j a b => by rw [g _ _ (by omega), f _ _ (by omega)])⟩, by rw [← hS2, q2_j (by decide), f 0 7 (by omega)]; exact h6, by rw [← hS2, q2_s]; rfl, fun i Q hQ => by cases hQ⟩ (fun q j hq => by rw [g _ _ (by omega), f _ _ (by omega)])
theorem restore_m {n9 : Nat} {S : qS} {A : QA} {p : Int} (hn : 2000 ≤ n9) (hp : qR p) (hA : AOk A) (hM : MR S A) : (¬ (0 ≤ p ∧ p < 2) → MOp S (MX4_restore n9 S p) 1 0 A) ∧ ((0 ≤ p ∧ p < 2) → A.sv p.toNat = none → MOp S (MX4_restore n9 S p) 2 0 A) ∧ ((0 ≤ p ∧ p < 2) → ∀ R, A.sv p.toNat = some R → MOp S (MX4_restore n9 S p) 0 (R.n : Int) (A.got R)) := by
  obtain ⟨l1, l2, l3, l4, l5, l6, l7, l8⟩ := l119
  have h50 := hM.2.2.1
  refine ⟨fun hc => ?_, fun hc hs => ?_, fun hc R hs => ?_⟩
  · have hx : MX4_restore n9 S p = some (0, q2 S 110 0 1) := by
      unfold MX4_restore
      rw [qg_t hp, qb_s (in00 hp (by decide) (by decide) (by omega)), qg_t (by decide)]
      simp only [ql, if_true]
      rw [qb_s ref1]
      rfl
    rw [hx]
    exact MOp.no hM (Or.inl rfl)
  · have hv := (h50 p.toNat (by omega)).1
    rw [hs] at hv
    have hv : S 121 p.toNat = 0 := hv
    have hx : MX4_restore n9 S p = some (0, q2 S 110 0 2) := by
      unfold MX4_restore
      rw [qg_t hp, qb_s (in01 hp (by decide) (by decide) (by omega)), qg_t (by decide)]
      simp only [ql]
      rw [if_neg (by decide), qg_t hc, hv, qg_t (by decide), if_pos rfl, qb_s ref2]
      rfl
    rw [hx]
    exact MOp.no hM (Or.inr rfl)
  · obtain ⟨k, hk⟩ : ∃ k : Nat, p = (k : Int) := ⟨p.toNat, by omega⟩
    subst hk
    rw [toNat_c] at hs
    have hk2 : k < 2 := by omega
    have hv := (h50 k hk2).1
    rw [hs] at hv
    have hv : S 121 k = 1 := hv
    have hR := hA.2.2.1 k hk2 R hs
    have h30 := hR.n30
    obtain ⟨h1, ⟨h3, h4⟩, h5, h6, h7⟩ := hM.ref (k := 0)
    obtain ⟨S1, c1, c2⟩ := mcopy_ok (n9 := n9) (S := q2 S 110 0 0) (u0 := 120) (u2 := 117) (a := 95 * k) (b := 0) (m := 95) (p1 := 95 * (k : Int)) (p3 := 0) (p4 := 95) l8 l4 (by omega) (by omega) (Or.inl (by decide)) (by omega) (by decide) (by omega) rfl rfl
    have g : ∀ q j, q ≠ 117 → S1 q j = q2 S 110 0 0 q j := fun q j hq => by rw [c2, if_neg (by omega)]
    generalize hS2 : q2 S1 110 15 0 = S2
    have f : ∀ q j, (q ≠ 110 ∨ j ≠ 15) → S2 q j = S1 q j := fun q j hq => by rw [← hS2, q2_ne (by omega)]
    have h9 : QMr S2 117 R := QMo.r (QMo.of h30 ((h5 k hk2).2 R hs) (fun j hj => by
      rw [f _ _ (by omega), c2, if_pos (by omega)]
      exact congrArg _ (by omega)))
    have hx : MX4_restore n9 S (k : Int) = some ((R.n : Int), S2) := by
      unfold MX4_restore
      rw [qg_t hp, qb_s (in01 hp (by decide) (by decide) (by omega)), qg_t (by decide)]
      simp only [ql]
      rw [if_neg (by decide), qg_t hc, toNat_c, hv, qg_t (by decide), if_neg (by decide), qb_s ref0]
      simp only [if_true]
      rw [qg_t (by decide), qb_s c1, hS2, qg_t (by decide)]
      show some (S2 117 0, S2) = _
      rw [h9.n]
    refine ⟨_, S2, hx, ⟨h9, ⟨by rw [f _ _ (by omega), g _ _ (by decide)]; exact h3, fun j hj => by rw [f _ _ (by omega), g _ _ (by decide)]; exact h4 j hj⟩, fun i hi => ⟨by rw [f _ _ (by omega), g _ _ (by decide)]; exact (h5 i hi).1, fun Q hQ => QMo.of (hA.2.2.1 i hi Q hQ).n30 ((h5 i hi).2 Q hQ) (fun j hj => by rw [f _ _ (by omega), g _ _ (by decide)])⟩, by rw [← hS2, q2_s]; rfl, fun i Q hQ => by cases hQ⟩, by rw [f _ _ (by omega), g _ _ (by decide), q2_s], fun _ => rfl, by constructor <;> omega, fun q j hq => by rw [f _ _ (by omega), g _ _ (by omega), q2_p (by omega)]⟩
