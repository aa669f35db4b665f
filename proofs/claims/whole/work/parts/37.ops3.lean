/-! roll, strike, weigh, bill, set, setting, append, clearText -/
theorem CR.row {S S' : qS} {A : QA} {R' : QR} (h : CR S A) (hC : QCr S' 7 R') (hH : qH (aRec 7) S S') : CR S' (A.setR R') := by
  obtain ⟨⟨h1, h2⟩, ⟨h3, h4⟩, h5, h6, h7, h8⟩ := h
  have f : ∀ q j, (q < 7 ∨ 11 < q) → S' q j = S q j := fun q j hq => hH q j (aRec_r (by omega))
  exact ⟨⟨hC, by rw [f _ _ (by omega)]; exact h2⟩, ⟨by rw [f _ _ (by omega)]; exact h3, fun j hj => by rw [f _ _ (by omega)]; exact h4 j hj⟩, fun k hk => ⟨by rw [f _ _ (by omega)]; exact (h5 k hk).1, fun R hR => ((h5 k hk).2 R hR).cg (fun q j a b => f q j (by omega))⟩, by rw [f _ _ (by omega)]; exact h6, by rw [f _ _ (by omega)]; exact h7, fun i R hR => by rw [f 0 7 (by omega)]; exact (h8 i R hR).cg (fun q j a b => f q j (by omega))⟩
theorem MR.row {S S' : qS} {A : QA} {R' : QR} (hA : AOk A) (h : MR S A) (hM : QMr S' 117 R') (hH : qH (aW 117) S S') : MR S' (A.setR R') := by
  obtain ⟨h1, ⟨h3, h4⟩, h5, h6, h7⟩ := h
  have f : ∀ q j, q ≠ 117 → S' q j = S q j := fun q j hq => hH q j (by simp [aW, hq])
  exact ⟨hM, ⟨by rw [f _ _ (by decide)]; exact h3, fun j hj => by rw [f _ _ (by decide)]; exact h4 j hj⟩, fun k hk => ⟨by rw [f _ _ (by decide)]; exact (h5 k hk).1, fun R hR => QMo.of (hA.2.2.1 k hk R hR).n30 ((h5 k hk).2 R hR) (fun j hj => f _ _ (by decide))⟩, by rw [f _ _ (by decide)]; exact h6, fun i R hR => QMo.of (hA.2.2.2.2 R (List.mem_of_getElem? hR)).n30 (h7 i R hR) (fun j hj => f _ _ (by decide))⟩
theorem cOut.row {S S' : qS} (hH : qH (aRec 7) S S') : cOut S S' := fun p j hp => hH p j (aRec_r (by omega))
theorem mOut.row {S S' : qS} (hH : qH (aW 117) S S') : mOut S S' := fun p j hp => hH p j (by unfold aW; simp; omega)
theorem q7 : qr2 7 := Or.inl rfl
theorem w117 : wr2 117 := Or.inl rfl
/-- the reference's way into an action: not refused, remembered -/
theorem mact {n9 : Nat} {S : qS} {A : QA} (hn : 2000 ≤ n9) (hA : AOk A) (hM : MR S A) : ∃ S2, MX4_remember n9 (q2 S 110 0 0) = some S2 ∧ MR S2 A.rem ∧ mOut S S2 ∧ S2 110 0 = 0 := by
  obtain ⟨S2, e1, e2, e3, e4⟩ := mremember_ok (n9 := n9) hn hA (hM.ref (k := 0))
  exact ⟨S2, e1, e2, fun p j hp => (e3 p j hp).trans (mOut.ref p j hp), by rw [e4 0 (by decide), q2_s]⟩
theorem roll_c {n9 : Nat} {S : qS} {A : QA} {p w : Int} (hn : 2000 ≤ n9) (hp : qR p) (hw : qR w) (hA : AOk A) (hC : CR S A) : (¬ ((1 ≤ p ∧ p ≤ 60) ∧ (1 ≤ w ∧ w ≤ 99)) → COp S (ML_roll n9 S p w) 1 0 A) ∧ (((1 ≤ p ∧ p ≤ 60) ∧ (1 ≤ w ∧ w ≤ 99)) → A.R.n = 30 → COp S (ML_roll n9 S p w) 2 0 A) ∧ (((1 ≤ p ∧ p ≤ 60) ∧ (1 ≤ w ∧ w ≤ 99)) → A.R.n < 30 → COp S (ML_roll n9 S p w) 0 (A.R.n : Int) (A.rem.setR (qadd A.R p w))) := by
  have hV := hA.1
  have h30 := hV.n30
  have hn7 : S 7 4 = (A.R.n : Int) := hC.1.1.n
  refine ⟨fun hc => ?_, fun hc hR => ?_, fun hc hR => ?_⟩
  · have hx : MX3_roll n9 S p w = some (Sum.inl "java/lang/IllegalArgumentException", S) := by
      unfold MX3_roll
      rw [qb_s (isPause_ok hp), qg_t q01R, ql]
      by_cases h1 : 1 ≤ p ∧ p ≤ 60
      · rw [if_pos h1, if_neg (by decide), qb_s (isWeight_ok hw), qg_t q01R, if_neg (fun h2 => hc ⟨h1, h2⟩), if_pos rfl]
      · rw [if_neg h1, if_pos rfl]
    unfold ML_roll
    rw [qb_s hx, qyp_l, if_pos rfl]
    exact COp.thr hC (Or.inl rfl)
  · have hx : MX3_roll n9 S p w = some (Sum.inl "java/lang/IllegalStateException", S) := by
      unfold MX3_roll
      rw [qb_s (isPause_ok hp), qg_t q01R, ql, if_pos hc.1, if_neg (by decide), qb_s (isWeight_ok hw), qg_t q01R, if_pos hc.2, if_neg (by decide), hn7, qg_t (by constructor <;> omega), if_neg (by omega)]
    unfold ML_roll
    rw [qb_s hx, qyp_l, if_neg ise_iae, if_pos rfl]
    exact COp.thr hC (Or.inr rfl)
  · obtain ⟨S1, e1, e2, e3, e4⟩ := remember_ok (n9 := n9) (by omega) hA hC
    obtain ⟨S2, g1, g2, g3⟩ := (addAxle_ok (n9 := n9) q7 hV e4 hp hw).1 ⟨hc.1, hc.2, hR⟩
    have hx : MX3_roll n9 S p w = some (Sum.inr (A.R.n : Int), S2) := by
      unfold MX3_roll
      rw [qb_s (isPause_ok hp), qg_t q01R, ql, if_pos hc.1, if_neg (by decide), qb_s (isWeight_ok hw), qg_t q01R, if_pos hc.2, if_neg (by decide), hn7, qg_t (by constructor <;> omega), if_pos (by omega), qb_s e1, qb_s g1]
      show some (Sum.inr (S2 7 4 - 1), S2) = _
      rw [g2.n]
      show some (Sum.inr (((A.R.n + 1 : Nat) : Int) - 1), S2) = _
      rw [show ((A.R.n + 1 : Nat) : Int) - 1 = (A.R.n : Int) by omega]
    unfold ML_roll
    rw [qb_s hx, qyp_r, qg_t (by constructor <;> omega), ql]
    exact COp.ret (S' := S2) (CR.row e2 g2 g3) (fun q j hq => (cOut.row g3 q j hq).trans (e3 q j hq))
theorem roll_m {n9 : Nat} {S : qS} {A : QA} {p w : Int} (hn : 2000 ≤ n9) (hp : qR p) (hw : qR w) (hA : AOk A) (hM : MR S A) : (¬ ((1 ≤ p ∧ p ≤ 60) ∧ (1 ≤ w ∧ w ≤ 99)) → MOp S (MX4_roll n9 S p w) 1 0 A) ∧ (((1 ≤ p ∧ p ≤ 60) ∧ (1 ≤ w ∧ w ≤ 99)) → A.R.n = 30 → MOp S (MX4_roll n9 S p w) 2 0 A) ∧ (((1 ≤ p ∧ p ≤ 60) ∧ (1 ≤ w ∧ w ≤ 99)) → A.R.n < 30 → MOp S (MX4_roll n9 S p w) 0 (A.R.n : Int) (A.rem.setR (qadd A.R p w))) := by
  have hV := hA.1
  have h30 := hV.n30
  have hn7 : S 117 (0 : Int).toNat = (A.R.n : Int) := hM.1.n
  refine ⟨fun hc => ?_, fun hc hR => ?_, fun hc hR => ?_⟩
  · have hx : MX4_roll n9 S p w = some (0, q2 S 110 0 1) := by
      unfold MX4_roll
      rw [qb_s (misPause_ok hp), qg_t q01R]
      simp only [ql, if_true]
      by_cases h1 : 1 ≤ p ∧ p ≤ 60
      · rw [if_pos h1, if_neg (by decide), qb_s (misWeight_ok hw), qg_t q01R, if_neg (fun h2 => hc ⟨h1, h2⟩), if_pos rfl, qg_t (by decide), qb_s ref1]
        rfl
      · rw [if_neg h1, if_pos rfl, qg_t (by decide), qb_s ref1]
        rfl
    rw [hx]
    exact MOp.no hM (Or.inl rfl)
  · have hx : MX4_roll n9 S p w = some (0, q2 S 110 0 2) := by
      unfold MX4_roll
      rw [qb_s (misPause_ok hp), qg_t q01R]
      simp only [ql, if_true]
      rw [if_pos hc.1, if_neg (by decide), qb_s (misWeight_ok hw), qg_t q01R, if_pos hc.2, if_neg (by decide), qg_t (by decide), if_neg (by decide), qg_t (by decide), hn7, qg_t (by constructor <;> omega), if_pos (by omega), qb_s ref2]
      rfl
    rw [hx]
    exact MOp.no hM (Or.inr rfl)
  · obtain ⟨S2, e1, e2, e3, e4⟩ := mact (n9 := n9) hn hA hM
    obtain ⟨S3, g1, g2, g3⟩ := mrollIn_ok (n9 := n9) (p := p) (x := w) w117 hV e2.1 hR
    have hx : MX4_roll n9 S p w = some ((A.R.n : Int), S3) := by
      unfold MX4_roll
      rw [qb_s (misPause_ok hp), qg_t q01R]
      simp only [ql, if_true]
      rw [if_pos hc.1, if_neg (by decide), qb_s (misWeight_ok hw), qg_t q01R, if_pos hc.2, if_neg (by decide), qg_t (by decide), if_neg (by decide), qg_t (by decide), hn7, qg_t (by constructor <;> omega), if_neg (by omega), qb_s ref0]
      simp only [if_true]
      rw [qg_t (by decide), qb_s e1, qb_s g1]
    exact ⟨_, S3, hx, MR.row hA.rem e2 g2 g3, by rw [g3 110 0 rfl]; exact e4, fun _ => rfl, by constructor <;> omega, fun q j hq => (mOut.row g3 q j hq).trans (e3 q j hq)⟩
theorem demandAxle_ok {n9 : Nat} {S : qS} {R : QR} {p : Int} (hV : QV R) (hC : QCr S 7 R) (hp : qR p) : MX3_demandAxle n9 S p = some (if 0 ≤ p ∧ p < (R.n : Int) then Sum.inr 0 else Sum.inl "java/lang/IndexOutOfBoundsException") := by
  unfold MX3_demandAxle
  rw [qb_s (has_ok q7 hV hC hp), qg_t q01R]
  by_cases h : 0 ≤ p ∧ p < (R.n : Int)
  · rw [if_pos h, if_neg (by decide), if_pos h]
  · rw [if_neg h, if_pos rfl, if_neg h]
theorem strike_c {n9 : Nat} {S : qS} {A : QA} {p : Int} (hn : 2000 ≤ n9) (hp : qR p) (hA : AOk A) (hC : CR S A) : (¬ (0 ≤ p ∧ p < (A.R.n : Int)) → COp S (ML_strike n9 S p) 1 0 A) ∧ ((0 ≤ p ∧ p < (A.R.n : Int)) → COp S (ML_strike n9 S p) 0 ((A.R.n : Int) - 1) (A.rem.setR (qstrike A.R p.toNat))) := by
  have hV := hA.1
  have h30 := hV.n30
  refine ⟨fun hc => ?_, fun hc => ?_⟩
  · have hx : MX3_strike n9 S p = some (Sum.inl "java/lang/IndexOutOfBoundsException", S) := by
      unfold MX3_strike
      rw [qb_s (demandAxle_ok hV hC.1.1 hp), if_neg hc]
      rfl
    unfold ML_strike
    rw [qb_s hx, qyp_l, if_pos rfl]
    exact COp.thr hC (Or.inl rfl)
  · obtain ⟨S1, e1, e2, e3, e4⟩ := remember_ok (n9 := n9) (by omega) hA hC
    obtain ⟨S2, g1, g2, g3⟩ := (dropAxle_ok (n9 := n9) q7 (by omega) hV e4 hp).1 hc
    have hx : MX3_strike n9 S p = some (Sum.inr ((A.R.n : Int) - 1), S2) := by
      unfold MX3_strike
      rw [qb_s (demandAxle_ok hV hC.1.1 hp), if_pos hc, qy_inr, qb_s e1, qb_s g1]
      show some (Sum.inr (S2 7 4), S2) = _
      rw [g2.n]
      show some (Sum.inr ((A.R.n - 1 : Nat) : Int), S2) = _
      rw [show ((A.R.n - 1 : Nat) : Int) = (A.R.n : Int) - 1 by omega]
    unfold ML_strike
    rw [qb_s hx, qyp_r, qg_t (by constructor <;> omega), ql]
    exact COp.ret (S' := S2) (CR.row e2 g2 g3) (fun q j hq => (cOut.row g3 q j hq).trans (e3 q j hq))
theorem strike_m {n9 : Nat} {S : qS} {A : QA} {p : Int} (hn : 2000 ≤ n9) (hp : qR p) (hA : AOk A) (hM : MR S A) : (¬ (0 ≤ p ∧ p < (A.R.n : Int)) → MOp S (MX4_strike n9 S p) 1 0 A) ∧ ((0 ≤ p ∧ p < (A.R.n : Int)) → MOp S (MX4_strike n9 S p) 0 ((A.R.n : Int) - 1) (A.rem.setR (qstrike A.R p.toNat))) := by
  have hV := hA.1
  have h30 := hV.n30
  refine ⟨fun hc => ?_, fun hc => ?_⟩
  · have hx : MX4_strike n9 S p = some (0, q2 S 110 0 1) := by
      unfold MX4_strike
      rw [qb_s (isAxle_ok hV hM.1 hp), qg_t q01R]
      simp only [ql]
      rw [if_neg hc, if_pos rfl, qb_s ref1]
      rfl
    rw [hx]
    exact MOp.no hM (Or.inl rfl)
  · obtain ⟨S2, e1, e2, e3, e4⟩ := mact (n9 := n9) hn hA hM
    obtain ⟨S3, g1, g2, g3⟩ := mstrikeIn_ok (n9 := n9) (i := p.toNat) (p := p) w117 hn hV e2.1 (by omega) (by omega)
    have hx : MX4_strike n9 S p = some ((A.R.n : Int) - 1, S3) := by
      unfold MX4_strike
      rw [qb_s (isAxle_ok hV hM.1 hp), qg_t q01R]
      simp only [ql]
      rw [if_pos hc, if_neg (by decide), qb_s ref0]
      simp only [if_true]
      rw [qg_t (by decide), qb_s e1, qb_s g1]
    exact ⟨_, S3, hx, MR.row hA.rem e2 g2 g3, by rw [g3 110 0 rfl]; exact e4, fun _ => rfl, by constructor <;> omega, fun q j hq => (mOut.row g3 q j hq).trans (e3 q j hq)⟩
