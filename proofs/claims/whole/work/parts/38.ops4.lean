/-! weigh, bill, set, setting, append, clearText -/
theorem weigh_c {n9 : Nat} {S : qS} {A : QA} {p w : Int} (hn : 2000 ≤ n9) (hp : qR p) (hw : qR w) (hA : AOk A) (hC : CR S A) : (¬ (0 ≤ p ∧ p < (A.R.n : Int)) → COp S (ML_weigh n9 S p w) 1 0 A) ∧ ((0 ≤ p ∧ p < (A.R.n : Int)) → ¬ (1 ≤ w ∧ w ≤ 99) → COp S (ML_weigh n9 S p w) 2 0 A) ∧ ((0 ≤ p ∧ p < (A.R.n : Int)) → (1 ≤ w ∧ w ≤ 99) → COp S (ML_weigh n9 S p w) 0 (A.R.we p.toNat) (A.rem.setR (qputw A.R p.toNat w))) := by
  have hV := hA.1
  have h30 := hV.n30
  refine ⟨fun hc => ?_, fun hc h2 => ?_, fun hc h2 => ?_⟩
  · have hx : MX3_weigh n9 S p w = some (Sum.inl "java/lang/IndexOutOfBoundsException", S) := by
      unfold MX3_weigh
      rw [qb_s (demandAxle_ok hV hC.1.1 hp), if_neg hc]
      rfl
    unfold ML_weigh
    rw [qb_s hx, qyp_l, if_pos rfl]
    exact COp.thr hC (Or.inl rfl)
  · have hx : MX3_weigh n9 S p w = some (Sum.inl "java/lang/IllegalArgumentException", S) := by
      unfold MX3_weigh
      rw [qb_s (demandAxle_ok hV hC.1.1 hp), if_pos hc, qy_inr, qb_s (isWeight_ok hw), qg_t q01R, if_neg h2, if_pos rfl]
    unfold ML_weigh
    rw [qb_s hx, qyp_l, if_neg iae_ioo, if_pos rfl]
    exact COp.thr hC (Or.inr rfl)
  · obtain ⟨S1, e1, e2, e3, e4⟩ := remember_ok (n9 := n9) (by omega) hA hC
    obtain ⟨S2, g1, g2, g3⟩ := (putWeight_ok (n9 := n9) q7 hV e4 hp hw).1 ⟨hc, h2⟩
    have hwe := hV.we p.toNat (by omega)
    have hx : MX3_weigh n9 S p w = some (Sum.inr (A.R.we p.toNat), S2) := by
      unfold MX3_weigh
      rw [qb_s (demandAxle_ok hV hC.1.1 hp), if_pos hc, qy_inr, qb_s (isWeight_ok hw), qg_t q01R, if_pos h2, if_neg (by decide), qb_s (at_we (j := p.toNat) q7 hV hC.1.1 (by omega) (by omega)), qb_s e1, qb_s g1]
    unfold ML_weigh
    rw [qb_s hx, qyp_r, qg_t (by constructor <;> omega), ql]
    exact COp.ret (S' := S2) (CR.row e2 g2 g3) (fun q j hq => (cOut.row g3 q j hq).trans (e3 q j hq))
theorem weigh_m {n9 : Nat} {S : qS} {A : QA} {p w : Int} (hn : 2000 ≤ n9) (hp : qR p) (hw : qR w) (hA : AOk A) (hM : MR S A) : (¬ (0 ≤ p ∧ p < (A.R.n : Int)) → MOp S (MX4_weigh n9 S p w) 1 0 A) ∧ ((0 ≤ p ∧ p < (A.R.n : Int)) → ¬ (1 ≤ w ∧ w ≤ 99) → MOp S (MX4_weigh n9 S p w) 2 0 A) ∧ ((0 ≤ p ∧ p < (A.R.n : Int)) → (1 ≤ w ∧ w ≤ 99) → MOp S (MX4_weigh n9 S p w) 0 (A.R.we p.toNat) (A.rem.setR (qputw A.R p.toNat w))) := by
  have hV := hA.1
  have h30 := hV.n30
  refine ⟨fun hc => ?_, fun hc h2 => ?_, fun hc h2 => ?_⟩
  · have hx : MX4_weigh n9 S p w = some (0, q2 S 110 0 1) := by
      unfold MX4_weigh
      rw [qb_s (isAxle_ok hV hM.1 hp), qg_t q01R]
      simp only [ql]
      rw [if_neg hc, if_pos rfl, qb_s ref1]
      rfl
    rw [hx]
    exact MOp.no hM (Or.inl rfl)
  · have hx : MX4_weigh n9 S p w = some (0, q2 S 110 0 2) := by
      unfold MX4_weigh
      rw [qb_s (isAxle_ok hV hM.1 hp), qg_t q01R]
      simp only [ql]
      rw [if_pos hc, if_neg (by decide), qb_s (misWeight_ok hw), qg_t q01R, if_neg h2, if_pos rfl, qb_s ref2]
      rfl
    rw [hx]
    exact MOp.no hM (Or.inr rfl)
  · obtain ⟨S2, e1, e2, e3, e4⟩ := mact (n9 := n9) hn hA hM
    have hwe := hV.we p.toNat (by omega)
    have hix : (65 + p).toNat = 65 + p.toNat := by omega
    have e5 : S2 117 (65 + p.toNat) = A.R.we p.toNat := e2.1.we p.toNat (by show p.toNat < A.R.n; omega)
    have hx : MX4_weigh n9 S p w = some (A.R.we p.toNat, q2 S2 117 (65 + p.toNat) w) := by
      unfold MX4_weigh
      rw [qb_s (isAxle_ok hV hM.1 hp), qg_t q01R]
      simp only [ql]
      rw [if_pos hc, if_neg (by decide), qb_s (misWeight_ok hw), qg_t q01R, if_pos h2, if_neg (by decide), qb_s ref0]
      simp only [if_true]
      rw [qg_t (by decide), qb_s e1, qg_t (by omega), hix, qg_t (by omega), e5]
    have g2 : QMr (q2 S2 117 (65 + p.toNat) w) 117 (qputw A.R p.toNat w) := by
      obtain ⟨m1, m2, m3, m4, m5⟩ := e2.1
      refine ⟨by rw [q2_j (by omega)]; exact m1, fun j hj => by rw [q2_j (by have : j < A.R.n := hj; omega)]; exact m2 j hj, fun j hj => ?_, fun t ht => by rw [q2_j (by omega)]; exact m4 t ht, fun k hk => by rw [q2_j (by omega)]; exact m5 k hk⟩
      rw [q2_at]
      show _ = if j = p.toNat then w else A.R.we j
      by_cases h : j = p.toNat
      · rw [if_pos (by omega), if_pos h]
      · rw [if_neg (by omega), if_neg h]; exact m3 j hj
    have g3 : qH (aW 117) S2 (q2 S2 117 (65 + p.toNat) w) := qH.rfl.q2 rfl
    exact ⟨_, _, hx, MR.row hA.rem e2 g2 g3, by rw [g3 110 0 rfl]; exact e4, fun _ => rfl, by constructor <;> omega, fun q j hq => (mOut.row g3 q j hq).trans (e3 q j hq)⟩
theorem billOrNone_ok {n9 : Nat} {S : qS} {R : QR} {t : Nat} {p : Int} (hV : QV R) (hC : QCr S 7 R) (hp : p = (t : Int)) (ht : t < 30) : MX3_billOrNone n9 S p = some (if R.bi t = 0 then -1 else R.bi t) := by
  have hb := hV.bi t ht
  unfold MX3_billOrNone
  rw [qb_s (at_bi q7 hC hp ht), qg_t (by constructor <;> omega)]
  split <;> rfl
theorem bill_c {n9 : Nat} {S : qS} {A : QA} {p v : Int} (hn : 2000 ≤ n9) (hp : qR p) (hv : qR v) (hA : AOk A) (hC : CR S A) : (¬ ((0 ≤ p ∧ p < 30) ∧ (0 ≤ v ∧ v ≤ 9999)) → COp S (ML_bill n9 S p v) 1 0 A) ∧ (((0 ≤ p ∧ p < 30) ∧ (0 ≤ v ∧ v ≤ 9999)) → COp S (ML_bill n9 S p v) 0 (if A.R.bi p.toNat = 0 then -1 else A.R.bi p.toNat) (A.rem.setR (qputb A.R p.toNat v))) := by
  have hV := hA.1
  refine ⟨fun hc => ?_, fun hc => ?_⟩
  · have hx : MX3_bill n9 S p v = some (Sum.inl "java/lang/IllegalArgumentException", S) := by
      unfold MX3_bill
      rw [qg_t hp, ql]
      by_cases h1 : p < 0
      · rw [if_pos h1]
      · rw [if_neg h1]
        by_cases h2 : 30 ≤ p
        · rw [if_pos h2]
        · rw [if_neg h2, qg_t hv]
          by_cases h3 : v < 0
          · rw [if_pos h3]
          · rw [if_neg h3, if_neg (by omega)]
    unfold ML_bill
    rw [qb_s hx, qyp_l, if_pos rfl]
    exact COp.thr hC (Or.inl rfl)
  · obtain ⟨S1, e1, e2, e3, e4⟩ := remember_ok (n9 := n9) (by omega) hA hC
    have hb := hV.bi p.toNat (by omega)
    have hx : MX3_bill n9 S p v = some (Sum.inr (if A.R.bi p.toNat = 0 then -1 else A.R.bi p.toNat), q2 S1 (7 + 3) p.toNat v) := by
      unfold MX3_bill
      rw [qg_t hp, ql, if_neg (by omega), if_neg (by omega), qg_t hv, if_neg (by omega), if_pos (by omega), qb_s (billOrNone_ok (t := p.toNat) hV hC.1.1 (by omega) (by omega)), qb_s e1, qg_t (by omega), ql]
    have g2 : QCr (q2 S1 (7 + 3) p.toNat v) 7 (qputb A.R p.toNat v) := by
      obtain ⟨m1, m2, m3, m4, m5⟩ := e4
      refine ⟨by rw [q2_p (by decide)]; exact m1, fun j hj => by rw [q2_p (by decide)]; exact m2 j hj, fun j hj => by rw [q2_p (by decide)]; exact m3 j hj, fun t ht => ?_, fun k hk => by rw [q2_p (by decide)]; exact m5 k hk⟩
      rw [q2_at]
      show _ = if t = p.toNat then v else A.R.bi t
      by_cases h : t = p.toNat
      · rw [if_pos h, if_pos h]
      · rw [if_neg h, if_neg h]; exact m4 t ht
    have g3 : qH (aRec 7) S1 (q2 S1 (7 + 3) p.toNat v) := qH.rfl.q2 rfl
    unfold ML_bill
    rw [qb_s hx, qyp_r, qg_t (by split <;> (constructor <;> omega)), ql]
    exact COp.ret (CR.row e2 g2 g3) (fun q j hq => (cOut.row g3 q j hq).trans (e3 q j hq))
theorem bill_m {n9 : Nat} {S : qS} {A : QA} {p v : Int} (hn : 2000 ≤ n9) (hp : qR p) (hv : qR v) (hA : AOk A) (hM : MR S A) : (¬ ((0 ≤ p ∧ p < 30) ∧ (0 ≤ v ∧ v ≤ 9999)) → MOp S (MX4_bill n9 S p v) 1 0 A) ∧ (((0 ≤ p ∧ p < 30) ∧ (0 ≤ v ∧ v ≤ 9999)) → MOp S (MX4_bill n9 S p v) 0 (if A.R.bi p.toNat = 0 then -1 else A.R.bi p.toNat) (A.rem.setR (qputb A.R p.toNat v))) := by
  have hV := hA.1
  refine ⟨fun hc => ?_, fun hc => ?_⟩
  · have hx : MX4_bill n9 S p v = some (0, q2 S 110 0 1) := by
      unfold MX4_bill
      rw [qg_t hp, qb_s (in_ok (qRl_of hp) (by decide) (by decide)), qg_t q01R]
      simp only [ql]
      by_cases h1 : 0 ≤ p ∧ p ≤ 29
      · rw [if_pos h1, if_neg (by decide), qg_t hv, qb_s (in_ok (qRl_of hv) (by decide) (by decide)), qg_t q01R, if_neg (show ¬ (0 ≤ v ∧ v ≤ 9999) by omega), if_pos rfl, qb_s ref1]
        rfl
      · rw [if_neg h1, if_pos rfl, qb_s ref1]
        rfl
    rw [hx]
    exact MOp.no hM (Or.inl rfl)
  · obtain ⟨S2, e1, e2, e3, e4⟩ := mact (n9 := n9) hn hA hM
    have hb := hV.bi p.toNat (by omega)
    have hix : (5 + p).toNat = 5 + p.toNat := by omega
    have e5 : S2 117 (5 + p.toNat) = A.R.bi p.toNat := e2.1.bi p.toNat (by omega)
    have hx : MX4_bill n9 S p v = some (if A.R.bi p.toNat = 0 then -1 else A.R.bi p.toNat, q2 S2 117 (5 + p.toNat) v) := by
      unfold MX4_bill
      rw [qg_t hp, qb_s (in_ok (qRl_of hp) (by decide) (by decide)), qg_t q01R]
      simp only [ql]
      have hc1 : 0 ≤ p ∧ p ≤ 29 := by omega
      have hc2 : 0 ≤ v ∧ v ≤ 9999 := hc.2
      rw [if_pos hc1, if_neg (by decide), qg_t hv, qb_s (in_ok (qRl_of hv) (by decide) (by decide)), qg_t q01R, if_pos hc2, if_neg (by decide), qb_s ref0]
      simp only [if_true]
      rw [qg_t (by decide), qb_s e1, qg_t (by omega), hix, qg_t (by omega), e5, qg_t (by constructor <;> omega)]
      by_cases h : A.R.bi p.toNat = 0
      · rw [if_pos (by omega), if_pos h]
      · rw [if_neg (by omega), if_neg h]
    have g2 : QMr (q2 S2 117 (5 + p.toNat) v) 117 (qputb A.R p.toNat v) := by
      obtain ⟨m1, m2, m3, m4, m5⟩ := e2.1
      refine ⟨by rw [q2_j (by omega)]; exact m1, fun j hj => by rw [q2_j (by omega)]; exact m2 j hj, fun j hj => by rw [q2_j (by omega)]; exact m3 j hj, fun t ht => ?_, fun k hk => by rw [q2_j (by omega)]; exact m5 k hk⟩
      rw [q2_at]
      show _ = if t = p.toNat then v else A.R.bi t
      by_cases h : t = p.toNat
      · rw [if_pos (by omega), if_pos h]
      · rw [if_neg (by omega), if_neg h]; exact m4 t ht
    have g3 : qH (aW 117) S2 (q2 S2 117 (5 + p.toNat) v) := qH.rfl.q2 rfl
    exact ⟨_, _, hx, MR.row hA.rem e2 g2 g3, by rw [g3 110 0 rfl]; exact e4, fun _ => rfl, by split <;> (constructor <;> omega), fun q j hq => (mOut.row g3 q j hq).trans (e3 q j hq)⟩
theorem set_c {n9 : Nat} {S : qS} {A : QA} {p v : Int} (hn : 2000 ≤ n9) (hp : qR p) (hv : qR v) (hA : AOk A) (hC : CR S A) : (¬ qsi p v → COp S (ML_set n9 S p v) 1 0 A) ∧ (qsi p v → COp S (ML_set n9 S p v) 0 (A.R.se p.toNat) (A.rem.setR (qputs A.R p.toNat v))) := by
  have hV := hA.1
  refine ⟨fun hc => ?_, fun hc => ?_⟩
  · have hx : MX3_set n9 S p v = some (Sum.inl "java/lang/IllegalArgumentException", S) := by
      unfold MX3_set
      rw [qb_s (isValue_ok hp hv), qg_t q01R, if_neg hc, if_pos rfl]
    unfold ML_set
    rw [qb_s hx, qyp_l, if_pos rfl]
    exact COp.thr hC (Or.inl rfl)
  · obtain ⟨S1, e1, e2, e3, e4⟩ := remember_ok (n9 := n9) (by omega) hA hC
    obtain ⟨S2, g1, g2, g3⟩ := (putSetting_ok (n9 := n9) q7 e4 hp hv).1 hc
    have hs : qR (A.R.se p.toNat) := by
      have h0 := hV.s0
      have h1 := hV.s1
      have h2 := hV.s2
      have h3 := hV.s3
      have h4 : p.toNat = 0 ∨ p.toNat = 1 ∨ p.toNat = 2 ∨ p.toNat = 3 := by omega
      rcases h4 with h | h | h | h <;> (rw [h]; constructor <;> omega)
    have hx : MX3_set n9 S p v = some (Sum.inr (A.R.se p.toNat), S2) := by
      unfold MX3_set
      rw [qb_s (isValue_ok hp hv), qg_t q01R, if_pos hc, if_neg (by decide), qb_s (at_se (j := p.toNat) q7 hC.1.1 (by omega) (by omega)), qb_s e1, qb_s g1]
    unfold ML_set
    rw [qb_s hx, qyp_r, qg_t hs, ql]
    exact COp.ret (S' := S2) (CR.row e2 g2 g3) (fun q j hq => (cOut.row g3 q j hq).trans (e3 q j hq))
theorem set_m {n9 : Nat} {S : qS} {A : QA} {p v : Int} (hn : 2000 ≤ n9) (hp : qR p) (hv : qR v) (hA : AOk A) (hM : MR S A) : (¬ qsi p v → MOp S (MX4_set n9 S p v) 1 0 A) ∧ (qsi p v → MOp S (MX4_set n9 S p v) 0 (A.R.se p.toNat) (A.rem.setR (qputs A.R p.toNat v))) := by
  have hV := hA.1
  refine ⟨fun hc => ?_, fun hc => ?_⟩
  · have hx : MX4_set n9 S p v = some (0, q2 S 110 0 1) := by
      unfold MX4_set
      rw [qb_s (misSetting_ok hp hv), qg_t q01R]
      simp only [ql]
      rw [if_neg hc, if_pos rfl, qb_s ref1]
      rfl
    rw [hx]
    exact MOp.no hM (Or.inl rfl)
  · obtain ⟨S2, e1, e2, e3, e4⟩ := mact (n9 := n9) hn hA hM
    have hix : (1 + p).toNat = 1 + p.toNat := by omega
    have e5 : S2 117 (1 + p.toNat) = A.R.se p.toNat := e2.1.se p.toNat (by omega)
    have hs : qR (A.R.se p.toNat) := by
      have h0 := hV.s0
      have h1 := hV.s1
      have h2 := hV.s2
      have h3 := hV.s3
      have h4 : p.toNat = 0 ∨ p.toNat = 1 ∨ p.toNat = 2 ∨ p.toNat = 3 := by omega
      rcases h4 with h | h | h | h <;> (rw [h]; constructor <;> omega)
    have hx : MX4_set n9 S p v = some (A.R.se p.toNat, q2 S2 117 (1 + p.toNat) v) := by
      unfold MX4_set
      rw [qb_s (misSetting_ok hp hv), qg_t q01R]
      simp only [ql]
      rw [if_pos hc, if_neg (by decide), qb_s ref0]
      simp only [if_true]
      rw [qg_t (by decide), qb_s e1, qg_t (by omega), hix, qg_t (by omega), e5]
    have g2 : QMr (q2 S2 117 (1 + p.toNat) v) 117 (qputs A.R p.toNat v) := by
      obtain ⟨m1, m2, m3, m4, m5⟩ := e2.1
      have h4 : p.toNat < 4 := by omega
      refine ⟨by rw [q2_j (by omega)]; exact m1, fun j hj => by rw [q2_j (by omega)]; exact m2 j hj, fun j hj => by rw [q2_j (by omega)]; exact m3 j hj, fun t ht => by rw [q2_j (by omega)]; exact m4 t ht, fun k hk => ?_⟩
      rw [q2_at]
      show _ = if k = p.toNat then v else A.R.se k
      by_cases h : k = p.toNat
      · rw [if_pos (by omega), if_pos h]
      · rw [if_neg (by omega), if_neg h]; exact m5 k hk
    have g3 : qH (aW 117) S2 (q2 S2 117 (1 + p.toNat) v) := qH.rfl.q2 rfl
    exact ⟨_, _, hx, MR.row hA.rem e2 g2 g3, by rw [g3 110 0 rfl]; exact e4, fun _ => rfl, hs, fun q j hq => (mOut.row g3 q j hq).trans (e3 q j hq)⟩
