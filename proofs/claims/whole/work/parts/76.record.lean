/-! record -/
theorem remember_fr {n9 : Nat} {S S' : qS} (hn : 40 ≤ n9) (h6 : 0 ≤ S 0 7 ∧ S 0 7 < 14) (h : MX3_remember n9 S = some S') : ∀ q j, q ≠ 0 → q < 30 → S' q j = S q j := by
  obtain ⟨p, hp⟩ : ∃ p : Nat, S 0 7 = (p : Int) := ⟨(S 0 7).toNat, by omega⟩
  have hpn : (S 0 7).toNat = p := by omega
  have hp14 : p < 14 := by omega
  obtain ⟨S1, e1, e2, e3⟩ := copy_ok (n9 := n9) (S := S) (u0 := 7) (u1 := 30 + 5 * p) hn (by decide +kernel) (k_st hp14) (by omega)
  unfold MX3_remember at h
  rw [qg_t h6, hpn, qb_s e1] at h
  have h := (qg_i h).2
  dsimp only [ql] at h
  have h := (qg_i h).2
  cases h
  intro q j hq hq2
  rw [q2_p hq, q2_p hq]
  exact e2 q j (by unfold aRec; simp; omega)
theorem mremember_fr {n9 : Nat} {S S' : qS} {A : QA} (hn : 2000 ≤ n9) (hA : AOk A) (hM : MR S A) (h : MX4_remember n9 S = some S') : ∀ p j, p ≠ 110 → p ≠ 119 → S' p j = S p j := by
  have h6 := hM.2.2.2.1
  have hU := hA.2.2.2.1
  obtain ⟨l1, l2, l3, l4, l5, l6, l7, l8⟩ := l119
  have hK : ∀ (b : Nat) (S1 : qS), b ≤ 13 → S1 110 15 = (b : Int) → (∀ p j, p ≠ 110 → p ≠ 119 → S1 p j = S p j) → (qb (MX4_copy n9 S1 117 0 119 (95 * (S1 110 15)) 95) fun a4 => some (q2 a4 110 15 ((a4 110 15) + 1))) = some S' → ∀ p j, p ≠ 110 → p ≠ 119 → S' p j = S p j := by
    intro b S1 hb g15 gp hS p j hp hp2
    obtain ⟨S2, c1, c2⟩ := mcopy_ok (n9 := n9) (S := S1) (u0 := 117) (u2 := 119) (a := 0) (b := 95 * b) (m := 95) (p1 := 0) (p3 := 95 * (S1 110 15)) (p4 := 95) l4 l2 (by omega) (by omega) (Or.inl (by decide)) (by omega) (by decide) rfl (by rw [g15]; omega) rfl
    rw [qb_s c1] at hS
    cases hS
    rw [q2_p hp, c2, if_neg (by omega)]
    exact gp p j hp hp2
  unfold MX4_remember at h
  rw [h6, qg_t (by constructor <;> omega)] at h
  simp only [ql] at h
  by_cases h14 : A.U.length = 14
  · obtain ⟨S1, c1, c2⟩ := mcopy_ok (n9 := n9) (S := S) (u0 := 119) (u2 := 119) (a := 95) (b := 0) (m := 1235) (p1 := 95) (p3 := 0) (p4 := 1235) l2 l2 (by omega) (by omega) (Or.inr (by omega)) (by omega) (by decide) rfl rfl rfl
    have k110 : ∀ j, S1 110 j = S 110 j := fun j => by rw [c2, if_neg (by omega)]
    rw [if_pos (by omega), qb_s c1] at h
    exact hK 13 (q2 S1 110 15 (S1 110 15 - 1)) (Nat.le_refl _) (by rw [q2_s, k110, h6]; omega) (fun p j hp hp2 => by rw [q2_p hp, c2, if_neg (by omega)]) h
  · rw [if_neg (by omega)] at h
    exact hK A.U.length S (by omega) h6 (fun _ _ _ _ => rfl) h
/-- the axles told, one behind the other -/
def qrrec (X : QX) : Nat → Nat → QR → QR
  | 0, _, R => R
  | d + 1, k, R => qrrec X d (k + 1) (qadd R (X.pa k) (X.we k))
theorem qrrec_V {X : QX} (hX : ∀ j, j < X.to → j < 30 → (1 ≤ X.pa j ∧ X.pa j ≤ 60) ∧ (1 ≤ X.we j ∧ X.we j ≤ 99)) : ∀ (d k : Nat) (R : QR), k + d = X.to → k ≤ R.n → QV R → R.n + d ≤ 30 → QV (qrrec X d k R) ∧ (qrrec X d k R).n = R.n + d := by
  intro d
  induction d with
  | zero => intro k R _ _ hV _; exact ⟨hV, rfl⟩
  | succ d ih =>
    intro k R hk hkn hV hn
    have h1 := hX k (by omega) (by omega)
    obtain ⟨g1, g2⟩ := ih (k + 1) (qadd R (X.pa k) (X.we k)) (by omega) (by show k + 1 ≤ R.n + 1; omega) (qadd_V hV (by omega) h1.1 h1.2) (by show R.n + 1 + d ≤ 30; omega)
    refine ⟨g1, ?_⟩
    show (qrrec X d (k + 1) (qadd R (X.pa k) (X.we k))).n = R.n + (d + 1)
    rw [g2]
    show R.n + 1 + d = R.n + (d + 1)
    omega
theorem rec_cl {n9 : Nat} {X : QX} (hX : ∀ j, j < X.to → j < 30 → (1 ≤ X.pa j ∧ X.pa j ≤ 60) ∧ (1 ≤ X.we j ∧ X.we j ≤ 99)) (k : qS → Option (qO × qS)) : ∀ (d f i : Nat) (S : qS) (x : Int) (R : QR), x = (i : Int) → i + d = X.to → d < f → QCr S 7 R → QV R → i ≤ R.n → R.n + d ≤ 30 → S 1 4 = (X.to : Int) → (∀ j, j < X.to → j < 30 → S 3 j = X.pa j ∧ S 4 j = X.we j) →
    ∃ S', MX3_record_l54 n9 k f S x = k S' ∧ QCr S' 7 (qrrec X d i R) ∧ qH (aRec 7) S S' := by
  intro d
  induction d with
  | zero =>
    intro f i S x R hx hi hf hC hV hin hn h4 hr
    cases f with
    | zero => omega
    | succ f =>
      have h30 := hV.n30
      refine ⟨S, ?_, hC, qH.rfl⟩
      rw [MX3_record_l54, qg_t (by constructor <;> omega), h4, qg_t (by constructor <;> omega), if_pos (by omega)]
  | succ d ih =>
    intro f i S x R hx hi hf hC hV hin hn h4 hr
    cases f with
    | zero => omega
    | succ f =>
      have h30 := hV.n30
      have hxi := hX i (by omega) (by omega)
      obtain ⟨r3, r4⟩ := hr i (by omega) (by omega)
      obtain ⟨S1, a1, a2, a3⟩ := (addAxle_ok (n9 := n9) (p := X.pa i) (w := X.we i) q7 hV hC (by constructor <;> omega) (by constructor <;> omega)).1 ⟨hxi.1, hxi.2, by omega⟩
      have f1 : ∀ q j, q < 7 → S1 q j = S q j := fun q j hq => a3 q j (aRec_r (by omega))
      obtain ⟨S', b1, b2, b3⟩ := ih f (i + 1) S1 (x + 1) (qadd R (X.pa i) (X.we i)) (by omega) (by omega) (by omega) a2 (qadd_V hV (by omega) hxi.1 hxi.2) (by show i + 1 ≤ R.n + 1; omega) (by show R.n + 1 + d ≤ 30; omega) (by rw [f1 1 4 (by decide)]; exact h4) (fun j hj hj2 => by rw [f1 3 j (by decide), f1 4 j (by decide)]; exact hr j hj hj2)
      refine ⟨S', ?_, b2, qH.tr a3 b3⟩
      rw [MX3_record_l54, qg_t (by constructor <;> omega), h4, qg_t (by constructor <;> omega), if_neg (by omega), if_neg (by omega), qg_t (by omega), qg_t (by omega), show x.toNat = i by omega, r3, r4, qb_s a1]
      exact b1
theorem rec_ml {n9 : Nat} {X : QX} (hX : ∀ j, j < X.to → j < 30 → (1 ≤ X.pa j ∧ X.pa j ≤ 60) ∧ (1 ≤ X.we j ∧ X.we j ≤ 99)) (k : qS → Option (Int × qS)) : ∀ (d f i : Nat) (S : qS) (x : Int) (R : QR), x = (i : Int) → i + d = X.to → d < f → QMr S 117 R → QV R → i ≤ R.n → R.n + d ≤ 30 → S 110 7 = (X.to : Int) → (∀ j, j < X.to → j < 30 → S 112 j = X.pa j ∧ S 113 j = X.we j) →
    ∃ S', MX4_record_l54 n9 k f S x = k S' ∧ QMr S' 117 (qrrec X d i R) ∧ qH (aW 117) S S' := by
  intro d
  induction d with
  | zero =>
    intro f i S x R hx hi hf hM hV hin hn h4 hr
    cases f with
    | zero => omega
    | succ f =>
      have h30 := hV.n30
      refine ⟨S, ?_, hM, qH.rfl⟩
      rw [MX4_record_l54, qg_t (by constructor <;> omega), h4, qg_t (by constructor <;> omega), if_pos (by omega)]
  | succ d ih =>
    intro f i S x R hx hi hf hM hV hin hn h4 hr
    cases f with
    | zero => omega
    | succ f =>
      have h30 := hV.n30
      have hxi := hX i (by omega) (by omega)
      obtain ⟨r3, r4⟩ := hr i (by omega) (by omega)
      obtain ⟨S1, a1, a2, a3⟩ := mrollIn_ok (n9 := n9) (p := X.pa i) (x := X.we i) w117 hV hM (by omega)
      have f1 : ∀ q j, q ≠ 117 → S1 q j = S q j := fun q j hq => a3 q j (by simp [aW, hq])
      obtain ⟨S', b1, b2, b3⟩ := ih f (i + 1) S1 (x + 1) (qadd R (X.pa i) (X.we i)) (by omega) (by omega) (by omega) a2 (qadd_V hV (by omega) hxi.1 hxi.2) (by show i + 1 ≤ R.n + 1; omega) (by show R.n + 1 + d ≤ 30; omega) (by rw [f1 110 7 (by decide)]; exact h4) (fun j hj hj2 => by rw [f1 112 j (by decide), f1 113 j (by decide)]; exact hr j hj hj2)
      refine ⟨S', ?_, b2, qH.tr a3 b3⟩
      rw [MX4_record_l54, qg_t (by constructor <;> omega), h4, qg_t (by constructor <;> omega), if_neg (by omega), qg_t (by omega), qg_t (by omega), show x.toNat = i by omega, r3, r4, qb_s a1]
      exact b1
theorem record_c {n9 : Nat} {S : qS} {A : QA} (hn : 2000 ≤ n9) (hA : AOk A) (hC : CR S A) : ((∀ X, qread A = Sum.inr X → ¬ A.R.n + X.to ≤ 30) → COp S (ML_record n9 S) 1 0 A) ∧ (∀ X, qread A = Sum.inr X → A.R.n + X.to ≤ 30 → COp S (ML_record n9 S) 0 ((A.R.n : Int) + (X.to : Int)) (A.rem.setR (qrrec X X.to 0 A.R))) := by
  have hV := hA.1
  have h30 := hV.n30
  obtain ⟨S1, e1, e2, e3, e4⟩ := read_c (n9 := n9) hn hA hC.2.1
  have hC1 := hC.text e2
  have ho := cOut.text e2
  have hn7 : S1 7 4 = (A.R.n : Int) := hC1.1.1.n
  refine ⟨fun hc => ?_, fun X hq hc => ?_⟩
  · have hx : MX3_record n9 S = some (Sum.inl "java/lang/IllegalStateException", S1) := by
      unfold MX3_record
      rw [qb_s e1]
      dsimp only [ql]
      cases hq : qread A with
      | inl e =>
        have hb := qread_b hA hq
        rw [e3 e hq, qg_t (by constructor <;> omega), if_neg (by omega)]
      | inr X =>
        have hb := qread_X hA hq
        have hc := hc X hq
        rw [(e4 X hq).1, qg_t (by decide), if_pos rfl, hn7, (e4 X hq).2.1.1, qg_t (by constructor <;> omega), if_neg (by omega)]
    unfold ML_record
    rw [qb_s hx, qyp_l, if_pos rfl]
    exact COp.thr2 hC1 ho (Or.inl rfl)
  · have hX := (qread_X hA hq).2
    obtain ⟨g1, g2, _⟩ := e4 X hq
    obtain ⟨S2, b1, b2, b3, b4⟩ := remember_ok (n9 := n9) (by omega) hA hC1
    have fr := remember_fr (n9 := n9) (by omega) hC1.2.2.2.1 b1
    obtain ⟨S3, c1, c2, c3⟩ := rec_cl (n9 := n9) hX (fun S11 => some (Sum.inr (S11 7 4), S11)) X.to n9 0 S2 0 A.R rfl (by omega) (by omega) b4 hV (Nat.zero_le _) hc (by rw [fr 1 4 (by decide) (by decide)]; exact g2.1) (fun j hj hj2 => by rw [fr 3 j (by decide) (by decide), fr 4 j (by decide) (by decide)]; exact g2.2.2.1 j hj hj2)
    have hqn := qrrec_V hX X.to 0 A.R (by omega) (Nat.zero_le _) hV hc
    have hx : MX3_record n9 S = some (Sum.inr ((A.R.n : Int) + (X.to : Int)), S3) := by
      unfold MX3_record
      rw [qb_s e1]
      dsimp only [ql]
      rw [g1, qg_t (by decide), if_pos rfl, hn7, g2.1, qg_t (by constructor <;> omega), if_pos (by omega), qb_s b1, c1, c2.n, hqn.2]
      rfl
    unfold ML_record
    rw [qb_s hx, qyp_r, qg_t (by constructor <;> omega), ql]
    exact COp.ret (S' := S3) (CR.row b2 c2 c3) (fun q j hq => ((cOut.row c3 q j hq).trans (b3 q j hq)).trans (ho q j hq))
theorem record_m {n9 : Nat} {S : qS} {A : QA} (hn : 2000 ≤ n9) (hA : AOk A) (hM : MR S A) : ((∀ X, qread A = Sum.inr X → ¬ A.R.n + X.to ≤ 30) → MOp S (MX4_record n9 S) 1 0 A) ∧ (∀ X, qread A = Sum.inr X → A.R.n + X.to ≤ 30 → MOp S (MX4_record n9 S) 0 ((A.R.n : Int) + (X.to : Int)) (A.rem.setR (qrrec X X.to 0 A.R))) := by
  have hV := hA.1
  have h30 := hV.n30
  obtain ⟨r, S1, e1, e2, e3, e4⟩ := readText_m (n9 := n9) hn hA hM.2.1
  have hM1 := hM.text e2
  have ho := mOut.text e2
  have hn7 : S1 117 (0 : Int).toNat = (A.R.n : Int) := hM1.1.n
  refine ⟨fun hc => ?_, fun X hq hc => ?_⟩
  · have hx : MX4_record n9 S = some (0, q2 S1 110 0 1) := by
      unfold MX4_record
      rw [qb_s e1]
      dsimp only [ql]
      cases hq : qread A with
      | inl e =>
        have hb := qread_b hA hq
        have hr := e3 e hq
        rw [qg_t (show qR r by constructor <;> omega), if_neg (show ¬ r = -1 by omega), qg_t (by decide), if_pos rfl, qb_s ref1]
        rfl
      | inr X =>
        have hb := qread_X hA hq
        have hc := hc X hq
        have hr := (e4 X hq).1
        have h7 := (e4 X hq).2.1.2.1
        rw [qg_t (show qR r by constructor <;> omega), if_pos (show r = -1 from hr), qg_t (by decide), qg_t (show qR (S1 117 (0 : Int).toNat + S1 110 7) by constructor <;> omega), if_pos (show 30 < S1 117 (0 : Int).toNat + S1 110 7 by omega), qg_t (by decide), if_pos rfl, qb_s ref1]
        rfl
    rw [hx]
    exact MOp.no2 hM1 ho (Or.inl rfl)
  · have hX := (qread_X hA hq).2
    obtain ⟨g1, g2, _⟩ := e4 X hq
    have h7 := g2.2.1
    obtain ⟨S2, b1, b2, b3, b4⟩ := mact (n9 := n9) hn hA hM1
    have fr := mremember_fr (n9 := n9) hn hA (hM1.ref (k := 0)) b1
    have f7 : S2 110 7 = S1 110 7 := by
      obtain ⟨S2', d1, d2, d3, d4⟩ := mremember_ok (n9 := n9) hn hA (hM1.ref (k := 0))
      rw [b1] at d1
      cases d1
      rw [d4 7 (by decide), q2_j (by decide)]
    obtain ⟨S3, c1, c2, c3⟩ := rec_ml (n9 := n9) hX (fun S15 => qg (0 ≤ (0 : Int) ∧ (0 : Int) < 95) <| some ((S15 117 (0 : Int).toNat), S15)) X.to n9 0 S2 0 A.R rfl (by omega) (by omega) b2.1 hV (Nat.zero_le _) hc (by rw [f7]; exact h7) (fun j hj hj2 => by rw [fr 112 j (by decide) (by decide), fr 113 j (by decide) (by decide), q2_p (by decide), q2_p (by decide)]; exact g2.2.2.2.1 j hj hj2)
    have hqn := qrrec_V hX X.to 0 A.R (by omega) (Nat.zero_le _) hV hc
    have c7 : S3 117 (0 : Int).toNat = (A.R.n : Int) + (X.to : Int) := by
      have : S3 117 (0 : Int).toNat = ((qrrec X X.to 0 A.R).n : Int) := c2.n
      rw [this, hqn.2]
      omega
    have hx : MX4_record n9 S = some ((A.R.n : Int) + (X.to : Int), S3) := by
      unfold MX4_record
      rw [qb_s e1]
      dsimp only [ql]
      rw [qg_t (show qR r by constructor <;> omega), if_pos (show r = -1 from g1), qg_t (by decide), qg_t (show qR (S1 117 (0 : Int).toNat + S1 110 7) by constructor <;> omega), if_neg (show ¬ 30 < S1 117 (0 : Int).toNat + S1 110 7 by omega), qg_t (by decide), if_neg (by decide), qb_s ref0]
      dsimp only
      rw [qg_t (by decide), if_pos rfl, qb_s b1, c1, qg_t (by decide), c7]
    exact ⟨_, S3, hx, MR.row hA.rem b2 c2 c3, by rw [c3 110 0 rfl]; exact b4, fun _ => rfl, by constructor <;> omega, fun q j hq => ((mOut.row c3 q j hq).trans (b3 q j hq)).trans (ho q j hq)⟩
