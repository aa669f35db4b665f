/-! sureness, plans, heavy -/
def qsu (R : QR) (i : Nat) : Int := (RS R (qft R (qto R i)) (qft R (qto R i + 1)) (i : Int) (qft R (qto R i + 1) - qft R (qto R i)) (qft R (qto R i)) + 99) / 100 - qct R (qto R i)
theorem qct_R {R : QR} (hV : QV R) {t : Nat} (ht : t < qtr R) : 0 ≤ qct R t ∧ qct R t ≤ 2000 := by
  have h30 := hV.n30
  have hle := qft_le R (t := t + 1) ht
  have := RS_bd (a := qft R t) (e := qft R (t + 1)) (bar := -1) hV (m := qft R (t + 1) - qft R t) (b := qft R t) (by omega)
  unfold qct
  omega
theorem qsu_R {R : QR} (hV : QV R) {i : Nat} (hi : i < R.n) : qR (qsu R i) := by
  have h30 := hV.n30
  obtain ⟨a, b, c⟩ := qto_ok R hi
  have hle := qft_le R (t := qto R i + 1) a
  have h1 := RS_bd (a := qft R (qto R i)) (e := qft R (qto R i + 1)) (bar := (i : Int)) hV (m := qft R (qto R i + 1) - qft R (qto R i)) (b := qft R (qto R i)) (by omega)
  have h2 := qct_R hV a
  unfold qsu
  constructor <;> omega
theorem sureness_c {n9 : Nat} {S : qS} {A : QA} {p : Int} (hn : 2000 ≤ n9) (hp : qR p) (hA : AOk A) (hC : CR S A) : (¬ (0 ≤ p ∧ p < (A.R.n : Int)) → COp S (ML_sureness n9 S p) 1 0 A) ∧ ((0 ≤ p ∧ p < (A.R.n : Int)) → COp S (ML_sureness n9 S p) 0 (qsu A.R p.toNat) A) := by
  have hV := hA.1
  have h30 := hV.n30
  refine ⟨fun hc => ?_, fun hc => ?_⟩
  · have hx : MX3_sureness n9 S p = some (Sum.inl "java/lang/IndexOutOfBoundsException", S) := by
      unfold MX3_sureness
      rw [qb_s (demandAxle_ok hV hC.1.1 hp), if_neg hc]
      rfl
    unfold ML_sureness
    rw [qb_s hx, qyp_l, if_pos rfl]
    exact COp.thr hC (Or.inl rfl)
  · obtain ⟨i, hi⟩ : ∃ i : Nat, p = (i : Int) := ⟨p.toNat, by omega⟩
    subst hi
    rw [toNat_c]
    have hin : i < A.R.n := by omega
    obtain ⟨a, b, c⟩ := qto_ok A.R hin
    have hle := qft_le A.R (t := qto A.R i + 1) a
    have hlt := qft_lt A.R a
    have htl := qtr_le A.R
    obtain ⟨S1, e1, e2, e3, e4⟩ := plan_c (n9 := n9) (by omega) hA hC
    obtain ⟨S2, f1, f2, f3⟩ := findValues_ok (n9 := n9) (S := S1) (a := qft A.R (qto A.R i)) (e := qft A.R (qto A.R i + 1)) (bar := (i : Int)) q7 hV (by omega) e2.1.1 hle (by omega) hp rfl rfl
    have hb := RS_bd (a := qft A.R (qto A.R i)) (e := qft A.R (qto A.R i + 1)) (bar := (i : Int)) hV (m := qft A.R (qto A.R i + 1) - qft A.R (qto A.R i)) (b := qft A.R (qto A.R i)) (by omega)
    have hF : qF PL S1 S2 := f2.mono (by decide)
    have hcs : MX0_costWithStray n9 S1 7 (qto A.R i : Int) (i : Int) = some ((RS A.R (qft A.R (qto A.R i)) (qft A.R (qto A.R i + 1)) (i : Int) (qft A.R (qto A.R i + 1) - qft A.R (qto A.R i)) (qft A.R (qto A.R i)) + 99) / 100, S2) := by
      unfold MX0_costWithStray
      rw [qg_t q7.k, qb_s (at_in (j := qto A.R i) kk18 rfl (by omega)), e3.2.1.1 _ (by omega), qb_s (at_in (j := qto A.R i + 1) kk18 (by omega) (by omega)), e3.2.1.1 _ a, qb_s f1, qb_s (at_in (j := qft A.R (qto A.R i)) kk25 rfl (by omega)), (f3 _ (Nat.le_refl _) (by omega)).1, qb_s (costOf_ok (by omega))]
    have hx : MX3_sureness n9 S (i : Int) = some (Sum.inr (qsu A.R i), S2) := by
      unfold MX3_sureness
      rw [qb_s (demandAxle_ok hV hC.1.1 hp), if_pos hc, qy_inr, qb_s e1, qb_s (at_in (j := i) kk21 rfl (by omega)), e3.2.2.1 _ hin, qb_s hcs, qb_s (at_in (j := qto A.R i) kk20 rfl (by omega))]
      show some (Sum.inr (_ - S2 20 (qto A.R i)), S2) = _
      rw [f2 20 (by decide), e3.2.1.2.2 _ a]
      rfl
    unfold ML_sureness
    rw [qb_s hx, qyp_r, qg_t (qsu_R hV hin), ql]
    exact COp.ret (S' := S2) (e2.plan hF (by rw [f2 19 (by decide)]; exact e3.z)) (fun q j hq => (PL_out hF q j hq).trans (e4 q j hq))
theorem sureness_m {n9 : Nat} {S : qS} {A : QA} {p : Int} (hn : 2000 ≤ n9) (hp : qR p) (hA : AOk A) (hM : MR S A) : (¬ (0 ≤ p ∧ p < (A.R.n : Int)) → MOp S (MX4_sureness n9 S p) 1 0 A) ∧ ((0 ≤ p ∧ p < (A.R.n : Int)) → MOp S (MX4_sureness n9 S p) 0 (qsu A.R p.toNat) A) := by
  have hV := hA.1
  have h30 := hV.n30
  refine ⟨fun hc => ?_, fun hc => ?_⟩
  · have hx : MX4_sureness n9 S p = some (0, q2 S 110 0 1) := by
      unfold MX4_sureness
      rw [qb_s (isAxle_ok hV hM.1 hp), qg_t q01R]
      simp only [ql]
      rw [if_neg hc, if_pos rfl, qb_s ref1]
      rfl
    rw [hx]
    exact MOp.no hM (Or.inl rfl)
  · obtain ⟨i, hi⟩ : ∃ i : Nat, p = (i : Int) := ⟨p.toNat, by omega⟩
    subst hi
    rw [toNat_c]
    have hin : i < A.R.n := by omega
    obtain ⟨a, b, c⟩ := qto_ok A.R hin
    have hle := qft_le A.R (t := qto A.R i + 1) a
    have hlt := qft_lt A.R a
    have htl := qtr_le A.R
    obtain ⟨S1, e1, e2, e3, e4, e5⟩ := plan_m (n9 := n9) (by omega) hA (hM.ref (k := 0))
    obtain ⟨S2, f1, f2, f3⟩ := layRest_ok (n9 := n9) (S := S1) (a := qft A.R (qto A.R i)) (e := qft A.R (qto A.R i + 1)) (bar := (i : Int)) w117 hV (by omega) hle (by omega) hp e2.1 e3.2.2.2 rfl rfl
    have k1 : ((qto A.R i : Int) + 1).toNat = qto A.R i + 1 := by omega
    have hx : MX4_sureness n9 S (i : Int) = some (qsu A.R i, S2) := by
      unfold MX4_sureness
      rw [qb_s (isAxle_ok hV hM.1 hp), qg_t q01R]
      simp only [ql]
      rw [if_pos hc, if_neg (by decide), qb_s ref0]
      simp only [if_true]
      rw [qg_t (by decide), qb_s e1, qb_s (trainOf_ok (by omega) hV e3 rfl hin), qg_t (by omega), qg_t (by omega), toNat_c, k1, e3.2.1.1 _ (by omega), e3.2.1.1 _ a, qb_s f1, qg_t (by omega)]
      show some (_ - S2 125 (qto A.R i), S2) = _
      rw [f2 125 _ rfl, e3.2.1.2 _ a]
      rfl
    exact ⟨_, S2, hx, e2.keep (fun q j hk => f2 q j (a122_ml q j (mlA_k q j hk))), by rw [f2 110 0 rfl, e5, q2_s], fun _ => rfl, qsu_R hV hin, fun q j hq => ((f2 q j (a122_ml q j (mlA_o hq))).trans (e4 q j hq)).trans (mOut.ref q j hq)⟩
def qfb : Nat → Int → Int → Int
  | 0, _, c => c
  | d + 1, b, c => qfb d c (b + c)
theorem qfb_R : ∀ d, d < 31 → 0 ≤ qfb d 1 1 ∧ qfb d 1 1 < 2147483648 := by decide
theorem plans_cl {a1 : qS} {a7 : Int} {k : Int → Option (qO × qS)} (h7 : 0 ≤ a7 ∧ a7 ≤ 40) : ∀ (d f : Nat) (b c x : Int), x + d = a7 + 1 → d < f → 0 ≤ x → MX3_plans_l33 a1 a7 k f b c x = k (qfb d b c) := by
  intro d
  induction d with
  | zero =>
    intro f b c x hx hf h0
    cases f with
    | zero => omega
    | succ f =>
      rw [MX3_plans_l33, qg_t (by constructor <;> omega), qg_t (by constructor <;> omega), if_pos (by omega)]
      rfl
  | succ d ih =>
    intro f b c x hx hf h0
    cases f with
    | zero => omega
    | succ f =>
      rw [MX3_plans_l33, qg_t (by constructor <;> omega), qg_t (by constructor <;> omega), if_neg (by omega), ql]
      exact ih f c (b + c) (x + 1) (by omega) (by omega) (by omega)
theorem plans_ml {p1 e : Int} {a10 : Int × qS} {k : Int → Option (Int × qS)} (hp : 0 ≤ p1 + 1 ∧ p1 + 1 < 31) (he : a10.2 124 (p1 + 1).toNat = e) (h7 : 0 ≤ e ∧ e ≤ 40) : ∀ (d f : Nat) (b c x : Int), x + d = e → d < f → 0 ≤ x → MX4_plans_l52 p1 a10 k f c b x = k (qfb d b c) := by
  intro d
  induction d with
  | zero =>
    intro f b c x hx hf h0
    cases f with
    | zero => omega
    | succ f =>
      rw [MX4_plans_l52, qg_t hp, he, qg_t (by constructor <;> omega), qg_t (by constructor <;> omega), if_pos (by omega)]
      rfl
  | succ d ih =>
    intro f b c x hx hf h0
    cases f with
    | zero => omega
    | succ f =>
      rw [MX4_plans_l52, qg_t hp, he, qg_t (by constructor <;> omega), qg_t (by constructor <;> omega), if_neg (by omega), ql, ih f c (c + b) (x + 1) (by omega) (by omega) (by omega)]
      show k (qfb d c (c + b)) = k (qfb d c (b + c))
      rw [Int.add_comm]
