/-! simulate -/
theorem qlushr_R (x : Int) : 0 ≤ qlushr x 33 ∧ qlushr x 33 < 2147483648 := by
  unfold qlushr
  generalize (qL x).toUInt64 = u
  have e : ((qI 33).toInt64.toUInt64 &&& Int64.toUInt64 63) = (33 : UInt64) := by decide +kernel
  rw [e]
  have hu := u.toNat_lt
  have h : (u >>> (33 : UInt64)).toNat = u.toNat / 8589934592 := by
    rw [UInt64.toNat_shiftRight, Nat.shiftRight_eq_div_pow]
    rfl
  have h2 : (u >>> (33 : UInt64)).toInt64.toInt = ((u >>> (33 : UInt64)).toNat : Int) := by
    show (u >>> (33 : UInt64)).toBitVec.toInt = ((u >>> (33 : UInt64)).toBitVec.toNat : Int)
    rw [BitVec.toInt_eq_toNat_of_lt]
    have : (u >>> (33 : UInt64)).toBitVec.toNat = u.toNat / 8589934592 := h
    omega
  rw [h2, h]
  omega
def qspz (T : QR) (r : Int) : Int := if r % 8 = 0 then 1 + r / 2048 % 60 else if r % 2 = 0 then qmin (T.se 1 + r / 2048 % 4) 60 else T.se 0
theorem qspz_R {T : QR} (hV : QV T) {r : Int} : 1 ≤ qspz T r ∧ qspz T r ≤ 60 := by
  have h0 := hV.s0
  have h1 := hV.s1
  unfold qspz
  split
  · omega
  · split
    · unfold qmin
      split <;> omega
    · omega
def qsw (r w : Int) : Int := if r / 8 % 2 = 0 then 1 + r / 16 % 99 else w
theorem qsw_R {r w : Int} (h : 1 ≤ w ∧ w ≤ 99) : 1 ≤ qsw r w ∧ qsw r w ≤ 99 := by
  unfold qsw
  split <;> omega
def qsq (T : QR) : QR := if T.n < 30 then T else qleave T
theorem qsq_V {T : QR} (hV : QV T) : QV (qsq T) ∧ (qsq T).n < 30 := by
  unfold qsq
  split
  · rename_i h; exact ⟨hV, h⟩
  · rename_i h
    have h30 := hV.n30
    have h1 := qft1 (R := T) (by omega)
    refine ⟨qleave_V hV (by omega), ?_⟩
    show T.n - qft T 1 < 30
    omega
/-- the axles simulated -/
def qsm : Nat → Int → Int → QR → QR
  | 0, _, _, T => T
  | d + 1, x, w, T => qsm d (x * 6364136223846793005 + 1442695040888963407) (qsw (qlushr (x * 6364136223846793005 + 1442695040888963407) 33) w) (qadd (qsq T) (qspz (qsq T) (qlushr (x * 6364136223846793005 + 1442695040888963407) 33)) (qsw (qlushr (x * 6364136223846793005 + 1442695040888963407) 33) w))
theorem qsm_V : ∀ (d : Nat) (x w : Int) (T : QR), QV T → (1 ≤ w ∧ w ≤ 99) → QV (qsm d x w T) := by
  intro d
  induction d with
  | zero => intro x w T hV _; exact hV
  | succ d ih =>
    intro x w T hV hw
    have h1 := qsq_V hV
    exact ih _ _ _ (qadd_V h1.1 h1.2 (qspz_R h1.1) (qsw_R hw)) (qsw_R hw)
theorem simPause_ok {n9 : Nat} {S : qS} {T : QR} {r : Int} (hV : QV T) (hT : QCr S 12 T) (hr : 0 ≤ r ∧ r < 2147483648) : MX3_simulatedPause n9 S r = some (qspz T r) := by
  have h0 := hV.s0
  have h1 := hV.s1
  unfold MX3_simulatedPause qspz
  rw [qg_t (by omega), qg_t (by constructor <;> omega)]
  by_cases h8 : r % 8 = 0
  · rw [if_pos h8, if_pos h8, qg_t (by omega), qg_t (by omega)]
  · rw [if_neg h8, if_neg h8, qg_t (by omega), qg_t (by constructor <;> omega)]
    by_cases h2 : r % 2 = 0
    · rw [if_pos h2, if_pos h2, qb_s (at_se (p := 1) (j := 1) q12 hT rfl (by decide)), qg_t (by omega), qg_t (by omega), qg_t (by constructor <;> omega)]
    · rw [if_neg h2, if_neg h2, qb_s (at_se (p := 0) (j := 0) q12 hT rfl (by decide))]
theorem pauseOf_ok {n9 : Nat} {S : qS} {T : QR} {r : Int} (hV : QV T) (hT : QMr S 118 T) (hr : 0 ≤ r ∧ r < 2147483648) : MX4_pauseOf n9 S r = some (qspz T r) := by
  have h0 := hV.s0
  have h1 := hV.s1
  have v0 : S 118 (1 : Int).toNat = T.se 0 := hT.se 0 (by decide)
  have v1 : S 118 (2 : Int).toNat = T.se 1 := hT.se 1 (by decide)
  unfold MX4_pauseOf qspz
  rw [qg_t (by omega), qg_t (by constructor <;> omega)]
  by_cases h8 : r % 8 = 0
  · rw [if_pos h8, if_pos h8, qg_t (by omega), qg_t (by omega)]
  · rw [if_neg h8, if_neg h8, qg_t (by omega), qg_t (by constructor <;> omega)]
    simp only [ql]
    by_cases h2 : r % 2 = 0
    · rw [if_neg (show ¬ r % 2 = 1 by omega), if_pos h2, qg_t (by decide), qg_t (by omega), qg_t (by omega), v1, qg_t (by constructor <;> omega)]
      unfold qmin
      by_cases h3 : T.se 1 + r / 2048 % 4 ≤ 60
      · rw [if_pos h3, if_neg (by omega)]
      · rw [if_neg h3, if_pos (by omega)]
    · rw [if_pos (show r % 2 = 1 by omega), if_neg h2, qg_t (by decide), v0, qg_t (by constructor <;> omega), if_pos (by omega)]
theorem sim_cl {n9 m : Nat} {A : QA} {p : Int} (hn : 2000 ≤ n9) (hp : p = (m : Int)) (hm : m ≤ 60) (k : qS → Option (qO × qS)) : ∀ (d f i : Nat) (S : qS) (x w c : Int) (T : QR), c = (i : Int) → i + d = m → d < f → CR S A → QV T → QCr S 12 T → (1 ≤ w ∧ w ≤ 99) → ∃ S', MX3_simulate_l43 n9 p k f S x w c = k S' ∧ CR S' A ∧ cOut S S' ∧ QCr S' 12 (qsm d x w T) := by
  intro d
  induction d with
  | zero =>
    intro f i S x w c T hc hi hf hC hV hT hw
    cases f with
    | zero => omega
    | succ f =>
      refine ⟨S, ?_, hC, fun _ _ _ => rfl, hT⟩
      rw [MX3_simulate_l43, qg_t (by constructor <;> omega), qg_t (by constructor <;> omega), if_pos (by omega)]
  | succ d ih =>
    intro f i S x w c T hc hi hf hC hV hT hw
    cases f with
    | zero => omega
    | succ f =>
      have h30 := hV.n30
      have hr := qlushr_R (x * 6364136223846793005 + 1442695040888963407)
      rw [MX3_simulate_l43, qg_t (by constructor <;> omega), qg_t (by constructor <;> omega), if_neg (by omega)]
      simp only [ql]
      rw [qsm]
      generalize x * 6364136223846793005 + 1442695040888963407 = x' at hr ⊢
      generalize hrg : qlushr x' 33 = r at hr ⊢
      rw [qg_t (by omega), qg_t (by omega), qg_t (by constructor <;> omega)]
      have hq := qsq_V hV
      have hw' := qsw_R (r := r) hw
      have hpz := qspz_R hq.1 (r := r)
      -- the rest, whatever weight
      have key : ∀ w', (1 ≤ w' ∧ w' ≤ 99) → ∃ S', (qg (qR (S 12 4)) <| if S 12 4 < 30 then (qb (MX3_simulatedPause n9 S r) fun a33 => qb (MX1_addAxle n9 S 12 a33 w') fun a35 => MX3_simulate_l43 n9 p k f a35.2 x' w' (c + 1)) else (qb (MX1_dropFirstTrain n9 S 12) fun a39 => qb (MX3_simulatedPause n9 a39.2 r) fun a33 => qb (MX1_addAxle n9 a39.2 12 a33 w') fun a35 => MX3_simulate_l43 n9 p k f a35.2 x' w' (c + 1))) = k S' ∧ CR S' A ∧ cOut S S' ∧ QCr S' 12 (qsm d x' w' (qadd (qsq T) (qspz (qsq T) r) w')) := by
        intro w' hw'
        rw [hT.n, qg_t (by constructor <;> omega)]
        by_cases h3 : T.n < 30
        · have eq : qsq T = T := by unfold qsq; rw [if_pos h3]
          rw [eq] at hpz ⊢
          obtain ⟨S1, a1, a2, a3⟩ := (addAxle_ok (n9 := n9) (p := qspz T r) (w := w') q12 hV hT (by constructor <;> omega) (by constructor <;> omega)).1 ⟨hpz, hw', h3⟩
          obtain ⟨S', b1, b2, b3, b4⟩ := ih f (i + 1) S1 x' w' (c + 1) (qadd T (qspz T r) w') (by omega) (by omega) (by omega) (hC.trial a3) (qadd_V hV h3 hpz hw') a2 hw'
          refine ⟨S', ?_, b2, fun q j hq => (b3 q j hq).trans (cOut.trial a3 q j hq), b4⟩
          rw [if_pos (by omega), qb_s (simPause_ok hV hT hr), qb_s a1]
          exact b1
        · have eq : qsq T = qleave T := by unfold qsq; rw [if_neg h3]
          rw [eq] at hpz hq ⊢
          obtain ⟨S0, d1, d2, d3⟩ := (dropFirst_ok (n9 := n9) q12 (by omega) hV hT).1 (by omega)
          obtain ⟨S1, a1, a2, a3⟩ := (addAxle_ok (n9 := n9) (p := qspz (qleave T) r) (w := w') q12 hq.1 d2 (by constructor <;> omega) (by constructor <;> omega)).1 ⟨hpz, hw', hq.2⟩
          obtain ⟨S', b1, b2, b3, b4⟩ := ih f (i + 1) S1 x' w' (c + 1) (qadd (qleave T) (qspz (qleave T) r) w') (by omega) (by omega) (by omega) ((hC.trial d3).trial a3) (qadd_V hq.1 hq.2 hpz hw') a2 hw'
          refine ⟨S', ?_, b2, fun q j hq => ((b3 q j hq).trans (cOut.trial a3 q j hq)).trans (cOut.trial d3 q j hq), b4⟩
          rw [if_neg (by omega), qb_s d1, qb_s (simPause_ok hq.1 d2 hr), qb_s a1]
          exact b1
      by_cases h8 : r / 8 % 2 = 0
      · have ew : qsw r w = 1 + r / 16 % 99 := by unfold qsw; rw [if_pos h8]
        rw [ew] at hw'
        rw [if_pos h8, qg_t (by omega), qg_t (by omega), ew]
        exact key _ hw'
      · have ew : qsw r w = w := by unfold qsw; rw [if_neg h8]
        rw [if_neg h8, ew]
        exact key _ hw
theorem sim_ml {n9 m : Nat} {A : QA} {p : Int} (hn : 2000 ≤ n9) (hp : p = (m : Int)) (hm : m ≤ 60) (k : qS → Option (Int × qS)) : ∀ (d f i : Nat) (S : qS) (x w c : Int) (T : QR), c = (i : Int) → i + d = m → d < f → MR S A → QV T → QMr S 118 T → (1 ≤ w ∧ w ≤ 99) → ∃ S', MX4_simulate_l40 n9 p k f S x w c = k S' ∧ MR S' A ∧ mOut S S' ∧ S' 110 0 = S 110 0 ∧ QMr S' 118 (qsm d x w T) := by
  intro d
  induction d with
  | zero =>
    intro f i S x w c T hc hi hf hM hV hT hw
    cases f with
    | zero => omega
    | succ f =>
      refine ⟨S, ?_, hM, fun _ _ _ => rfl, rfl, hT⟩
      rw [MX4_simulate_l40, qg_t (by constructor <;> omega), qg_t (by constructor <;> omega), if_pos (by omega)]
  | succ d ih =>
    intro f i S x w c T hc hi hf hM hV hT hw
    cases f with
    | zero => omega
    | succ f =>
      have h30 := hV.n30
      have h0n : S 118 (0 : Int).toNat = (T.n : Int) := hT.n
      have hr := qlushr_R (x * 6364136223846793005 + 1442695040888963407)
      rw [MX4_simulate_l40, qg_t (by constructor <;> omega), qg_t (by constructor <;> omega), if_neg (by omega)]
      simp only [ql]
      rw [qsm]
      generalize x * 6364136223846793005 + 1442695040888963407 = x' at hr ⊢
      generalize hrg : qlushr x' 33 = r at hr ⊢
      rw [qg_t (by omega), qg_t (by omega), qg_t (by constructor <;> omega)]
      have hq := qsq_V hV
      have hw' := qsw_R (r := r) hw
      have hpz := qspz_R hq.1 (r := r)
      have key : ∀ w', (1 ≤ w' ∧ w' ≤ 99) → ∃ S', (qg (0 ≤ (0 : Int) ∧ (0 : Int) < 95) <| qg (qR (S 118 (0 : Int).toNat)) <| if S 118 (0 : Int).toNat = 30 then (qb (MX4_leaveIn n9 S 118) fun a48 => qb (MX4_pauseOf n9 a48.2 r) fun a42 => qb (MX4_rollIn n9 a48.2 118 a42 w') fun a44 => MX4_simulate_l40 n9 p k f a44.2 x' w' (c + 1)) else (qb (MX4_pauseOf n9 S r) fun a42 => qb (MX4_rollIn n9 S 118 a42 w') fun a44 => MX4_simulate_l40 n9 p k f a44.2 x' w' (c + 1))) = k S' ∧ MR S' A ∧ mOut S S' ∧ S' 110 0 = S 110 0 ∧ QMr S' 118 (qsm d x' w' (qadd (qsq T) (qspz (qsq T) r) w')) := by
        intro w' hw'
        rw [qg_t (by decide), h0n, qg_t (by constructor <;> omega)]
        by_cases h3 : T.n < 30
        · have eq : qsq T = T := by unfold qsq; rw [if_pos h3]
          rw [eq] at hpz ⊢
          obtain ⟨S1, a1, a2, a3⟩ := mrollIn_ok (n9 := n9) (p := qspz T r) (x := w') w118 hV hT h3
          obtain ⟨S', b1, b2, b3, b5, b4⟩ := ih f (i + 1) S1 x' w' (c + 1) (qadd T (qspz T r) w') (by omega) (by omega) (by omega) (hM.trial (aW_m a3)) (qadd_V hV h3 hpz hw') a2 hw'
          refine ⟨S', ?_, b2, fun q j hq => (b3 q j hq).trans (mOut.trial (aW_m a3) q j hq), b5.trans (a3 110 0 rfl), b4⟩
          rw [if_neg (by omega), qb_s (pauseOf_ok hV hT hr), qb_s a1]
          exact b1
        · have eq : qsq T = qleave T := by unfold qsq; rw [if_neg h3]
          rw [eq] at hpz hq ⊢
          obtain ⟨S0, d1, d2, d3⟩ := leaveIn_ok (n9 := n9) w118 hn hV hT (by omega)
          obtain ⟨S1, a1, a2, a3⟩ := mrollIn_ok (n9 := n9) (p := qspz (qleave T) r) (x := w') w118 hq.1 d2 hq.2
          obtain ⟨S', b1, b2, b3, b5, b4⟩ := ih f (i + 1) S1 x' w' (c + 1) (qadd (qleave T) (qspz (qleave T) r) w') (by omega) (by omega) (by omega) ((hM.trial d3).trial (aW_m a3)) (qadd_V hq.1 hq.2 hpz hw') a2 hw'
          refine ⟨S', ?_, b2, fun q j hq => ((b3 q j hq).trans (mOut.trial (aW_m a3) q j hq)).trans (mOut.trial d3 q j hq), (b5.trans (a3 110 0 rfl)).trans (d3 110 0 rfl), b4⟩
          rw [if_pos (by omega), qb_s d1, qb_s (pauseOf_ok hq.1 d2 hr), qb_s a1]
          exact b1
      by_cases h8 : r / 8 % 2 = 0
      · have ew : qsw r w = 1 + r / 16 % 99 := by unfold qsw; rw [if_pos h8]
        rw [ew] at hw'
        rw [if_pos h8, qg_t (by omega), qg_t (by omega), ew]
        exact key _ hw'
      · have ew : qsw r w = w := by unfold qsw; rw [if_neg h8]
        rw [if_neg h8, ew]
        exact key _ hw
/-- what simulate answers -/
def qsan (T : QR) : Int := 1000 * ((qcars T).length : Int) + qmin (qwt T (qcars T)) 999
theorem qsan_R {T : QR} (hV : QV T) : qR (qsan T) := by
  have hl15 := qcars_len hV
  have hw := qwtc_R hV
  unfold qsan qmin
  split <;> (constructor <;> omega)
theorem simulate_c {n9 : Nat} {S : qS} {A : QA} {x p : Int} (hn : 2000 ≤ n9) (hp : qR p) (hA : AOk A) (hC : CR S A) : (¬ (1 ≤ p ∧ p ≤ 60) → COp S (ML_simulate n9 S x p) 1 0 A) ∧ ((1 ≤ p ∧ p ≤ 60) → COp S (ML_simulate n9 S x p) 0 (qsan (qsm p.toNat x 40 A.R)) A) := by
  have hV := hA.1
  refine ⟨fun hc => ?_, fun hc => ?_⟩
  · have hx : MX3_simulate n9 S x p = some (Sum.inl "java/lang/IllegalArgumentException", S) := by
      unfold MX3_simulate
      rw [qg_t hp, ql]
      by_cases h1 : p < 1
      · rw [if_pos h1]
      · rw [if_neg h1, if_neg (by omega)]
    unfold ML_simulate
    rw [qb_s hx, qyp_l, if_pos rfl]
    exact COp.thr hC (Or.inl rfl)
  · have hVs : QV (qsm p.toNat x 40 A.R) := qsm_V _ _ _ _ hV (by decide)
    have hw := qwtc_R hVs
    obtain ⟨S1, e1, e2, e3, e4⟩ := try_c (n9 := n9) (by omega) hA hC
    obtain ⟨S2, g1, g2, g3, g4⟩ := sim_cl (n9 := n9) (m := p.toNat) (p := p) hn (by omega) (by omega) (fun S8 => qb (MX0_workOut n9 S8 12) fun a10 => qg (qR (a10 17 12)) <| some (Sum.inr ((1000 * (a10 17 10)) + (qmin (a10 17 12) 999)), a10)) p.toNat n9 0 S1 x 40 0 A.R rfl (by omega) (by omega) e2 hV e3 (by decide)
    obtain ⟨S3, k1, k2, k3, k4, k5⟩ := tplan_c (n9 := n9) (by omega) hVs g2 g4
    have hx : MX3_simulate n9 S x p = some (Sum.inr (qsan (qsm p.toNat x 40 A.R)), S3) := by
      unfold MX3_simulate
      rw [qg_t hp, ql, if_neg (by omega), if_pos hc.2, qb_s e1]
      simp only [ql]
      rw [g1, qb_s k1, k4.1.2.1, k4.1.2.2.2, qg_t (by constructor <;> omega)]
      rfl
    unfold ML_simulate
    rw [qb_s hx, qyp_r, qg_t (qsan_R hVs), ql]
    exact COp.ret (S' := S3) k2 (fun q j hq => ((k5 q j hq).trans (g3 q j hq)).trans (e4 q j hq))
theorem simulate_m {n9 : Nat} {S : qS} {A : QA} {x p : Int} (hn : 2000 ≤ n9) (hp : qR p) (hA : AOk A) (hM : MR S A) : (¬ (1 ≤ p ∧ p ≤ 60) → MOp S (MX4_simulate n9 S x p) 1 0 A) ∧ ((1 ≤ p ∧ p ≤ 60) → MOp S (MX4_simulate n9 S x p) 0 (qsan (qsm p.toNat x 40 A.R)) A) := by
  have hV := hA.1
  refine ⟨fun hc => ?_, fun hc => ?_⟩
  · have hx : MX4_simulate n9 S x p = some (0, q2 S 110 0 1) := by
      unfold MX4_simulate
      rw [qg_t hp, qb_s (in00 hp (by decide) (by decide) hc), qg_t (by decide)]
      dsimp only [ql]
      rw [if_pos rfl, qb_s ref1]
      rfl
    rw [hx]
    exact MOp.no hM (Or.inl rfl)
  · have hVs : QV (qsm p.toNat x 40 A.R) := qsm_V _ _ _ _ hV (by decide)
    have hw := qwtc_R hVs
    obtain ⟨S1, e1, e2, e3, e4, e5⟩ := try_m (n9 := n9) hn hA (hM.ref (k := 0))
    obtain ⟨S2, g1, g2, g3, g5, g4⟩ := sim_ml (n9 := n9) (m := p.toNat) (p := p) hn (by omega) (by omega) (fun S13 => qb (MX4_lay n9 S13 118) fun a15 => qb (MX4_allWeight n9 a15 118) fun a17 => qg (qR a17) <| if a17 ≤ 999 then (some (((1000 * (a15 110 24)) + a17), a15)) else (some (((1000 * (a15 110 24)) + 999), a15))) p.toNat n9 0 S1 x 40 0 A.R rfl (by omega) (by omega) e2 hV e3 (by decide)
    obtain ⟨S3, k1, k2, k3, k4, k5, k6⟩ := tplan_m (n9 := n9) (by omega) hVs g2 g4
    have hx : MX4_simulate n9 S x p = some (qsan (qsm p.toNat x 40 A.R), S3) := by
      unfold MX4_simulate
      rw [qg_t hp, qb_s (in01 hp (by decide) (by decide) hc), qg_t (by decide)]
      simp only [ql]
      rw [if_neg (by decide), qb_s ref0]
      simp only [if_true]
      rw [qg_t (by decide), qb_s e1, g1, qb_s k1, qb_s (allWeight_ok w118 (by omega) hVs k3 k4), k4.1.2.1, qg_t (by constructor <;> omega)]
      unfold qsan qmin
      by_cases h9 : qwt (qsm p.toNat x 40 A.R) (qcars (qsm p.toNat x 40 A.R)) ≤ 999
      · rw [if_pos h9, if_neg (by omega)]
      · rw [if_neg h9, if_pos (by omega)]
    exact ⟨_, S3, hx, k2, by rw [k6, g5, e5, q2_s], fun _ => rfl, qsan_R hVs, fun q j hq => (((k5 q j hq).trans (g3 q j hq)).trans (e4 q j hq)).trans (mOut.ref q j hq)⟩
