/-! a command, the reference's side -/
theorem rolls_ok {n9 : Nat} {S : qS} {T : QR} {p w : Int} (hV : QV T) (hM : QMr S 118 T) (hp : qR p) (hw : qR w) : ∃ S', MX4_rolls n9 S p w = some (if (1 ≤ p ∧ p ≤ 60) ∧ (1 ≤ w ∧ w ≤ 99) ∧ T.n < 30 then 1 else 0, S') ∧ qH (aW 118) S S' ∧ (((1 ≤ p ∧ p ≤ 60) ∧ (1 ≤ w ∧ w ≤ 99) ∧ T.n < 30) → QMr S' 118 (qadd T p w)) := by
  have h30 := hV.n30
  have h0 : S 118 (0 : Int).toNat = (T.n : Int) := hM.n
  unfold MX4_rolls
  rw [qb_s (misPause_ok hp), qg_t q01R]
  by_cases h1 : 1 ≤ p ∧ p ≤ 60
  · rw [if_pos h1, if_neg (by decide), qb_s (misWeight_ok hw), qg_t q01R]
    by_cases h2 : 1 ≤ w ∧ w ≤ 99
    · rw [if_pos h2, if_neg (by decide), qg_t (by decide), h0, qg_t (by constructor <;> omega)]
      by_cases h3 : T.n < 30
      · obtain ⟨S', a1, a2, a3⟩ := mrollIn_ok (n9 := n9) (p := p) (x := w) w118 hV hM h3
        rw [if_neg (by omega), qb_s a1, if_pos ⟨h1, h2, h3⟩]
        exact ⟨S', rfl, a3, fun _ => a2⟩
      · have hne : ¬ ((1 ≤ p ∧ p ≤ 60) ∧ (1 ≤ w ∧ w ≤ 99) ∧ T.n < 30) := fun h => h3 h.2.2
        rw [if_pos (by omega), if_neg hne]
        exact ⟨S, rfl, qH.rfl, fun h => absurd h hne⟩
    · have hne : ¬ ((1 ≤ p ∧ p ≤ 60) ∧ (1 ≤ w ∧ w ≤ 99) ∧ T.n < 30) := fun h => h2 h.2.1
      rw [if_neg h2, if_pos rfl, if_neg hne]
      exact ⟨S, rfl, qH.rfl, fun h => absurd h hne⟩
  · have hne : ¬ ((1 ≤ p ∧ p ≤ 60) ∧ (1 ≤ w ∧ w ≤ 99) ∧ T.n < 30) := fun h => h1 h.1
    rw [if_neg h1, if_pos rfl, if_neg hne]
    exact ⟨S, rfl, qH.rfl, fun h => absurd h hne⟩
theorem weighs_ok {n9 : Nat} {S : qS} {T : QR} {p w : Int} (hV : QV T) (hM : QMr S 118 T) (hp : 0 ≤ p ∧ p < 100) (hw : qR w) : ∃ S', MX4_weighs n9 S p w = some (if p < (T.n : Int) ∧ (1 ≤ w ∧ w ≤ 99) then 1 else 0, S') ∧ qH (aW 118) S S' ∧ ((p < (T.n : Int) ∧ (1 ≤ w ∧ w ≤ 99)) → QMr S' 118 (qputw T p.toNat w)) := by
  have h30 := hV.n30
  have h0 : S 118 (0 : Int).toNat = (T.n : Int) := hM.n
  unfold MX4_weighs
  rw [qg_t (by decide), qg_t (by constructor <;> omega), h0, qg_t (by constructor <;> omega)]
  by_cases h1 : p < (T.n : Int)
  · rw [if_neg (by omega), qb_s (misWeight_ok hw), qg_t q01R]
    by_cases h2 : 1 ≤ w ∧ w ≤ 99
    · have hix : (65 + p).toNat = 65 + p.toNat := by omega
      rw [if_pos h2, if_neg (by decide), qg_t (by omega), hix, ql, if_pos ⟨h1, h2⟩]
      refine ⟨q2 S 118 (65 + p.toNat) w, rfl, qH.rfl.q2 rfl, fun _ => ?_⟩
      obtain ⟨m1, m2, m3, m4, m5⟩ := hM
      refine ⟨by rw [q2_j (by omega)]; exact m1, fun j hj => by rw [q2_j (by have : j < T.n := hj; omega)]; exact m2 j hj, fun j hj => ?_, fun t ht => by rw [q2_j (by omega)]; exact m4 t ht, fun k hk => by rw [q2_j (by omega)]; exact m5 k hk⟩
      rw [q2_at]
      show _ = if j = p.toNat then w else T.we j
      by_cases h : j = p.toNat
      · rw [if_pos (by omega), if_pos h]
      · rw [if_neg (by omega), if_neg h]; exact m3 j hj
    · have hne : ¬ (p < (T.n : Int) ∧ (1 ≤ w ∧ w ≤ 99)) := fun h => h2 h.2
      rw [if_neg h2, if_pos rfl, if_neg hne]
      exact ⟨S, rfl, qH.rfl, fun h => absurd h hne⟩
  · have hne : ¬ (p < (T.n : Int) ∧ (1 ≤ w ∧ w ≤ 99)) := fun h => h1 h.1
    rw [if_pos (by omega), if_neg hne]
    exact ⟨S, rfl, qH.rfl, fun h => absurd h hne⟩
theorem sets_ok {n9 : Nat} {S : qS} {T : QR} {p v : Int} (hM : QMr S 118 T) (hn : T.n ≤ 30) (hp : qR p) (hv : qR v) : ∃ S', MX4_sets n9 S p v = some (if qsi p v then 1 else 0, S') ∧ qH (aW 118) S S' ∧ (qsi p v → QMr S' 118 (qputs T p.toNat v)) := by
  unfold MX4_sets
  rw [qb_s (misSetting_ok hp hv), qg_t q01R]
  by_cases hc : qsi p v
  · have hp4 : 0 ≤ p ∧ p < 4 := by omega
    have hix : (1 + p).toNat = 1 + p.toNat := by omega
    rw [if_pos hc, if_neg (by decide), qg_t (by omega), hix, ql]
    refine ⟨q2 S 118 (1 + p.toNat) v, rfl, qH.rfl.q2 rfl, fun _ => ?_⟩
    obtain ⟨m1, m2, m3, m4, m5⟩ := hM
    refine ⟨by rw [q2_j (by omega)]; exact m1, fun j hj => by rw [q2_j (by omega)]; exact m2 j hj, fun j hj => by rw [q2_j (by omega)]; exact m3 j hj, fun t ht => by rw [q2_j (by omega)]; exact m4 t ht, fun k hk => ?_⟩
    rw [q2_at]
    show _ = if k = p.toNat then v else T.se k
    by_cases h : k = p.toNat
    · rw [if_pos (by omega), if_pos h]
    · rw [if_neg (by omega), if_neg h]; exact m5 k hk
  · rw [if_neg hc, if_pos rfl]
    exact ⟨S, rfl, qH.rfl, fun h => absurd h hc⟩
theorem cmd_m {n9 : Nat} {S : qS} {A : QA} {T : QR} {g : Int} (hn : 2000 ≤ n9) (hg : 0 ≤ g ∧ g < 100000) (hM : MR S A) (hV : QV T) (hT : QMr S 118 T) :
    ∃ S', MX4_does n9 S g = some (if (qcm T g).isSome = true then 1 else 0, S') ∧ MR S' A ∧ mOut S S' ∧ S' 110 0 = S 110 0 ∧ ∀ T', qcm T g = some T' → QMr S' 118 T' := by
  have h30 := hV.n30
  have hl15 := qcars_len hV
  obtain ⟨S1, e1, e2, e3, e4, e5, e6⟩ := tplan_m (n9 := n9) (by omega) hV hM hT
  have h24 := e4.1.2.1
  have h0n : S1 118 (0 : Int).toNat = (T.n : Int) := e3.n
  have hw := qwtc_R hV
  have rhi : qR (g / 100 % 100) := by constructor <;> omega
  have rlo : qR (g % 100) := by constructor <;> omega
  have keep : ∀ {S' : qS}, qH (aW 118) S1 S' → MR S' A ∧ mOut S S' ∧ S' 110 0 = S 110 0 := fun hH => ⟨e2.trial (aW_m hH), fun p j hp => (mOut.trial (aW_m hH) p j hp).trans (e5 p j hp), by rw [hH 110 0 rfl, e6]⟩
  unfold MX4_does
  rw [qg_t (by omega)]
  simp only [ql]
  rw [qg_t (by omega), qg_t (by omega), qg_t (by omega), qb_s e1, qg_t (by constructor <;> omega)]
  by_cases h1 : g / 10000 = 1
  · have e : qcm T g = if (1 ≤ g / 100 % 100 ∧ g / 100 % 100 ≤ 60) ∧ (1 ≤ g % 100 ∧ g % 100 ≤ 99) ∧ T.n < 30 then some (qadd T (g / 100 % 100) (g % 100)) else none := by
      unfold qcm
      rw [if_pos h1]
    obtain ⟨S', a1, a2, a3⟩ := rolls_ok (n9 := n9) hV e3 rhi rlo
    obtain ⟨k1, k2, k3⟩ := keep a2
    rw [if_pos h1, qb_s a1]
    dsimp only
    rw [qg_t q01, e]
    by_cases hc : (1 ≤ g / 100 % 100 ∧ g / 100 % 100 ≤ 60) ∧ (1 ≤ g % 100 ∧ g % 100 ≤ 99) ∧ T.n < 30
    · rw [if_pos hc, if_pos hc]
      exact ⟨S', rfl, k1, k2, k3, fun T' h => by cases h; exact a3 hc⟩
    · rw [if_neg hc, if_neg hc]
      exact ⟨S', rfl, k1, k2, k3, fun T' h => by cases h⟩
  rw [if_neg h1]
  by_cases h2 : g / 10000 = 2
  · have e : qcm T g = if g % 100 = 0 ∧ g / 100 % 100 < (T.n : Int) then some (qstrike T (g / 100 % 100).toNat) else none := by
      unfold qcm
      rw [if_neg h1, if_pos h2]
    rw [e, if_pos h2, qg_t rlo]
    by_cases h0 : g % 100 = 0
    · rw [if_pos h0]
      unfold MX4_strikes
      by_cases hc : g / 100 % 100 < (T.n : Int)
      · obtain ⟨S', a1, a2, a3⟩ := mstrikeIn_ok (n9 := n9) (p := g / 100 % 100) (i := (g / 100 % 100).toNat) w118 hn hV e3 (by omega) (by omega)
        obtain ⟨k1, k2, k3⟩ := keep a3
        rw [qg_t (by decide), qg_t rhi, h0n, qg_t (by constructor <;> omega), if_pos hc, qb_s a1, if_pos (show g % 100 = 0 ∧ g / 100 % 100 < (T.n : Int) from ⟨h0, hc⟩)]
        exact ⟨S', rfl, k1, k2, k3, fun T' h => by cases h; exact a2⟩
      · obtain ⟨k1, k2, k3⟩ := keep qH.rfl
        have hne : ¬ (g % 100 = 0 ∧ g / 100 % 100 < (T.n : Int)) := fun h => hc h.2
        rw [qg_t (by decide), qg_t rhi, h0n, qg_t (by constructor <;> omega), if_neg hc, if_neg hne]
        exact ⟨S1, rfl, k1, k2, k3, fun T' h => by cases h⟩
    · obtain ⟨k1, k2, k3⟩ := keep qH.rfl
      have hne : ¬ (g % 100 = 0 ∧ g / 100 % 100 < (T.n : Int)) := fun h => h0 h.1
      rw [if_neg h0, if_neg hne]
      exact ⟨S1, rfl, k1, k2, k3, fun T' h => by cases h⟩
  rw [if_neg h2]
  by_cases h3 : g / 10000 = 3
  · have e : qcm T g = if g / 100 % 100 < (T.n : Int) ∧ (1 ≤ g % 100 ∧ g % 100 ≤ 99) then some (qputw T (g / 100 % 100).toNat (g % 100)) else none := by
      unfold qcm
      rw [if_neg h1, if_neg h2, if_pos h3]
    obtain ⟨S', a1, a2, a3⟩ := weighs_ok (n9 := n9) (p := g / 100 % 100) hV e3 (by omega) rlo
    obtain ⟨k1, k2, k3⟩ := keep a2
    rw [if_pos h3, qb_s a1]
    dsimp only
    rw [qg_t q01, e]
    by_cases hc : g / 100 % 100 < (T.n : Int) ∧ (1 ≤ g % 100 ∧ g % 100 ≤ 99)
    · rw [if_pos hc, if_pos hc]
      exact ⟨S', rfl, k1, k2, k3, fun T' h => by cases h; exact a3 hc⟩
    · rw [if_neg hc, if_neg hc]
      exact ⟨S', rfl, k1, k2, k3, fun T' h => by cases h⟩
  rw [if_neg h3]
  by_cases h4 : g / 10000 = 4
  · have e : qcm T g = if g % 10 = 0 ∧ qsi (g / 100 % 100 / 10) (g / 10 % 100) then some (qputs T (g / 100 % 100 / 10).toNat (g / 10 % 100)) else none := by
      unfold qcm
      rw [if_neg h1, if_neg h2, if_neg h3, if_pos h4]
    have r1 : qR (g / 100 % 100 / 10) := by constructor <;> omega
    have r2 : qR (g / 10 % 100) := by constructor <;> omega
    rw [e, if_pos h4, qg_t (by omega), qg_t (by constructor <;> omega)]
    by_cases h0 : g % 10 = 0
    · obtain ⟨S', a1, a2, a3⟩ := sets_ok (n9 := n9) e3 h30 r1 r2
      obtain ⟨k1, k2, k3⟩ := keep a2
      rw [if_pos h0, qg_t (by omega), qg_t (by omega), qg_t (by omega), qb_s a1]
      by_cases hc : qsi (g / 100 % 100 / 10) (g / 10 % 100)
      · rw [if_pos hc, if_pos (show g % 10 = 0 ∧ qsi (g / 100 % 100 / 10) (g / 10 % 100) from ⟨h0, hc⟩)]
        exact ⟨S', rfl, k1, k2, k3, fun T' h => by cases h; exact a3 hc⟩
      · have hne : ¬ (g % 10 = 0 ∧ qsi (g / 100 % 100 / 10) (g / 10 % 100)) := fun h => hc h.2
        rw [if_neg hc, if_neg hne]
        exact ⟨S', rfl, k1, k2, k3, fun T' h => by cases h⟩
    · obtain ⟨k1, k2, k3⟩ := keep qH.rfl
      have hne : ¬ (g % 10 = 0 ∧ qsi (g / 100 % 100 / 10) (g / 10 % 100)) := fun h => h0 h.1
      rw [if_neg h0, if_neg hne]
      exact ⟨S1, rfl, k1, k2, k3, fun T' h => by cases h⟩
  rw [if_neg h4]
  by_cases h5 : g / 10000 = 5
  · have e : qcm T g = if g % 10000 = 0 ∧ 0 < T.n then some (qleave T) else none := by
      unfold qcm
      rw [if_neg h1, if_neg h2, if_neg h3, if_neg h4, if_pos h5]
    rw [e, if_pos h5, qg_t (by omega), qg_t (by constructor <;> omega)]
    by_cases h0 : g % 10000 = 0
    · rw [if_pos h0]
      unfold MX4_leaves
      rw [qg_t (by decide), h0n, qg_t (by constructor <;> omega)]
      by_cases hc : 0 < T.n
      · obtain ⟨S', a1, a2, a3⟩ := leaveIn_ok (n9 := n9) w118 hn hV e3 hc
        rw [if_neg (by omega), qb_s a1, if_pos (show g % 10000 = 0 ∧ 0 < T.n from ⟨h0, hc⟩)]
        exact ⟨S', rfl, e2.trial a3, fun p j hp => (mOut.trial a3 p j hp).trans (e5 p j hp), by rw [a3 110 0 rfl, e6], fun T' h => by cases h; exact a2⟩
      · obtain ⟨k1, k2, k3⟩ := keep qH.rfl
        have hne : ¬ (g % 10000 = 0 ∧ 0 < T.n) := fun h => hc h.2
        rw [if_pos (by omega), if_neg hne]
        exact ⟨S1, rfl, k1, k2, k3, fun T' h => by cases h⟩
    · obtain ⟨k1, k2, k3⟩ := keep qH.rfl
      have hne : ¬ (g % 10000 = 0 ∧ 0 < T.n) := fun h => h0 h.1
      rw [if_neg h0, if_neg hne]
      exact ⟨S1, rfl, k1, k2, k3, fun T' h => by cases h⟩
  rw [if_neg h5]
  obtain ⟨k1, k2, k3⟩ := keep qH.rfl
  by_cases h6 : g / 10000 = 6
  · have e : qcm T g = if g / 100 % 100 = 0 ∧ g % 100 ≤ ((qcars T).length : Int) then some T else none := by
      unfold qcm
      rw [if_neg h1, if_neg h2, if_neg h3, if_neg h4, if_neg h5, if_pos h6]
    rw [e, if_pos h6, qg_t rhi, h24]
    by_cases hc : g / 100 % 100 = 0 ∧ g % 100 ≤ ((qcars T).length : Int)
    · rw [if_pos hc, if_pos hc.1, qg_t (by constructor <;> omega), qg_t rlo, if_neg (by omega)]
      exact ⟨S1, rfl, k1, k2, k3, fun T' h => by cases h; exact e3⟩
    · rw [if_neg hc]
      by_cases h0 : g / 100 % 100 = 0
      · rw [if_pos h0, qg_t (by constructor <;> omega), qg_t rlo, if_pos (by omega)]
        exact ⟨S1, rfl, k1, k2, k3, fun T' h => by cases h⟩
      · rw [if_neg h0]
        exact ⟨S1, rfl, k1, k2, k3, fun T' h => by cases h⟩
  rw [if_neg h6]
  by_cases h7 : g / 10000 = 7
  · have e : qcm T g = if g / 100 % 100 = 0 ∧ (T.n : Int) - 2 * ((qcars T).length : Int) ≤ g % 100 then some T else none := by
      unfold qcm
      rw [if_neg h1, if_neg h2, if_neg h3, if_neg h4, if_neg h5, if_neg h6, if_pos h7]
    rw [e, if_pos h7, qg_t rhi, h24, h0n]
    by_cases hc : g / 100 % 100 = 0 ∧ (T.n : Int) - 2 * ((qcars T).length : Int) ≤ g % 100
    · rw [if_pos hc, if_pos hc.1, qg_t (by decide), qg_t (by constructor <;> omega), qg_t rlo, if_neg (by omega)]
      exact ⟨S1, rfl, k1, k2, k3, fun T' h => by cases h; exact e3⟩
    · rw [if_neg hc]
      by_cases h0 : g / 100 % 100 = 0
      · rw [if_pos h0, qg_t (by decide), qg_t (by constructor <;> omega), qg_t rlo, if_pos (by omega)]
        exact ⟨S1, rfl, k1, k2, k3, fun T' h => by cases h⟩
      · rw [if_neg h0]
        exact ⟨S1, rfl, k1, k2, k3, fun T' h => by cases h⟩
  rw [if_neg h7]
  by_cases h8 : g / 10000 = 8
  · have e : qcm T g = if g % 10000 ≤ qwt T (qcars T) then some T else none := by
      unfold qcm
      rw [if_neg h1, if_neg h2, if_neg h3, if_neg h4, if_neg h5, if_neg h6, if_neg h7, if_pos h8]
    rw [e, if_pos h8, qb_s (allWeight_ok w118 (by omega) hV e3 e4), qg_t (by omega), qg_t (by constructor <;> omega), qg_t (by constructor <;> omega)]
    by_cases hc : g % 10000 ≤ qwt T (qcars T)
    · rw [if_pos hc, if_neg (by omega)]
      exact ⟨S1, rfl, k1, k2, k3, fun T' h => by cases h; exact e3⟩
    · rw [if_neg hc, if_pos (by omega)]
      exact ⟨S1, rfl, k1, k2, k3, fun T' h => by cases h⟩
  rw [if_neg h8]
  by_cases h9 : g / 10000 = 9
  · have e : qcm T g = if g / 100 % 100 < (T.n : Int) ∧ g % 100 = (if qcf (qcars T) 0 (g / 100 % 100).toNat = -1 then 0 else 1) then some T else none := by
      unfold qcm
      rw [if_neg h1, if_neg h2, if_neg h3, if_neg h4, if_neg h5, if_neg h6, if_neg h7, if_neg h8, if_pos h9]
    rw [e, if_pos h9, qg_t (by decide), qg_t rhi, h0n, qg_t (by constructor <;> omega)]
    by_cases hin : g / 100 % 100 < (T.n : Int)
    · have hf := qcf_R (qcars T) 0 (g / 100 % 100).toNat
      rw [if_neg (show ¬ (T.n : Int) ≤ g / 100 % 100 by omega), qg_t rlo]
      by_cases hb : 2 ≤ g % 100
      · have hne : ¬ (g / 100 % 100 < (T.n : Int) ∧ g % 100 = (if qcf (qcars T) 0 (g / 100 % 100).toNat = -1 then 0 else 1)) := by
          intro h
          have h := h.2
          split at h <;> omega
        rw [if_pos hb, if_neg hne]
        exact ⟨S1, rfl, k1, k2, k3, fun T' h => by cases h⟩
      · rw [if_neg hb, qb_s (carOf_ok (j := (g / 100 % 100).toNat) (by omega) hV e4 (by omega) (by omega)), qg_t (by constructor <;> omega)]
        by_cases hz : qcf (qcars T) 0 (g / 100 % 100).toNat = -1
        · rw [if_pos hz, if_pos hz]
          by_cases hy : g % 100 = 0
          · rw [if_neg (show ¬ g % 100 = 1 by omega), if_pos (show g / 100 % 100 < (T.n : Int) ∧ g % 100 = 0 from ⟨hin, hy⟩)]
            exact ⟨S1, rfl, k1, k2, k3, fun T' h => by cases h; exact e3⟩
          · rw [if_pos (show g % 100 = 1 by omega), if_neg (show ¬ (g / 100 % 100 < (T.n : Int) ∧ g % 100 = 0) from fun h => hy h.2)]
            exact ⟨S1, rfl, k1, k2, k3, fun T' h => by cases h⟩
        · rw [if_neg hz, if_neg hz]
          by_cases hy : g % 100 = 1
          · rw [if_pos hy, if_pos (show g / 100 % 100 < (T.n : Int) ∧ g % 100 = 1 from ⟨hin, hy⟩)]
            exact ⟨S1, rfl, k1, k2, k3, fun T' h => by cases h; exact e3⟩
          · rw [if_neg hy, if_neg (show ¬ (g / 100 % 100 < (T.n : Int) ∧ g % 100 = 1) from fun h => hy h.2)]
            exact ⟨S1, rfl, k1, k2, k3, fun T' h => by cases h⟩
    · have hne : ¬ (g / 100 % 100 < (T.n : Int) ∧ g % 100 = (if qcf (qcars T) 0 (g / 100 % 100).toNat = -1 then 0 else 1)) := fun h => hin h.1
      rw [if_pos (show (T.n : Int) ≤ g / 100 % 100 by omega), if_neg hne]
      exact ⟨S1, rfl, k1, k2, k3, fun T' h => by cases h⟩
  have e : qcm T g = none := by
    unfold qcm
    rw [if_neg h1, if_neg h2, if_neg h3, if_neg h4, if_neg h5, if_neg h6, if_neg h7, if_neg h8, if_neg h9]
  rw [if_neg h9, e]
  exact ⟨S1, rfl, k1, k2, k3, fun T' h => by cases h⟩
