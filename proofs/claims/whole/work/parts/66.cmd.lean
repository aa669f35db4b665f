/-! a command, the class's side -/
theorem cond_c {n9 : Nat} {S : qS} {A : QA} {T : QR} {g : Int} (hn : 2000 ≤ n9) (hg : 0 ≤ g ∧ g < 100000) (hC : CR S A) (hV : QV T) (hT : QCr S 12 T) (h1 : ¬ g / 10000 = 1) (h2 : ¬ g / 10000 = 2) (h3 : ¬ g / 10000 = 3) (h4 : ¬ g / 10000 = 4) (h5 : ¬ g / 10000 = 5) :
    ∃ S', MX3_conditionHolds n9 S g = some (if (qcm T g).isSome = true then 1 else 0, S') ∧ CR S' A ∧ cOut S S' ∧ ∀ T', qcm T g = some T' → QCr S' 12 T' := by
  have h30 := hV.n30
  have hl15 := qcars_len hV
  obtain ⟨S1, e1, e2, e3, e4, e5⟩ := tplan_c (n9 := n9) (by omega) hV hC hT
  have h10 := e4.1.2.1
  have h12 := e4.1.2.2.2
  have hw := qwtc_R hV
  unfold MX3_conditionHolds
  rw [qg_t (by omega), qg_t (by omega)]
  simp only [ql]
  rw [qg_t (by omega), qb_s e1, qg_t (by omega), qg_t (by constructor <;> omega)]
  by_cases h6 : g / 10000 = 6
  · have e : qcm T g = if g / 100 % 100 = 0 ∧ g % 100 ≤ ((qcars T).length : Int) then some T else none := by
      unfold qcm
      rw [if_neg h1, if_neg h2, if_neg h3, if_neg h4, if_neg h5, if_pos h6]
    rw [e, if_pos h6, qg_t (by constructor <;> omega), h10]
    by_cases hc : g / 100 % 100 = 0 ∧ g % 100 ≤ ((qcars T).length : Int)
    · rw [if_pos hc, if_pos hc.1, qg_t (by constructor <;> omega), qg_t (by constructor <;> omega), if_neg (by omega)]
      exact ⟨S1, rfl, e2, e5, fun T' h => by cases h; exact e3⟩
    · rw [if_neg hc]
      by_cases h0 : g / 100 % 100 = 0
      · rw [if_pos h0, qg_t (by constructor <;> omega), qg_t (by constructor <;> omega), if_pos (by omega)]
        exact ⟨S1, rfl, e2, e5, fun T' h => by cases h⟩
      · rw [if_neg h0]
        exact ⟨S1, rfl, e2, e5, fun T' h => by cases h⟩
  rw [if_neg h6]
  by_cases h7 : g / 10000 = 7
  · have e : qcm T g = if g / 100 % 100 = 0 ∧ (T.n : Int) - 2 * ((qcars T).length : Int) ≤ g % 100 then some T else none := by
      unfold qcm
      rw [if_neg h1, if_neg h2, if_neg h3, if_neg h4, if_neg h5, if_neg h6, if_pos h7]
    rw [e, if_pos h7, qg_t (by constructor <;> omega), h10, e3.n]
    by_cases hc : g / 100 % 100 = 0 ∧ (T.n : Int) - 2 * ((qcars T).length : Int) ≤ g % 100
    · rw [if_pos hc, if_pos hc.1, qg_t (by constructor <;> omega), qg_t (by constructor <;> omega), if_neg (by omega)]
      exact ⟨S1, rfl, e2, e5, fun T' h => by cases h; exact e3⟩
    · rw [if_neg hc]
      by_cases h0 : g / 100 % 100 = 0
      · rw [if_pos h0, qg_t (by constructor <;> omega), qg_t (by constructor <;> omega), if_pos (by omega)]
        exact ⟨S1, rfl, e2, e5, fun T' h => by cases h⟩
      · rw [if_neg h0]
        exact ⟨S1, rfl, e2, e5, fun T' h => by cases h⟩
  rw [if_neg h7]
  by_cases h8 : g / 10000 = 8
  · have e : qcm T g = if g % 10000 ≤ qwt T (qcars T) then some T else none := by
      unfold qcm
      rw [if_neg h1, if_neg h2, if_neg h3, if_neg h4, if_neg h5, if_neg h6, if_neg h7, if_pos h8]
    rw [e, if_pos h8, qg_t (by omega), h12, qg_t (by constructor <;> omega), qg_t (by constructor <;> omega)]
    by_cases hc : g % 10000 ≤ qwt T (qcars T)
    · rw [if_pos hc, if_neg (by omega)]
      exact ⟨S1, rfl, e2, e5, fun T' h => by cases h; exact e3⟩
    · rw [if_neg hc, if_pos (by omega)]
      exact ⟨S1, rfl, e2, e5, fun T' h => by cases h⟩
  rw [if_neg h8]
  by_cases h9 : g / 10000 = 9
  · have e : qcm T g = if g / 100 % 100 < (T.n : Int) ∧ g % 100 = (if qcf (qcars T) 0 (g / 100 % 100).toNat = -1 then 0 else 1) then some T else none := by
      unfold qcm
      rw [if_neg h1, if_neg h2, if_neg h3, if_neg h4, if_neg h5, if_neg h6, if_neg h7, if_neg h8, if_pos h9]
    rw [e, if_pos h9, qb_s (has_ok q12 hV e3 (by constructor <;> omega)), qg_t q01R]
    by_cases hin : g / 100 % 100 < (T.n : Int)
    · have hf := qcf_R (qcars T) 0 (g / 100 % 100).toNat
      rw [if_pos (show 0 ≤ g / 100 % 100 ∧ g / 100 % 100 < (T.n : Int) by omega), if_neg (by decide), qb_s (at_in (j := (g / 100 % 100).toNat) kk22 (by omega) (by omega)), e4.2.2.2.1 _ (by omega), qg_t (by constructor <;> omega)]
      by_cases hz : qcf (qcars T) 0 (g / 100 % 100).toNat = -1
      · rw [if_pos hz, if_pos hz, qg_t (by constructor <;> omega), qg_t (by decide)]
        by_cases hy : g % 100 = 0
        · rw [if_pos hy, if_pos (show g / 100 % 100 < (T.n : Int) ∧ g % 100 = 0 from ⟨hin, hy⟩)]
          exact ⟨S1, rfl, e2, e5, fun T' h => by cases h; exact e3⟩
        · rw [if_neg hy, if_neg (show ¬ (g / 100 % 100 < (T.n : Int) ∧ g % 100 = 0) from fun h => hy h.2)]
          exact ⟨S1, rfl, e2, e5, fun T' h => by cases h⟩
      · rw [if_neg hz, if_neg hz, qg_t (by constructor <;> omega), qg_t (by decide)]
        by_cases hy : g % 100 = 1
        · rw [if_pos hy, if_pos (show g / 100 % 100 < (T.n : Int) ∧ g % 100 = 1 from ⟨hin, hy⟩)]
          exact ⟨S1, rfl, e2, e5, fun T' h => by cases h; exact e3⟩
        · rw [if_neg hy, if_neg (show ¬ (g / 100 % 100 < (T.n : Int) ∧ g % 100 = 1) from fun h => hy h.2)]
          exact ⟨S1, rfl, e2, e5, fun T' h => by cases h⟩
    · rw [if_neg (show ¬ (0 ≤ g / 100 % 100 ∧ g / 100 % 100 < (T.n : Int)) by omega), if_pos rfl]
      have hne : ¬ (g / 100 % 100 < (T.n : Int) ∧ g % 100 = (if qcf (qcars T) 0 (g / 100 % 100).toNat = -1 then 0 else 1)) := fun h => hin h.1
      rw [if_neg hne]
      exact ⟨S1, rfl, e2, e5, fun T' h => by cases h⟩
  have e : qcm T g = none := by
    unfold qcm
    rw [if_neg h1, if_neg h2, if_neg h3, if_neg h4, if_neg h5, if_neg h6, if_neg h7, if_neg h8, if_neg h9]
  rw [if_neg h9, e]
  exact ⟨S1, rfl, e2, e5, fun T' h => by cases h⟩
theorem cmd_c {n9 : Nat} {S : qS} {A : QA} {T : QR} {g : Int} (hn : 2000 ≤ n9) (hg : 0 ≤ g ∧ g < 100000) (hC : CR S A) (hV : QV T) (hT : QCr S 12 T) :
    ∃ S', MX3_commandSucceeds n9 S g = some (if (qcm T g).isSome = true then 1 else 0, S') ∧ CR S' A ∧ cOut S S' ∧ ∀ T', qcm T g = some T' → QCr S' 12 T' := by
  have h30 := hV.n30
  unfold MX3_commandSucceeds
  rw [qg_t (by omega), qg_t (by omega)]
  simp only [ql]
  rw [qg_t (by omega), qg_t (by omega), qg_t (by constructor <;> omega)]
  have rhi : qR (g / 100 % 100) := by constructor <;> omega
  have rlo : qR (g % 100) := by constructor <;> omega
  by_cases h1 : g / 10000 = 1
  · have e : qcm T g = if (1 ≤ g / 100 % 100 ∧ g / 100 % 100 ≤ 60) ∧ (1 ≤ g % 100 ∧ g % 100 ≤ 99) ∧ T.n < 30 then some (qadd T (g / 100 % 100) (g % 100)) else none := by
      unfold qcm
      rw [if_pos h1]
    rw [e, if_pos h1]
    by_cases hc : (1 ≤ g / 100 % 100 ∧ g / 100 % 100 ≤ 60) ∧ (1 ≤ g % 100 ∧ g % 100 ≤ 99) ∧ T.n < 30
    · obtain ⟨S', a1, a2, a3⟩ := (addAxle_ok (n9 := n9) q12 hV hT rhi rlo).1 hc
      rw [if_pos hc, qb_s a1, qg_t (Or.inr rfl)]
      exact ⟨S', rfl, hC.trial a3, cOut.trial a3, fun T' h => by cases h; exact a2⟩
    · have a1 := (addAxle_ok (n9 := n9) q12 hV hT rhi rlo).2 hc
      rw [if_neg hc, qb_s a1, qg_t (Or.inl rfl)]
      exact ⟨S, rfl, hC, fun _ _ _ => rfl, fun T' h => by cases h⟩
  rw [if_neg h1]
  by_cases h2 : g / 10000 = 2
  · have e : qcm T g = if g % 100 = 0 ∧ g / 100 % 100 < (T.n : Int) then some (qstrike T (g / 100 % 100).toNat) else none := by
      unfold qcm
      rw [if_neg h1, if_pos h2]
    rw [e, if_pos h2, qg_t rlo]
    by_cases hc : g % 100 = 0 ∧ g / 100 % 100 < (T.n : Int)
    · obtain ⟨S', a1, a2, a3⟩ := (dropAxle_ok (n9 := n9) q12 (by omega) hV hT rhi).1 (by omega)
      rw [if_pos hc, if_pos hc.1, qb_s a1]
      exact ⟨S', rfl, hC.trial a3, cOut.trial a3, fun T' h => by cases h; exact a2⟩
    · rw [if_neg hc]
      by_cases h0 : g % 100 = 0
      · have a1 := (dropAxle_ok (n9 := n9) q12 (by omega) hV hT rhi).2 (by omega)
        rw [if_pos h0, qb_s a1]
        exact ⟨S, rfl, hC, fun _ _ _ => rfl, fun T' h => by cases h⟩
      · rw [if_neg h0]
        exact ⟨S, rfl, hC, fun _ _ _ => rfl, fun T' h => by cases h⟩
  rw [if_neg h2]
  by_cases h3 : g / 10000 = 3
  · have e : qcm T g = if g / 100 % 100 < (T.n : Int) ∧ (1 ≤ g % 100 ∧ g % 100 ≤ 99) then some (qputw T (g / 100 % 100).toNat (g % 100)) else none := by
      unfold qcm
      rw [if_neg h1, if_neg h2, if_pos h3]
    rw [e, if_pos h3]
    by_cases hc : g / 100 % 100 < (T.n : Int) ∧ (1 ≤ g % 100 ∧ g % 100 ≤ 99)
    · obtain ⟨S', a1, a2, a3⟩ := (putWeight_ok (n9 := n9) q12 hV hT rhi rlo).1 ⟨by omega, hc.2⟩
      rw [if_pos hc, qb_s a1, qg_t (Or.inr rfl)]
      exact ⟨S', rfl, hC.trial a3, cOut.trial a3, fun T' h => by cases h; exact a2⟩
    · have a1 := (putWeight_ok (n9 := n9) q12 hV hT rhi rlo).2 (fun h => hc ⟨h.1.2, h.2⟩)
      rw [if_neg hc, qb_s a1, qg_t (Or.inl rfl)]
      exact ⟨S, rfl, hC, fun _ _ _ => rfl, fun T' h => by cases h⟩
  rw [if_neg h3]
  by_cases h4 : g / 10000 = 4
  · have e : qcm T g = if g % 10 = 0 ∧ qsi (g / 100 % 100 / 10) (g / 10 % 100) then some (qputs T (g / 100 % 100 / 10).toNat (g / 10 % 100)) else none := by
      unfold qcm
      rw [if_neg h1, if_neg h2, if_neg h3, if_pos h4]
    have r1 : qR (g / 100 % 100 / 10) := by constructor <;> omega
    have r2 : qR (g / 10 % 100) := by constructor <;> omega
    rw [e, if_pos h4, qg_t (by omega), qg_t (by constructor <;> omega)]
    by_cases h0 : g % 10 = 0
    · rw [if_pos (show g % 100 % 10 = 0 by omega), qg_t (by omega), qg_t (by omega), qg_t (by omega)]
      by_cases hc : qsi (g / 100 % 100 / 10) (g / 10 % 100)
      · obtain ⟨S', a1, a2, a3⟩ := (putSetting_ok (n9 := n9) q12 hT r1 r2).1 hc
        rw [if_pos (show g % 10 = 0 ∧ qsi (g / 100 % 100 / 10) (g / 10 % 100) from ⟨h0, hc⟩), qb_s a1]
        exact ⟨S', rfl, hC.trial a3, cOut.trial a3, fun T' h => by cases h; exact a2⟩
      · have a1 := (putSetting_ok (n9 := n9) q12 hT r1 r2).2 hc
        rw [if_neg (show ¬ (g % 10 = 0 ∧ qsi (g / 100 % 100 / 10) (g / 10 % 100)) from fun h => hc h.2), qb_s a1]
        exact ⟨S, rfl, hC, fun _ _ _ => rfl, fun T' h => by cases h⟩
    · have hne : ¬ (g % 10 = 0 ∧ qsi (g / 100 % 100 / 10) (g / 10 % 100)) := fun h => h0 h.1
      rw [if_neg hne, if_neg (show ¬ g % 100 % 10 = 0 by omega)]
      exact ⟨S, rfl, hC, fun _ _ _ => rfl, fun T' h => by cases h⟩
  rw [if_neg h4]
  by_cases h5 : g / 10000 = 5
  · have e : qcm T g = if g % 10000 = 0 ∧ 0 < T.n then some (qleave T) else none := by
      unfold qcm
      rw [if_neg h1, if_neg h2, if_neg h3, if_neg h4, if_pos h5]
    rw [e, if_pos h5, qg_t rhi]
    by_cases h0 : g / 100 % 100 = 0
    · rw [if_pos h0, qg_t rlo]
      by_cases h0' : g % 100 = 0
      · have hz : g % 10000 = 0 := by omega
        rw [if_pos h0']
        by_cases hc : 0 < T.n
        · obtain ⟨S', a1, a2, a3⟩ := (dropFirst_ok (n9 := n9) q12 (by omega) hV hT).1 hc
          rw [if_pos (show g % 10000 = 0 ∧ 0 < T.n from ⟨hz, hc⟩), qb_s a1]
          exact ⟨S', rfl, hC.trial a3, cOut.trial a3, fun T' h => by cases h; exact a2⟩
        · have a1 := (dropFirst_ok (n9 := n9) q12 (by omega) hV hT).2 (by omega)
          rw [if_neg (show ¬ (g % 10000 = 0 ∧ 0 < T.n) from fun h => hc h.2), qb_s a1]
          exact ⟨S, rfl, hC, fun _ _ _ => rfl, fun T' h => by cases h⟩
      · have hne : ¬ (g % 10000 = 0 ∧ 0 < T.n) := by omega
        rw [if_neg hne, if_neg h0']
        exact ⟨S, rfl, hC, fun _ _ _ => rfl, fun T' h => by cases h⟩
    · have hne : ¬ (g % 10000 = 0 ∧ 0 < T.n) := by omega
      rw [if_neg hne, if_neg h0]
      exact ⟨S, rfl, hC, fun _ _ _ => rfl, fun T' h => by cases h⟩
  rw [if_neg h5]
  obtain ⟨S', a1, a2, a3, a4⟩ := cond_c (n9 := n9) hn hg hC hV hT h1 h2 h3 h4 h5
  rw [qb_s a1, qg_t (show (if (qcm T g).isSome = true then (1 : Int) else 0) = 0 ∨ (if (qcm T g).isSome = true then (1 : Int) else 0) = 1 from q01)]
  exact ⟨S', rfl, a2, a3, a4⟩
