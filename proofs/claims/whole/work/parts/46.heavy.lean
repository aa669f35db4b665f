/-! heavy -/
theorem qior_R (x y : Int) : qR (qior x y) := by unfold qior; exact qR_toInt _
theorem qior_0 {x : Int} (h : qR x) : qior x 0 = x := by
  unfold qior
  rw [show qI x ||| qI 0 = qI x from Int32.or_zero, qI_toInt h]
def qhv (R : QR) (v : Int) (x : Int) (i : Nat) : Int := if R.we i + R.we (i + 1) < v then x else qior x (qishl 3 (i : Int))
theorem heavy_cl {n9 : Nat} {S : qS} {R : QR} {v : Int} (hv : qR v) (hV : QV R) (hC : QCr S 7 R) (hP : QP S R) : ∀ (l : List Nat) (f c : Nat) (x acc : Int), x = (c : Int) → c + l.length = (qcars R).length → (∀ j, j < l.length → S 23 (c + j) = ((l.getD j 0 : Nat) : Int)) → (∀ i, i ∈ l → i + 1 < R.n) → l.length < f →
    MX3_heavy_l30 n9 v S f acc x = some (Sum.inr (l.foldl (qhv R v) acc), S) := by
  have h30 := hV.n30
  have hl15 := qcars_len hV
  have h10 := hP.1.2.1
  intro l
  induction l with
  | nil =>
    intro f c x acc hx hc h23 hm hf
    cases f with
    | zero => cases hf
    | succ f =>
      have hc : c = (qcars R).length := hc
      rw [MX3_heavy_l30, qg_t (by constructor <;> omega), h10, qg_t (by constructor <;> omega), if_pos (by omega)]
      rfl
  | cons i l ih =>
    intro f c x acc hx hc h23 hm hf
    rw [List.length_cons] at hc hf
    cases f with
    | zero => omega
    | succ f =>
      have hi := hm i List.mem_cons_self
      have h1 := hV.we i (by omega)
      have h2 := hV.we (i + 1) hi
      have hvv : S 23 c = (i : Int) := h23 0 (by rw [List.length_cons]; omega)
      have hI := fun acc' => ih f (c + 1) (x + 1) acc' (by omega) (by omega) (fun j hj => by
        have := h23 (j + 1) (by rw [List.length_cons]; omega)
        rw [show c + 1 + j = c + (j + 1) by omega, this]
        rfl) (fun j hj => hm j (List.mem_cons_of_mem _ hj)) (by omega)
      rw [MX3_heavy_l30, qg_t (by constructor <;> omega), h10, qg_t (by constructor <;> omega), if_neg (by omega), qb_s (at_in (j := c) kk23 hx (by omega)), hvv, qb_s (carWeight_ok q7 hV hC rfl hi), qg_t (by constructor <;> omega), qg_t hv]
      simp only [ql]
      rw [List.foldl_cons]
      unfold qhv at hI ⊢
      by_cases h : R.we i + R.we (i + 1) < v
      · rw [if_pos h, hI, if_pos h]
      · rw [if_neg h, hI, if_neg h]
theorem heavy_ml {n9 : Nat} {S : qS} {R : QR} {v : Int} (hv : qR v) (hV : QV R) (hM : QMr S 117 R) (hQ : QM S R) : ∀ (l : List Nat) (f c : Nat) (x acc : Int), x = (c : Int) → c + l.length = (qcars R).length → (∀ j, j < l.length → S 126 (c + j) = ((l.getD j 0 : Nat) : Int)) → (∀ i, i ∈ l → i + 1 < R.n) → l.length < f → qR acc →
    MX4_heavy_l30 n9 v S f acc x = some (l.foldl (qhv R v) acc, S) ∧ qR (l.foldl (qhv R v) acc) := by
  have h30 := hV.n30
  have hl15 := qcars_len hV
  have h24 := hQ.1.2.1
  intro l
  induction l with
  | nil =>
    intro f c x acc hx hc h126 hm hf hR
    cases f with
    | zero => cases hf
    | succ f =>
      have hc : c = (qcars R).length := hc
      refine ⟨?_, hR⟩
      rw [MX4_heavy_l30, qg_t (by constructor <;> omega), h24, qg_t (by constructor <;> omega), if_pos (by omega)]
      rfl
  | cons i l ih =>
    intro f c x acc hx hc h126 hm hf hR
    rw [List.length_cons] at hc hf
    cases f with
    | zero => omega
    | succ f =>
      have hi := hm i List.mem_cons_self
      have h1 := hV.we i (by omega)
      have h2 := hV.we (i + 1) hi
      have hvv : S 126 x.toNat = (i : Int) := by rw [show x.toNat = c by omega]; exact h126 0 (by rw [List.length_cons]; omega)
      have hI := fun acc' (h : qR acc') => ih f (c + 1) (x + 1) acc' (by omega) (by omega) (fun j hj => by
        have := h126 (j + 1) (by rw [List.length_cons]; omega)
        rw [show c + 1 + j = c + (j + 1) by omega, this]
        rfl) (fun j hj => hm j (List.mem_cons_of_mem _ hj)) (by omega) h
      rw [MX4_heavy_l30, qg_t (by constructor <;> omega), h24, qg_t (by constructor <;> omega), if_neg (by omega), qg_t (by omega), hvv, qb_s (mcarWeight_ok w117 hV hM rfl hi), qg_t (by constructor <;> omega), qg_t hv]
      simp only [ql]
      rw [List.foldl_cons]
      by_cases h : R.we i + R.we (i + 1) < v
      · have e : qhv R v acc i = acc := if_pos h
        rw [if_pos h, qior_0 hR, e]
        exact hI acc hR
      · have e : qhv R v acc i = qior acc (qishl 3 (i : Int)) := if_neg h
        rw [if_neg h, qg_t (by omega), e]
        exact hI _ (qior_R _ _)
theorem heavy_c {n9 : Nat} {S : qS} {A : QA} {v : Int} (hn : 2000 ≤ n9) (hv : qR v) (hA : AOk A) (hC : CR S A) : (v < 0 → COp S (ML_heavy n9 S v) 1 0 A) ∧ (0 ≤ v → qR ((qcars A.R).foldl (qhv A.R v) 0) → COp S (ML_heavy n9 S v) 0 ((qcars A.R).foldl (qhv A.R v) 0) A) := by
  have hV := hA.1
  refine ⟨fun hc => ?_, fun hc hR => ?_⟩
  · have hx : MX3_heavy n9 S v = some (Sum.inl "java/lang/IllegalArgumentException", S) := by
      unfold MX3_heavy
      rw [qg_t hv, if_neg (by omega)]
    unfold ML_heavy
    rw [qb_s hx, qyp_l, if_pos rfl]
    exact COp.thr hC (Or.inl rfl)
  · obtain ⟨S1, e1, e2, e3, e4⟩ := plan_c (n9 := n9) (by omega) hA hC
    have hl15 := qcars_len hV
    have hx : MX3_heavy n9 S v = some (Sum.inr ((qcars A.R).foldl (qhv A.R v) 0), S1) := by
      unfold MX3_heavy
      rw [qg_t hv, if_pos hc, qb_s e1]
      exact heavy_cl hv hV e2.1.1 e3 (qcars A.R) n9 0 0 0 rfl (by omega) (fun j hj => by rw [Nat.zero_add]; exact e3.2.2.2.2 j hj) (fun i hi => qcars_mem hi) (by omega)
    unfold ML_heavy
    rw [qb_s hx, qyp_r, qg_t hR, ql]
    exact COp.ret (S' := S1) e2 e4
theorem heavy_m {n9 : Nat} {S : qS} {A : QA} {v : Int} (hn : 2000 ≤ n9) (hv : qR v) (hA : AOk A) (hM : MR S A) : (v < 0 → MOp S (MX4_heavy n9 S v) 1 0 A) ∧ (0 ≤ v → MOp S (MX4_heavy n9 S v) 0 ((qcars A.R).foldl (qhv A.R v) 0) A ∧ qR ((qcars A.R).foldl (qhv A.R v) 0)) := by
  have hV := hA.1
  refine ⟨fun hc => ?_, fun hc => ?_⟩
  · have hx : MX4_heavy n9 S v = some (0, q2 S 110 0 1) := by
      unfold MX4_heavy
      rw [qg_t hv]
      simp only [ql]
      rw [if_neg (by omega), qb_s ref1]
      rfl
    rw [hx]
    exact MOp.no hM (Or.inl rfl)
  · obtain ⟨S1, e1, e2, e3, e4, e5⟩ := plan_m (n9 := n9) (by omega) hA (hM.ref (k := 0))
    have hl15 := qcars_len hV
    have hl := heavy_ml (n9 := n9) hv hV e2.1 e3 (qcars A.R) n9 0 0 0 rfl (by omega) (fun j hj => by rw [Nat.zero_add]; exact e3.2.2.1 j hj) (fun i hi => qcars_mem hi) (by omega) (by decide)
    have hx : MX4_heavy n9 S v = some ((qcars A.R).foldl (qhv A.R v) 0, S1) := by
      unfold MX4_heavy
      rw [qg_t hv]
      simp only [ql]
      rw [if_pos hc, qb_s ref0]
      simp only [if_true]
      rw [qg_t (by decide), qb_s e1]
      exact hl.1
    exact ⟨⟨_, S1, hx, e2, by rw [e5, q2_s], fun _ => rfl, hl.2, fun q j hq => (e4 q j hq).trans (mOut.ref q j hq)⟩, hl.2⟩
