/-! the reference's plan: the rests of a train, its cars, all -/
def a122 (p _j : Nat) : Bool := p == 122
theorem a122_w {w : Nat} (h : wr2 w) : ∀ j, a122 w j = false := by rcases h with rfl | rfl <;> (intro j; rfl)
theorem a122_ml : ∀ p j, mlA p j = false → a122 p j = false := by
  intro p j h
  unfold mlA at h
  unfold a122
  by_cases e : p = 122
  · subst e; simp at h
  · simp [e]
theorem canPair_1 {n9 : Nat} {S : qS} {i e : Nat} {bar p0 p1 : Int} (h0 : p0 = (i : Int)) (h1 : p1 = (e : Int)) (hi : i ≤ 40) (he : e ≤ 40) (hbar : qR bar) (h : i + 1 < e ∧ qok bar i = true) : MX4_canPair n9 S p0 p1 bar = some 1 := by
  rw [canPair_ok h0 h1 hi he hbar, if_pos h]
theorem canPair_0 {n9 : Nat} {S : qS} {i e : Nat} {bar p0 p1 : Int} (h0 : p0 = (i : Int)) (h1 : p1 = (e : Int)) (hi : i ≤ 40) (he : e ≤ 40) (hbar : qR bar) (h : ¬ (i + 1 < e ∧ qok bar i = true)) : MX4_canPair n9 S p0 p1 bar = some 0 := by
  rw [canPair_ok h0 h1 hi he hbar, if_neg h]
theorem layRest_l44_ok {n9 w a e i : Nat} {bar : Int} {R : QR} (hw : wr2 w) (hV : QV R) (he : e ≤ R.n) (ha : a ≤ i) (hi : i < e) (hbar : qR bar) (k : qS → Option (Int × qS)) :
    ∀ (d f q : Nat) (S : qS) (x : Int), x = (q : Int) → q + d = i - a + 1 → d < f → QMr S w R → (∀ j, j < R.n → S 123 j = qps R (j + 1)) → qrs S R a e bar i q →
      ∃ S', qH a122 S S' ∧ qrs S' R a e bar i (i - a + 1) ∧ MX4_layRest_l44 n9 w (a : Int) (e : Int) bar (i : Int) k f S x = k S' := by
  have h30 := hV.n30
  intro d
  induction d with
  | zero =>
    intro f q S x hx hq hf hM hs hr
    cases f with
    | zero => omega
    | succ f =>
      refine ⟨S, qH.rfl, by rw [show i - a + 1 = q by omega]; exact hr, ?_⟩
      rw [MX4_layRest_l44, qg_t (by constructor <;> omega), qg_t (by constructor <;> omega), if_pos (by omega)]
  | succ d ih =>
    intro f q S x hx hq hf hM hs hr
    cases f with
    | zero => omega
    | succ f =>
      have hb1 := RS_bd (a := a) (e := e) (bar := bar) hV (m := e - (i + 1)) (b := a + q) (by omega)
      have hb2 := RS_bd (a := a) (e := e) (bar := bar) hV (m := e - (i + 2)) (b := i + 2) (by omega)
      have hs2 := hV.s2
      -- the value goes to its place
      have hK : ∀ v : Int, v = RS R a e bar (e - i) (a + q) → ∃ S', qH a122 S S' ∧ qrs S' R a e bar i (i - a + 1) ∧ (qb (MX4_place n9 S (a : Int) (i : Int) x) fun a32 => qg (0 ≤ a32 ∧ a32 < 1024) <| MX4_layRest_l44 n9 w (a : Int) (e : Int) bar (i : Int) k f (q2 S 122 a32.toNat v) (x + 1)) = k S' := by
        intro v hv
        rw [qb_s (mplace (a := a) (i := i) (q := q) rfl rfl hx ha), qg_t (by omega), toNat_c]
        generalize hS1 : q2 S 122 _ v = S1
        have hH1 : qH a122 S S1 := hS1 ▸ qH.rfl.q2 rfl
        have hr1 : qrs S1 R a e bar i (q + 1) := by
          refine ⟨fun i' h1 h2 q' h3 => ?_, fun q' h3 => ?_⟩
          · rw [← hS1, q2_j (by omega)]; exact hr.1 i' h1 h2 q' h3
          · rw [← hS1, q2_at]
            by_cases h : q' = q
            · rw [h, if_pos rfl, hv]
            · rw [if_neg (by omega)]; exact hr.2 q' (by omega)
        obtain ⟨S', e1, e2, e3⟩ := ih f (q + 1) S1 (x + 1) (by omega) (by omega) (by omega) (hM.gg (a122_w hw) hH1) (fun j hj => by rw [hH1 123 j rfl]; exact hs j hj) hr1
        exact ⟨S', qH.tr hH1 e1, e2, e3⟩
      rw [MX4_layRest_l44, qg_t (by constructor <;> omega), qg_t (by constructor <;> omega), if_neg (by omega), qb_s (withStray_ok hw hV hM he ha hi (by omega) hr rfl rfl hx)]
      by_cases h1 : i + 1 < e
      · have hcc := qcc_bd hV (i := i) (by omega)
        have hgp := qgp_bd hV (a := a) (b := a + q) (i := i) (by omega) (by omega)
        by_cases hok : qok bar i = true
        · rw [qb_s (canPair_1 rfl rfl (by omega) (by omega) hbar ⟨h1, hok⟩), qg_t (by decide)]
          simp only [ql]
          rw [if_neg (by decide), qb_s (withCar_ok hw hV hM he ha h1 (by omega) hr hs rfl rfl hx), qg_t (by constructor <;> omega), qg_t (by constructor <;> omega)]
          by_cases hlt : 100 * R.se 2 + RS R a e bar (e - (i + 1)) (a + q) < 100 * (qcc R i + qgp R a (a + q) i) - 1 + RS R a e bar (e - (i + 2)) (i + 2)
          · rw [if_pos hlt]
            refine hK _ ?_
            rw [RS_step h1, if_neg (by omega)]
          · rw [if_neg hlt]
            refine hK _ ?_
            rw [RS_step h1, if_pos ⟨hok, by omega⟩]
        · rw [qb_s (canPair_0 rfl rfl (by omega) (by omega) hbar (fun h => hok h.2)), qg_t (by decide)]
          simp only [ql, if_true]
          refine hK _ ?_
          rw [RS_step h1, if_neg (fun h => hok h.1)]
      · rw [qb_s (canPair_0 rfl rfl (by omega) (by omega) hbar (fun h => h1 h.1)), qg_t (by decide)]
        simp only [ql, if_true]
        refine hK _ ?_
        rw [(RS_last (R := R) (a := a) (e := e) (bar := bar) (i := i) (b := a + q) (by omega)).1]
theorem layRest_l35_ok {n9 w a e : Nat} {bar : Int} {R : QR} (hw : wr2 w) (hV : QV R) (hn : 40 ≤ n9) (he : e ≤ R.n) (hae : a ≤ e) (hbar : qR bar) (k : qS → Option (Int × qS)) :
    ∀ (d f : Nat) (S : qS) (x : Int), x = (a : Int) + d - 1 → a + d ≤ e → d < f → QMr S w R → (∀ j, j < R.n → S 123 j = qps R (j + 1)) → (∀ i', a + d ≤ i' → i' ≤ e → ∀ q, q ≤ i' - a → S 122 (32 * (i' - a) + q) = RS R a e bar (e - i') (a + q)) →
      ∃ S', qH a122 S S' ∧ (∀ i', a ≤ i' → i' ≤ e → ∀ q, q ≤ i' - a → S' 122 (32 * (i' - a) + q) = RS R a e bar (e - i') (a + q)) ∧ MX4_layRest_l35 n9 w (a : Int) (e : Int) bar k f S x = k S' := by
  have h30 := hV.n30
  intro d
  induction d with
  | zero =>
    intro f S x hx hd hf hM hs hr
    cases f with
    | zero => omega
    | succ f =>
      refine ⟨S, qH.rfl, hr, ?_⟩
      rw [MX4_layRest_l35, qg_t (by constructor <;> omega), qg_t (by constructor <;> omega), if_pos (by omega)]
  | succ d ih =>
    intro f S x hx hd hf hM hs hr
    cases f with
    | zero => omega
    | succ f =>
      have hxi : x = ((a + d : Nat) : Int) := by omega
      obtain ⟨S1, e1, e2, e3⟩ := layRest_l44_ok (n9 := n9) (i := a + d) hw hV he (by omega) (by omega) hbar (fun S17 => MX4_layRest_l35 n9 w (a : Int) (e : Int) bar k f S17 (((a + d : Nat) : Int) + (-1))) (a + d - a + 1) n9 0 S 0 rfl (by omega) (by omega) hM hs ⟨fun i' h1 h2 q h3 => hr i' (by omega) h2 q h3, fun q h => absurd h (Nat.not_lt_zero q)⟩
      obtain ⟨S', g1, g2, g3⟩ := ih f S1 (((a + d : Nat) : Int) + (-1)) (by omega) (by omega) (by omega) (hM.gg (a122_w hw) e1) (fun j hj => by rw [e1 123 j rfl]; exact hs j hj) (fun i' h1 h2 q h3 => by
        by_cases h : i' = a + d
        · subst h; exact e2.2 q (by omega)
        · exact e2.1 i' (by omega) h2 q h3)
      refine ⟨S', qH.tr e1 g1, g2, ?_⟩
      rw [MX4_layRest_l35, qg_t (by constructor <;> omega), qg_t (by constructor <;> omega), if_neg (by omega)]
      simp only [ql]
      rw [hxi, e3, g3]
theorem layRest_l3_ok {n9 w a e : Nat} {bar : Int} (hae : a ≤ e) (he : e ≤ 30) (k : qS → Option (Int × qS)) :
    ∀ (d f q : Nat) (S : qS) (x : Int), x = (q : Int) → q + d = e - a + 1 → d < f → (∀ q', q' < q → S 122 (32 * (e - a) + q') = 0) →
      ∃ S', qH a122 S S' ∧ (∀ q', q' ≤ e - a → S' 122 (32 * (e - a) + q') = 0) ∧ MX4_layRest_l3 n9 w (a : Int) (e : Int) bar k f S x = k S' := by
  intro d
  induction d with
  | zero =>
    intro f q S x hx hq hf hr
    cases f with
    | zero => omega
    | succ f =>
      refine ⟨S, qH.rfl, fun q' h => hr q' (by omega), ?_⟩
      rw [MX4_layRest_l3, qg_t (by constructor <;> omega), qg_t (by constructor <;> omega), if_pos (by omega)]
  | succ d ih =>
    intro f q S x hx hq hf hr
    cases f with
    | zero => omega
    | succ f =>
      rw [MX4_layRest_l3, qg_t (by constructor <;> omega), qg_t (by constructor <;> omega), if_neg (by omega), qb_s (mplace (a := a) (i := e) (q := q) rfl rfl hx hae), qg_t (by omega)]
      simp only [ql]
      rw [toNat_c]
      generalize hS1 : q2 S 122 _ 0 = S1
      have hH1 : qH a122 S S1 := hS1 ▸ qH.rfl.q2 rfl
      obtain ⟨S', e1, e2, e3⟩ := ih f (q + 1) S1 (x + 1) (by omega) (by omega) (by omega) (fun q' h => by
        rw [← hS1, q2_at]
        by_cases h1 : q' = q
        · rw [h1, if_pos rfl]
        · rw [if_neg (by omega)]; exact hr q' (by omega))
      exact ⟨S', qH.tr hH1 e1, e2, e3⟩
theorem layRest_ok {n9 w a e : Nat} {bar : Int} {R : QR} {S : qS} {p2 p3 : Int} (hw : wr2 w) (hV : QV R) (hn : 40 ≤ n9) (he : e ≤ R.n) (hae : a ≤ e) (hbar : qR bar) (hM : QMr S w R) (hs : ∀ j, j < R.n → S 123 j = qps R (j + 1)) (h2 : p2 = (a : Int)) (h3 : p3 = (e : Int)) :
    ∃ S', MX4_layRest n9 S w p2 p3 bar = some ((RS R a e bar (e - a) a + 99) / 100, S') ∧ qH a122 S S' ∧ (∀ i', a ≤ i' → i' ≤ e → ∀ q, q ≤ i' - a → S' 122 (32 * (i' - a) + q) = RS R a e bar (e - i') (a + q)) := by
  have h30 := hV.n30
  subst h2
  subst h3
  have hb := RS_bd (a := a) (e := e) (bar := bar) hV (m := e - a) (b := a) (by omega)
  have key : ∀ S5 : qS, (∀ q, q ≤ a - a → S5 122 (32 * (a - a) + q) = RS R a e bar (e - a) (a + q)) → (qb (MX4_place n9 S5 (a : Int) (a : Int) 0) fun a7 => qg (0 ≤ a7 ∧ a7 < 1024) <| qg (0 ≤ ((S5 122 a7.toNat) + 99) ∧ ((S5 122 a7.toNat) + 99) < 2147483648 ∧ 0 < (100 : Int) ∧ (100 : Int) < 2147483648) <| some ((((S5 122 a7.toNat) + 99) / 100), S5)) = some ((RS R a e bar (e - a) a + 99) / 100, S5) := by
    intro S5 h5
    have h6 := h5 0 (Nat.zero_le _)
    rw [qb_s (mplace (p2 := 0) (a := a) (i := a) (q := 0) rfl rfl rfl (Nat.le_refl _)), qg_t (by omega), toNat_c, h6, qg_t (by show 0 ≤ RS R a e bar (e - a) a + 99 ∧ RS R a e bar (e - a) a + 99 < 2147483648 ∧ 0 < (100 : Int) ∧ (100 : Int) < 2147483648; omega)]
    rfl
  obtain ⟨S1, e1, e2, e3⟩ := layRest_l3_ok (n9 := n9) (w := w) (bar := bar) hae (by omega) (fun S1 => MX4_layRest_l35 n9 w (a : Int) (e : Int) bar (fun S5 => qb (MX4_place n9 S5 (a : Int) (a : Int) 0) fun a7 => qg (0 ≤ a7 ∧ a7 < 1024) <| qg (0 ≤ ((S5 122 a7.toNat) + 99) ∧ ((S5 122 a7.toNat) + 99) < 2147483648 ∧ 0 < (100 : Int) ∧ (100 : Int) < 2147483648) <| some ((((S5 122 a7.toNat) + 99) / 100), S5)) n9 S1 ((e : Int) - 1)) (e - a + 1) n9 0 S 0 rfl (by omega) (by omega) (fun q h => absurd h (Nat.not_lt_zero q))
  obtain ⟨S2, g1, g2, g3⟩ := layRest_l35_ok (n9 := n9) hw hV hn he hae hbar (fun S5 => qb (MX4_place n9 S5 (a : Int) (a : Int) 0) fun a7 => qg (0 ≤ a7 ∧ a7 < 1024) <| qg (0 ≤ ((S5 122 a7.toNat) + 99) ∧ ((S5 122 a7.toNat) + 99) < 2147483648 ∧ 0 < (100 : Int) ∧ (100 : Int) < 2147483648) <| some ((((S5 122 a7.toNat) + 99) / 100), S5)) (e - a) n9 S1 ((e : Int) - 1) (by omega) (by omega) (by omega) (hM.gg (a122_w hw) e1) (fun j hj => by rw [e1 123 j rfl]; exact hs j hj) (fun i' h1 h2 q h3 => by
    have : i' = e := by omega
    subst this
    rw [e2 q h3, Nat.sub_self]
    rfl)
  refine ⟨S2, ?_, qH.tr e1 g1, g2⟩
  unfold MX4_layRest
  rw [qg_t hw.g]
  simp only [ql]
  rw [e3, g3]
  exact key S2 (g2 a (Nat.le_refl _) hae)
abbrev Tm (S : qS) (L : List Nat) : Prop := S 110 24 = (L.length : Int) ∧ ∀ c, c < L.length → S 126 c = ((L.getD c 0 : Nat) : Int)
def aCars (p j : Nat) : Bool := p == 126 || (p == 110 && j == 24)
theorem aCars_w {w : Nat} (h : wr2 w) : ∀ j, aCars w j = false := by rcases h with rfl | rfl <;> (intro j; rfl)
theorem aCars_ml : ∀ p j, mlA p j = false → aCars p j = false := by
  intro p j h
  unfold mlA at h
  unfold aCars
  by_cases e : p = 126
  · subst e; simp at h
  · by_cases e2 : p = 110
    · subst e2
      by_cases e3 : j = 24
      · subst e3; simp at h
      · simp [e3]
    · simp [e, e2]
theorem layCars_l_ok {n9 w a e : Nat} {R : QR} (hw : wr2 w) (hV : QV R) (he : e ≤ R.n) :
    ∀ (d f i q : Nat) (L : List Nat) (S : qS) (x y : Int), e - i ≤ d → x = (i : Int) → y = (q : Int) → a ≤ i → q ≤ i - a → i ≤ e → d < f → QMr S w R → (∀ j, j < R.n → S 123 j = qps R (j + 1)) → (∀ i', a ≤ i' → i' ≤ e → ∀ q, q ≤ i' - a → S 122 (32 * (i' - a) + q) = RS R a e (-1) (e - i') (a + q)) →
      Tm S L → 2 * L.length ≤ i →
      ∃ S', MX4_layCars_l6 n9 w (a : Int) (e : Int) f S x y = some S' ∧ qH aCars S S' ∧ Tm S' (L ++ CG R a e (-1) (e - i) (a + q)) ∧ 2 * (L ++ CG R a e (-1) (e - i) (a + q)).length ≤ e := by
  have h30 := hV.n30
  have hs2 := hV.s2
  intro d
  induction d with
  | zero =>
    intro f i q L S x y hd hx hy ha hq hie hf hM hs hr hT hL
    cases f with
    | zero => omega
    | succ f =>
      have hi : i = e := by omega
      subst hi
      refine ⟨S, ?_, qH.rfl, ?_, ?_⟩
      · rw [MX4_layCars_l6, qg_t (by constructor <;> omega), qg_t (by constructor <;> omega), if_pos (by omega)]
      · rw [Nat.sub_self]; show Tm S (L ++ []); rw [List.append_nil]; exact hT
      · rw [Nat.sub_self]; show 2 * (L ++ []).length ≤ i; rw [List.append_nil]; exact hL
  | succ d ih =>
    intro f i q L S x y hd hx hy ha hq hie hf hM hs hr hT hL
    cases f with
    | zero => omega
    | succ f =>
      rw [MX4_layCars_l6, qg_t (by constructor <;> omega), qg_t (by constructor <;> omega)]
      by_cases hi : i = e
      · subst hi
        refine ⟨S, by rw [if_pos (by omega)], qH.rfl, ?_, ?_⟩
        · rw [Nat.sub_self]; show Tm S (L ++ []); rw [List.append_nil]; exact hT
        · rw [Nat.sub_self]; show 2 * (L ++ []).length ≤ i; rw [List.append_nil]; exact hL
      · rw [if_neg (by omega)]
        have hrest := hr i ha hie q hq
        have hok : qok (-1) i = true := by unfold qok; simp; omega
        -- none here
        have go0 : CG R a e (-1) (e - i) (a + q) = CG R a e (-1) (e - (i + 1)) (a + q) → ∃ S', qg (qR 0) (MX4_layCars_l6 n9 w (a : Int) (e : Int) f S (x + 1) y) = some S' ∧ qH aCars S S' ∧ Tm S' (L ++ CG R a e (-1) (e - i) (a + q)) ∧ 2 * (L ++ CG R a e (-1) (e - i) (a + q)).length ≤ e := by
          intro hc
          rw [qg_t (by decide), hc]
          exact ih f (i + 1) q L S (x + 1) y (by omega) (by omega) hy (by omega) (by omega) (by omega) (by omega) hM hs hr hT (by omega)
        by_cases h1 : i + 1 < e
        · have hcc := qcc_bd hV (i := i) (by omega)
          have hgp := qgp_bd hV (a := a) (b := a + q) (i := i) (by omega) (by omega)
          have hb1 := RS_bd (a := a) (e := e) (bar := -1) hV (m := e - (i + 1)) (b := a + q) (by omega)
          have hb2 := RS_bd (a := a) (e := e) (bar := -1) hV (m := e - (i + 2)) (b := i + 2) (by omega)
          have hb3 := RS_bd (a := a) (e := e) (bar := -1) hV (m := e - i) (b := a + q) (by omega)
          have hst := RS_step (R := R) (a := a) (bar := -1) (b := a + q) h1
          have hcg := CG_step (R := R) (a := a) (bar := -1) (b := a + q) h1
          rw [qb_s (canPair_1 (i := i) (e := e) hx rfl (by omega) (by omega) (by decide) ⟨h1, hok⟩), qg_t (by decide)]
          simp only [ql, if_true]
          rw [if_neg (by decide), qb_s (withCar_ok (L := 0) hw hV hM he ha h1 hq ⟨fun i' g1 g2 q' g3 => hr i' (by omega) g2 q' g3, fun q' h => absurd h (Nat.not_lt_zero q')⟩ hs rfl hx hy), qb_s (mplace (a := a) (i := i) (q := q) rfl hx hy ha), qg_t (by omega), toNat_c, hrest, qg_t (by constructor <;> omega), qg_t (by constructor <;> omega)]
          by_cases hle : 100 * (qcc R i + qgp R a (a + q) i) - 1 + RS R a e (-1) (e - (i + 2)) (i + 2) ≤ 100 * R.se 2 + RS R a e (-1) (e - (i + 1)) (a + q)
          · rw [if_pos ⟨hok, hle⟩] at hst hcg
            have hlen : L.length < 15 := by omega
            rw [if_pos hst.symm, qg_t (by decide), if_neg (by decide), if_neg (by decide), hT.1, qg_t (by omega), toNat_c, hcg]
            rw [q2_p (S := S) (q := 110) (by decide), hT.1]
            generalize hS1 : q2 (q2 S 126 L.length x) 110 24 _ = S1
            have hH1 : qH aCars S S1 := hS1 ▸ ((qH.rfl.q2 rfl).q2 rfl)
            have hT1 : Tm S1 (L ++ [i]) := by
              refine ⟨by rw [← hS1, q2_s, List.length_append, List.length_singleton]; omega, fun c hc => ?_⟩
              rw [List.length_append, List.length_singleton] at hc
              rw [← hS1, q2_p (by decide), q2_at]
              by_cases h : c = L.length
              · rw [if_pos h, qgr h, hx]
              · rw [if_neg h, qgl (by omega)]; exact hT.2 c (by omega)
            obtain ⟨S', e1, e2, e3, e4⟩ := ih f (i + 2) (i + 2 - a) (L ++ [i]) S1 (x + 2) (x + 2 - (a : Int)) (by omega) (by omega) (by omega) (by omega) (Nat.le_refl _) (by omega) (by omega) (hM.gg (aCars_w hw) hH1) (fun j hj => by rw [hH1 123 j rfl]; exact hs j hj) (fun i' g1 g2 q' g3 => by rw [hH1 122 _ rfl]; exact hr i' g1 g2 q' g3) hT1 (by rw [List.length_append, List.length_singleton]; omega)
            rw [show a + (i + 2 - a) = i + 2 by omega, List.append_assoc, List.singleton_append] at e3 e4
            exact ⟨S', e1, qH.tr hH1 e2, e3, e4⟩
          · rw [if_neg (fun h => hle h.2)] at hst hcg
            rw [if_neg (by omega)]
            exact go0 hcg
        · have hcg := (RS_last (R := R) (a := a) (e := e) (bar := -1) (i := i) (b := a + q) (by omega)).2
          rw [qb_s (canPair_0 (i := i) (e := e) hx rfl (by omega) (by omega) (by decide) (fun h => h1 h.1)), qg_t (by decide)]
          simp only [ql, if_true]
          refine go0 ?_
          rw [hcg, show e - (i + 1) = 0 by omega]
          rfl
/-- the plan that the reference has laid is R's -/
abbrev QM (S : qS) (R : QR) : Prop := (S 110 22 = (qtr R : Int) ∧ S 110 24 = ((qcars R).length : Int) ∧ S 110 25 = qco R (qtr R)) ∧
  ((∀ t, t ≤ qtr R → S 124 t = (qft R t : Int)) ∧ (∀ t, t < qtr R → S 125 t = qct R t)) ∧
  ((∀ c, c < (qcars R).length → S 126 c = (((qcars R).getD c 0 : Nat) : Int)) ∧ (∀ j, j < R.n → S 123 j = qps R (j + 1)))
