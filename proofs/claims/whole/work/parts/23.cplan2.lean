/-! the class's plan of one train -/
theorem qixor_nn {x y : Int} (hx : 0 ≤ x ∧ x < 2147483648) (hy : 0 ≤ y ∧ y < 2147483648) : 0 ≤ qixor x y := by
  have h1 : (qI x).toBitVec.msb = false := by
    rw [BitVec.msb_eq_toInt]
    show decide ((qI x).toInt < 0) = false
    rw [qI_toInt (by constructor <;> omega)]
    exact decide_eq_false (by omega)
  have h2 : (qI y).toBitVec.msb = false := by
    rw [BitVec.msb_eq_toInt]
    show decide ((qI y).toInt < 0) = false
    rw [qI_toInt (by constructor <;> omega)]
    exact decide_eq_false (by omega)
  have h3 : (qI x ^^^ qI y).toBitVec.msb = false := by
    rw [Int32.toBitVec_xor, BitVec.msb_xor, h1, h2]
    rfl
  rw [BitVec.msb_eq_toInt] at h3
  have h4 := of_decide_eq_false h3
  show 0 ≤ (qI x ^^^ qI y).toBitVec.toInt
  omega
theorem qixor_R (x y : Int) : qR (qixor x y) := by unfold qixor; exact qR_toInt _
theorem costOf_ok {n9 : Nat} {S : qS} {v : Int} (h : -50 ≤ v ∧ v < 1000000000) : MX0_costOf n9 S v = some ((v + 99) / 100) := by
  unfold MX0_costOf MJ9_floorDiv_7cf53
  have h1 := qixor_nn (x := v + 100 - 1) (y := 100) (by omega) (by omega)
  simp only [ql]
  rw [qg_t (by omega), qg_t (qixor_R _ _), if_pos h1]
  show some ((v + 100 - 1) / 100) = _
  rw [show v + 100 - 1 = v + 99 by omega]
theorem qmulb {s d : Int} (h1 : 0 ≤ s ∧ s ≤ 60) (h2 : 0 ≤ d ∧ d ≤ 31) : 0 ≤ s * d ∧ s * d ≤ 1860 :=
  ⟨Int.mul_nonneg h1.1 h2.1, Int.le_trans (Int.mul_le_mul h1.2 h2.2 h2.1 (by omega)) (by decide)⟩
theorem RS_bd {R : QR} {a e : Nat} {bar : Int} (hV : QV R) {m b : Nat} (hm : m ≤ 31) : -15 ≤ RS R a e bar m b ∧ RS R a e bar m b ≤ 186000 := by
  have h1 := RS_le R a e bar m b
  obtain ⟨c, h3, h4, h5⟩ := RS_form R a e bar hV.s2.1 m b
  have h6 := qmulb (s := R.se 2) (d := (m : Int)) hV.s2 (by omega)
  rw [Int.mul_assoc] at h1
  omega
theorem qabs_bd {x k : Int} (h : -k ≤ x ∧ x ≤ k) : 0 ≤ qabs x ∧ qabs x ≤ k := by unfold qabs; split <;> omega
theorem qcc_bd {R : QR} (hV : QV R) {i : Nat} (h : i + 1 < R.n) : 0 ≤ qcc R i ∧ qcc R i ≤ 300 := by
  have h1 := hV.pa (i + 1) h
  have h2 := hV.s0
  have h3 := hV.we i (by omega)
  have h4 := hV.we (i + 1) h
  have h5 := qabs_bd (x := R.pa (i + 1) - R.se 0) (k := 60) (by omega)
  have h6 := qabs_bd (x := R.we i - R.we (i + 1)) (k := 98) (by omega)
  unfold qcc
  omega
theorem qps_mono {R : QR} (hV : QV R) : ∀ {b i : Nat}, b ≤ i → i ≤ R.n → 0 ≤ qps R i - qps R b ∧ qps R i - qps R b ≤ 60 * ((i : Int) - b) := by
  intro b i h
  induction h with
  | refl => intro _; omega
  | @step i h ih =>
    intro hi
    have h0 : i < R.n := hi
    have h1 := ih (by omega)
    have h2 := hV.pa i h0
    have e : qps R (i + 1) = qps R i + R.pa i := rfl
    show 0 ≤ qps R (i + 1) - qps R b ∧ qps R (i + 1) - qps R b ≤ 60 * (((i + 1 : Nat) : Int) - b)
    omega
theorem qgp_bd {R : QR} (hV : QV R) {a b i : Nat} (hb : b ≤ i + 1) (hi : i < R.n) : 0 ≤ qgp R a b i ∧ qgp R a b i ≤ 80 := by
  have h1 := qps_mono hV (b := b) (i := i + 1) hb hi
  have h2 := hV.s1
  unfold qgp
  split
  · omega
  · split <;> omega
theorem carCost_ok {n9 : Nat} {S : qS} {r i : Nat} {R : QR} {p : Int} (hr : qr2 r) (hV : QV R) (hC : QCr S r R) (hp : p = (i : Int)) (hi : i + 1 < R.n) : MX1_carCost n9 S r p = some (qcc R i) := by
  have h1 := hV.pa (i + 1) hi
  have h2 := hV.s0
  have h3 := hV.we i (by omega)
  have h4 := hV.we (i + 1) hi
  unfold MX1_carCost
  rw [qg_t hr.k, qb_s (at_pa (p := p + 1) (j := i + 1) hr hV hC (by omega) hi), qb_s (at_se (p := 0) (j := 0) hr hC rfl (by decide)), qg_t (by constructor <;> omega), qb_s (at_we hr hV hC hp (by omega)), qb_s (at_we (p := p + 1) (j := i + 1) hr hV hC (by omega) hi), qg_t (by constructor <;> omega)]
  rfl
/-- a value with a car at i, as the class keeps it -/
def Wc (R : QR) (a e : Nat) (bar : Int) (i : Nat) : Int := if qok bar i = true then 100 * qcc R i - 1 + RS R a e bar (e - (i + 2)) (i + 2) else 1000000000
def qhd (l : List Nat) : Int := match l with
  | [] => -1
  | i :: _ => (i : Int)
theorem chooseCar_l_ok {n9 : Nat} {S : qS} {r a b e : Nat} {bar : Int} {R : QR} (hr : qr2 r) (hV : QV R) (hC : QCr S r R) (he : e ≤ R.n) (hb : a ≤ b) (hW : ∀ j, b ≤ j → j + 1 < e → S 24 j = Wc R a e bar j) (p4 : Int) (hp4 : p4 = if b = a then 0 else R.se 1) (k : Int → Int → Option qS) :
    ∀ (d f i : Nat) (best car tk x : Int), x = (i : Int) → b ≤ i → i + d = e → d < f → tk = qps R i - qps R b → -50 ≤ best → best ≤ 100 * (R.se 2 * ((e : Int) - b)) →
    MX0_chooseCar_l30 n9 S r (b : Int) (e : Int) p4 (R.se 2) k f best car tk x =
      (if 100 * (R.se 2 * ((i : Int) - b)) + RS R a e bar d b < best then k (100 * (R.se 2 * ((i : Int) - b)) + RS R a e bar d b) (qhd (CG R a e bar d b)) else k best car) := by
  have h30 := hV.n30
  have h2 := hV.s2
  have hs1 := hV.s1
  intro d
  induction d with
  | zero =>
    intro f i best car tk x hx hbi hi hf htk hlo hbest
    cases f with
    | zero => omega
    | succ f =>
      have hie : i = e := by omega
      subst hie
      rw [MX0_chooseCar_l30, qg_t (by constructor <;> omega), qg_t (by constructor <;> omega), if_pos (by omega), if_neg]
      show ¬ (100 * (R.se 2 * ((i : Int) - b)) + 0 < best)
      omega
  | succ d ih =>
    intro f i best car tk x hx hbi hi hf htk hlo hbest
    have hbound := qmulb (s := R.se 2) (d := (e : Int) - b) h2 (by omega)
    have hbi2 := qmulb (s := R.se 2) (d := (i : Int) - b) h2 (by omega)
    have hstep : R.se 2 * (((i + 1 : Nat) : Int) - b) = R.se 2 * ((i : Int) - b) + R.se 2 := by
      rw [show ((i + 1 : Nat) : Int) - b = ((i : Int) - b) + 1 by omega, Int.mul_add, Int.mul_one]
    cases f with
    | zero => omega
    | succ f =>
      cases d with
      | zero =>
        have hstep2 : R.se 2 * ((e : Int) - b) = R.se 2 * ((i : Int) - b) + R.se 2 := by
          rw [← hstep, show i + 1 = e by omega]
        rw [MX0_chooseCar_l30, qg_t (by constructor <;> omega), qg_t (by constructor <;> omega), if_pos (by omega), if_neg]
        show ¬ (100 * (R.se 2 * ((i : Int) - b)) + 100 * R.se 2 < best)
        omega
      | succ m =>
        have hin : i + 1 < R.n := by omega
        have hpa := hV.pa i (by omega)
        have hps := qps_mono hV (b := b) (i := i + 1) (by omega) (by omega)
        have hcc := qcc_bd hV hin
        have hgp := qgp_bd hV (a := a) (b := b) (i := i) (by omega) (by omega)
        have hr1 := RS_bd (a := a) (e := e) (bar := bar) hV (m := m) (b := e - m) (by omega)
        have hr2 := RS_bd (a := a) (e := e) (bar := bar) hV (m := m + 1) (b := b) (by omega)
        have eps : qps R (i + 1) = qps R i + R.pa i := rfl
        have ei : e - (m + 1 + 1) = i := by omega
        have ei2 : e - (i + 2) = m := by omega
        have ei3 : i + 2 = e - m := by omega
        have hps0 := qps_mono hV (b := b) (i := i) (by omega) (by omega)
        have hg : 2 * qmax (p4 - (tk + R.pa i)) 0 = qgp R a b i := by
          unfold qgp qmax
          by_cases hba : b = a
          · rw [if_pos hba] at hp4
            rw [if_pos hba, if_pos (by omega)]; rfl
          · rw [if_neg hba] at hp4
            rw [if_neg hba]
            by_cases h5 : qps R (i + 1) - qps R b < R.se 1
            · rw [if_pos h5, if_neg (by omega)]; omega
            · rw [if_neg h5]
              split <;> omega
        have hp40 : 0 ≤ p4 ∧ p4 ≤ 40 := by rw [hp4]; split <;> omega
        have hWi := hW i hbi (by omega)
        rw [MX0_chooseCar_l30, qg_t (by constructor <;> omega), qg_t (by constructor <;> omega), if_neg (by omega), qb_s (at_pa hr hV hC hx (by omega))]
        simp only [ql]
        rw [qg_t (by constructor <;> omega), qb_s (at_in (j := i) kk24 hx (by omega)), hWi, hg, hx]
        have hv : (100 * (R.se 2 * ((i : Int) - b) + qgp R a b i) + Wc R a e bar i) = if qok bar i = true then 100 * (R.se 2 * ((i : Int) - b)) + (100 * (qcc R i + qgp R a b i) - 1 + RS R a e bar m (e - m)) else 100 * (R.se 2 * ((i : Int) - b)) + 100 * qgp R a b i + 1000000000 := by
          unfold Wc
          rw [ei2, ei3]
          split <;> omega
        rw [hv]
        have hI := fun (best' car' : Int) (h1 : -50 ≤ best') (h2 : best' ≤ 100 * (R.se 2 * ((e : Int) - b))) => ih f (i + 1) best' car' (tk + R.pa i) ((i : Int) + 1) (by omega) (by omega) (by omega) (by omega) (by omega) h1 h2
        rw [hstep] at hI
        rw [show RS R a e bar (m + 1 + 1) b = if qok bar (e - (m + 2)) = true ∧ 100 * (qcc R (e - (m + 2)) + qgp R a b (e - (m + 2))) - 1 + RS R a e bar m (e - m) ≤ 100 * R.se 2 + RS R a e bar (m + 1) b then 100 * (qcc R (e - (m + 2)) + qgp R a b (e - (m + 2))) - 1 + RS R a e bar m (e - m) else 100 * R.se 2 + RS R a e bar (m + 1) b from by rw [RS],
          show CG R a e bar (m + 1 + 1) b = if qok bar (e - (m + 2)) = true ∧ 100 * (qcc R (e - (m + 2)) + qgp R a b (e - (m + 2))) - 1 + RS R a e bar m (e - m) ≤ 100 * R.se 2 + RS R a e bar (m + 1) b then (e - (m + 2)) :: CG R a e bar m (e - m) else CG R a e bar (m + 1) b from by rw [CG], ei]
        generalize hT : RS R a e bar m (e - m) = ra at *
        generalize hU : RS R a e bar (m + 1) b = rb at *
        generalize hX : R.se 2 * ((i : Int) - b) = z at *
        by_cases hok : qok bar i = true
        · rw [if_pos hok]
          by_cases hle : 100 * (qcc R i + qgp R a b i) - 1 + ra ≤ 100 * R.se 2 + rb
          · have hcd : qok bar i = true ∧ 100 * (qcc R i + qgp R a b i) - 1 + ra ≤ 100 * R.se 2 + rb := ⟨hok, hle⟩
            rw [if_pos hcd, if_pos hcd]
            rw [qg_t (by constructor <;> omega), qg_t (by constructor <;> omega)]
            by_cases hlt : best ≤ 100 * z + (100 * (qcc R i + qgp R a b i) - 1 + ra)
            · rw [if_pos hlt, hI best car hlo hbest, if_neg (by omega), if_neg (by omega)]
            · rw [if_neg hlt, hI _ _ (by omega) (by omega), if_neg (by omega), if_pos (by omega)]
              rfl
          · have hcd : ¬ (qok bar i = true ∧ 100 * (qcc R i + qgp R a b i) - 1 + ra ≤ 100 * R.se 2 + rb) := fun h => hle h.2
            rw [if_neg hcd, if_neg hcd]
            rw [qg_t (by constructor <;> omega), qg_t (by constructor <;> omega)]
            by_cases hlt : best ≤ 100 * z + (100 * (qcc R i + qgp R a b i) - 1 + ra)
            · rw [if_pos hlt, hI best car hlo hbest, show 100 * (z + R.se 2) + rb = 100 * z + (100 * R.se 2 + rb) by omega]
            · rw [if_neg hlt, hI _ _ (by omega) (by omega), show 100 * (z + R.se 2) + rb = 100 * z + (100 * R.se 2 + rb) by omega, if_pos (by omega), if_pos (by omega)]
        · have hcd : ¬ (qok bar i = true ∧ 100 * (qcc R i + qgp R a b i) - 1 + ra ≤ 100 * R.se 2 + rb) := fun h => hok h.1
          rw [if_neg hok, if_neg hcd, if_neg hcd]
          rw [qg_t (by constructor <;> omega), qg_t (by constructor <;> omega), if_pos (by omega), hI best car hlo hbest, show 100 * (z + R.se 2) + rb = 100 * z + (100 * R.se 2 + rb) by omega]
theorem chooseCar_ok {n9 : Nat} {S : qS} {r a b e : Nat} {bar : Int} {R : QR} {p2 p3 : Int} (hr : qr2 r) (hV : QV R) (hn : 40 ≤ n9) (hC : QCr S r R) (he : e ≤ R.n) (hab : a ≤ b) (hbe : b ≤ e) (hW : ∀ j, b ≤ j → j + 1 < e → S 24 j = Wc R a e bar j) (h2 : p2 = (b : Int)) (h3 : p3 = (e : Int)) :
    MX0_chooseCar n9 S r p2 p3 (if b = a then 0 else R.se 1) = some (q2 (q2 S 25 b (RS R a e bar (e - b) b)) 26 b (qhd (CG R a e bar (e - b) b))) := by
  have h30 := hV.n30
  have hs2 := hV.s2
  subst h2
  subst h3
  have hbound := qmulb (s := R.se 2) (d := (e : Int) - b) hs2 (by omega)
  have hle := RS_le R a e bar (e - b) b
  rw [Int.mul_assoc, show ((e - b : Nat) : Int) = (e : Int) - b by omega] at hle
  unfold MX0_chooseCar
  rw [qg_t hr.k, qb_s (at_se (p := 2) (j := 2) hr hC rfl (by decide))]
  simp only [ql]
  rw [chooseCar_l_ok (n9 := n9) (S := S) (a := a) (b := b) (e := e) (bar := bar) hr hV hC he hab hW _ rfl _ (e - b) n9 b _ _ _ _ rfl (Nat.le_refl _) (by omega) (by omega) (by omega) (by rw [Int.mul_assoc]; omega) (by rw [Int.mul_assoc]; omega)]
  have e0 : R.se 2 * ((b : Int) - b) = 0 := by rw [Int.sub_self, Int.mul_zero]
  have key : ∀ v c : Int, (qg (qR (b : Int)) (if (b : Int) < 0 then some S else if 30 < (b : Int) then some S else qg (0 ≤ (b : Int) ∧ (b : Int) < 31) (qg (0 ≤ (b : Int) ∧ (b : Int) < 31) (some (q2 (q2 S 25 (b : Int).toNat v) 26 (b : Int).toNat c))))) = some (q2 (q2 S 25 b v) 26 b c) := fun v c => by
    rw [qg_t (by constructor <;> omega), if_neg (by omega), if_neg (by omega), qg_t (by omega), qg_t (by omega), toNat_c]
  rw [key, key, e0]
  by_cases hc : CG R a e bar (e - b) b = []
  · have := RS_nil R a e bar (e - b) b hc
    rw [Int.mul_assoc, show ((e - b : Nat) : Int) = (e : Int) - b by omega] at this
    rw [if_neg (by rw [Int.mul_assoc]; omega), hc, this, Int.mul_assoc]
    rfl
  · have := RS_cons R a e bar hs2.1 (m := e - b) (b := b) (by omega) hc
    rw [Int.mul_assoc, show ((e - b : Nat) : Int) = (e : Int) - b by omega] at this
    rw [if_pos (by rw [Int.mul_assoc]; omega), show 100 * 0 + RS R a e bar (e - b) b = RS R a e bar (e - b) b by omega]
