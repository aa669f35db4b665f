/-! each call: both sides answer alike, and what stands for both goes on -/
theorem MR.cls {S S1 : qS} {A : QA} (h : MR S A) (hf : ∀ p j, 110 ≤ p → p < 127 → S1 p j = S p j) : MR S1 A := h.keep (fun p j hk => hf p j (by unfold mK at hk; simp at hk; omega) (by unfold mK at hk; simp at hk; omega))
theorem CR.mod {S S1 : qS} {A : QA} (h : CR S A) (hf : mOut S S1) : CR S1 A := h.keep (fun p j hk => hf p j (by unfold cK at hk; simp at hk; omega)) (by rw [hf 19 0 (by decide)]; exact h.1.2)
abbrev qJ (n9 : Nat) (c : Option (Int × qS)) (m : qS → Option (Int × qS)) (F : qS → Option Unit) : Option Unit := qb c fun a10 => qb (m a10.2) fun a13 => qb (MX4_thrown n9 a13.2) fun a15 => qg (qR a15) <| qg (qR a10.1) <| if a15 = a10.1 then (ql (F a13.2) fun (j20 : Option Unit) => if a10.1 = 0 then (qg (qR a13.1) <| qg (qRl (a13.2 127 (0 : Int).toNat)) <| if (qcmp (a13.2 127 (0 : Int).toNat) a13.1) = 0 then (j20) else (none)) else (j20)) else (none)
abbrev qJq (c : Option (Int × qS)) (m : qS → Option (Int × qS)) (F : qS → Option Unit) : Option Unit := qb c fun a27 => qb (m a27.2) fun a29 => qg (qR a27.1) <| qg (qR a29.1) <| if a27.1 = a29.1 then (F a29.2) else (none)
abbrev qNx (F : qS → Option Unit) : Prop := ∀ S A, AOk A → CR S A → MR S A → F S = some ()
theorem qJ_ok {n9 : Nat} {S : qS} {A A' : QA} {k v : Int} {c : Option (Int × qS)} {m : qS → Option (Int × qS)} {F : qS → Option Unit} (hF : qNx F) (hM : MR S A) (hA' : AOk A') (hk : k = 0 ∨ k = 1 ∨ k = 2) (hc : COp S c k v A') (hm : ∀ S1, MR S1 A → MOp S1 (m S1) k v A') : qJ n9 c m F = some () := by
  obtain ⟨S1, e1, e2, e3, e4⟩ := hc
  obtain ⟨r, S2, g1, g2, g3, g4, g5, g6⟩ := hm S1 (hM.cls e4)
  have hn := hF S2 A' hA' (e2.mod g6) g2
  have ht : MX4_thrown n9 S2 = some k := by unfold MX4_thrown; rw [g3]
  have h127 : S2 127 (0 : Int).toNat = S1 127 0 := g6 127 0 (by decide)
  unfold qJ
  rw [e1]
  show (qb (m S1) fun a13 => qb (MX4_thrown n9 a13.2) fun a15 => qg (qR a15) <| qg (qR k) <| if a15 = k then (ql (F a13.2) fun (j20 : Option Unit) => if k = 0 then (qg (qR a13.1) <| qg (qRl (a13.2 127 (0 : Int).toNat)) <| if (qcmp (a13.2 127 (0 : Int).toNat) a13.1) = 0 then (j20) else (none)) else (j20)) else (none)) = some ()
  rw [g1]
  show (qb (MX4_thrown n9 S2) fun a15 => qg (qR a15) <| qg (qR k) <| if a15 = k then (ql (F S2) fun (j20 : Option Unit) => if k = 0 then (qg (qR r) <| qg (qRl (S2 127 (0 : Int).toNat)) <| if (qcmp (S2 127 (0 : Int).toNat) r) = 0 then (j20) else (none)) else (j20)) else (none)) = some ()
  have hkR : qR k := by rcases hk with rfl | rfl | rfl <;> decide
  rw [qb_s ht, qg_t hkR, qg_t hkR, if_pos rfl, ql]
  by_cases h0 : k = 0
  · have hr := g4 h0
    have hv := e3 h0
    rw [if_pos h0, qg_t g5, h127, hv, ← hr, qg_t (qRl_of g5), if_pos (qcmp_z.mpr rfl), hn]
  · rw [if_neg h0, hn]
theorem qJq_ok {S : qS} {A A' : QA} {v : Int} {c : Option (Int × qS)} {m : qS → Option (Int × qS)} {F : qS → Option Unit} (hF : qNx F) (hM : MR S A) (hA' : AOk A') (hc : COq S c v A') (hm : ∀ S1, MR S1 A → MOp S1 (m S1) 0 v A') : qJq c m F = some () := by
  obtain ⟨S1, e1, e2, e4⟩ := hc
  obtain ⟨r, S2, g1, g2, g3, g4, g5, g6⟩ := hm S1 (hM.cls (fun p j h1 _ => e4 p j h1))
  have hn := hF S2 A' hA' (e2.mod g6) g2
  have hr := g4 rfl
  subst hr
  unfold qJq
  rw [e1]
  show (qb (m S1) fun a29 => qg (qR r) <| qg (qR a29.1) <| if r = a29.1 then (F a29.2) else (none)) = some ()
  rw [g1]
  show (qg (qR r) <| qg (qR r) <| if r = r then (F S2) else (none)) = some ()
  rw [qg_t g5, qg_t g5, if_pos rfl, hn]

theorem append_j {n9 : Nat} {S : qS} {A : QA} {p : Int} {F : qS → Option Unit} (hn : 2000 ≤ n9) (hp : qR p) (hF : qNx F) (hA : AOk A) (hC : CR S A) (hM : MR S A) : qJ n9 (ML_append n9 S p) (fun S1 => MX4_append n9 S1 p) F = some () := by
  have hl := hA.2.1.1
  by_cases hc : 0 ≤ p ∧ p ≤ 255
  · by_cases hd : A.len = 120
    · exact qJ_ok hF hM hA (Or.inr (Or.inr rfl)) ((append_c (n9 := n9) hp hA hC).2.1 hc hd) (fun S1 h1 => (append_m (n9 := n9) hp hA h1).2.1 hc hd)
    · exact qJ_ok hF hM (hA.app (by omega) hc) (Or.inl rfl) ((append_c (n9 := n9) hp hA hC).2.2 hc (by omega)) (fun S1 h1 => (append_m (n9 := n9) hp hA h1).2.2 hc (by omega))
  · exact qJ_ok hF hM hA (Or.inr (Or.inl rfl)) ((append_c (n9 := n9) hp hA hC).1 hc) (fun S1 h1 => (append_m (n9 := n9) hp hA h1).1 hc)
theorem about_j {n9 : Nat} {S : qS} {A : QA} {w : Int} {F : qS → Option Unit} (hn : 2000 ≤ n9) (hw : qR w) (hF : qNx F) (hA : AOk A) (hC : CR S A) (hM : MR S A) : qJ n9 (ML_about n9 S w) (fun S1 => MX4_about n9 S1 w) F = some () := by
  by_cases hc : 0 ≤ w ∧ w ≤ 7
  · exact qJ_ok hF hM (hA) (Or.inl rfl) ((about_c (n9 := n9) hn hw hA hC).2 hc) (fun S1 h1 => (about_m (n9 := n9) hn hw hA h1).2 hc)
  · exact qJ_ok hF hM hA (Or.inr (Or.inl rfl)) ((about_c (n9 := n9) hn hw hA hC).1 hc) (fun S1 h1 => (about_m (n9 := n9) hn hw hA h1).1 hc)
theorem axle_j {n9 : Nat} {S : qS} {A : QA} {p : Int} {w : Int} {F : qS → Option Unit} (hn : 2000 ≤ n9) (hp : qR p) (hw : qR w) (hF : qNx F) (hA : AOk A) (hC : CR S A) (hM : MR S A) : qJ n9 (ML_axle n9 S p w) (fun S1 => MX4_axle n9 S1 p w) F = some () := by
  by_cases hc : 0 ≤ p ∧ p < (A.R.n : Int)
  · by_cases hd : 0 ≤ w ∧ w ≤ 3
    · exact qJ_ok hF hM (hA) (Or.inl rfl) ((axle_c (n9 := n9) hn hp hw hA hC).2.2 hc hd) (fun S1 h1 => (axle_m (n9 := n9) hn hp hw hA h1).2.2 hc hd)
    · exact qJ_ok hF hM hA (Or.inr (Or.inr rfl)) ((axle_c (n9 := n9) hn hp hw hA hC).2.1 hc hd) (fun S1 h1 => (axle_m (n9 := n9) hn hp hw hA h1).2.1 hc hd)
  · exact qJ_ok hF hM hA (Or.inr (Or.inl rfl)) ((axle_c (n9 := n9) hn hp hw hA hC).1 hc) (fun S1 h1 => (axle_m (n9 := n9) hn hp hw hA h1).1 hc)
theorem car_j {n9 : Nat} {S : qS} {A : QA} {p : Int} {w : Int} {F : qS → Option Unit} (hn : 2000 ≤ n9) (hp : qR p) (hw : qR w) (hF : qNx F) (hA : AOk A) (hC : CR S A) (hM : MR S A) : qJ n9 (ML_car n9 S p w) (fun S1 => MX4_car n9 S1 p w) F = some () := by
  by_cases hc : 0 ≤ p ∧ p < ((qcars A.R).length : Int)
  · by_cases hd : 0 ≤ w ∧ w ≤ 5
    · exact qJ_ok hF hM (hA) (Or.inl rfl) ((car_c (n9 := n9) hn hp hw hA hC).2.2 hc hd) (fun S1 h1 => (car_m (n9 := n9) hn hp hw hA h1).2.2 hc hd)
    · exact qJ_ok hF hM hA (Or.inr (Or.inr rfl)) ((car_c (n9 := n9) hn hp hw hA hC).2.1 hc hd) (fun S1 h1 => (car_m (n9 := n9) hn hp hw hA h1).2.1 hc hd)
  · exact qJ_ok hF hM hA (Or.inr (Or.inl rfl)) ((car_c (n9 := n9) hn hp hw hA hC).1 hc) (fun S1 h1 => (car_m (n9 := n9) hn hp hw hA h1).1 hc)
theorem train_j {n9 : Nat} {S : qS} {A : QA} {p : Int} {w : Int} {F : qS → Option Unit} (hn : 2000 ≤ n9) (hp : qR p) (hw : qR w) (hF : qNx F) (hA : AOk A) (hC : CR S A) (hM : MR S A) : qJ n9 (ML_train n9 S p w) (fun S1 => MX4_train n9 S1 p w) F = some () := by
  by_cases hc : 0 ≤ p ∧ p < (qtr A.R : Int)
  · by_cases hd : 0 ≤ w ∧ w ≤ 7
    · exact qJ_ok hF hM (hA) (Or.inl rfl) ((train_c (n9 := n9) hn hp hw hA hC).2.2 hc hd) (fun S1 h1 => (train_m (n9 := n9) hn hp hw hA h1).2.2 hc hd)
    · exact qJ_ok hF hM hA (Or.inr (Or.inr rfl)) ((train_c (n9 := n9) hn hp hw hA hC).2.1 hc hd) (fun S1 h1 => (train_m (n9 := n9) hn hp hw hA h1).2.1 hc hd)
  · exact qJ_ok hF hM hA (Or.inr (Or.inl rfl)) ((train_c (n9 := n9) hn hp hw hA hC).1 hc) (fun S1 h1 => (train_m (n9 := n9) hn hp hw hA h1).1 hc)
theorem setting_j {n9 : Nat} {S : qS} {A : QA} {p : Int} {F : qS → Option Unit} (hn : 2000 ≤ n9) (hp : qR p) (hF : qNx F) (hA : AOk A) (hC : CR S A) (hM : MR S A) : qJ n9 (ML_setting n9 S p) (fun S1 => MX4_setting n9 S1 p) F = some () := by
  by_cases hc : 0 ≤ p ∧ p < 4
  · exact qJ_ok hF hM (hA) (Or.inl rfl) ((setting_c (n9 := n9) hp hA hC).2 hc) (fun S1 h1 => (setting_m (n9 := n9) hp hA h1).2 hc)
  · exact qJ_ok hF hM hA (Or.inr (Or.inl rfl)) ((setting_c (n9 := n9) hp hA hC).1 hc) (fun S1 h1 => (setting_m (n9 := n9) hp hA h1).1 hc)
theorem roll_j {n9 : Nat} {S : qS} {A : QA} {p : Int} {w : Int} {F : qS → Option Unit} (hn : 2000 ≤ n9) (hp : qR p) (hw : qR w) (hF : qNx F) (hA : AOk A) (hC : CR S A) (hM : MR S A) : qJ n9 (ML_roll n9 S p w) (fun S1 => MX4_roll n9 S1 p w) F = some () := by
  have hl := hA.1.n30
  by_cases hc : (1 ≤ p ∧ p ≤ 60) ∧ (1 ≤ w ∧ w ≤ 99)
  · by_cases hd : A.R.n = 30
    · exact qJ_ok hF hM hA (Or.inr (Or.inr rfl)) ((roll_c (n9 := n9) hn hp hw hA hC).2.1 hc hd) (fun S1 h1 => (roll_m (n9 := n9) hn hp hw hA h1).2.1 hc hd)
    · exact qJ_ok hF hM (hA.rem.setR (qadd_V hA.1 (by omega) hc.1 hc.2)) (Or.inl rfl) ((roll_c (n9 := n9) hn hp hw hA hC).2.2 hc (by omega)) (fun S1 h1 => (roll_m (n9 := n9) hn hp hw hA h1).2.2 hc (by omega))
  · exact qJ_ok hF hM hA (Or.inr (Or.inl rfl)) ((roll_c (n9 := n9) hn hp hw hA hC).1 hc) (fun S1 h1 => (roll_m (n9 := n9) hn hp hw hA h1).1 hc)
theorem record_j {n9 : Nat} {S : qS} {A : QA} {F : qS → Option Unit} (hn : 2000 ≤ n9) (hF : qNx F) (hA : AOk A) (hC : CR S A) (hM : MR S A) : qJ n9 (ML_record n9 S) (fun S1 => MX4_record n9 S1) F = some () := by
  cases hq : qread A with
  | inl e => exact qJ_ok hF hM hA (Or.inr (Or.inl rfl)) ((record_c (n9 := n9) hn hA hC).1 (fun X h => by rw [hq] at h; cases h)) (fun S1 h1 => (record_m (n9 := n9) hn hA h1).1 (fun X h => by rw [hq] at h; cases h))
  | inr X =>
    by_cases hd : A.R.n + X.to ≤ 30
    · exact qJ_ok hF hM (hA.rem.setR (qrrec_V (qread_X hA hq).2 X.to 0 A.R (by omega) (Nat.zero_le _) hA.1 hd).1) (Or.inl rfl) ((record_c (n9 := n9) hn hA hC).2 X hq hd) (fun S1 h1 => (record_m (n9 := n9) hn hA h1).2 X hq hd)
    · exact qJ_ok hF hM hA (Or.inr (Or.inl rfl)) ((record_c (n9 := n9) hn hA hC).1 (fun X1 h => by rw [hq] at h; cases h; exact hd)) (fun S1 h1 => (record_m (n9 := n9) hn hA h1).1 (fun X1 h => by rw [hq] at h; cases h; exact hd))
theorem strike_j {n9 : Nat} {S : qS} {A : QA} {p : Int} {F : qS → Option Unit} (hn : 2000 ≤ n9) (hp : qR p) (hF : qNx F) (hA : AOk A) (hC : CR S A) (hM : MR S A) : qJ n9 (ML_strike n9 S p) (fun S1 => MX4_strike n9 S1 p) F = some () := by
  by_cases hc : 0 ≤ p ∧ p < (A.R.n : Int)
  · exact qJ_ok hF hM (hA.rem.setR (qstrike_V hA.1 (by omega))) (Or.inl rfl) ((strike_c (n9 := n9) hn hp hA hC).2 hc) (fun S1 h1 => (strike_m (n9 := n9) hn hp hA h1).2 hc)
  · exact qJ_ok hF hM hA (Or.inr (Or.inl rfl)) ((strike_c (n9 := n9) hn hp hA hC).1 hc) (fun S1 h1 => (strike_m (n9 := n9) hn hp hA h1).1 hc)
theorem weigh_j {n9 : Nat} {S : qS} {A : QA} {p : Int} {w : Int} {F : qS → Option Unit} (hn : 2000 ≤ n9) (hp : qR p) (hw : qR w) (hF : qNx F) (hA : AOk A) (hC : CR S A) (hM : MR S A) : qJ n9 (ML_weigh n9 S p w) (fun S1 => MX4_weigh n9 S1 p w) F = some () := by
  by_cases hc : 0 ≤ p ∧ p < (A.R.n : Int)
  · by_cases hd : 1 ≤ w ∧ w ≤ 99
    · exact qJ_ok hF hM (hA.rem.setR (qputw_V hA.1 hd)) (Or.inl rfl) ((weigh_c (n9 := n9) hn hp hw hA hC).2.2 hc hd) (fun S1 h1 => (weigh_m (n9 := n9) hn hp hw hA h1).2.2 hc hd)
    · exact qJ_ok hF hM hA (Or.inr (Or.inr rfl)) ((weigh_c (n9 := n9) hn hp hw hA hC).2.1 hc hd) (fun S1 h1 => (weigh_m (n9 := n9) hn hp hw hA h1).2.1 hc hd)
  · exact qJ_ok hF hM hA (Or.inr (Or.inl rfl)) ((weigh_c (n9 := n9) hn hp hw hA hC).1 hc) (fun S1 h1 => (weigh_m (n9 := n9) hn hp hw hA h1).1 hc)
theorem bill_j {n9 : Nat} {S : qS} {A : QA} {p : Int} {v : Int} {F : qS → Option Unit} (hn : 2000 ≤ n9) (hp : qR p) (hv : qR v) (hF : qNx F) (hA : AOk A) (hC : CR S A) (hM : MR S A) : qJ n9 (ML_bill n9 S p v) (fun S1 => MX4_bill n9 S1 p v) F = some () := by
  by_cases hc : (0 ≤ p ∧ p < 30) ∧ (0 ≤ v ∧ v ≤ 9999)
  · exact qJ_ok hF hM (hA.rem.setR (qputb_V hA.1 hc.2)) (Or.inl rfl) ((bill_c (n9 := n9) hn hp hv hA hC).2 hc) (fun S1 h1 => (bill_m (n9 := n9) hn hp hv hA h1).2 hc)
  · exact qJ_ok hF hM hA (Or.inr (Or.inl rfl)) ((bill_c (n9 := n9) hn hp hv hA hC).1 hc) (fun S1 h1 => (bill_m (n9 := n9) hn hp hv hA h1).1 hc)
theorem set_j {n9 : Nat} {S : qS} {A : QA} {p : Int} {v : Int} {F : qS → Option Unit} (hn : 2000 ≤ n9) (hp : qR p) (hv : qR v) (hF : qNx F) (hA : AOk A) (hC : CR S A) (hM : MR S A) : qJ n9 (ML_set n9 S p v) (fun S1 => MX4_set n9 S1 p v) F = some () := by
  by_cases hc : qsi p v
  · exact qJ_ok hF hM (hA.rem.setR (qputs_V hA.1 (by unfold qsv; unfold qsi at hc; omega))) (Or.inl rfl) ((set_c (n9 := n9) hn hp hv hA hC).2 hc) (fun S1 h1 => (set_m (n9 := n9) hn hp hv hA h1).2 hc)
  · exact qJ_ok hF hM hA (Or.inr (Or.inl rfl)) ((set_c (n9 := n9) hn hp hv hA hC).1 hc) (fun S1 h1 => (set_m (n9 := n9) hn hp hv hA h1).1 hc)
theorem leave_j {n9 : Nat} {S : qS} {A : QA} {F : qS → Option Unit} (hn : 2000 ≤ n9) (hF : qNx F) (hA : AOk A) (hC : CR S A) (hM : MR S A) : qJ n9 (ML_leave n9 S) (fun S1 => MX4_leave n9 S1) F = some () := by
  by_cases hc : A.R.n = 0
  · exact qJ_ok hF hM hA (Or.inr (Or.inl rfl)) ((leave_c (n9 := n9) hn hA hC).1 hc) (fun S1 h1 => (leave_m (n9 := n9) hn hA h1).1 hc)
  · exact qJ_ok hF hM (hA.rem.setR (qleave_V hA.1 (by omega))) (Or.inl rfl) ((leave_c (n9 := n9) hn hA hC).2 (by omega)) (fun S1 h1 => (leave_m (n9 := n9) hn hA h1).2 (by omega))
theorem undo_j {n9 : Nat} {S : qS} {A : QA} {F : qS → Option Unit} (hn : 2000 ≤ n9) (hF : qNx F) (hA : AOk A) (hC : CR S A) (hM : MR S A) : qJ n9 (ML_undo n9 S) (fun S1 => MX4_undo n9 S1) F = some () := by
  cases hc : A.U with
  | nil => exact qJ_ok hF hM hA (Or.inr (Or.inl rfl)) ((undo_c (n9 := n9) hn hA hC).1 hc) (fun S1 h1 => (undo_m (n9 := n9) hn hA h1).1 hc)
  | cons R U => exact qJ_ok hF hM (hA.back hc) (Or.inl rfl) ((undo_c (n9 := n9) hn hA hC).2 R U hc) (fun S1 h1 => (undo_m (n9 := n9) hn hA h1).2 R U hc)
theorem without_j {n9 : Nat} {S : qS} {A : QA} {p : Int} {F : qS → Option Unit} (hn : 2000 ≤ n9) (hp : qR p) (hF : qNx F) (hA : AOk A) (hC : CR S A) (hM : MR S A) : qJ n9 (ML_without n9 S p) (fun S1 => MX4_without n9 S1 p) F = some () := by
  by_cases hc : 0 ≤ p ∧ p < (A.R.n : Int)
  · exact qJ_ok hF hM (hA) (Or.inl rfl) ((without_c (n9 := n9) hn hp hA hC).2 hc) (fun S1 h1 => (without_m (n9 := n9) hn hp hA h1).2 hc)
  · exact qJ_ok hF hM hA (Or.inr (Or.inl rfl)) ((without_c (n9 := n9) hn hp hA hC).1 hc) (fun S1 h1 => (without_m (n9 := n9) hn hp hA h1).1 hc)
theorem sureness_j {n9 : Nat} {S : qS} {A : QA} {p : Int} {F : qS → Option Unit} (hn : 2000 ≤ n9) (hp : qR p) (hF : qNx F) (hA : AOk A) (hC : CR S A) (hM : MR S A) : qJ n9 (ML_sureness n9 S p) (fun S1 => MX4_sureness n9 S1 p) F = some () := by
  by_cases hc : 0 ≤ p ∧ p < (A.R.n : Int)
  · exact qJ_ok hF hM (hA) (Or.inl rfl) ((sureness_c (n9 := n9) hn hp hA hC).2 hc) (fun S1 h1 => (sureness_m (n9 := n9) hn hp hA h1).2 hc)
  · exact qJ_ok hF hM hA (Or.inr (Or.inl rfl)) ((sureness_c (n9 := n9) hn hp hA hC).1 hc) (fun S1 h1 => (sureness_m (n9 := n9) hn hp hA h1).1 hc)
theorem plans_j {n9 : Nat} {S : qS} {A : QA} {p : Int} {F : qS → Option Unit} (hn : 2000 ≤ n9) (hp : qR p) (hF : qNx F) (hA : AOk A) (hC : CR S A) (hM : MR S A) : qJ n9 (ML_plans n9 S p) (fun S1 => MX4_plans n9 S1 p) F = some () := by
  by_cases hc : 0 ≤ p ∧ p < (qtr A.R : Int)
  · exact qJ_ok hF hM (hA) (Or.inl rfl) ((plans_c (n9 := n9) hn hp hA hC).2 hc) (fun S1 h1 => (plans_m (n9 := n9) hn hp hA h1).2 hc)
  · exact qJ_ok hF hM hA (Or.inr (Or.inl rfl)) ((plans_c (n9 := n9) hn hp hA hC).1 hc) (fun S1 h1 => (plans_m (n9 := n9) hn hp hA h1).1 hc)
theorem heavy_j {n9 : Nat} {S : qS} {A : QA} {v : Int} {F : qS → Option Unit} (hn : 2000 ≤ n9) (hv : qR v) (hF : qNx F) (hA : AOk A) (hC : CR S A) (hM : MR S A) : qJ n9 (ML_heavy n9 S v) (fun S1 => MX4_heavy n9 S1 v) F = some () := by
  by_cases hc : v < 0
  · exact qJ_ok hF hM hA (Or.inr (Or.inl rfl)) ((heavy_c (n9 := n9) hn hv hA hC).1 hc) (fun S1 h1 => (heavy_m (n9 := n9) hn hv hA h1).1 hc)
  · have hr := ((heavy_m (n9 := n9) hn hv hA hM).2 (by omega)).2
    exact qJ_ok hF hM hA (Or.inl rfl) ((heavy_c (n9 := n9) hn hv hA hC).2 (by omega) hr) (fun S1 h1 => ((heavy_m (n9 := n9) hn hv hA h1).2 (by omega)).1)
theorem runScript_j {n9 : Nat} {S : qS} {A : QA} {p : Int} {s : Int} {F : qS → Option Unit} (hn : 2000 ≤ n9) (hp : qR p) (hs : qRl s) (hF : qNx F) (hA : AOk A) (hC : CR S A) (hM : MR S A) : qJ n9 (ML_runScript n9 S p s) (fun S1 => MX4_runScript n9 S1 p s) F = some () := by
  by_cases hc : qsk p s
  · exact qJ_ok hF hM hA (Or.inl rfl) ((runScript_c (n9 := n9) hn hp hs hA hC).2 hc) (fun S1 h1 => (runScript_m (n9 := n9) hn hp hs hA h1).2 hc)
  · exact qJ_ok hF hM hA (Or.inr (Or.inl rfl)) ((runScript_c (n9 := n9) hn hp hs hA hC).1 hc) (fun S1 h1 => (runScript_m (n9 := n9) hn hp hs hA h1).1 hc)
theorem simulate_j {n9 : Nat} {S : qS} {A : QA} {x : Int} {p : Int} {F : qS → Option Unit} (hn : 2000 ≤ n9) (hp : qR p) (hF : qNx F) (hA : AOk A) (hC : CR S A) (hM : MR S A) : qJ n9 (ML_simulate n9 S x p) (fun S1 => MX4_simulate n9 S1 x p) F = some () := by
  by_cases hc : 1 ≤ p ∧ p ≤ 60
  · exact qJ_ok hF hM (hA) (Or.inl rfl) ((simulate_c (n9 := n9) hn hp hA hC).2 hc) (fun S1 h1 => (simulate_m (n9 := n9) hn hp hA h1).2 hc)
  · exact qJ_ok hF hM hA (Or.inr (Or.inl rfl)) ((simulate_c (n9 := n9) hn hp hA hC).1 hc) (fun S1 h1 => (simulate_m (n9 := n9) hn hp hA h1).1 hc)
theorem save_j {n9 : Nat} {S : qS} {A : QA} {p : Int} {F : qS → Option Unit} (hn : 2000 ≤ n9) (hp : qR p) (hF : qNx F) (hA : AOk A) (hC : CR S A) (hM : MR S A) : qJ n9 (ML_save n9 S p) (fun S1 => MX4_save n9 S1 p) F = some () := by
  by_cases hc : 0 ≤ p ∧ p < 2
  · exact qJ_ok hF hM (hA.kept p.toNat) (Or.inl rfl) ((save_c (n9 := n9) hn hp hA hC).2 hc) (fun S1 h1 => (save_m (n9 := n9) hn hp hA h1).2 hc)
  · exact qJ_ok hF hM hA (Or.inr (Or.inl rfl)) ((save_c (n9 := n9) hn hp hA hC).1 hc) (fun S1 h1 => (save_m (n9 := n9) hn hp hA h1).1 hc)
theorem restore_j {n9 : Nat} {S : qS} {A : QA} {p : Int} {F : qS → Option Unit} (hn : 2000 ≤ n9) (hp : qR p) (hF : qNx F) (hA : AOk A) (hC : CR S A) (hM : MR S A) : qJ n9 (ML_restore n9 S p) (fun S1 => MX4_restore n9 S1 p) F = some () := by
  by_cases hc : 0 ≤ p ∧ p < 2
  · cases hd : A.sv p.toNat with
    | none => exact qJ_ok hF hM hA (Or.inr (Or.inr rfl)) ((restore_c (n9 := n9) hn hp hA hC).2.1 hc hd) (fun S1 h1 => (restore_m (n9 := n9) hn hp hA h1).2.1 hc hd)
    | some R => exact qJ_ok hF hM (hA.got (hA.2.2.1 p.toNat (by omega) R hd)) (Or.inl rfl) ((restore_c (n9 := n9) hn hp hA hC).2.2 hc R hd) (fun S1 h1 => (restore_m (n9 := n9) hn hp hA h1).2.2 hc R hd)
  · exact qJ_ok hF hM hA (Or.inr (Or.inl rfl)) ((restore_c (n9 := n9) hn hp hA hC).1 hc) (fun S1 h1 => (restore_m (n9 := n9) hn hp hA h1).1 hc)
theorem clearText_j {n9 : Nat} {S : qS} {A : QA} {F : qS → Option Unit} (hn : 2000 ≤ n9) (hF : qNx F) (hA : AOk A) (hC : CR S A) (hM : MR S A) : qJq (MX3_clearText n9 S) (fun S1 => MX4_clearText n9 S1) F = some () := qJq_ok hF hM (hA.cut) (clear_c (n9 := n9) hC) (fun S1 h1 => clear_m (n9 := n9) hA h1)
theorem errorPosition_j {n9 : Nat} {S : qS} {A : QA} {F : qS → Option Unit} (hn : 2000 ≤ n9) (hF : qNx F) (hA : AOk A) (hC : CR S A) (hM : MR S A) : qJq (MX3_errorPosition n9 S) (fun S1 => MX4_errorPosition n9 S1) F = some () := qJq_ok hF hM (hA) (errorPosition_c (n9 := n9) hn hA hC) (fun S1 h1 => errorPosition_m (n9 := n9) hn hA h1)
theorem axlesTold_j {n9 : Nat} {S : qS} {A : QA} {F : qS → Option Unit} (hn : 2000 ≤ n9) (hF : qNx F) (hA : AOk A) (hC : CR S A) (hM : MR S A) : qJq (MX3_axlesTold n9 S) (fun S1 => MX4_axlesTold n9 S1) F = some () := qJq_ok hF hM (hA) (axlesTold_c (n9 := n9) hn hA hC) (fun S1 h1 => axlesTold_m (n9 := n9) hn hA h1)
theorem suspect_j {n9 : Nat} {S : qS} {A : QA} {F : qS → Option Unit} (hn : 2000 ≤ n9) (hF : qNx F) (hA : AOk A) (hC : CR S A) (hM : MR S A) : qJq (MX3_suspect n9 S) (fun S1 => MX4_suspect n9 S1) F = some () := qJq_ok hF hM (hA) (suspect_c (n9 := n9) hn hA hC) (fun S1 h1 => suspect_m (n9 := n9) hn hA h1)
theorem bestBase_j {n9 : Nat} {S : qS} {A : QA} {F : qS → Option Unit} (hn : 2000 ≤ n9) (hF : qNx F) (hA : AOk A) (hC : CR S A) (hM : MR S A) : qJq (MX3_bestBase n9 S) (fun S1 => MX4_bestBase n9 S1) F = some () := qJq_ok hF hM (hA) (bestBase_c (n9 := n9) hn hA hC) (fun S1 h1 => bestBase_m (n9 := n9) hn hA h1)
