/-! ===== the least quotient of closed walks ===== -/
def og_pq (a j : Nat) : Bool := Nat.beq a 65 || (Nat.beq a 66 || (Nat.beq a 46 && (Nat.beq j 23 || Nat.beq j 24)))
theorem og_pq_sc {a j : Nat} (h : om_sc a j = false) : og_pq a j = false := by
  cases h1 : og_pq a j with
  | false => rfl
  | true =>
    unfold og_pq at h1
    rw [Bool.or_eq_true, Bool.or_eq_true, Bool.and_eq_true, Bool.or_eq_true] at h1
    rcases h1 with h1 | h1 | ⟨h1, h2 | h2⟩
    · have : a = 65 := Nat.eq_of_beq_eq_true h1
      subst this; cases h
    · have : a = 66 := Nat.eq_of_beq_eq_true h1
      subst this; cases h
    · have : a = 46 := Nat.eq_of_beq_eq_true h1
      have : j = 23 := Nat.eq_of_beq_eq_true h2
      subst_vars; cases h
    · have : a = 46 := Nat.eq_of_beq_eq_true h1
      have : j = 24 := Nat.eq_of_beq_eq_true h2
      subst_vars; cases h
theorem og_sc_pq {M M' : om_M} (h : om_fr og_pq M M') : om_fr om_sc M M' := om_fr_mono h fun _ _ h => og_pq_sc h
theorem og_p66_pq {a j : Nat} (h : og_pq a j = false) : og_p66 a j = false := by
  cases h1 : og_p66 a j with
  | false => rfl
  | true =>
    have : a = 66 := Nat.eq_of_beq_eq_true h1
    subst this; cases h
/-- the least quotient so far -/
def og_bt (P : Nat → Int → Prop) (v d : Int32) : Prop := (d = 0 ∧ ∀ l z, ¬ P l z) ∨ ∃ (a : Int) (b : Nat), v.toInt = a ∧ d = nI b ∧ 0 < b ∧ b ≤ 8 ∧ -50 ≤ a ∧ a ≤ 50 ∧ P b a ∧ ∀ l z, P l z → a * l ≤ z * b
theorem og_bt_iff {P P' : Nat → Int → Prop} (h : ∀ l z, P l z ↔ P' l z) {v d : Int32} (hv : og_bt P v d) : og_bt P' v d := by
  have : P = P' := funext fun l => funext fun z => propext (h l z)
  subst this; exact hv
theorem og_quot {a c z : Int} {b l L : Nat} (hb : 0 < b) (h1 : c * b ≤ a * L) (h2 : a * l ≤ z * b) : c * l ≤ z * L := by
  have hb' : (0 : Int) < b := by omega
  refine Int.le_of_mul_le_mul_right (a := (b : Int)) ?_ hb'
  have e1 : c * l * b = (c * b) * l := by rw [Int.mul_assoc, Int.mul_comm (l : Int), ← Int.mul_assoc]
  have e2 : (a * L) * l = (a * l) * L := by rw [Int.mul_assoc, Int.mul_comm (L : Int), ← Int.mul_assoc]
  have e3 : z * L * b = (z * b) * L := by rw [Int.mul_assoc, Int.mul_comm (L : Int), ← Int.mul_assoc]
  have m1 := Int.mul_le_mul_of_nonneg_right h1 (show (0 : Int) ≤ l by omega)
  have m2 := Int.mul_le_mul_of_nonneg_right h2 (show (0 : Int) ≤ L by omega)
  omega
section WO
variable {n m : Nat} {σ : Int32}
/-- closed walks of length l from places of S, over the lengths below L, and at L from the places below t -/
def og_Pw (W : Nat → Nat → Nat → Int → Prop) (S : Nat → Prop) (n L t : Nat) (l : Nat) (z : Int) : Prop := (1 ≤ l ∧ l < L ∧ ∃ v, v < n ∧ S v ∧ W l v v z) ∨ (l = L ∧ ∃ v, v < t ∧ S v ∧ W L v v z)
theorem og_wo1 {M : om_M} {W : Nat → Nat → Nat → Int → Prop} (h8 : n ≤ 8) (e2 : M.1 46 2 = nI n) {L : Nat} (hL1 : 1 ≤ L) (hL : L ≤ n) {x4 x5 x3 : Int32} (hT : ∀ v, v < n → og_mt (W L v v) (M.1 66 (9 * v))) (h0 : og_bt (og_Pw W (og_S x4) n L 0) (M.1 46 23) (M.1 46 24)) : ∃ M', om_D_worth_L159 om_F (x3, x4, x5, nI L, 0, M) = some (x3, x4, x5, nI L, M') ∧ (∀ a j, ¬ (a = 46 ∧ (j = 23 ∨ j = 24)) → M'.1 a j = M.1 a j) ∧ M'.2 = M.2 ∧ og_bt (og_Pw W (og_S x4) n L n) (M'.1 46 23) (M'.1 46 24) := by
  have hF : n < om_F := Nat.lt_of_le_of_lt h8 (by decide)
  obtain ⟨z, hz, M', rfl, q1, q2, q3⟩ := om_lp (f := om_D_worth_L159_body om_F) (fun t s => ∃ M', s = (x3, x4, x5, nI L, nI t, M') ∧ (∀ a j, ¬ (a = 46 ∧ (j = 23 ∨ j = 24)) → M'.1 a j = M.1 a j) ∧ M'.2 = M.2 ∧ og_bt (og_Pw W (og_S x4) n L t) (M'.1 46 23) (M'.1 46 24)) (fun z => ∃ M', z = (x3, x4, x5, nI L, M') ∧ (∀ a j, ¬ (a = 46 ∧ (j = 23 ∨ j = 24)) → M'.1 a j = M.1 a j) ∧ M'.2 = M.2 ∧ og_bt (og_Pw W (og_S x4) n L n) (M'.1 46 23) (M'.1 46 24)) n (F := om_F) hF (s := (x3, x4, x5, nI L, 0, M)) ⟨M, rfl, fun _ _ _ => rfl, rfl, h0⟩ (by
    rintro t s ht ⟨M1, rfl, g1, g2, g3⟩
    have f2 : M1.1 46 2 = nI n := by rw [g1 46 2 (by omega), e2]
    have hlt : ¬ nI n ≤ nI t := nI_ge ht (by omega)
    have h9 : (9 : Int32) * nI t = nI (9 * t) := by rw [show (9 : Int32) = nI 9 from rfl, pk_mul]
    have hin : om_in (nI (9 * t)) 64 = true := om_in_nI (by omega) (by omega)
    have hcl : (nI (9 * t)).toNatClampNeg = 9 * t := nI_clamp (by omega)
    have f66 : M1.1 66 (9 * t) = M.1 66 (9 * t) := g1 66 _ (by omega)
    have same : (∀ z, ¬ (og_S x4 t ∧ W L t t z)) → og_bt (og_Pw W (og_S x4) n L (t + 1)) (M1.1 46 23) (M1.1 46 24) := fun hno => og_bt_iff (fun l z => by
      unfold og_Pw
      refine ⟨fun h => h.imp id fun ⟨h1, v, h2, h3⟩ => ⟨h1, v, by omega, h3⟩, fun h => h.imp id fun ⟨h1, v, h2, h3⟩ => ⟨h1, v, ?_, h3⟩⟩
      by_cases hvt : v = t
      · subst hvt; exact absurd h3 (hno z)
      · omega) g3
    by_cases hb : om_b x4 t = true
    · have hb1 := (og_tst1 (show t < 32 by omega) x4).mpr hb
      rcases hT t ht with ⟨hv, hno⟩ | ⟨v1, v2, v3, v4⟩
      · exact .inl ⟨(x3, x4, x5, nI L, nI (t + 1), M1), by simp [om_D_worth_L159_body, om_D_worth_b159, om_D_worth_b234, f2, hlt, h9, hin, hcl, hb1, f66, hv, og_nI1], M1, rfl, g1, g2, same fun z h => hno z h.2⟩
      · have hnt : ¬ (100000 : Int32) ≤ M.1 66 (9 * t) := by rw [Int32.le_iff_toInt_le, og_top]; omega
        have hLi : (nI L).toInt = (L : Int) := nI_toInt (by omega)
        -- putting it
        have put : (∀ l z, og_Pw W (og_S x4) n L t l z → (M.1 66 (9 * t)).toInt * l ≤ z * L) → og_bt (og_Pw W (og_S x4) n L (t + 1)) (M.1 66 (9 * t)) (nI L) := fun hall => by
          refine .inr ⟨(M.1 66 (9 * t)).toInt, L, rfl, rfl, hL1, by omega, v1, v2, .inr ⟨rfl, t, by omega, hb, v3⟩, fun l z hl => ?_⟩
          rcases hl with h | ⟨h1, v, h2, h3, h4⟩
          · exact hall l z (.inl h)
          · by_cases hvt : v = t
            · subst hvt; subst h1
              exact Int.mul_le_mul_of_nonneg_right (v4 z h4) (by omega)
            · exact hall l z (.inr ⟨h1, v, by omega, h3, h4⟩)
        have stepput : ∀ M1 : om_M, (∀ a j, ¬ (a = 46 ∧ (j = 23 ∨ j = 24)) → M1.1 a j = M.1 a j) → ∀ a j, ¬ (a = 46 ∧ (j = 23 ∨ j = 24)) → (om_up (om_up M1 46 23 (M.1 66 (9 * t))) 46 24 (nI L)).1 a j = M.1 a j := fun M1 g a j haj => by
          rw [om_up_at, om_up_at]
          by_cases ha : a = 46
          · rw [if_pos ha, if_neg (fun h => haj ⟨ha, .inr h⟩), if_pos ha, if_neg (fun h => haj ⟨ha, .inl h⟩)]; exact g a j haj
          · rw [if_neg ha, if_neg ha]; exact g a j haj
        have stepput2 : ∀ M1 : om_M, (om_up (om_up M1 46 23 (M.1 66 (9 * t))) 46 24 (nI L)).1 46 23 = M.1 66 (9 * t) ∧ (om_up (om_up M1 46 23 (M.1 66 (9 * t))) 46 24 (nI L)).1 46 24 = nI L := fun M1 => by
          constructor <;> simp [om_up_at]
        rcases g3 with ⟨d0, hno⟩ | ⟨a, b, c1, c2, c3, c4, c5, c6, c7, c8⟩
        · refine .inl ⟨(x3, x4, x5, nI L, nI (t + 1), om_up (om_up M1 46 23 (M.1 66 (9 * t))) 46 24 (nI L)), by simp [om_D_worth_L159_body, om_D_worth_b159, om_D_worth_b222, om_D_worth_b234, f2, hlt, h9, hin, hcl, hb1, f66, hnt, d0, og_nI1], _, rfl, stepput M1 g1, g2, ?_⟩
          rw [(stepput2 M1).1, (stepput2 M1).2]
          exact put fun l z h => absurd h (hno l z)
        · have hd : ¬ M1.1 46 24 = 0 := by rw [c2]; exact fun h => by have := (nI_eq (a := b) (b := 0) (by omega) (by omega)).mp h; omega
          have ha8 := og_mul_abs (x := a) (y := (L : Int)) (A := 50) (B := 8) (by omega) (by omega) (by omega)
          have hv8 := og_mul_abs (x := (M.1 66 (9 * t)).toInt) (y := (b : Int)) (A := 50) (B := 8) (by omega) (by omega) (by omega)
          have hm1 : (M1.1 46 23 * nI L).toInt = a * L := og_mul_toInt c1 hLi (B := 400) (by omega) (by omega) (by omega)
          have hm2 : (M.1 66 (9 * t) * M1.1 46 24).toInt = (M.1 66 (9 * t)).toInt * b := og_mul_toInt rfl (by rw [c2]; exact nI_toInt (by omega)) (B := 400) (by omega) (by omega) (by omega)
          have hcmp : (M1.1 46 23 * nI L ≤ M.1 66 (9 * t) * M1.1 46 24) ↔ a * L ≤ (M.1 66 (9 * t)).toInt * b := by rw [Int32.le_iff_toInt_le, hm1, hm2]
          by_cases hle : M1.1 46 23 * nI L ≤ M.1 66 (9 * t) * M1.1 46 24
          · have hle' := hcmp.mp hle
            refine .inl ⟨(x3, x4, x5, nI L, nI (t + 1), M1), by simp [om_D_worth_L159_body, om_D_worth_b159, om_D_worth_b234, f2, hlt, h9, hin, hcl, hb1, f66, hnt, hd, hle, og_nI1], M1, rfl, g1, g2, .inr ⟨a, b, c1, c2, c3, c4, c5, c6, ?_, fun l z hl => ?_⟩⟩
            · exact c7.imp id fun ⟨h1, v, h2, h3⟩ => ⟨h1, v, by omega, h3⟩
            · rcases hl with h | ⟨h1, v, h2, h3, h4⟩
              · exact c8 l z (.inl h)
              · by_cases hvt : v = t
                · subst hvt; subst h1
                  have := Int.mul_le_mul_of_nonneg_right (v4 z h4) (show (0 : Int) ≤ b by omega)
                  omega
                · exact c8 l z (.inr ⟨h1, v, by omega, h3, h4⟩)
          · have hle' : (M.1 66 (9 * t)).toInt * b ≤ a * L := by
              have : ¬ a * L ≤ (M.1 66 (9 * t)).toInt * b := fun h => hle (hcmp.mpr h)
              omega
            refine .inl ⟨(x3, x4, x5, nI L, nI (t + 1), om_up (om_up M1 46 23 (M.1 66 (9 * t))) 46 24 (nI L)), by simp [om_D_worth_L159_body, om_D_worth_b159, om_D_worth_b222, om_D_worth_b234, f2, hlt, h9, hin, hcl, hb1, f66, hnt, hd, hle, og_nI1], _, rfl, stepput M1 g1, g2, ?_⟩
            rw [(stepput2 M1).1, (stepput2 M1).2]
            exact put fun l z h => og_quot c3 hle' (c8 l z h)
    · have hb1 : ¬ (x4 >>> (nI t &&& 31)) &&& 1 = 1 := fun h => hb ((og_tst1 (show t < 32 by omega) x4).mp h)
      exact .inl ⟨(x3, x4, x5, nI L, nI (t + 1), M1), by simp [om_D_worth_L159_body, om_D_worth_b159, om_D_worth_b234, f2, hlt, h9, hin, hcl, hb1, og_nI1], M1, rfl, g1, g2, same fun z h => hb h.1⟩) (by
    rintro s ⟨M1, rfl, g1, g2, g3⟩
    have f2 : M1.1 46 2 = nI n := by rw [g1 46 2 (by omega), e2]
    exact ⟨_, by simp only [om_D_worth_L159_body, om_D_worth_b159, f2]; rw [if_pos Int32.le_rfl], M1, rfl, g1, g2, g3⟩)
  exact ⟨M', hz, q1, q2, q3⟩
end WO
