section FS
variable {n : Nat} {M : om_M} {R : Nat → Nat → Int32 → Prop}
theorem og_plan_of (h8 : n ≤ 8) {N : Nat → Int32} (hN : ∀ p, p < n → og_wn n (N p)) (hne : ∀ p, p < n → ∃ q, og_S (N p) q) (hG : ∀ p q, p < n → (om_b (N p) q = true ↔ og_GR n R p q)) (mi : Nat → Bool) (i : Nat) : ∃ s, og_plan n mi (og_GR n R) s ∧ og_Ho n R (og_On N mi n i) = og_H mi (og_GR n R) s := by
  have hex : ∀ p, ∃ q, p < n → mi p = true → (om_b (N p) q = true ∧ q < n ∧ og_On N mi n i p = 1 <<< (nI q &&& 31)) := by
    intro p
    by_cases h : p < n ∧ mi p = true
    · have hlt := Nat.mod_lt (i / og_P mi (og_ch N n) p) (og_ch_pos hN hne p)
      have hc : og_ch N n p = og_cnt (om_b (N p)) n := by unfold og_ch; rw [if_pos h.1]
      rw [hc] at hlt
      obtain ⟨q, h1, h2, h3⟩ := og_ba_bit h8 (hN p h.1) hlt
      exact ⟨q, fun _ _ => ⟨h2, h1, by unfold og_On; rw [if_pos h.2, hc]; exact h3⟩⟩
    · exact ⟨0, fun h1 h2 => absurd ⟨h1, h2⟩ h⟩
  obtain ⟨s, hs⟩ := Classical.skolem.mp hex
  refine ⟨s, fun p hp hm => (hG p (s p) hp).mp (hs p hp hm).1, ?_⟩
  funext p q
  refine propext ⟨?_, ?_⟩
  · rintro ⟨h1, h2⟩
    refine ⟨h1, fun hm => ?_⟩
    obtain ⟨g1, g2, g3⟩ := hs p h1.1 hm
    rw [g3, om_b_shl (by omega), decide_eq_true_eq] at h2
    exact h2
  · rintro ⟨h1, h2⟩
    refine ⟨h1, ?_⟩
    by_cases hm : mi p = true
    · obtain ⟨g1, g2, g3⟩ := hs p h1.1 hm
      rw [g3, om_b_shl (by omega), decide_eq_true_eq]
      exact h2 hm
    · unfold og_On; rw [if_neg hm]
      exact (hG p q h1.1).mpr h1
theorem og_plan_num (h8 : n ≤ 8) {N : Nat → Int32} (hN : ∀ p, p < n → og_wn n (N p)) (hne : ∀ p, p < n → ∃ q, og_S (N p) q) (hG : ∀ p q, p < n → (om_b (N p) q = true ↔ og_GR n R p q)) {mi : Nat → Bool} {s : Nat → Nat} (hs : og_plan n mi (og_GR n R) s) : ∃ i, i < og_P mi (og_ch N n) n ∧ og_Ho n R (og_On N mi n i) = og_H mi (og_GR n R) s := by
  have hex : ∀ p, ∃ d, d < og_ch N n p ∧ (p < n → mi p = true → og_ba (N p) d = 1 <<< (nI (s p) &&& 31)) := by
    intro p
    by_cases h : p < n ∧ mi p = true
    · have hc : og_ch N n p = og_cnt (om_b (N p)) n := by unfold og_ch; rw [if_pos h.1]
      obtain ⟨d, h1, h2⟩ := og_ba_sur h8 (hN p h.1) ((hG p (s p) h.1).mpr (hs p h.1 h.2))
      exact ⟨d, by rw [hc]; exact h1, fun _ _ => h2⟩
    · exact ⟨0, og_ch_pos hN hne p, fun h1 h2 => absurd ⟨h1, h2⟩ h⟩
  obtain ⟨d, hd⟩ := Classical.skolem.mp hex
  obtain ⟨i, h1, h2⟩ := og_P_sur (mi := mi) (og_ch_pos hN hne) (fun p => (hd p).1) n
  refine ⟨i, h1, ?_⟩
  funext p q
  have hon : p < n → mi p = true → og_On N mi n i p = 1 <<< (nI (s p) &&& 31) := fun hp hm => by
    unfold og_On; rw [if_pos hm, h2 p hp hm]; exact (hd p).2 hp hm
  refine propext ⟨?_, ?_⟩
  · rintro ⟨g1, g2⟩
    refine ⟨g1, fun hm => ?_⟩
    have hsl : s p < n := (hs p g1.1 hm).2.1
    rw [hon g1.1 hm, om_b_shl (by omega), decide_eq_true_eq] at g2
    exact g2
  · rintro ⟨g1, g2⟩
    refine ⟨g1, ?_⟩
    by_cases hm : mi p = true
    · have hsl : s p < n := (hs p g1.1 hm).2.1
      rw [hon g1.1 hm, om_b_shl (by omega), decide_eq_true_eq]
      exact g2 hm
    · unfold og_On; rw [if_neg hm]
      exact (hG p q g1.1).mpr g1
theorem og_pot_wk {H : Nat → Nat → Prop} {u : Nat → Nat → Int} {A : Nat → Prop} {π : Nat → Int} (h : ∀ v q, A v → H v q → A q ∧ π q ≤ π v + u v q) : ∀ {k p q : Nat} {x : Int}, A p → og_wk H u k p q x → A q ∧ π q ≤ π p + x
  | 0, p, q, x, hp, ⟨h1, h2⟩ => by subst h1; rw [h2]; exact ⟨hp, by omega⟩
  | k + 1, p, q, x, hp, ⟨r, y, h1, h2, h3⟩ => by
    obtain ⟨g1, g2⟩ := og_pot_wk h hp h1
    obtain ⟨g3, g4⟩ := h r q g1 h2
    exact ⟨g3, by omega⟩
theorem og_wk_b5' {H : Nat → Nat → Prop} {u : Nat → Nat → Int} (hu : ∀ p q, H p q → -5 ≤ u p q ∧ u p q ≤ 5) : ∀ {k p q : Nat} {x : Int}, og_wk H u k p q x → -(5 * (k : Int)) ≤ x ∧ x ≤ 5 * k
  | 0, p, q, x, ⟨_, h⟩ => by rw [h]; omega
  | k + 1, p, q, x, ⟨r, y, h1, h2, h3⟩ => by
    have a := og_wk_b5' hu h1
    have b := hu r q h2
    omega
theorem og_K_b {H : Nat → Nat → Prop} {u : Nat → Nat → Int} (hH : ∀ r q, H r q → q < n) (hu : ∀ p q, H p q → -5 ≤ u p q ∧ u p q ≤ 5) {p : Nat} (hp : p < n) {a b : Int} (hb : 0 < b) (h1 : og_K1 n H (fun r q => b * u r q - a) p) (h2 : og_K2 n H (fun r q => b * u r q - a) p) : -(5 * b) ≤ a ∧ a ≤ 5 * b := by
  obtain ⟨i, v, y, j, z, w1, hj, hjn, w2, hz⟩ := og_K2_loop hH hp h2
  obtain ⟨t, w3, ht⟩ := og_wk_unlin w2
  have hb5 := og_wk_b5' hu w3
  have hC : ∀ r q, H r q → -(5 * b + (a.natAbs : Int)) ≤ b * u r q - a := fun r q h => by
    have := Int.mul_le_mul_of_nonneg_left (hu r q h).1 (Int.le_of_lt hb)
    omega
  obtain ⟨A, π, g1, g2, g3, g4⟩ := og_pot (u := fun r q => b * u r q - a) hH hp (C := 5 * b + (a.natAbs : Int)) (by omega) hC h1
  obtain ⟨k1, -⟩ := og_pot_wk g4 g1 w1
  obtain ⟨-, k2⟩ := og_pot_wk g4 k1 w2
  have hjp : (0 : Int) < (j : Int) := by omega
  have e1 : b * t = a * j := by omega
  have m1 := Int.mul_le_mul_of_nonneg_left hb5.1 (Int.le_of_lt hb)
  have m2 := Int.mul_le_mul_of_nonneg_left hb5.2 (Int.le_of_lt hb)
  have e2 : b * (5 * (j : Int)) = (5 * b) * j := by rw [← Int.mul_assoc, Int.mul_comm b 5]
  have e3 : b * -(5 * (j : Int)) = -(5 * b) * j := by rw [Int.mul_neg, e2, Int.neg_mul]
  constructor
  · exact Int.le_of_mul_le_mul_right (by omega) hjp
  · exact Int.le_of_mul_le_mul_right (by omega) hjp
theorem og_findSure (h8 : n ≤ 8) (hR : og_Rok n R) (hL : og_Ld M n R) {p pl : Nat} (hp : p < n) (hpl : pl < 2) : ∃ (M' : om_M) (a : Int) (b : Nat) (x' : Int) (b' : Nat), om_E_findSure om_F (nI pl) (nI p) M = some M' ∧ om_fr og_pe M M' ∧ 0 < b ∧ b ≤ 8 ∧ (M'.1 14 0).toInt = x' ∧ M'.1 14 1 = nI b' ∧ og_red a b x' b' ∧ ∀ k : Nat, -(70 * (b : Int)) ≤ b * og_V n (og_mi (M.1 7 1) pl) R k p - a * k ∧ b * og_V n (og_mi (M.1 7 1) pl) R k p - a * k ≤ 70 * b := by
  have hN := og_Ld_wn hL
  have hG : ∀ p q, p < n → (om_b (M.1 11 p) q = true ↔ og_GR n R p q) := fun p q hp => by
    obtain ⟨-, s', -, -, -, -, h4⟩ := hL
    rw [h4 p hp q]
    exact ⟨fun ⟨h1, h2⟩ => ⟨hp, h1, h2⟩, fun h => ⟨h.2.1, h.2.2⟩⟩
  have hne : ∀ p, p < n → ∃ q, og_S (M.1 11 p) q := fun p hp => by
    obtain ⟨q, w, hq, hw⟩ := hR.2.1 p hp
    exact ⟨q, (hG p q hp).mpr ⟨hp, hq, w, hw⟩⟩
  have hneG : ∀ p, p < n → ∃ q, q < n ∧ og_GR n R p q := fun p hp => by
    obtain ⟨q, w, hq, hw⟩ := hR.2.1 p hp
    exact ⟨q, hq, hp, hq, w, hw⟩
  have hGn : ∀ p q, og_GR n R p q → q < n := fun p q h => h.2.1
  have hpo : 1 - pl < 2 := by omega
  have hF : om_F = 100000 := rfl
  have e1 : (1 : Int32).toInt = 1 := by decide
  have e2 : (-1 : Int32).toInt = -1 := by decide
  have hmio : og_mi (M.1 7 1) (1 - pl) = fun p => !og_mi (M.1 7 1) pl p := funext fun p => og_mi_other _ hpl p
  have htwo := og_P_two (mi := og_mi (M.1 7 1) pl) (og_ch_le (N := M.1 11) h8) n
  rw [← hmio] at htwo
  have h88 : 8 ^ n ≤ 8 ^ 8 := Nat.pow_le_pow_right (by omega) h8
  have hPm := og_P_le (mi := og_mi (M.1 7 1) pl) (og_ch_le (N := M.1 11) h8) n
  have hPo := og_P_le (mi := og_mi (M.1 7 1) (1 - pl)) (og_ch_le (N := M.1 11) h8) n
  have hPmp := og_P_pos (mi := og_mi (M.1 7 1) pl) (og_ch_pos hN hne) n
  have hPop := og_P_pos (mi := og_mi (M.1 7 1) (1 - pl)) (og_ch_pos hN hne) n
  have hu : ∀ σ : Int32, og_sg σ → ∀ p q, og_GR n R p q → -5 ≤ og_us R σ p q ∧ og_us R σ p q ≤ 5 := fun σ hσ p q h => og_us_b hR hσ h
  unfold om_E_findSure om_E_findSure_b0 om_E_findSure_b50
  rw [og_plansOf h8 hL.1 hN hpl]
  simp only [Option.bind_some, og_nI_other hpl, og_plansOf h8 hL.1 hN hpo]
  -- one side's plans, whichever
  have side : ∀ pX, pX < 2 → ∀ σ : Int32, og_sg σ → ∀ V : Nat → Nat → Int, og_Vs n (og_mi (M.1 7 1) pX) (og_GR n R) (og_us R σ) V → og_P (og_mi (M.1 7 1) pX) (og_ch (M.1 11) n) n < om_F → ∃ (M' : om_M) (a : Int) (b : Nat) (x' : Int) (b' : Nat), om_E_findBest om_F (nI pX) (nI (og_P (og_mi (M.1 7 1) pX) (og_ch (M.1 11) n) n)) σ (nI p) M = some M' ∧ om_fr og_pe M M' ∧ 0 < b ∧ b ≤ 8 ∧ (M'.1 14 0).toInt = x' ∧ M'.1 14 1 = nI b' ∧ og_red (a * σ.toInt) b x' b' ∧ ∀ k : Nat, -(70 * (b : Int)) ≤ b * V k p - a * k ∧ b * V k p - a * k ≤ 70 * b := by
    intro pX hpX σ hσ V hV hP
    obtain ⟨M', a, b, x', b', i0, c1, c2, c3, c4, c5, c6, c6', c7, c8, c9, c10⟩ := og_findBest h8 hR hσ hL hp hN hne (.inr ⟨pX, hpX, rfl, rfl⟩) hP
    refine ⟨M', a, b, x', b', c1, c2, c3, c4, c8, c9, c10, ?_⟩
    obtain ⟨s, s1, s2⟩ := og_plan_of h8 hN hne hG (og_mi (M.1 7 1) pX) i0
    rw [s2] at c6 c6'
    have hbp : (0 : Int) < (b : Int) := by omega
    have hab := og_K_b (fun r q h => hGn r q h.1) (fun r q h => hu σ hσ r q h.1) hp hbp c6 c6'
    intro k
    refine og_value h8 hGn hneG (hu σ hσ) hV hbp hab hp s1 c6 (fun t ht => ?_) k
    obtain ⟨i, i1, i2⟩ := og_plan_num h8 hN hne hG ht
    obtain ⟨a', b'', d1, d2, d3⟩ := c7 i i1
    rw [i2] at d3
    exact ⟨a', b'', d1, d2, d3⟩
  by_cases hlt : nI (og_P (og_mi (M.1 7 1) (1 - pl)) (og_ch (M.1 11) n) n) < nI (og_P (og_mi (M.1 7 1) pl) (og_ch (M.1 11) n) n)
  · rw [if_pos hlt]
    have hlt' := (nI_ltI (by omega) (by omega)).mp hlt
    have hsq : og_P (og_mi (M.1 7 1) (1 - pl)) (og_ch (M.1 11) n) n < om_F := by
      rw [hF]
      refine Classical.byContradiction fun h => ?_
      have := Nat.mul_le_mul (show 100000 ≤ og_P (og_mi (M.1 7 1) pl) (og_ch (M.1 11) n) n by omega) (show 100000 ≤ og_P (og_mi (M.1 7 1) (1 - pl)) (og_ch (M.1 11) n) n by omega)
      omega
    have hVn := og_Vs_neg (og_V_Vs (mi := og_mi (M.1 7 1) pl) hR)
    rw [← hmio] at hVn
    have hus : og_us R (-1) = fun p q => -og_wt R p q := by
      funext p q; unfold og_us; rw [e2]; omega
    rw [← hus] at hVn
    obtain ⟨M', a, b, x', b', d1, d2, d3, d4, d5, d6, d7, d8⟩ := side (1 - pl) hpo (-1) (.inr rfl) _ hVn hsq
    refine ⟨M', a * (-1 : Int32).toInt, b, x', b', by rw [d1]; rfl, d2, d3, d4, d5, d6, d7, fun k => ?_⟩
    have h8' := d8 k
    rw [Int.mul_neg] at h8'
    rw [e2, Int.mul_neg, Int.mul_one, Int.neg_mul]
    omega
  · rw [if_neg hlt]
    have hlt' : ¬ og_P (og_mi (M.1 7 1) (1 - pl)) (og_ch (M.1 11) n) n < og_P (og_mi (M.1 7 1) pl) (og_ch (M.1 11) n) n := fun h => hlt ((nI_ltI (by omega) (by omega)).mpr h)
    have hsq : og_P (og_mi (M.1 7 1) pl) (og_ch (M.1 11) n) n < om_F := by
      rw [hF]
      refine Classical.byContradiction fun h => ?_
      have := Nat.mul_le_mul (show 100000 ≤ og_P (og_mi (M.1 7 1) pl) (og_ch (M.1 11) n) n by omega) (show 100000 ≤ og_P (og_mi (M.1 7 1) (1 - pl)) (og_ch (M.1 11) n) n by omega)
      omega
    have hV := og_V_Vs (mi := og_mi (M.1 7 1) pl) hR
    have hus : og_us R 1 = og_wt R := by
      funext p q; unfold og_us; rw [e1]; omega
    rw [← hus] at hV
    obtain ⟨M', a, b, x', b', d1, d2, d3, d4, d5, d6, d7, d8⟩ := side pl hpl 1 (.inl rfl) _ hV hsq
    refine ⟨M', a * (1 : Int32).toInt, b, x', b', by rw [d1]; rfl, d2, d3, d4, d5, d6, d7, fun k => ?_⟩
    rw [e1, Int.mul_one]; exact d8 k
end FS
/-! ===== the nearest fraction ===== -/
theorem og_l_add {a b : Int64} {x y : Int} (hx : a.toInt = x) (hy : b.toInt = y) (h1 : -10000000000000 ≤ x + y) (h2 : x + y ≤ 10000000000000) : (a + b).toInt = x + y := by
  rw [Int64.toInt_add, hx, hy]; exact Int.bmod_eq_of_le (by omega) (by omega)
theorem og_l_sub {a b : Int64} {x y : Int} (hx : a.toInt = x) (hy : b.toInt = y) (h1 : -10000000000000 ≤ x - y) (h2 : x - y ≤ 10000000000000) : (a - b).toInt = x - y := by
  rw [Int64.toInt_sub, hx, hy]; exact Int.bmod_eq_of_le (by omega) (by omega)
theorem og_l_mul {a b : Int64} {x y : Int} (hx : a.toInt = x) (hy : b.toInt = y) (h1 : -10000000000000 ≤ x * y) (h2 : x * y ≤ 10000000000000) : (a * b).toInt = x * y := by
  rw [Int64.toInt_mul, hx, hy]; exact Int.bmod_eq_of_le (by omega) (by omega)
theorem og_l_neg {a : Int64} {x : Int} (hx : a.toInt = x) (h1 : -10000000000000 ≤ x) (h2 : x ≤ 10000000000000) : (-a).toInt = -x := by
  rw [Int64.toInt_neg, hx]; exact Int.bmod_eq_of_le (by omega) (by omega)
theorem og_l_div {a b : Int64} {x y : Int} (hx : a.toInt = x) (hy : b.toInt = y) (h1 : 0 ≤ x) (h2 : x ≤ 10000000000000) (hy0 : 0 < y) : (a / b).toInt = x / y := by
  have hd1 : 0 ≤ x / y := Int.ediv_nonneg h1 (Int.le_of_lt hy0)
  have hd2 : x / y ≤ x := Int.ediv_le_self y h1
  rw [Int64.toInt_div, hx, hy, Int.tdiv_eq_ediv_of_nonneg h1]
  exact Int.bmod_eq_of_le (by omega) (by omega)
def og_pn (a j : Nat) : Bool := Nat.beq a 46 && (Nat.beq j 23 || Nat.beq j 24)
