/-- one look at a number below -/
theorem og_near1 {x1 x2 : Int32} {S : Int} {d : Nat} {M : om_M} (hS : x1.toInt = S) (h1 : -50000 ≤ S) (h2 : S ≤ 50000) (hd : d < 20) (hx2 : x2 = 0) (e24 : M.1 46 24 = nI d) : ∃ M' c, om_D_nearest_L7_body om_F (x1, x2, M) = some (.inl (x1, om_bi c, M')) ∧ om_fr og_pn M M' ∧ M'.1 46 24 = nI (d + 1) ∧ (M'.1 46 23).toInt = (2 * S * (d + 1 : Nat) + 9000) / 18000 ∧ (c = true ↔ (-(80 * ((d + 1 : Nat) : Int)) ≤ S * (d + 1 : Nat) - (2 * S * (d + 1 : Nat) + 9000) / 18000 * 9000 ∧ S * (d + 1 : Nat) - (2 * S * (d + 1 : Nat) + 9000) / 18000 * 9000 ≤ 80 * ((d + 1 : Nat) : Int))) := by
  have hdn : (nI (d + 1)).toInt64.toInt = ((d + 1 : Nat) : Int) := by rw [Int32.toInt_toInt64, nI_toInt (by omega)]
  have hxs : x1.toInt64.toInt = S := by rw [Int32.toInt_toInt64, hS]
  have c2 : (2 : Int64).toInt = 2 := by decide
  have c9 : (9000 : Int64).toInt = 9000 := by decide
  have c18 : (18000 : Int64).toInt = 18000 := by decide
  have c1 : (1 : Int64).toInt = 1 := by decide
  have c0 : (0 : Int64).toInt = 0 := by decide
  have c80 : (80 : Int64).toInt = 80 := by decide
  have hb2 : -2000000 ≤ 2 * S * ((d + 1 : Nat) : Int) ∧ 2 * S * ((d + 1 : Nat) : Int) ≤ 2000000 := by
    have := og_mul_abs (x := 2 * S) (A := 100000) (by omega) (y := ((d + 1 : Nat) : Int)) (B := 20) (by omega) (by omega)
    omega
  have hb1 : -1000000 ≤ S * ((d + 1 : Nat) : Int) ∧ S * ((d + 1 : Nat) : Int) ≤ 1000000 := by
    have := og_mul_abs (x := S) (A := 50000) (by omega) (y := ((d + 1 : Nat) : Int)) (B := 20) (by omega) (by omega)
    omega
  have u24 : (om_up M 46 24 (nI (d + 1))).1 46 24 = nI (d + 1) := by simp [om_up_at]
  have t1 : ((2 : Int64) * x1.toInt64).toInt = 2 * S := og_l_mul c2 hxs (by omega) (by omega)
  have t2 : ((2 : Int64) * x1.toInt64 * (nI (d + 1)).toInt64).toInt = 2 * S * ((d + 1 : Nat) : Int) := og_l_mul t1 hdn (by omega) (by omega)
  have t3 : ((2 : Int64) * x1.toInt64 * (nI (d + 1)).toInt64 + 9000).toInt = 2 * S * ((d + 1 : Nat) : Int) + 9000 := og_l_add t2 c9 (by omega) (by omega)
  -- the rest, for whatever A
  have rest : ∀ A : Int64, A.toInt = (2 * S * ((d + 1 : Nat) : Int) + 9000) / 18000 → ∃ M' c, om_D_nearest_b66 om_F x1 A (om_up M 46 24 (nI (d + 1))) = some (.inl (x1, om_bi c, M')) ∧ om_fr og_pn M M' ∧ M'.1 46 24 = nI (d + 1) ∧ (M'.1 46 23).toInt = (2 * S * (d + 1 : Nat) + 9000) / 18000 ∧ (c = true ↔ (-(80 * ((d + 1 : Nat) : Int)) ≤ S * (d + 1 : Nat) - (2 * S * (d + 1 : Nat) + 9000) / 18000 * 9000 ∧ S * (d + 1 : Nat) - (2 * S * (d + 1 : Nat) + 9000) / 18000 * 9000 ≤ 80 * ((d + 1 : Nat) : Int))) := by
    intro A hA
    have hAb : -1000 ≤ A.toInt ∧ A.toInt ≤ 1000 := by rw [hA]; omega
    have hA32 : A.toInt32.toInt = A.toInt := by
      rw [Int64.toInt_toInt32]; exact Int.bmod_eq_of_le (by omega) (by omega)
    have v24 : (om_up (om_up M 46 24 (nI (d + 1))) 46 23 A.toInt32).1 46 24 = nI (d + 1) := by simp [om_up_at]
    have v23 : (om_up (om_up M 46 24 (nI (d + 1))) 46 23 A.toInt32).1 46 23 = A.toInt32 := by simp [om_up_at]
    have hA64 : A.toInt32.toInt64.toInt = A.toInt := by rw [Int32.toInt_toInt64, hA32]
    have s1 : (x1.toInt64 * (nI (d + 1)).toInt64).toInt = S * ((d + 1 : Nat) : Int) := og_l_mul hxs hdn (by omega) (by omega)
    have s2 : (A.toInt32.toInt64 * 9000).toInt = A.toInt * 9000 := og_l_mul hA64 c9 (by omega) (by omega)
    have s3 : (x1.toInt64 * (nI (d + 1)).toInt64 - A.toInt32.toInt64 * 9000).toInt = S * ((d + 1 : Nat) : Int) - A.toInt * 9000 := og_l_sub s1 s2 (by omega) (by omega)
    have s4 : (-(x1.toInt64 * (nI (d + 1)).toInt64 - A.toInt32.toInt64 * 9000)).toInt = -(S * ((d + 1 : Nat) : Int) - A.toInt * 9000) := og_l_neg s3 (by omega) (by omega)
    have s5 : ((80 : Int64) * (nI (d + 1)).toInt64).toInt = 80 * ((d + 1 : Nat) : Int) := og_l_mul c80 hdn (by omega) (by omega)
    have hfr : om_fr og_pn M (om_up (om_up M 46 24 (nI (d + 1))) 46 23 A.toInt32) := om_fr_up (om_fr_up om_fr_rfl rfl) rfl
    have fin : ∀ o : Int64, (o.toInt = S * ((d + 1 : Nat) : Int) - A.toInt * 9000 ∧ 0 ≤ S * ((d + 1 : Nat) : Int) - A.toInt * 9000 ∨ o.toInt = -(S * ((d + 1 : Nat) : Int) - A.toInt * 9000) ∧ S * ((d + 1 : Nat) : Int) - A.toInt * 9000 < 0) → ∃ M' c, om_D_nearest_b105 om_F x1 o (om_up (om_up M 46 24 (nI (d + 1))) 46 23 A.toInt32) = some (.inl (x1, om_bi c, M')) ∧ om_fr og_pn M M' ∧ M'.1 46 24 = nI (d + 1) ∧ (M'.1 46 23).toInt = (2 * S * (d + 1 : Nat) + 9000) / 18000 ∧ (c = true ↔ (-(80 * ((d + 1 : Nat) : Int)) ≤ S * (d + 1 : Nat) - (2 * S * (d + 1 : Nat) + 9000) / 18000 * 9000 ∧ S * (d + 1 : Nat) - (2 * S * (d + 1 : Nat) + 9000) / 18000 * 9000 ≤ 80 * ((d + 1 : Nat) : Int))) := by
      intro o ho
      unfold om_D_nearest_b105 om_D_nearest_b123
      rw [v24]
      by_cases hg : (80 : Int64) * (nI (d + 1)).toInt64 < o
      · rw [if_pos ((lg_cmp_gt _ _).mpr hg)]
        rw [Int64.lt_iff_toInt_lt, s5] at hg
        refine ⟨_, false, rfl, hfr, v24, by rw [v23, hA32, hA], ⟨fun h => (by cases h), fun h => ?_⟩⟩
        rw [← hA] at h; omega
      · rw [if_neg (fun h => hg ((lg_cmp_gt _ _).mp h))]
        rw [Int64.lt_iff_toInt_lt, s5] at hg
        refine ⟨_, true, rfl, hfr, v24, by rw [v23, hA32, hA], ⟨fun _ => ?_, fun _ => rfl⟩⟩
        rw [← hA]; omega
    unfold om_D_nearest_b66
    rw [v24, v23]
    by_cases hge : (0 : Int64) ≤ x1.toInt64 * (nI (d + 1)).toInt64 - A.toInt32.toInt64 * 9000
    · rw [if_pos ((lg_cmp_ge _ _).mpr hge)]
      rw [Int64.le_iff_toInt_le, s3, c0] at hge
      exact fin _ (.inl ⟨s3, hge⟩)
    · rw [if_neg (fun h => hge ((lg_cmp_ge _ _).mp h))]
      rw [Int64.le_iff_toInt_le, s3, c0] at hge
      exact fin _ (.inr ⟨s4, by omega⟩)
  have hn18 : ¬ (18000 : Int64) = 0 := by decide
  simp only [om_D_nearest_L7_body, om_D_nearest_b7, hx2, if_true, e24, og_nI1, u24, hn18, decide_false, Bool.not_false, cond_true]
  by_cases hneg : (2 : Int64) * x1.toInt64 * (nI (d + 1)).toInt64 + 9000 < 0
  · rw [if_pos ((lg_cmp_lt _ _).mpr hneg)]
    rw [Int64.lt_iff_toInt_lt, t3, c0] at hneg
    have w1 := og_l_neg t3 (by omega) (by omega)
    have w2 := og_l_add w1 c18 (by omega) (by omega)
    have w3 := og_l_sub w2 c1 (by omega) (by omega)
    have w4 := og_l_div w3 c18 (by omega) (by omega) (by omega)
    have w5 := og_l_neg w4 (by omega) (by omega)
    exact rest _ (by rw [w5]; omega)
  · rw [if_neg (fun h => hneg ((lg_cmp_lt _ _).mp h))]
    rw [Int64.lt_iff_toInt_lt, t3, c0] at hneg
    have w4 := og_l_div t3 c18 (by omega) (by omega) (by omega)
    exact rest _ (by rw [w4])
/-- the fraction found is the one in lowest terms -/
theorem og_nearest {x1 : Int32} {S a x' : Int} {b b' : Nat} {M : om_M} (hS : x1.toInt = S) (h1 : -50000 ≤ S) (h2 : S ≤ 50000) (hb : 0 < b) (hb8 : b ≤ 8) (hred : og_red a b x' b') (hn : -(70 * (b : Int)) ≤ b * S - a * 9000 ∧ b * S - a * 9000 ≤ 70 * b) : ∃ M', om_D_nearest om_F x1 M = some M' ∧ om_fr og_pn M M' ∧ M'.1 46 24 = nI b' ∧ (M'.1 46 23).toInt = x' := by
  obtain ⟨r1, r2, r3, r4⟩ := hred
  -- in lowest terms
  have hlow : -(70 * (b' : Int)) ≤ b' * S - x' * 9000 ∧ b' * S - x' * 9000 ≤ 70 * b' := by
    have hbp : (0 : Int) < (b : Int) := by omega
    have hb'p : (0 : Int) ≤ (b' : Int) := by omega
    have e1 : (b : Int) * (b' * S - x' * 9000) = b' * (b * S - a * 9000) := by
      have e2 : (b : Int) * (x' * 9000) = b' * (a * 9000) := by
        rw [← Int.mul_assoc, ← Int.mul_assoc, Int.mul_comm (b : Int) x', r3, Int.mul_comm a]
      rw [Int.mul_sub, Int.mul_sub, e2, Int.mul_left_comm]
    have m1 := Int.mul_le_mul_of_nonneg_left hn.1 hb'p
    have m2 := Int.mul_le_mul_of_nonneg_left hn.2 hb'p
    have e3 : (b' : Int) * (70 * b) = b * (70 * b') := by
      rw [Int.mul_left_comm, Int.mul_comm (b' : Int) b, ← Int.mul_left_comm]
    constructor
    · refine Int.le_of_mul_le_mul_left (a := (b : Int)) ?_ hbp
      rw [e1, Int.mul_neg, ← e3, ← Int.mul_neg]; exact m1
    · refine Int.le_of_mul_le_mul_left (a := (b : Int)) ?_ hbp
      rw [e1, ← e3]; exact m2
  have hb'8 : b' ≤ 8 := by omega
  have hFb : b' < om_F := Nat.lt_of_le_of_lt hb'8 (by decide)
  have hcop : ∀ d, 0 < d → d < b' → ∀ A : Int, ¬ (-(80 * (d : Int)) ≤ S * d - A * 9000 ∧ S * d - A * 9000 ≤ 80 * d) := by
    intro d hd hdb A hA
    have hdp : (0 : Int) ≤ (d : Int) := by omega
    have hb'p : (0 : Int) ≤ (b' : Int) := by omega
    have m1 := Int.mul_le_mul_of_nonneg_left hA.1 hb'p
    have m2 := Int.mul_le_mul_of_nonneg_left hA.2 hb'p
    have m3 := Int.mul_le_mul_of_nonneg_left hlow.1 hdp
    have m4 := Int.mul_le_mul_of_nonneg_left hlow.2 hdp
    have hprod : (b' : Int) * d ≤ 56 := by
      have h := Nat.mul_le_mul hb'8 (show d ≤ 7 by omega)
      have : ((b' * d : Nat) : Int) ≤ 56 := by omega
      rw [Int.natCast_mul] at this; exact this
    have hprod0 : (0 : Int) ≤ (b' : Int) * d := Int.mul_nonneg hb'p hdp
    rw [Int.mul_sub] at m1 m2 m3 m4
    have e1 : (b' : Int) * (S * d) = d * (b' * S) := by rw [← Int.mul_assoc, Int.mul_comm (d : Int)]
    have e2 : (b' : Int) * (80 * d) = 80 * (b' * d) := Int.mul_left_comm _ _ _
    have e3 : (d : Int) * (70 * b') = 70 * (b' * d) := by rw [Int.mul_left_comm, Int.mul_comm (d : Int)]
    have e4 : (b' : Int) * (A * 9000) = 9000 * (b' * A) := by rw [Int.mul_comm A, Int.mul_left_comm]
    have e5 : (d : Int) * (x' * 9000) = 9000 * (d * x') := by rw [Int.mul_comm x', Int.mul_left_comm]
    have e6 : (b' : Int) * -(80 * (d : Int)) = -(80 * (b' * d)) := by rw [Int.mul_neg, e2]
    have e7 : (d : Int) * -(70 * (b' : Int)) = -(70 * (b' * d)) := by rw [Int.mul_neg, e3]
    have heq : (d : Int) * x' = b' * A := by omega
    have hdvd : (b' : Int) ∣ (d : Int) * x' := ⟨A, heq⟩
    have hdvd2 : b' ∣ d * x'.natAbs := by
      have := Int.natAbs_dvd_natAbs.mpr hdvd
      rw [Int.natAbs_mul] at this
      simpa using this
    have hg : Nat.Coprime b' x'.natAbs := by
      refine Classical.byContradiction fun hne => ?_
      have hgpos : 0 < Nat.gcd b' x'.natAbs := Nat.gcd_pos_of_pos_left _ r1
      have hg1 : Nat.gcd b' x'.natAbs ≠ 1 := hne
      refine r4 (Nat.gcd b' x'.natAbs) (by omega) ?_ (Nat.gcd_dvd_left _ _)
      exact Int.dvd_natAbs.mp (Int.natCast_dvd_natCast.mpr (Nat.gcd_dvd_right _ _))
    have := Nat.Coprime.dvd_of_dvd_mul_right hg hdvd2
    have := Nat.le_of_dvd hd this
    omega
  have hat : (2 * S * (b' : Int) + 9000) / 18000 = x' := by
    have e1 : 2 * S * (b' : Int) = 2 * (b' * S) := by rw [Int.mul_assoc, Int.mul_comm S]
    rw [e1]; omega
  have hyes : -(80 * (b' : Int)) ≤ S * b' - (2 * S * (b' : Int) + 9000) / 18000 * 9000 ∧ S * b' - (2 * S * (b' : Int) + 9000) / 18000 * 9000 ≤ 80 * b' := by
    rw [hat, Int.mul_comm S]; omega
  obtain ⟨M', hz, q1, q2, q3⟩ := om_lp (f := om_D_nearest_L7_body om_F) (fun i s => ∃ c M', s = (x1, om_bi c, M') ∧ om_fr og_pn M M' ∧ M'.1 46 24 = nI i ∧ ((c = false ∧ i < b') ∨ (c = true ∧ i = b' ∧ (M'.1 46 23).toInt = x'))) (fun M' : om_M => om_fr og_pn M M' ∧ M'.1 46 24 = nI b' ∧ (M'.1 46 23).toInt = x') b' hFb (s := (x1, 0, om_up M 46 24 0)) ⟨false, _, rfl, om_fr_up om_fr_rfl rfl, by simp [om_up_at, nI_0], .inl ⟨rfl, r1⟩⟩ (by
    rintro i s hi ⟨c, M', rfl, g1, g2, g3⟩
    rcases g3 with ⟨rfl, -⟩ | ⟨-, h, -⟩
    rotate_left
    · omega
    obtain ⟨M2, c2, k1, k2, k3, k4, k5⟩ := og_near1 (x2 := om_bi false) hS h1 h2 (show i < 20 by omega) rfl g2
    refine .inl ⟨_, k1, c2, M2, rfl, om_fr_tr g1 k2, k3, ?_⟩
    by_cases hib : i + 1 = b'
    · right
      rw [hib] at k4 k5
      exact ⟨k5.mpr hyes, hib, by rw [k4, hat]⟩
    · left
      refine ⟨?_, by omega⟩
      cases c2 with
      | false => rfl
      | true => exact absurd (k5.mp rfl) (hcop (i + 1) (by omega) (by omega) _)) (by
    rintro s ⟨c, M', rfl, g1, g2, g3⟩
    rcases g3 with ⟨-, h⟩ | ⟨rfl, -, h⟩
    · omega
    · exact ⟨_, by simp only [om_D_nearest_L7_body, om_D_nearest_b7]; rw [if_neg (show ¬ om_bi true = 0 by decide)], g1, g2, h⟩)
  refine ⟨M', ?_, q1, q2, q3⟩
  unfold om_D_nearest om_D_nearest_b0 om_D_nearest_L7
  rw [hz]; rfl
theorem og_pn_sc {a j : Nat} (h : om_sc a j = false) : og_pn a j = false := by
  cases h1 : og_pn a j with
  | false => rfl
  | true =>
    unfold og_pn at h1
    rw [Bool.and_eq_true, Bool.or_eq_true] at h1
    obtain ⟨h2, h3⟩ := h1
    have : a = 46 := Nat.eq_of_beq_eq_true h2
    subst this
    rcases h3 with h3 | h3
    · have : j = 23 := Nat.eq_of_beq_eq_true h3
      subst this; cases h
    · have : j = 24 := Nat.eq_of_beq_eq_true h3
      subst this; cases h
