theorem og_mul_toInt {a b : Int32} {x y B : Int} (hx : a.toInt = x) (hy : b.toInt = y) (h1 : -B ≤ x * y) (h2 : x * y ≤ B) (hB : B ≤ 1000000000) : (a * b).toInt = x * y := by
  rw [Int32.toInt_mul, hx, hy]
  exact Int.bmod_eq_of_le (by omega) (by omega)
theorem og_sub_toInt {a b : Int32} (h1 : -1000000000 ≤ a.toInt) (h2 : a.toInt ≤ 1000000000) (h3 : -1000000000 ≤ b.toInt) (h4 : b.toInt ≤ 1000000000) : (a - b).toInt = a.toInt - b.toInt := by
  rw [Int32.toInt_sub]
  exact Int.bmod_eq_of_le (by omega) (by omega)
/-- a product of two small ones is small -/
theorem og_mul_abs {x y A B : Int} (hx : -A ≤ x ∧ x ≤ A) (hy : 0 ≤ y ∧ y ≤ B) (hA : 0 ≤ A) : -(A * B) ≤ x * y ∧ x * y ≤ A * B := by
  have h1 : x * y ≤ A * y := Int.mul_le_mul_of_nonneg_right hx.2 hy.1
  have h2 : -A * y ≤ x * y := Int.mul_le_mul_of_nonneg_right hx.1 hy.1
  have h3 : A * y ≤ A * B := Int.mul_le_mul_of_nonneg_left hy.2 hA
  have h4 : -A * y = -(A * y) := Int.neg_mul A y
  omega
section FL
variable {n : Nat} {M : om_M} {R : Nat → Nat → Int32 → Prop} {σ : Int32}
/-- of one place: the highest of its fractions -/
theorem og_klow (h8 : n ≤ 8) (hR : og_Rok n R) (hσ : og_sg σ) {O : Nat → Int32} {p q : Nat} (hp : p < n) (hq : q < n) (hT : ∀ k, k ≤ n → ∀ q, q < n → og_mn (og_wk (og_Ho n R O) (og_us R σ) k p q) (M.1 (19 + k) q)) (hfin : M.1 (19 + n) q < 1000000) (x5 : Int32) : ∃ T B, om_E_findLeastLoop_L53 om_F (nI n, x5, nI q, 0, 0, 0, M) = some (nI n, x5, nI q, T, B, M) ∧ ∃ k, k < n ∧ B = nI (n - k) ∧ og_ds (og_Ho n R O) (og_us R σ) p k q (M.1 (19 + k) q).toInt ∧ T.toInt = (M.1 (19 + n) q).toInt - (M.1 (19 + k) q).toInt ∧ -80 ≤ T.toInt ∧ T.toInt ≤ 80 ∧ ∀ l y, l < n → og_ds (og_Ho n R O) (og_us R σ) p l q y → ((M.1 (19 + n) q).toInt - y) * ((n - k : Nat) : Int) ≤ T.toInt * ((n - l : Nat) : Int) := by
  have hH : ∀ r q, og_Ho n R O r q → q < n := fun r q h => h.1.2.1
  have e0 : (1000000 : Int32).toInt = 1000000 := by decide
  have hb : ∀ k, k ≤ n → ∀ x, og_wk (og_Ho n R O) (og_us R σ) k p q x → -40 ≤ x ∧ x ≤ 40 := fun k hk x hx => by
    have := og_wk_b5 hR hσ hx; omega
  have hval : ∀ k, k ≤ n → (M.1 (19 + k) q < 1000000 ∧ og_ds (og_Ho n R O) (og_us R σ) p k q (M.1 (19 + k) q).toInt ∧ -40 ≤ (M.1 (19 + k) q).toInt ∧ (M.1 (19 + k) q).toInt ≤ 40) ∨ (¬ M.1 (19 + k) q < 1000000 ∧ ∀ x, ¬ og_wk (og_Ho n R O) (og_us R σ) k p q x) := by
    intro k hk
    rcases hT k hk q hq with ⟨h1, h2⟩ | ⟨h1, h2⟩
    · exact .inr ⟨by rw [h1]; decide, h2⟩
    · have := hb k hk _ h1
      exact .inl ⟨by rw [Int32.lt_iff_toInt_lt, e0]; omega, ⟨h1, h2⟩, this⟩
  have hDn : og_ds (og_Ho n R O) (og_us R σ) p n q (M.1 (19 + n) q).toInt ∧ -40 ≤ (M.1 (19 + n) q).toInt ∧ (M.1 (19 + n) q).toInt ≤ 40 := by
    rcases hval n (Nat.le_refl n) with h | h
    · exact h.2
    · exact absurd hfin h.1
  obtain ⟨z, hz, T, B, rfl, hq2⟩ := om_lp (f := om_E_findLeastLoop_L53_body om_F) (fun i s => ∃ T B, s = (nI n, x5, nI q, T, B, nI i, M) ∧ ((B = 0 ∧ ∀ l, l < i → ∀ x, ¬ og_wk (og_Ho n R O) (og_us R σ) l p q x) ∨ ∃ k, k < i ∧ B = nI (n - k) ∧ og_ds (og_Ho n R O) (og_us R σ) p k q (M.1 (19 + k) q).toInt ∧ T.toInt = (M.1 (19 + n) q).toInt - (M.1 (19 + k) q).toInt ∧ -80 ≤ T.toInt ∧ T.toInt ≤ 80 ∧ ∀ l y, l < i → og_ds (og_Ho n R O) (og_us R σ) p l q y → ((M.1 (19 + n) q).toInt - y) * ((n - k : Nat) : Int) ≤ T.toInt * ((n - l : Nat) : Int))) (fun z => ∃ T B, z = (nI n, x5, nI q, T, B, M) ∧ ((B = 0 ∧ ∀ l, l < n → ∀ x, ¬ og_wk (og_Ho n R O) (og_us R σ) l p q x) ∨ ∃ k, k < n ∧ B = nI (n - k) ∧ og_ds (og_Ho n R O) (og_us R σ) p k q (M.1 (19 + k) q).toInt ∧ T.toInt = (M.1 (19 + n) q).toInt - (M.1 (19 + k) q).toInt ∧ -80 ≤ T.toInt ∧ T.toInt ≤ 80 ∧ ∀ l y, l < n → og_ds (og_Ho n R O) (og_us R σ) p l q y → ((M.1 (19 + n) q).toInt - y) * ((n - k : Nat) : Int) ≤ T.toInt * ((n - l : Nat) : Int))) n (F := om_F) (Nat.lt_of_le_of_lt h8 (by decide)) (s := (nI n, x5, nI q, 0, 0, 0, M)) ⟨0, 0, rfl, .inl ⟨rfl, fun l hl => absurd hl (by omega)⟩⟩ (by
    rintro i s hi ⟨T, B, rfl, g⟩
    have hlt : ¬ nI n ≤ nI i := nI_ge hi (by omega)
    have hin : om_in (nI i) 9 = true := om_in_nI (by omega) (by omega)
    have hcl : (nI i).toNatClampNeg = i := nI_clamp (by omega)
    have hinn : om_in (nI n) 9 = true := om_in_nI (by omega) (by omega)
    have hcln : (nI n).toNatClampNeg = n := nI_clamp (by omega)
    have hclq : (nI q).toNatClampNeg = q := nI_clamp (by omega)
    have r1 := og_row1 (k := i) (by omega) (i := q) (by omega)
    have r2 := og_row1 (k := n) (by omega) (i := q) (by omega)
    have hsub : nI n - nI i = nI (n - i) := pk_sub (by omega)
    simp only [om_E_findLeastLoop_L53_body, om_E_findLeastLoop_b53, om_E_findLeastLoop_b126, om_E_findLeastLoop_b134, hlt, if_false, hin, hcl, hinn, hcln, hclq, r1, r2, cond_true, hsub, og_nI1]
    rcases hval i (by omega) with ⟨v1, v2, v3, v4⟩ | ⟨v1, v2⟩
    · rw [if_pos v1]
      have hT1 : (M.1 (19 + n) q - M.1 (19 + i) q).toInt = (M.1 (19 + n) q).toInt - (M.1 (19 + i) q).toInt := og_sub_toInt (by omega) (by omega) (by omega) (by omega)
      have hTb : -80 ≤ (M.1 (19 + n) q).toInt - (M.1 (19 + i) q).toInt ∧ (M.1 (19 + n) q).toInt - (M.1 (19 + i) q).toInt ≤ 80 := by omega
      have hni : (nI (n - i)).toInt = ((n - i : Nat) : Int) := nI_toInt (by omega)
      rcases g with ⟨rfl, gno⟩ | ⟨k, k1, rfl, k3, k4, k5, k6, k7⟩
      · rw [if_pos rfl]
        refine .inl ⟨_, rfl, _, _, rfl, .inr ⟨i, by omega, rfl, v2, hT1, by rw [hT1]; exact hTb.1, by rw [hT1]; exact hTb.2, fun l y hl hy => ?_⟩⟩
        by_cases hli : l = i
        · subst hli
          rw [og_ds_uniq hy v2, hT1]; exact Int.le_refl _
        · exact absurd hy.1 (gno l (by omega) y)
      · rw [if_neg (nI_ne0 (by omega) (by omega))]
        have hnk : (nI (n - k)).toInt = ((n - k : Nat) : Int) := nI_toInt (by omega)
        have a1 := og_mul_abs hTb (B := 8) (y := ((n - k : Nat) : Int)) ⟨by omega, by omega⟩ (by omega)
        have a2 := og_mul_abs (x := T.toInt) (A := 80) ⟨k5, k6⟩ (B := 8) (y := ((n - i : Nat) : Int)) ⟨by omega, by omega⟩ (by omega)
        have m1 := og_mul_toInt hT1 hnk a1.1 a1.2 (by omega)
        have m2 := og_mul_toInt (rfl : T.toInt = T.toInt) hni a2.1 a2.2 (by omega)
        by_cases hle : (M.1 (19 + n) q - M.1 (19 + i) q) * nI (n - k) ≤ T * nI (n - i)
        · rw [if_pos hle]
          rw [Int32.le_iff_toInt_le, m1, m2] at hle
          refine .inl ⟨_, rfl, _, _, rfl, .inr ⟨k, by omega, rfl, k3, k4, k5, k6, fun l y hl hy => ?_⟩⟩
          by_cases hli : l = i
          · subst hli; rw [og_ds_uniq hy v2]; exact hle
          · exact k7 l y (by omega) hy
        · rw [if_neg hle]
          rw [Int32.le_iff_toInt_le, m1, m2] at hle
          refine .inl ⟨_, rfl, _, _, rfl, .inr ⟨i, by omega, rfl, v2, hT1, by rw [hT1]; exact hTb.1, by rw [hT1]; exact hTb.2, fun l y hl hy => ?_⟩⟩
          rw [hT1]
          by_cases hli : l = i
          · subst hli; rw [og_ds_uniq hy v2]; exact Int.le_refl _
          · have h1 := k7 l y (by omega) hy
            -- (Dn - y)(n-k) <= T (n-l),  T (n-i) < (Dn - Di)(n-k)
            have p1 : (0 : Int) < ((n - k : Nat) : Int) := by omega
            have p2 : (0 : Int) < ((n - i : Nat) : Int) := by omega
            have p3 : (0 : Int) < ((n - l : Nat) : Int) := by omega
            have h2 := Int.mul_le_mul_of_nonneg_right h1 (Int.le_of_lt p2)
            have h3 := Int.mul_le_mul_of_nonneg_right (Int.le_of_lt (Int.not_le.mp hle)) (Int.le_of_lt p3)
            have e1 : ((M.1 (19 + n) q).toInt - y) * ((n - k : Nat) : Int) * ((n - i : Nat) : Int) = ((M.1 (19 + n) q).toInt - y) * ((n - i : Nat) : Int) * ((n - k : Nat) : Int) := Int.mul_right_comm _ _ _
            have e2 : T.toInt * ((n - l : Nat) : Int) * ((n - i : Nat) : Int) = T.toInt * ((n - i : Nat) : Int) * ((n - l : Nat) : Int) := Int.mul_right_comm _ _ _
            have e3 : ((M.1 (19 + n) q).toInt - (M.1 (19 + i) q).toInt) * ((n - k : Nat) : Int) * ((n - l : Nat) : Int) = ((M.1 (19 + n) q).toInt - (M.1 (19 + i) q).toInt) * ((n - l : Nat) : Int) * ((n - k : Nat) : Int) := Int.mul_right_comm _ _ _
            exact Int.le_of_mul_le_mul_right (by omega) p1
    · rw [if_neg v1]
      refine .inl ⟨_, rfl, T, B, rfl, ?_⟩
      rcases g with ⟨g1, gno⟩ | ⟨k, k1, k2, k3, k4, k5, k6, k7⟩
      · refine .inl ⟨g1, fun l hl => ?_⟩
        by_cases hli : l = i
        · subst hli; exact v2
        · exact gno l (by omega)
      · refine .inr ⟨k, by omega, k2, k3, k4, k5, k6, fun l y hl hy => ?_⟩
        by_cases hli : l = i
        · subst hli; exact absurd hy.1 (v2 y)
        · exact k7 l y (by omega) hy) (by
    rintro s ⟨T, B, rfl, g⟩
    exact ⟨_, by simp only [om_E_findLeastLoop_L53_body, om_E_findLeastLoop_b53]; rw [if_pos Int32.le_rfl], T, B, rfl, g⟩)
  refine ⟨T, B, hz, ?_⟩
  rcases hq2 with ⟨-, hno⟩ | h
  · exfalso
    obtain ⟨i, j, t, v, y, z, w, e1, e2, e3, e4, e5, -⟩ := og_wk_cut hH hp hDn.1.1
    exact hno (i + t) (by omega) _ (og_wk_app e3 e5)
  · exact h
/-- the least mean of all loops that can be come to -/
theorem og_findLeastLoop (h8 : n ≤ 8) (hR : og_Rok n R) (hσ : og_sg σ) (hL : og_Ld M n R) {p : Nat} (hp : p < n) (htot : ∀ p, p < n → ∃ q, og_Ho n R (M.1 15) p q) : ∃ M' a b, om_E_findLeastLoop om_F σ (nI p) M = some M' ∧ (∀ c j, (c < 19 ∨ 27 < c) → ¬ (c = 14 ∧ (j = 2 ∨ j = 3)) → M'.1 c j = M.1 c j) ∧ M'.2 = M.2 ∧ (M'.1 14 2).toInt = a ∧ M'.1 14 3 = nI b ∧ 0 < b ∧ b ≤ 8 ∧ -80 ≤ a ∧ a ≤ 80 ∧ og_K1 n (og_Ho n R (M.1 15)) (fun r q => (b : Int) * og_us R σ r q - a) p ∧ og_K2 n (og_Ho n R (M.1 15)) (fun r q => (b : Int) * og_us R σ r q - a) p := by
  have hH : ∀ r q, og_Ho n R (M.1 15) r q → q < n := fun r q h => h.1.2.1
  obtain ⟨M1, a1, a2, a3, a4⟩ := og_walk h8 hR hσ hL hp
  have e70 : M1.1 7 0 = nI n := by rw [a2 7 0 (by omega), hL.1]
  have e0 : (1000000 : Int32).toInt = 1000000 := by decide
  -- what an n-walk to q gives
  obtain ⟨M2, hz, b1, b2, b3⟩ := om_lp (f := om_E_findLeastLoop_L19_body om_F) (fun i s => ∃ c M', s = (nI n, om_bi c, nI i, M') ∧ (∀ d j, ¬ (d = 14 ∧ (j = 2 ∨ j = 3)) → M'.1 d j = M1.1 d j) ∧ M'.2 = M1.2 ∧ (c = false → ∀ q, q < i → ∀ x, ¬ og_wk (og_Ho n R (M.1 15)) (og_us R σ) n p q x) ∧ (c = true → ∃ (a : Int) (b : Nat), (M'.1 14 2).toInt = a ∧ M'.1 14 3 = nI b ∧ 0 < b ∧ b ≤ 8 ∧ -80 ≤ a ∧ a ≤ 80 ∧ (∃ q x, q < i ∧ og_ds (og_Ho n R (M.1 15)) (og_us R σ) p n q x ∧ ∀ l y, l < n → og_ds (og_Ho n R (M.1 15)) (og_us R σ) p l q y → (x - y) * b ≤ a * ((n - l : Nat) : Int)) ∧ (∀ q x, q < i → og_ds (og_Ho n R (M.1 15)) (og_us R σ) p n q x → ∃ k y, k < n ∧ og_ds (og_Ho n R (M.1 15)) (og_us R σ) p k q y ∧ a * ((n - k : Nat) : Int) ≤ (x - y) * b))) (fun M' : om_M => (∀ d j, ¬ (d = 14 ∧ (j = 2 ∨ j = 3)) → M'.1 d j = M1.1 d j) ∧ M'.2 = M1.2 ∧ ∃ (a : Int) (b : Nat), (M'.1 14 2).toInt = a ∧ M'.1 14 3 = nI b ∧ 0 < b ∧ b ≤ 8 ∧ -80 ≤ a ∧ a ≤ 80 ∧ (∃ q x, q < n ∧ og_ds (og_Ho n R (M.1 15)) (og_us R σ) p n q x ∧ ∀ l y, l < n → og_ds (og_Ho n R (M.1 15)) (og_us R σ) p l q y → (x - y) * b ≤ a * ((n - l : Nat) : Int)) ∧ (∀ q x, q < n → og_ds (og_Ho n R (M.1 15)) (og_us R σ) p n q x → ∃ k y, k < n ∧ og_ds (og_Ho n R (M.1 15)) (og_us R σ) p k q y ∧ a * ((n - k : Nat) : Int) ≤ (x - y) * b)) n (F := om_F) (Nat.lt_of_le_of_lt h8 (by decide)) (s := (nI n, 0, 0, M1)) ⟨false, M1, rfl, fun _ _ _ => rfl, rfl, fun _ q hq => absurd hq (by omega), fun h => by cases h⟩ (by
    rintro i s hi ⟨c, M', rfl, g1, g2, g3, g4⟩
    have hlt : ¬ nI n ≤ nI i := nI_ge hi (by omega)
    have hinn : om_in (nI n) 9 = true := om_in_nI (by omega) (by omega)
    have hcln : (nI n).toNatClampNeg = n := nI_clamp (by omega)
    have hcli : (nI i).toNatClampNeg = i := nI_clamp (by omega)
    have r2 := og_row1 (k := n) (by omega) (i := i) (by omega)
    have eT : ∀ k, k ≤ n → ∀ q, q < n → og_mn (og_wk (og_Ho n R (M.1 15)) (og_us R σ) k p q) (M'.1 (19 + k) q) := fun k hk q hq => by
      rw [g1 (19 + k) q (by omega)]; exact a4 k hk q hq
    simp only [om_E_findLeastLoop_L19_body, om_E_findLeastLoop_b19, om_E_findLeastLoop_b170, om_E_findLeastLoop_b182, om_E_findLeastLoop_b185, hlt, if_false, hinn, hcln, hcli, r2, cond_true]
    by_cases hfin : M'.1 (19 + n) i < 1000000
    · rw [if_pos hfin]
      obtain ⟨T, B, c1, k, k1, k2, k3, k4, k5, k6, k7⟩ := og_klow h8 hR hσ hp hi eT hfin (om_bi c)
      rw [c1]
      simp only [Option.bind_some]
      have hBne : ¬ B = 0 := by rw [k2]; exact nI_ne0 (by omega) (by omega)
      rw [if_neg hBne]
      have hDn : og_ds (og_Ho n R (M.1 15)) (og_us R σ) p n i (M'.1 (19 + n) i).toInt := by
        rcases eT n (Nat.le_refl n) i hi with ⟨h1, -⟩ | h
        · rw [h1] at hfin; exact absurd hfin (by decide)
        · exact h
      -- the new fraction is taken
      have take : (∀ a b, c = true → (M'.1 14 2).toInt = a → M'.1 14 3 = nI b → 0 < b → b ≤ 8 → T.toInt * b ≤ a * ((n - k : Nat) : Int)) → ∃ s', some (Sum.inl (β := om_M) (nI n, (1 : Int32), nI i + 1, om_up (om_up M' 14 2 T) 14 3 B)) = some (Sum.inl s') ∧ ∃ c M', s' = (nI n, om_bi c, nI (i + 1), M') ∧ (∀ d j, ¬ (d = 14 ∧ (j = 2 ∨ j = 3)) → M'.1 d j = M1.1 d j) ∧ M'.2 = M1.2 ∧ (c = false → ∀ q, q < i + 1 → ∀ x, ¬ og_wk (og_Ho n R (M.1 15)) (og_us R σ) n p q x) ∧ (c = true → ∃ (a : Int) (b : Nat), (M'.1 14 2).toInt = a ∧ M'.1 14 3 = nI b ∧ 0 < b ∧ b ≤ 8 ∧ -80 ≤ a ∧ a ≤ 80 ∧ (∃ q x, q < i + 1 ∧ og_ds (og_Ho n R (M.1 15)) (og_us R σ) p n q x ∧ ∀ l y, l < n → og_ds (og_Ho n R (M.1 15)) (og_us R σ) p l q y → (x - y) * b ≤ a * ((n - l : Nat) : Int)) ∧ (∀ q x, q < i + 1 → og_ds (og_Ho n R (M.1 15)) (og_us R σ) p n q x → ∃ k y, k < n ∧ og_ds (og_Ho n R (M.1 15)) (og_us R σ) p k q y ∧ a * ((n - k : Nat) : Int) ≤ (x - y) * b)) := by
        intro hcmp
        refine ⟨_, rfl, true, om_up (om_up M' 14 2 T) 14 3 B, by rw [og_nI1]; rfl, fun d j hd => ?_, g2, fun h => (by cases h), fun _ => ⟨T.toInt, n - k, by simp [om_up_at], by simp [om_up_at, k2], by omega, by omega, k5, k6, ⟨i, _, by omega, hDn, k7⟩, fun q x hq hx => ?_⟩⟩
        · have : (om_up (om_up M' 14 2 T) 14 3 B).1 d j = M'.1 d j := by
            simp only [om_up_at]
            by_cases h14 : d = 14
            · rw [if_pos h14, if_neg (by omega), if_pos h14, if_neg (by omega)]
            · rw [if_neg h14, if_neg h14]
          rw [this]; exact g1 d j hd
        · by_cases hqi : q = i
          · subst hqi
            rw [og_ds_uniq hx hDn]
            exact ⟨k, _, k1, k3, by rw [k4]; exact Int.le_refl _⟩
          · cases c with
            | false => exact absurd hx.1 (g3 rfl q (by omega) x)
            | true =>
              obtain ⟨a, b, f1, f2, f3, f4, f5, f6, f7, f8⟩ := g4 rfl
              obtain ⟨k', y, h1, h2, h3⟩ := f8 q x (by omega) hx
              have h4 := hcmp a b rfl f1 f2 f3 f4
              refine ⟨k', y, h1, h2, ?_⟩
              have p1 : (0 : Int) < (b : Int) := by omega
              have p2 : (0 : Int) ≤ ((n - k' : Nat) : Int) := by omega
              have p3 : (0 : Int) ≤ ((n - k : Nat) : Int) := by omega
              have q1 := Int.mul_le_mul_of_nonneg_right h4 p2
              have q2 := Int.mul_le_mul_of_nonneg_right h3 p3
              have e1 : T.toInt * (b : Int) * ((n - k' : Nat) : Int) = T.toInt * ((n - k' : Nat) : Int) * (b : Int) := Int.mul_right_comm _ _ _
              have e2 : a * ((n - k : Nat) : Int) * ((n - k' : Nat) : Int) = a * ((n - k' : Nat) : Int) * ((n - k : Nat) : Int) := Int.mul_right_comm _ _ _
              have e3 : (x - y) * (b : Int) * ((n - k : Nat) : Int) = (x - y) * ((n - k : Nat) : Int) * (b : Int) := Int.mul_right_comm _ _ _
              exact Int.le_of_mul_le_mul_right (by omega) p1
      cases c with
      | false =>
        rw [if_pos (show om_bi false = 0 from rfl)]
        exact .inl (take (fun _ _ h => by cases h))
      | true =>
        rw [if_neg (show ¬ om_bi true = 0 by decide)]
        obtain ⟨a, b, f1, f2, f3, f4, f5, f6, f7, f8⟩ := g4 rfl
        have hnk : (nI (n - k)).toInt = ((n - k : Nat) : Int) := nI_toInt (by omega)
        have hnb : (nI b).toInt = (b : Int) := nI_toInt (by omega)
        have u1 := og_mul_abs (x := a) (A := 80) ⟨f5, f6⟩ (B := 8) (y := ((n - k : Nat) : Int)) ⟨by omega, by omega⟩ (by omega)
        have u2 := og_mul_abs (x := T.toInt) (A := 80) ⟨k5, k6⟩ (B := 8) (y := (b : Int)) ⟨by omega, by omega⟩ (by omega)
        have m1 : (M'.1 14 2 * B).toInt = a * ((n - k : Nat) : Int) := by rw [k2]; exact og_mul_toInt f1 hnk u1.1 u1.2 (by omega)
        have m2 : (T * M'.1 14 3).toInt = T.toInt * b := by rw [f2]; exact og_mul_toInt rfl hnb u2.1 u2.2 (by omega)
        by_cases hle : M'.1 14 2 * B ≤ T * M'.1 14 3
        · rw [if_pos hle]
          rw [Int32.le_iff_toInt_le, m1, m2] at hle
          refine .inl ⟨_, rfl, true, M', by rw [og_nI1]; rfl, g1, g2, fun h => (by cases h), fun _ => ⟨a, b, f1, f2, f3, f4, f5, f6, ?_, fun q x hq hx => ?_⟩⟩
          · obtain ⟨q, x, h1, h2⟩ := f7; exact ⟨q, x, by omega, h2⟩
          · by_cases hqi : q = i
            · subst hqi
              rw [og_ds_uniq hx hDn]
              exact ⟨k, _, k1, k3, by rw [← k4]; exact hle⟩
            · exact f8 q x (by omega) hx
        · rw [if_neg hle]
          rw [Int32.le_iff_toInt_le, m1, m2] at hle
          refine .inl (take (fun a' b' _ h1 h2 h3 h4 => ?_))
          have : b' = b := (nI_eq (by omega) (by omega)).mp (h2.symm.trans f2)
          subst this
          rw [← h1, f1]; omega
    · rw [if_neg hfin]
      have hno : ∀ x, ¬ og_wk (og_Ho n R (M.1 15)) (og_us R σ) n p i x := by
        rcases eT n (Nat.le_refl n) i hi with ⟨-, h⟩ | ⟨h1, -⟩
        · exact h
        · have := og_wk_b5 hR hσ h1
          exact absurd (by rw [Int32.lt_iff_toInt_lt, e0]; omega) hfin
      refine .inl ⟨_, rfl, c, M', by rw [og_nI1], g1, g2, fun h q hq => ?_, fun h => ?_⟩
      · by_cases hqi : q = i
        · subst hqi; exact hno
        · exact g3 h q (by omega)
      · obtain ⟨a, b, f1, f2, f3, f4, f5, f6, ⟨q, x, h1, h2⟩, f8⟩ := g4 h
        refine ⟨a, b, f1, f2, f3, f4, f5, f6, ⟨q, x, by omega, h2⟩, fun q x hq hx => ?_⟩
        by_cases hqi : q = i
        · subst hqi; exact absurd hx.1 (hno x)
        · exact f8 q x (by omega) hx) (by
    rintro s ⟨c, M', rfl, g1, g2, g3, g4⟩
    refine ⟨_, by simp only [om_E_findLeastLoop_L19_body, om_E_findLeastLoop_b19]; rw [if_pos Int32.le_rfl], g1, g2, ?_⟩
    cases c with
    | true => exact g4 rfl
    | false =>
      exfalso
      -- some walk over n moves there is
      have : ∀ k, ∃ q x, q < n ∧ og_wk (og_Ho n R (M.1 15)) (og_us R σ) k p q x := by
        intro k
        induction k with
        | zero => exact ⟨p, 0, hp, rfl, rfl⟩
        | succ k ih =>
          obtain ⟨q, x, hq, hw⟩ := ih
          obtain ⟨r, hr⟩ := htot q hq
          exact ⟨r, _, hH q r hr, q, x, hw, hr, rfl⟩
      obtain ⟨q, x, hq, hw⟩ := this n
      exact g3 rfl q hq x hw)
  obtain ⟨a, b, f1, f2, f3, f4, f5, f6, ⟨q, x, hq, h1, h2⟩, f8⟩ := b3
  have hbp : (0 : Int) < (b : Int) := by omega
  refine ⟨M2, a, b, ?_, fun c j h1 h2 => by rw [b1 c j h2, a2 c j h1], b2.trans a3, f1, f2, f3, f4, f5, f6, fun q' x' hx' => ?_, q, _, og_ds_lin hbp h1, fun k y hk hy => ?_⟩
  · unfold om_E_findLeastLoop om_E_findLeastLoop_b0 om_E_findLeastLoop_L19
    rw [a1]
    simp only [Option.bind_some, e70]
    have : om_it (om_E_findLeastLoop_L19_body om_F) om_F (nI n, 0, 0, M1) = some M2 := hz
    rw [this]; rfl
  · obtain ⟨x0, g1, g2⟩ := og_wk_unlin hx'.1
    obtain ⟨d, hd⟩ := og_ds_ex hH hp ⟨_, g1⟩
    obtain ⟨k, y, k1, k2, k3⟩ := f8 q' d (og_wk_lt hH hp g1) hd
    refine ⟨k, _, k1, og_ds_lin hbp k2, ?_⟩
    have hle := hd.2 _ g1
    have h4 := Int.mul_le_mul_of_nonneg_left hle (Int.le_of_lt hbp)
    rw [g2]
    have e1 : ((n - k : Nat) : Int) = (n : Int) - k := by omega
    rw [e1, Int.mul_sub, Int.sub_mul, Int.mul_comm d, Int.mul_comm y] at k3
    omega
  · obtain ⟨y0, g1, g2⟩ := og_wk_unlin hy.1
    obtain ⟨d, hd⟩ := og_ds_ex hH hp ⟨_, g1⟩
    have h3 := h2 k d hk hd
    have hle := hd.2 _ g1
    have h4 := Int.mul_le_mul_of_nonneg_left hle (Int.le_of_lt hbp)
    rw [g2]
    have e1 : ((n - k : Nat) : Int) = (n : Int) - k := by omega
    rw [e1, Int.mul_sub, Int.sub_mul, Int.mul_comm x, Int.mul_comm d] at h3
    omega
end FL
