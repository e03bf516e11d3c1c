theorem og_small {v : Int32} {n : Nat} (h : ∀ i, n ≤ i → om_b v i = false) : ∃ c, c < 2 ^ n ∧ v = nI c := by
  refine ⟨v.toBitVec.toNat, ?_, ?_⟩
  · exact Nat.lt_pow_two_of_testBit _ fun i hi => h i hi
  · apply Int32.toBitVec_inj.mp
    show _ = BitVec.ofNat 32 _
    simp
theorem og_byte (y : Int64) : ∃ c, c < 256 ∧ (y &&& 255).toInt32 = nI c := by
  refine og_small (n := 8) fun i hi => ?_
  by_cases h32 : i < 32
  · unfold om_b
    rw [Int64.toBitVec_toInt32, Int64.toBitVec_and]
    have h1 : (255 : Int64).toBitVec = BitVec.ofNat 64 (2 ^ 8 - 1) := by decide
    rw [h1, BitVec.getLsbD_signExtend]
    have h64 : i < 64 := by omega
    have h8 : ¬ i < 8 := by omega
    simp only [h32, h64, if_true, BitVec.getLsbD_and, BitVec.getLsbD_ofNat, Nat.testBit_two_pow_sub_one, h8]
    simp
  · exact om_b_ge _ (by omega)
theorem og_k21 {M : om_M} (h : om_Inv M) : om_ok21 om_Inv M := by
  have hI := h
  obtain ⟨n, m, L, ⟨⟨h8, h20, e10, e11, e462, e466⟩, ⟨ho, hp⟩, ht, ⟨ha, hd⟩⟩, ⟨hL, hL1, hL2, hL3⟩, hQ, hA⟩ := h
  intro x0 x1
  show om_ok om_Inv _ _ M
  have cD := om_D_in_rg om_F x1 1 8 1 8 M rfl rfl
  cases hr : om_rg 1 8 x1 with
  | false =>
    refine ⟨-3, M, M, ?_, by simp [om_D_write, om_D_write_b0, cD, hr, om_bi], hI⟩
    show om_C_write om_F x0 x1 M = _
    simp only [om_rg, Bool.and_eq_false_iff, decide_eq_false_iff_not, Int32.not_le] at hr
    unfold om_C_write om_C_write_b0 om_C_write_b11
    by_cases h1 : x1 < 1
    · rw [if_pos h1]
    · rw [if_neg h1, if_neg (by rw [Int32.not_le]; exact hr.resolve_left h1)]
  | true =>
  have hr' := hr
  simp only [om_rg, Bool.and_eq_true, decide_eq_true_eq] at hr'
  obtain ⟨t, ht9, rfl⟩ : ∃ t, t < 2 ^ 31 ∧ x1 = nI t := nI_of (by
    intro h; have h1 := Int32.lt_iff_toInt_lt.mp h; have h2 := Int32.le_iff_toInt_le.mp hr'.1
    have e0 : (0 : Int32).toInt = 0 := by decide
    have e1 : (1 : Int32).toInt = 1 := by decide
    omega)
  have ht8 : t ≤ 8 := (nI_leI ht9 (by omega : 8 < 2 ^ 31)).mp hr'.2
  have h1 : ¬ nI t < 1 := by rw [Int32.not_lt]; exact hr'.1
  by_cases hfit : L + t ≤ 120
  rotate_left
  · have hnf : ¬ nI L + nI t ≤ 120 := by
      rw [nI_add]
      exact fun h => hfit ((nI_leI (by omega) (by omega : 120 < 2 ^ 31)).mp h)
    exact ⟨-5, M, M, by simp [om_C_write, om_C_write_b0, h1, hr'.2, hL1, hnf], by simp [om_D_write, om_D_write_b0, cD, hr, om_bi, hL2, hnf], hI⟩
  have hfit' : nI L + nI t ≤ 120 := by
    rw [nI_add]
    exact (nI_leI (by omega) (by omega : 120 < 2 ^ 31)).mpr hfit
  have hFF : t < om_F := Nat.lt_of_le_of_lt ht8 (by decide)
  obtain ⟨M1, hz1, hM1a, hM1b, hM1c, hM1d⟩ := om_lp (f := om_C_write_L34_body om_F) (fun i s => ∃ M', s = (x0, nI t, nI i, M') ∧ M'.1 28 0 = nI (L + i) ∧ (∀ j, j < i → M'.1 29 (L + j) = ((x0 >>> ((8 * nI j).toInt64 &&& 63)) &&& 255).toInt32) ∧ (∀ a j, ¬ (a = 28 ∧ j = 0) → ¬ (a = 29 ∧ L ≤ j) → M'.1 a j = M.1 a j) ∧ M'.2 = M.2) (fun M' : om_M => M'.1 28 0 = nI (L + t) ∧ (∀ j, j < t → M'.1 29 (L + j) = ((x0 >>> ((8 * nI j).toInt64 &&& 63)) &&& 255).toInt32) ∧ (∀ a j, ¬ (a = 28 ∧ j = 0) → ¬ (a = 29 ∧ L ≤ j) → M'.1 a j = M.1 a j) ∧ M'.2 = M.2) t hFF (s := (x0, nI t, 0, M)) ⟨M, rfl, hL1, fun j hj => absurd hj (by omega), fun _ _ _ _ => rfl, rfl⟩ (by
    rintro i s hi ⟨M', rfl, g1, g2, g3, g4⟩
    have hlt : ¬ nI t ≤ nI i := nI_ge hi (by omega)
    have hin : om_in (nI (L + i)) 120 = true := om_in_nI (by omega) (by omega)
    have hcl : (nI (L + i)).toNatClampNeg = L + i := nI_clamp (by omega)
    have hnf : ¬ (120 : Int32) ≤ nI (L + i) := nI_ge (b := 120) (by omega) (by omega)
    refine .inl ⟨_, by simp only [om_C_write_L34_body, om_C_write_b34, om_R_add, om_R_add_b0, om_R_add_b26, g1, hlt, hnf, hin, hcl, if_false, cond_true, Option.bind_some]; rfl, om_up (om_up M' 28 0 (nI (L + i) + 1)) 29 (L + i) ((x0 >>> ((8 * nI i).toInt64 &&& 63)) &&& 255).toInt32, by rw [og_nI1], ?_, ?_, ?_, g4⟩
    · simp [om_up_at, og_nI1]; rfl
    · intro j hj
      by_cases hji : j = i
      · subst hji; simp [om_up_at]
      · simp only [om_up_at]
        simp [show ¬ j = i by omega, g2 j (by omega)]
    · intro a j q1 q2
      simp only [om_up_at]
      by_cases ha : a = 29
      · subst ha
        simp [show ¬ j = L + i by omega, g3 29 j q1 q2]
      · by_cases ha2 : a = 28
        · subst ha2
          simp [show ¬ j = 0 by omega, g3 28 j q1 q2]
        · simp [ha, ha2, g3 a j q1 q2]) (by
    rintro s ⟨M', rfl, g⟩
    exact ⟨_, by simp only [om_C_write_L34_body, om_C_write_b34]; rw [if_pos Int32.le_rfl], g⟩)
  have hM1L : M1.1 46 9 = nI L := by rw [hM1c 46 9 (by omega) (by omega), hL2]
  obtain ⟨M2, hz2, hM2a, hM2b, hM2c, hM2d⟩ := om_lp (f := om_D_write_L32_body om_F) (fun i s => ∃ M', s = (x0, nI t, nI i, M') ∧ M'.1 46 9 = nI (L + i) ∧ (∀ j, j < i → M'.1 53 (L + j) = ((x0 >>> ((8 * nI j).toInt64 &&& 63)) &&& 255).toInt32) ∧ (∀ a j, ¬ (a = 46 ∧ j = 9) → ¬ (a = 53 ∧ L ≤ j) → M'.1 a j = M1.1 a j) ∧ M'.2 = M1.2) (fun M' : om_M => M'.1 46 9 = nI (L + t) ∧ (∀ j, j < t → M'.1 53 (L + j) = ((x0 >>> ((8 * nI j).toInt64 &&& 63)) &&& 255).toInt32) ∧ (∀ a j, ¬ (a = 46 ∧ j = 9) → ¬ (a = 53 ∧ L ≤ j) → M'.1 a j = M1.1 a j) ∧ M'.2 = M1.2) t hFF (s := (x0, nI t, 0, M1)) ⟨M1, rfl, hM1L, fun j hj => absurd hj (by omega), fun _ _ _ _ => rfl, rfl⟩ (by
    rintro i s hi ⟨M', rfl, g1, g2, g3, g4⟩
    have hlt : ¬ nI t ≤ nI i := nI_ge hi (by omega)
    have hin : om_in (nI (L + i)) 120 = true := om_in_nI (by omega) (by omega)
    have hcl : (nI (L + i)).toNatClampNeg = L + i := nI_clamp (by omega)
    refine .inl ⟨_, by simp only [om_D_write_L32_body, om_D_write_b32, g1, hlt, hin, hcl, if_false, cond_true]; rfl, om_up (om_up M' 53 (L + i) ((x0 >>> ((8 * nI i).toInt64 &&& 63)) &&& 255).toInt32) 46 9 (nI (L + i) + 1), by rw [og_nI1]; simp [om_up_at, g1], ?_, ?_, ?_, g4⟩
    · simp [om_up_at, og_nI1]; rfl
    · intro j hj
      by_cases hji : j = i
      · subst hji; simp [om_up_at]
      · simp only [om_up_at]
        simp [show ¬ j = i by omega, g2 j (by omega)]
    · intro a j q1 q2
      simp only [om_up_at]
      by_cases ha : a = 53
      · subst ha
        simp [show ¬ j = L + i by omega, g3 53 j q1 q2]
      · by_cases ha2 : a = 46
        · subst ha2
          simp [show ¬ j = 9 by omega, g3 46 j q1 q2]
        · simp [ha, ha2, g3 a j q1 q2]) (by
    rintro s ⟨M', rfl, g⟩
    exact ⟨_, by simp only [om_D_write_L32_body, om_D_write_b32]; rw [if_pos Int32.le_rfl], g⟩)
  have e : ∀ a j, ¬ (a = 28 ∧ j = 0) → ¬ (a = 29 ∧ L ≤ j) → ¬ (a = 46 ∧ j = 9) → ¬ (a = 53 ∧ L ≤ j) → M2.1 a j = M.1 a j := fun a j q1 q2 q3 q4 => by rw [hM2c a j q3 q4, hM1c a j q1 q2]
  have e0 : ∀ a j, a < 28 → M2.1 a j = M.1 a j := fun a j h => e a j (by omega) (by omega) (by omega) (by omega)
  have e1 : ∀ a j, 47 ≤ a → a < 53 → M2.1 a j = M.1 a j := fun a j h h2 => e a j (by omega) (by omega) (by omega) (by omega)
  have e2 : ∀ j, j ≠ 9 → M2.1 46 j = M.1 46 j := fun j h => e 46 j (by omega) (by omega) (by omega) (by omega)
  refine ⟨nI (L + t), M1, M2, ?_, ?_, n, m, L + t, ⟨⟨h8, h20, by rw [e0 1 0 (by omega), e10], by rw [e0 1 1 (by omega), e11], by rw [e2 2 (by omega), e462], by rw [e2 6 (by omega), e466]⟩, ⟨fun i hi => by rw [e0 1 2 (by omega)]; exact ho i hi, fun q hq => by rw [e0 1 2 (by omega), e0 2 q (by omega), e1 47 q (by omega) (by omega), e1 48 q (by omega) (by omega)]; exact hp q hq⟩, fun q hq => ?_, fun k hk => by rw [e0 4 k (by omega), e0 5 k (by omega), e0 6 k (by omega), e1 49 k (by omega) (by omega), e1 50 k (by omega) (by omega), e1 51 k (by omega) (by omega)]; exact ha k hk, fun k l => by rw [e0 4 k (by omega), e0 5 k (by omega), e0 4 l (by omega), e0 5 l (by omega)]; exact hd k l⟩, ⟨hfit, ?_, hM2a, fun i hi => ?_⟩, om_Qq_fr0 hQ (fun a j h1 h2 => e a j (by omega) (by omega) (by omega) (by omega)) (e2 15 (by omega)) (fun a i h1 h2 => e a _ (by omega) (by omega) (by omega) (by omega)) (by rw [hM2d, hM1d]), fun j hj => by rw [e 59 j (by omega) (by omega) (by omega) (by omega)]; exact hA.1 j hj, by rw [e2 18 (by omega)]; exact hA.2⟩
  · show om_C_write om_F x0 (nI t) M = _
    unfold om_C_write om_C_write_b0 om_C_write_L34
    rw [if_neg h1, if_pos hr'.2, if_pos (by rw [hL1]; exact hfit'), hz1]
    show some (M1.1 28 0, M1) = _
    rw [hM1a]
  · show om_D_write om_F x0 (nI t) M1 = _
    have cD1 := om_D_in_rg om_F (nI t) 1 8 1 8 M1 rfl rfl
    unfold om_D_write om_D_write_b0 om_D_write_L32
    rw [cD1, hr]
    simp only [Option.bind_some, show ¬ om_bi true = 0 by decide, if_false, hM1L, hfit', if_true]
    show (om_it (om_D_write_L32_body om_F) om_F (x0, nI t, 0, M1)).bind _ = _
    rw [hz2]
    show some (M2.1 46 9, M2) = _
    rw [hM2a]
  · obtain ⟨t1, t2⟩ := ht q hq
    rw [e0 3 q (by omega), e1 52 q (by omega) (by omega)]
    refine ⟨t1, ?_⟩
    rcases t2 with t2 | ⟨k, hk, t3, t4⟩
    · exact .inl t2
    · exact .inr ⟨k, hk, t3, by rw [e0 4 k (by omega)]; exact t4⟩
  · rw [hM2c 28 0 (by omega) (by omega), hM1a]
  · by_cases hiL : i < L
    · rw [e 53 i (by omega) (by omega) (by omega) (by omega), e 29 i (by omega) (by omega) (by omega) (by omega)]
      exact hL3 i hiL
    · obtain ⟨j, hj, rfl⟩ : ∃ j, j < t ∧ i = L + j := ⟨i - L, by omega, by omega⟩
      rw [hM2b j hj, hM2c 29 (L + j) (by omega) (by omega), hM1b j hj]
      exact ⟨rfl, og_byte _⟩

def og_cnt (f : Nat → Bool) : Nat → Nat
  | 0 => 0
  | n + 1 => og_cnt f n + (if f n = true then 1 else 0)
theorem og_cnt_le (f : Nat → Bool) : ∀ n, og_cnt f n ≤ n
  | 0 => Nat.le_refl 0
  | n + 1 => by
    have := og_cnt_le f n
    show og_cnt f n + (if f n = true then 1 else 0) ≤ n + 1
    split <;> omega
theorem og_cnt_ext {f g : Nat → Bool} : ∀ {n : Nat}, (∀ i, i < n → f i = g i) → og_cnt f n = og_cnt g n
  | 0, _ => rfl
  | n + 1, h => by
    show og_cnt f n + (if f n = true then 1 else 0) = og_cnt g n + (if g n = true then 1 else 0)
    rw [og_cnt_ext (n := n) (fun i hi => h i (by omega)), h n (by omega)]
theorem og_cnt_more {f : Nat → Bool} {n : Nat} : ∀ {k : Nat}, (∀ i, n ≤ i → f i = false) → og_cnt f (n + k) = og_cnt f n
  | 0, _ => rfl
  | k + 1, h => by
    show og_cnt f (n + k) + (if f (n + k) = true then 1 else 0) = _
    rw [og_cnt_more (k := k) h, h (n + k) (by omega)]
    simp
def og_bc (x : Int32) : Int32 := match om_J6_bitCount 0 x (fun _ _ => 0, fun _ _ => none) with
  | some q => q.1
  | none => 0
theorem og_bitCount0 (F : Nat) (x : Int32) (M : om_M) : om_J6_bitCount F x M = some (og_bc x, M) := rfl
set_option maxRecDepth 100000 in
theorem og_bc_all : ∀ c : Fin 256, og_bc (nI c.val) = nI (og_cnt (fun i => om_b (nI c.val) i) 8) := by decide +kernel
theorem og_bitCount (F : Nat) {x : Int32} {n : Nat} (hn : n ≤ 8) (h : ∀ i, n ≤ i → om_b x i = false) (M : om_M) : om_J6_bitCount F x M = some (nI (og_cnt (om_b x) n), M) := by
  obtain ⟨c, hc, rfl⟩ := og_small (n := 8) (fun i hi => h i (by omega))
  rw [og_bitCount0, og_bc_all ⟨c, hc⟩]
  have := og_cnt_more (f := om_b (nI c)) (n := n) (k := 8 - n) h
  rw [show n + (8 - n) = 8 by omega] at this
  show some (nI (og_cnt (om_b (nI c)) 8), M) = _
  rw [this]
