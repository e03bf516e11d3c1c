/-! ===== what both sides hold between calls ===== -/
def om_Bn (M : om_M) (n m : Nat) : Prop := n ≤ 8 ∧ m ≤ 20 ∧ M.1 1 0 = nI n ∧ M.1 1 1 = nI m ∧ M.1 46 2 = nI n ∧ M.1 46 6 = nI m
def om_Bp (M : om_M) (n : Nat) : Prop := (∀ i, n ≤ i → om_b (M.1 1 2) i = false) ∧ ∀ p, p < n → (M.1 47 p = if om_b (M.1 1 2) p = true then 0 else 1) ∧ M.1 48 p = M.1 2 p ∧ (∃ v, v < 8 ∧ M.1 2 p = nI v)
def om_Bt (M : om_M) (n m : Nat) : Prop := ∀ p, p < n → M.1 52 p = M.1 3 p ∧ (M.1 3 p = -1 ∨ ∃ k, k < m ∧ M.1 3 p = nI k ∧ M.1 4 k = nI p)
def om_Ba (M : om_M) (n m : Nat) : Prop := (∀ k, k < m → M.1 49 k = M.1 4 k ∧ M.1 50 k = M.1 5 k ∧ M.1 51 k = M.1 6 k ∧ (∃ a, a < n ∧ M.1 4 k = nI a) ∧ (∃ b, b < n ∧ M.1 5 k = nI b) ∧ -5 ≤ (M.1 6 k).toInt ∧ (M.1 6 k).toInt ≤ 5) ∧ (∀ k l, k < m → l < m → M.1 4 k = M.1 4 l → M.1 5 k = M.1 5 l → k = l)
def om_Bd (M : om_M) (n m : Nat) : Prop := om_Bn M n m ∧ om_Bp M n ∧ om_Bt M n m ∧ om_Ba M n m
def om_Tx (M : om_M) (L : Nat) : Prop := L ≤ 120 ∧ M.1 28 0 = nI L ∧ M.1 46 9 = nI L ∧ ∀ i, i < L → M.1 53 i = M.1 29 i ∧ ∃ c, c < 256 ∧ M.1 29 i = nI c
/-- a unit of the question at q against the row i of the model's -/
def om_Qu (M : om_M) (n q u i : Nat) : Prop := (∃ p, (p < n ∧ u < 10) ∧ M.1 (q + 4) u = nI p ∧ M.1 57 i = nI p) ∧
  ((∃ k, k < 3 ∧ M.1 (q + 1) u = nI (11 + k) ∧ M.1 54 i = nI k ∧ (∃ pl, pl < 2 ∧ M.1 (q + 2) u = nI pl ∧ M.1 55 i = nI pl) ∧ M.1 56 i = M.1 (q + 3) u ∧ ∀ j, n ≤ j → om_b (M.1 (q + 3) u) j = false) ∨
   (M.1 (q + 1) u = 14 ∧ M.1 54 i = 3) ∨
   (∃ c, c < 100 ∧ M.1 (q + 5) u = nI c ∧ M.1 56 i = nI c ∧ ((M.1 (q + 1) u = 16 ∧ M.1 54 i = 4) ∨ (M.1 (q + 1) u = 17 ∧ M.1 54 i = 5))))
/-- one row of the codes: how many units were ahead (c), how many answers wait (d) -/
def om_Qc (M : om_M) (n q b i c d c' d' : Nat) : Prop := d ≤ 60 ∧
  ((M.1 (q + 6) i = nI c ∧ om_Qu M n q c (b + i) ∧ c' = c + 1 ∧ d' = d + 1) ∨
   (M.1 (q + 6) i = -1 ∧ M.1 54 (b + i) = 6 ∧ 1 ≤ d ∧ c' = c ∧ d' = d) ∨
   (M.1 (q + 6) i = -2 ∧ M.1 54 (b + i) = 7 ∧ 2 ≤ d ∧ c' = c ∧ d' + 1 = d) ∨
   (M.1 (q + 6) i = -3 ∧ M.1 54 (b + i) = 8 ∧ 2 ≤ d ∧ c' = c ∧ d' + 1 = d))
def om_Qr (M : om_M) (n q b s : Nat) (c d : Nat → Nat) : Prop := c 0 = 0 ∧ d 0 = 0 ∧ ∀ i, i < s → om_Qc M n q b i (c i) (d i) (c (i + 1)) (d (i + 1))
def om_Qq (M : om_M) (n : Nat) : Prop := ∃ qa qd s c d, ((qa = 30 ∧ qd = 38) ∨ (qa = 38 ∧ qd = 30)) ∧ M.2 0 5 = some qa ∧ M.2 0 6 = some qd ∧ s ≤ 120 ∧ M.1 qa 6 = nI s ∧ M.1 46 15 = nI s ∧ om_Qr M n qa 120 s c d ∧ M.1 qa 0 = nI (c s) ∧ (s = 0 ∨ d s = 1)
def om_Al (M : om_M) : Prop := (∀ j, j < 8 → M.1 59 j = -1) ∧ M.1 46 18 = -1
def om_Inv (M : om_M) : Prop := ∃ n m L, om_Bd M n m ∧ om_Tx M L ∧ om_Qq M n ∧ om_Al M
/-- what a question that changes nothing may write into -/
def om_sc (a j : Nat) : Bool := (Nat.ble 7 a && Nat.ble a 27) || ((Nat.beq a 28 && !(Nat.beq j 0)) || ((Nat.beq a 46 && !(Nat.beq j 2 || (Nat.beq j 6 || (Nat.beq j 9 || Nat.beq j 15)))) || ((Nat.ble 54 a && (Nat.ble a 57 && Nat.blt j 120)) || (Nat.ble 58 a && Nat.ble a 68))))
theorem om_sc_k {a i : Nat} (h1 : 54 ≤ a) (h2 : a ≤ 57) : om_sc a (120 + i) = false := by
  have : a = 54 ∨ a = 55 ∨ a = 56 ∨ a = 57 := by omega
  have h : Nat.blt (120 + i) 120 = false := by
    cases hh : Nat.blt (120 + i) 120 with
    | false => rfl
    | true => exact absurd (Nat.le_of_ble_eq_true hh) (by omega)
  rcases this with rfl | rfl | rfl | rfl <;> (unfold om_sc; rw [h]; rfl)
theorem om_Bd_fr {M M' : om_M} {n m : Nat} (h : om_Bd M n m) (hf : om_fr om_sc M M') : om_Bd M' n m := by
  obtain ⟨⟨h1, h2, h3, h4, h5, h6⟩, ⟨ho, hp⟩, ht, ha, hd⟩ := h
  have e : ∀ a j, om_sc a j = false → M'.1 a j = M.1 a j := hf.1
  refine ⟨⟨h1, h2, by rw [e 1 0 rfl, h3], by rw [e 1 1 rfl, h4], by rw [e 46 2 rfl, h5], by rw [e 46 6 rfl, h6]⟩, ⟨by rw [e 1 2 rfl]; exact ho, fun p hp1 => ?_⟩, fun p hp1 => ?_, fun k hk => ?_, fun k l hk hl => ?_⟩
  · rw [e 47 p rfl, e 1 2 rfl, e 48 p rfl, e 2 p rfl]; exact hp p hp1
  · rw [e 52 p rfl, e 3 p rfl]
    refine ⟨(ht p hp1).1, ?_⟩
    rcases (ht p hp1).2 with h | ⟨k, hk, h7, h8⟩
    · exact .inl h
    · exact .inr ⟨k, hk, h7, by rw [e 4 k rfl, h8]⟩
  · rw [e 49 k rfl, e 50 k rfl, e 51 k rfl, e 4 k rfl, e 5 k rfl, e 6 k rfl]; exact ha k hk
  · rw [e 4 k rfl, e 5 k rfl, e 4 l rfl, e 5 l rfl]; exact hd k l hk hl
theorem om_Tx_fr {M M' : om_M} {L : Nat} (h : om_Tx M L) (hf : om_fr om_sc M M') : om_Tx M' L := by
  obtain ⟨h1, h2, h3, h4⟩ := h
  have e : ∀ a j, om_sc a j = false → M'.1 a j = M.1 a j := hf.1
  refine ⟨h1, by rw [e 28 0 rfl, h2], by rw [e 46 9 rfl, h3], fun i hi => ?_⟩
  rw [e 53 i rfl, e 29 i rfl]; exact h4 i hi
theorem om_Qc_eq {M M' : om_M} {n q b i c d c' d' : Nat} (h : om_Qc M n q b i c d c' d') (h1 : ∀ k j, 1 ≤ k → k ≤ 6 → M'.1 (q + k) j = M.1 (q + k) j) (h2 : ∀ a, 54 ≤ a → a ≤ 57 → M'.1 a (b + i) = M.1 a (b + i)) : om_Qc M' n q b i c d c' d' := by
  unfold om_Qc om_Qu at h ⊢
  rw [h1 6 i (by omega) (by omega), h1 1 c (by omega) (by omega), h1 2 c (by omega) (by omega), h1 3 c (by omega) (by omega), h1 4 c (by omega) (by omega), h1 5 c (by omega) (by omega), h2 54 (by omega) (by omega), h2 55 (by omega) (by omega), h2 56 (by omega) (by omega), h2 57 (by omega) (by omega)]
  exact h
theorem om_Qq_fr0 {M M' : om_M} {n : Nat} (h : om_Qq M n) (e : ∀ a j, 30 ≤ a → a ≤ 45 → M'.1 a j = M.1 a j) (e15 : M'.1 46 15 = M.1 46 15) (ek : ∀ a i, 54 ≤ a → a ≤ 57 → M'.1 a (120 + i) = M.1 a (120 + i)) (e2 : M'.2 = M.2) : om_Qq M' n := by
  obtain ⟨qa, qd, s, c, d, hq, h1, h2, h3, h4, h5, ⟨h6, h7, h8⟩, h9, h10⟩ := h
  have hq' : 30 ≤ qa ∧ qa ≤ 38 := by omega
  refine ⟨qa, qd, s, c, d, hq, by rw [e2, h1], by rw [e2, h2], h3, by rw [e _ _ (by omega) (by omega), h4], by rw [e15, h5], ⟨h6, h7, fun i hi => ?_⟩, by rw [e _ _ (by omega) (by omega), h9], h10⟩
  exact om_Qc_eq (h8 i hi) (fun k j h1 h2 => e _ _ (by omega) (by omega)) (fun a h1 h2 => ek a i h1 h2)
theorem om_Qq_fr {M M' : om_M} {n : Nat} (h : om_Qq M n) (hf : om_fr om_sc M M') : om_Qq M' n := by
  refine om_Qq_fr0 h (fun a j h1 h2 => hf.1 a j ?_) (hf.1 46 15 rfl) (fun a i h1 h2 => hf.1 a _ (om_sc_k h1 h2)) hf.2
  have : a = 30 ∨ a = 31 ∨ a = 32 ∨ a = 33 ∨ a = 34 ∨ a = 35 ∨ a = 36 ∨ a = 37 ∨ a = 38 ∨ a = 39 ∨ a = 40 ∨ a = 41 ∨ a = 42 ∨ a = 43 ∨ a = 44 ∨ a = 45 := by omega
  rcases this with rfl | rfl | rfl | rfl | rfl | rfl | rfl | rfl | rfl | rfl | rfl | rfl | rfl | rfl | rfl | rfl <;> rfl
theorem om_Inv_fr {M M' : om_M} {n m L : Nat} (h1 : om_Bd M n m) (h2 : om_Tx M L) (h3 : om_Qq M n) (hf : om_fr om_sc M M') (hA : om_Al M') : om_Inv M' :=
  ⟨n, m, L, om_Bd_fr h1 hf, om_Tx_fr h2 hf, om_Qq_fr h3 hf, hA⟩
/-! ===== the tests of what a call is given ===== -/
def om_bi (c : Bool) : Int32 := bif c then 1 else 0
theorem om_nr_bi (c : Bool) : om_nr 1 (om_bi c) = true := by cases c <;> rfl
theorem om_bi0 {c : Bool} : om_bi c = 0 ↔ c = false := by cases c <;> decide
def om_pl (x : Int32) : Bool := decide (x = 0) || decide (x = 1)
def om_rg (a b x : Int32) : Bool := decide (a ≤ x) && decide (x ≤ b)
def om_pp (n : Nat) (x : Int32) : Bool := decide (0 ≤ x) && decide (x < nI n)
theorem om_pp_of {n : Nat} {x : Int32} (hn : n < 2 ^ 31) (h : om_pp n x = true) : ∃ p, p < n ∧ x = nI p := by
  simp only [om_pp, Bool.and_eq_true, decide_eq_true_eq] at h
  obtain ⟨h1, h2⟩ := h
  obtain ⟨p, hp, rfl⟩ := nI_of (x := x) (by rw [Int32.not_lt]; exact h1)
  exact ⟨p, (nI_ltI hp hn).mp h2, rfl⟩
theorem om_pp_nI {n p : Nat} (hn : n < 2 ^ 31) (h : p < n) : om_pp n (nI p) = true := by
  simp only [om_pp, Bool.and_eq_true, decide_eq_true_eq]
  exact ⟨nI_pos' (by omega), nI_lt h hn⟩
theorem om_pl_of {x : Int32} (h : om_pl x = true) : ∃ p, p < 2 ∧ x = nI p := by
  simp only [om_pl, Bool.or_eq_true, decide_eq_true_eq] at h
  rcases h with rfl | rfl
  · exact ⟨0, by omega, rfl⟩
  · exact ⟨1, by omega, rfl⟩
theorem om_C_isPlayer_eq (F : Nat) (x : Int32) (M : om_M) : om_C_isPlayer F x M = some (om_bi (om_pl x), M) := by
  unfold om_C_isPlayer om_C_isPlayer_b0 om_C_isPlayer_b9 om_C_isPlayer_b14 om_pl
  by_cases h : x = 0
  · simp [h, om_nr, om_bi]
  · by_cases h1 : x = 1 <;> simp [h, h1, om_nr, om_bi]
theorem om_C_isPart_eq (F : Nat) (x : Int32) (M : om_M) : om_C_isPart F x M = some (om_bi (om_pl x), M) := by
  unfold om_C_isPart om_C_isPart_b0 om_C_isPart_b9 om_C_isPart_b14 om_pl
  by_cases h : x = 0
  · simp [h, om_nr, om_bi]
  · by_cases h1 : x = 1 <;> simp [h, h1, om_nr, om_bi]
theorem om_C_isNumber_eq (F : Nat) (x : Int32) (M : om_M) : om_C_isNumber F x M = some (om_bi (om_rg 0 7 x), M) := by
  unfold om_C_isNumber om_C_isNumber_b0 om_C_isNumber_b14 om_C_isNumber_b15 om_rg
  by_cases h : x < 0
  · have h2 : ¬ (0 : Int32) ≤ x := by rw [Int32.not_le]; exact h
    simp [h, h2, om_nr, om_bi]
  · have h2 : (0 : Int32) ≤ x := by rw [← Int32.not_lt]; exact h
    by_cases h1 : 7 < x
    · have h3 : ¬ x ≤ 7 := by rw [Int32.not_le]; exact h1
      simp [h, h2, h1, h3, om_nr, om_bi]
    · have h3 : x ≤ 7 := by rw [← Int32.not_lt]; exact h1
      simp [h, h2, h1, h3, om_nr, om_bi]
theorem om_C_isWeight_eq (F : Nat) (x : Int32) (M : om_M) : om_C_isWeight F x M = some (om_bi (om_rg (-5) 5 x), M) := by
  unfold om_C_isWeight om_C_isWeight_b0 om_C_isWeight_b15 om_C_isWeight_b16 om_rg
  by_cases h : x < -5
  · have h2 : ¬ (-5 : Int32) ≤ x := by rw [Int32.not_le]; exact h
    simp [h, h2, om_nr, om_bi]
  · have h2 : (-5 : Int32) ≤ x := by rw [← Int32.not_lt]; exact h
    by_cases h1 : 5 < x
    · have h3 : ¬ x ≤ 5 := by rw [Int32.not_le]; exact h1
      simp [h, h2, h1, h3, om_nr, om_bi]
    · have h3 : x ≤ 5 := by rw [← Int32.not_lt]; exact h1
      simp [h, h2, h1, h3, om_nr, om_bi]
theorem om_C_isPlace_eq (F : Nat) (x : Int32) (M : om_M) {n : Nat} (hn : M.1 1 0 = nI n) : om_C_isPlace F x M = some (om_bi (om_pp n x), M) := by
  unfold om_C_isPlace om_C_isPlace_b0 om_C_isPlace_b19 om_C_isPlace_b20 om_pp
  rw [hn]
  by_cases h : x < 0
  · have h2 : ¬ (0 : Int32) ≤ x := by rw [Int32.not_le]; exact h
    simp [h, h2, om_nr, om_bi]
  · have h2 : (0 : Int32) ≤ x := by rw [← Int32.not_lt]; exact h
    by_cases h1 : nI n ≤ x
    · have h3 : ¬ x < nI n := by rw [Int32.not_lt]; exact h1
      simp [h, h2, h1, h3, om_nr, om_bi]
    · have h3 : x < nI n := by rw [← Int32.not_le]; exact h1
      simp [h, h2, h1, h3, om_nr, om_bi]
theorem om_C_isArrow_eq (F : Nat) (x : Int32) (M : om_M) {n : Nat} (hn : M.1 1 1 = nI n) : om_C_isArrow F x M = some (om_bi (om_pp n x), M) := by
  unfold om_C_isArrow om_C_isArrow_b0 om_C_isArrow_b19 om_C_isArrow_b20 om_pp
  rw [hn]
  by_cases h : x < 0
  · have h2 : ¬ (0 : Int32) ≤ x := by rw [Int32.not_le]; exact h
    simp [h, h2, om_nr, om_bi]
  · have h2 : (0 : Int32) ≤ x := by rw [← Int32.not_lt]; exact h
    by_cases h1 : nI n ≤ x
    · have h3 : ¬ x < nI n := by rw [Int32.not_lt]; exact h1
      simp [h, h2, h1, h3, om_nr, om_bi]
    · have h3 : x < nI n := by rw [← Int32.not_le]; exact h1
      simp [h, h2, h1, h3, om_nr, om_bi]

theorem om_D_in_eq (F : Nat) (x y z : Int64) (M : om_M) : om_D_in F x y z M = some (om_bi (decide (y.toInt ≤ x.toInt) && decide (x.toInt ≤ z.toInt)), M) := by
  unfold om_D_in om_D_in_b0 om_D_in_b17 om_D_in_b18
  by_cases h : x < y
  · have h2 : ¬ y.toInt ≤ x.toInt := by rw [Int64.lt_iff_toInt_lt] at h; omega
    rw [if_pos ((lg_cmp_lt x y).mpr h)]
    simp [h2, om_nr, om_bi]
  · have h2 : y.toInt ≤ x.toInt := by rw [Int64.lt_iff_toInt_lt] at h; omega
    rw [if_neg (fun h3 => h ((lg_cmp_lt x y).mp h3))]
    by_cases h1 : z < x
    · have h3 : ¬ x.toInt ≤ z.toInt := by rw [Int64.lt_iff_toInt_lt] at h1; omega
      rw [if_pos ((lg_cmp_gt x z).mpr h1)]
      simp [h2, h3, om_nr, om_bi]
    · have h3 : x.toInt ≤ z.toInt := by rw [Int64.lt_iff_toInt_lt] at h1; omega
      rw [if_neg (fun h4 => h1 ((lg_cmp_gt x z).mp h4))]
      simp [h2, h3, om_nr, om_bi]
theorem om_D_in_rg (F : Nat) (x a b : Int32) (y z : Int64) (M : om_M) (hy : y.toInt = a.toInt) (hz : z.toInt = b.toInt) : om_D_in F x.toInt64 y z M = some (om_bi (om_rg a b x), M) := by
  rw [om_D_in_eq, hy, hz, Int32.toInt_toInt64]
  unfold om_rg
  rw [show decide (a.toInt ≤ x.toInt) = decide (a ≤ x) from decide_eq_decide.mpr Int32.le_iff_toInt_le.symm, show decide (x.toInt ≤ b.toInt) = decide (x ≤ b) from decide_eq_decide.mpr Int32.le_iff_toInt_le.symm]
theorem om_D_isPlayer_eq (F : Nat) (x : Int32) (M : om_M) : om_D_isPlayer F x M = some (om_bi (om_pl x), M) := by
  unfold om_D_isPlayer om_D_isPlayer_b0
  rw [om_D_in_rg F x 0 1 0 1 M rfl rfl]
  have : om_rg 0 1 x = om_pl x := by
    unfold om_rg om_pl
    apply Bool.eq_iff_iff.mpr
    simp only [Bool.and_eq_true, Bool.or_eq_true, decide_eq_true_eq, Int32.le_iff_toInt_le, ← Int32.toInt_inj]
    have e0 : (0 : Int32).toInt = 0 := by decide
    have e1 : (1 : Int32).toInt = 1 := by decide
    omega
  rw [this]
  simp [om_nr_bi]
theorem om_pp_iff {n : Nat} (hn : n ≤ 20) (x : Int32) : (decide ((0 : Int64).toInt ≤ x.toInt64.toInt) && decide (x.toInt64.toInt ≤ (nI n - 1).toInt64.toInt)) = om_pp n x := by
  have e : (nI n - 1).toInt = (n : Int) - 1 := by
    have : ∀ k : Fin 21, (nI k.val - 1).toInt = (k.val : Int) - 1 := by decide +kernel
    exact this ⟨n, by omega⟩
  rw [Int32.toInt_toInt64, Int32.toInt_toInt64, e]
  unfold om_pp
  apply Bool.eq_iff_iff.mpr
  simp only [Bool.and_eq_true, decide_eq_true_eq, Int32.le_iff_toInt_le, Int32.lt_iff_toInt_lt, nI_toInt (show n < 2 ^ 31 by omega)]
  have e0 : (0 : Int32).toInt = 0 := by decide
  have e1 : (0 : Int64).toInt = 0 := by decide
  omega
theorem om_D_isPlace_eq (F : Nat) (x : Int32) (M : om_M) {n : Nat} (h8 : n ≤ 8) (hn : M.1 46 2 = nI n) : om_D_isPlace F x M = some (om_bi (om_pp n x), M) := by
  unfold om_D_isPlace om_D_isPlace_b0
  rw [om_D_in_eq, hn, om_pp_iff (by omega)]
  simp [om_nr_bi]
theorem om_D_isArrow_eq (F : Nat) (x : Int32) (M : om_M) {n : Nat} (h8 : n ≤ 20) (hn : M.1 46 6 = nI n) : om_D_isArrow F x M = some (om_bi (om_pp n x), M) := by
  unfold om_D_isArrow om_D_isArrow_b0
  rw [om_D_in_eq, hn, om_pp_iff (by omega)]
  simp [om_nr_bi]
/-! ===== sets ===== -/
def og_st (n : Nat) (x : Int32) : Bool := decide (0 ≤ x.toInt) && decide (x.toInt < 2 ^ n)
theorem og_st_of {n : Nat} (hn : n ≤ 8) {x : Int32} (h : og_st n x = true) : ∃ k, k < 2 ^ n ∧ x = nI k := by
  simp only [og_st, Bool.and_eq_true, decide_eq_true_eq] at h
  have h2 : (2 : Nat) ^ n ≤ 2 ^ 8 := Nat.pow_le_pow_right (by omega) hn
  have hk : x.toInt.toNat < 2 ^ n := by
    have h2 : ((2 ^ n : Nat) : Int) = (2 : Int) ^ n := by simp
    omega
  refine ⟨x.toInt.toNat, hk, ?_⟩
  apply Int32.toInt_inj.mp
  rw [nI_toInt (by omega)]
  omega
theorem og_st_b {n : Nat} (hn : n ≤ 8) {x : Int32} (h : og_st n x = true) : ∀ i, n ≤ i → om_b x i = false := by
  obtain ⟨k, hk, rfl⟩ := og_st_of hn h
  intro i hi
  by_cases h32 : i < 32
  · rw [om_b_nI h32]
    exact Nat.testBit_lt_two_pow (Nat.lt_of_lt_of_le hk (Nat.pow_le_pow_right (by omega) hi))
  · exact om_b_ge _ (by omega)
theorem om_C_isSet_eq (F : Nat) (x : Int32) (M : om_M) {n : Nat} (h8 : n ≤ 8) (hn : M.1 1 0 = nI n) : om_C_isSet F x M = some (om_bi (og_st n x), M) := by
  unfold om_C_isSet om_C_isSet_b0 om_C_isSet_b17
  rw [hn]
  have h : x >>> (nI n &&& 31) = 0 ↔ og_st n x = true := by
    rw [← Int32.toInt_inj]
    have e0 : (0 : Int32).toInt = 0 := by decide
    have e : (x >>> (nI n &&& 31)).toInt = x.toInt >>> n := by
      show (x >>> (nI n &&& 31)).toBitVec.toInt = _
      rw [Int32.toBitVec_shiftRight, om_sm' (show n < 32 by omega), BitVec.sshiftRight_eq', BitVec.toInt_sshiftRight]
      have hp : (BitVec.ofNat 32 n).toNat = n := by simp; omega
      rw [hp]; rfl
    rw [e, e0, Int.shiftRight_eq_div_pow]
    simp only [og_st, Bool.and_eq_true, decide_eq_true_eq]
    have h2 : ((2 ^ n : Nat) : Int) = (2 : Int) ^ n := by simp
    have h3 : (0 : Int) < (2 : Int) ^ n := by rw [← h2]; have := Nat.two_pow_pos n; omega
    rw [h2]
    constructor
    · intro h
      have h4 := Int.emod_add_mul_ediv x.toInt (2 ^ n)
      have h5 := Int.emod_nonneg x.toInt (show (2 : Int) ^ n ≠ 0 by omega)
      have h6 := Int.emod_lt_of_pos x.toInt h3
      rw [h] at h4
      omega
    · intro h
      exact Int.ediv_eq_zero_of_lt h.1 h.2
  by_cases h1 : x >>> (nI n &&& 31) = 0
  · rw [if_pos h1, h.mp h1]; rfl
  · rw [if_neg h1]
    have : og_st n x = false := by
      cases hh : og_st n x with
      | false => rfl
      | true => exact absurd (h.mpr hh) h1
    rw [this]; rfl
theorem om_D_isSet_eq (F : Nat) (x : Int32) (M : om_M) {n : Nat} (h8 : n ≤ 8) (hn : M.1 46 2 = nI n) : om_D_isSet F x M = some (om_bi (og_st n x), M) := by
  unfold om_D_isSet om_D_isSet_b0
  rw [om_D_in_eq, hn]
  have e : ((1 : Int32) <<< (nI n &&& 31) - 1).toInt = 2 ^ n - 1 := by
    have : ∀ k : Fin 9, ((1 : Int32) <<< (nI k.val &&& 31) - 1).toInt = 2 ^ k.val - 1 := by decide +kernel
    exact this ⟨n, by omega⟩
  rw [Int32.toInt_toInt64, Int32.toInt_toInt64, e]
  have : (decide ((0 : Int64).toInt ≤ x.toInt) && decide (x.toInt ≤ 2 ^ n - 1)) = og_st n x := by
    unfold og_st
    have e1 : (0 : Int64).toInt = 0 := by decide
    apply Bool.eq_iff_iff.mpr
    simp only [Bool.and_eq_true, decide_eq_true_eq]
    omega
  rw [this]
  simp [om_nr_bi]
theorem og_keep {M M' : om_M} {n L : Nat} (hT : om_Tx M L) (hQ : om_Qq M n) (hA : om_Al M) (e : ∀ a j, (28 ≤ a ∧ a ≤ 45) ∨ 53 ≤ a → M'.1 a j = M.1 a j) (e9 : M'.1 46 9 = M.1 46 9) (e15 : M'.1 46 15 = M.1 46 15) (e18 : M'.1 46 18 = M.1 46 18) (e2 : M'.2 = M.2) : om_Tx M' L ∧ om_Qq M' n ∧ om_Al M' := by
  obtain ⟨h1, h2, h3, h4⟩ := hT
  refine ⟨⟨h1, by rw [e 28 0 (by omega), h2], by rw [e9, h3], fun i hi => ?_⟩, om_Qq_fr0 hQ (fun a j h1 h2 => e a j (by omega)) e15 (fun a i h1 h2 => e a _ (by omega)) e2, fun j hj => ?_, by rw [e18, hA.2]⟩
  · rw [e 53 i (by omega), e 29 i (by omega)]; exact h4 i hi
  · rw [e 59 j (by omega), hA.1 j hj]
