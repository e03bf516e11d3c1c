theorem og_told (F : Nat) {n : Nat} (hF : n < F) (h8 : n ≤ 8) {M : om_M} (e : M.1 1 0 = nI n) : om_B_toldPlaces F M = some (nI (og_cnt (fun p => !decide (M.1 3 p = -1)) n), M) := by
  obtain ⟨z, hz, rfl⟩ := om_lp (f := om_B_toldPlaces_L4_body F) (fun i s => s = (nI (og_cnt (fun p => !decide (M.1 3 p = -1)) i), nI i, M)) (fun z => z = (nI (og_cnt (fun p => !decide (M.1 3 p = -1)) n), M)) n hF (s := (0, 0, M)) rfl (by
    rintro i s hi rfl
    have hin : om_in (nI i) 8 = true := om_in_nI (by omega) (by omega)
    have hcl : (nI i).toNatClampNeg = i := nI_clamp (by omega)
    have hlt : ¬ nI n ≤ nI i := nI_ge hi (by omega)
    refine .inl ⟨_, ?_, rfl⟩
    simp only [om_B_toldPlaces_L4_body, om_B_toldPlaces_b4, om_B_toldPlaces_b25, e, hlt, hin, hcl, cond_true, if_false, og_nI1, og_cnt]
    by_cases h : M.1 3 i = -1 <;> simp [h]) (by
    rintro s rfl
    exact ⟨_, by simp only [om_B_toldPlaces_L4_body, om_B_toldPlaces_b4, e]; rw [if_pos Int32.le_rfl], rfl⟩)
  unfold om_B_toldPlaces om_B_toldPlaces_b0 om_B_toldPlaces_L4
  rw [hz]
  rfl
theorem og_count2 (F : Nat) {n : Nat} (hF : n < F) (h8 : n ≤ 8) {M : om_M} (e : M.1 46 2 = nI n) : om_D_count_L52 F (0, 0, M) = some (nI (og_cnt (fun p => decide (M.1 47 p = 0)) n), M) := by
  obtain ⟨z, hz, rfl⟩ := om_lp (f := om_D_count_L52_body F) (fun i s => s = (nI (og_cnt (fun p => decide (M.1 47 p = 0)) i), nI i, M)) (fun z => z = (nI (og_cnt (fun p => decide (M.1 47 p = 0)) n), M)) n hF (s := (0, 0, M)) rfl (by
    rintro i s hi rfl
    have hin : om_in (nI i) 8 = true := om_in_nI (by omega) (by omega)
    have hcl : (nI i).toNatClampNeg = i := nI_clamp (by omega)
    have hlt : ¬ nI n ≤ nI i := nI_ge hi (by omega)
    refine .inl ⟨_, ?_, rfl⟩
    simp only [om_D_count_L52_body, om_D_count_b52, om_D_count_b75, e, hlt, hin, hcl, cond_true, if_false, og_nI1, og_cnt]
    by_cases h : M.1 47 i = 0 <;> simp [h, og_nI1]) (by
    rintro s rfl
    exact ⟨_, by simp only [om_D_count_L52_body, om_D_count_b52, e]; rw [if_pos Int32.le_rfl], rfl⟩)
  exact hz
theorem og_count3 (F : Nat) {n : Nat} (hF : n < F) (h8 : n ≤ 8) {M : om_M} (e : M.1 46 2 = nI n) : om_D_count_L87 F (0, 0, M) = some (nI (og_cnt (fun p => !decide (M.1 52 p = -1)) n), M) := by
  obtain ⟨z, hz, rfl⟩ := om_lp (f := om_D_count_L87_body F) (fun i s => s = (nI (og_cnt (fun p => !decide (M.1 52 p = -1)) i), nI i, M)) (fun z => z = (nI (og_cnt (fun p => !decide (M.1 52 p = -1)) n), M)) n hF (s := (0, 0, M)) rfl (by
    rintro i s hi rfl
    have hin : om_in (nI i) 8 = true := om_in_nI (by omega) (by omega)
    have hcl : (nI i).toNatClampNeg = i := nI_clamp (by omega)
    have hlt : ¬ nI n ≤ nI i := nI_ge hi (by omega)
    refine .inl ⟨_, ?_, rfl⟩
    simp only [om_D_count_L87_body, om_D_count_b87, om_D_count_b111, e, hlt, hin, hcl, cond_true, if_false, og_nI1, og_cnt]
    by_cases h : M.1 52 i = -1 <;> simp [h, og_nI1]) (by
    rintro s rfl
    exact ⟨_, by simp only [om_D_count_L87_body, om_D_count_b87, e]; rw [if_pos Int32.le_rfl], rfl⟩)
  exact hz
theorem og_count5 (F : Nat) {n q s : Nat} {c d : Nat → Nat} (hF : s < F) (hs : s ≤ 120) {M : om_M} (e : M.1 46 15 = nI s) (hr : om_Qr M n q 120 s c d) : om_D_count_L129 F (0, 120, M) = some (nI (c s), M) := by
  obtain ⟨z, hz, rfl⟩ := om_lp (f := om_D_count_L129_body F) (fun i x => x = (nI (c i), nI (120 + i), M)) (fun z => z = (nI (c s), M)) s hF (s := (0, 120, M)) (by rw [hr.1]; rfl) (by
    rintro i x hi rfl
    have hin : om_in (nI (120 + i)) 240 = true := om_in_nI (by omega) (by omega)
    have hcl : (nI (120 + i)).toNatClampNeg = 120 + i := nI_clamp (by omega)
    have hlt : ¬ (120 : Int32) + nI s ≤ nI (120 + i) := by
      show ¬ nI 120 + nI s ≤ _
      rw [nI_add]; exact nI_ge (by omega) (by omega)
    refine .inl ⟨_, ?_, rfl⟩
    simp only [om_D_count_L129_body, om_D_count_b129, om_D_count_b157, e, hlt, hin, hcl, cond_true, if_false, og_nI1]
    obtain ⟨-, h⟩ := hr.2.2 i hi
    rcases h with ⟨-, ⟨-, h⟩, h2, -⟩ | ⟨-, h, -, h2, -⟩ | ⟨-, h, -, h2, -⟩ | ⟨-, h, -, h2, -⟩
    · have h6 : ¬ (6 : Int32) ≤ M.1 54 (120 + i) := by
        rcases h with ⟨k, hk, -, h, -⟩ | ⟨-, h⟩ | ⟨k, -, -, -, ⟨-, h⟩ | ⟨-, h⟩⟩
        · rw [h]; exact nI_ge (b := 6) (by omega) (by omega)
        all_goals rw [h]; decide
      rw [if_neg h6, h2]; rfl
    all_goals
      rw [if_pos (by rw [h]; decide), h2, Int32.add_zero]; rfl) (by
    rintro x rfl
    refine ⟨_, ?_, rfl⟩
    simp only [om_D_count_L129_body, om_D_count_b129, e]
    rw [if_pos (by show nI 120 + nI s ≤ _; rw [nI_add]; exact Int32.le_rfl)])
  exact hz
theorem og_k28 {M : om_M} (h : om_Inv M) : om_ok28 om_Inv M := by
  have hI := h
  obtain ⟨n, m, L, ⟨⟨h8, h20, e10, e11, e462, e466⟩, ⟨ho, hp⟩, ht, ⟨ha, hd⟩⟩, ⟨hL, hL1, hL2, hL3⟩, ⟨qa, qd, s, c, d, hq, q1, q2, q3, q4, q5, q6, q7, q8⟩, hA⟩ := h
  intro x0
  have hF : ∀ k, k ≤ 120 → k < om_F := fun k hk => Nat.lt_of_le_of_lt hk (by decide)
  show om_ok om_Inv _ _ M
  by_cases h0 : x0 = 0
  · subst h0
    exact ⟨nI n, M, M, by simp [om_C_count, om_C_count_b0, e10], by simp [om_D_count, om_D_count_b0, e462], hI⟩
  by_cases h1 : x0 = 1
  · subst h1
    exact ⟨nI m, M, M, by simp [om_C_count, om_C_count_b0, e11], by simp [om_D_count, om_D_count_b0, e466], hI⟩
  by_cases h2 : x0 = 2
  · subst h2
    refine ⟨nI (og_cnt (om_b (M.1 1 2)) n), M, M, by simp [om_C_count, om_C_count_b0, og_bitCount om_F h8 ho], ?_, hI⟩
    have : og_cnt (fun p => decide (M.1 47 p = 0)) n = og_cnt (om_b (M.1 1 2)) n := og_cnt_ext fun p hpn => by
      rw [(hp p hpn).1]
      cases om_b (M.1 1 2) p <;> simp
    simp [om_D_count, om_D_count_b0, og_count2 om_F (hF n (by omega)) h8 e462, this]
  by_cases h3 : x0 = 3
  · subst h3
    refine ⟨_, M, M, by simp [om_C_count, om_C_count_b0, og_told om_F (hF n (by omega)) h8 e10]; exact rfl, ?_, hI⟩
    have : og_cnt (fun p => !decide (M.1 52 p = -1)) n = og_cnt (fun p => !decide (M.1 3 p = -1)) n := og_cnt_ext fun p hpn => by
      rw [(ht p hpn).1]
    simp [om_D_count, om_D_count_b0, og_count3 om_F (hF n (by omega)) h8 e462, this]
  by_cases h4 : x0 = 4
  · subst h4
    exact ⟨nI L, M, M, by simp [om_C_count, om_C_count_b0, hL1], by simp [om_D_count, om_D_count_b0, hL2], hI⟩
  by_cases h5 : x0 = 5
  · subst h5
    refine ⟨nI (c s), M, M, ?_, ?_, hI⟩
    · have hob : om_obj qa 4 = true := by
        rcases hq with ⟨rfl, -⟩ | ⟨rfl, -⟩ <;> decide
      simp [om_C_count, om_C_count_b0, q1, hob, q7]
    · simp [om_D_count, om_D_count_b0, og_count5 om_F (hF s q3) q3 q5 q6]
  · exact ⟨-3, M, M, by simp [om_C_count, om_C_count_b0, h0, h1, h2, h3, h4, h5], by simp [om_D_count, om_D_count_b0, h0, h1, h2, h3, h4, h5], hI⟩
/-! ===== cut ===== -/
theorem og_cutA_C {k m : Nat} (hk : k ≤ m) (hm : m < 20) {M : om_M} (e : M.1 1 1 = nI m) : ∃ M1, om_B_removeArrow_L12 om_F (nI k, nI k, M) = some (nI k, M1) ∧ (∀ b j, (b = 4 ∨ b = 5 ∨ b = 6) → j < m → M1.1 b j = M.1 b (if k ≤ j then j + 1 else j)) ∧ (∀ b j, ¬ (b = 4 ∨ b = 5 ∨ b = 6) → M1.1 b j = M.1 b j) ∧ M1.2 = M.2 := by
  obtain ⟨z, hz, M1, rfl, hq1, hq2, hq3⟩ := om_lp (f := om_B_removeArrow_L12_body om_F) (fun i x => ∃ M', x = (nI k, nI (k + i), M') ∧ (∀ b j, (b = 4 ∨ b = 5 ∨ b = 6) → M'.1 b j = M.1 b (if k ≤ j ∧ j < k + i then j + 1 else j)) ∧ (∀ b j, ¬ (b = 4 ∨ b = 5 ∨ b = 6) → M'.1 b j = M.1 b j) ∧ M'.2 = M.2) (fun z => ∃ M', z = (nI k, M') ∧ (∀ b j, (b = 4 ∨ b = 5 ∨ b = 6) → j < m → M'.1 b j = M.1 b (if k ≤ j then j + 1 else j)) ∧ (∀ b j, ¬ (b = 4 ∨ b = 5 ∨ b = 6) → M'.1 b j = M.1 b j) ∧ M'.2 = M.2) (m - k) (F := om_F) (Nat.lt_of_le_of_lt (show m - k ≤ 20 by omega) (by decide)) (s := (nI k, nI k, M)) ⟨M, rfl, fun b j h => by rw [if_neg (by omega)], fun _ _ _ => rfl, rfl⟩ (by
    rintro i x hi ⟨M', rfl, g1, g2, g3⟩
    have hin : om_in (nI (k + i)) 20 = true := om_in_nI (by omega) (by omega)
    have hcl : (nI (k + i)).toNatClampNeg = k + i := nI_clamp (by omega)
    have hin1 : om_in (nI (k + i + 1)) 20 = true := om_in_nI (by omega) (by omega)
    have hcl1 : (nI (k + i + 1)).toNatClampNeg = k + i + 1 := nI_clamp (by omega)
    have hlt : ¬ nI m ≤ nI (k + i) := nI_ge (by omega) (by omega)
    have em : M'.1 1 1 = nI m := by rw [g2 1 1 (by decide), e]
    refine .inl ⟨_, ?_, om_up (om_up (om_up M' 4 (k + i) (M'.1 4 (k + i + 1))) 5 (k + i) (M'.1 5 (k + i + 1))) 6 (k + i) (M'.1 6 (k + i + 1)), rfl, ?_, ?_, g3⟩
    · simp only [om_B_removeArrow_L12_body, om_B_removeArrow_b12, em, hlt, hin, hcl, hin1, hcl1, cond_true, if_false, og_nI1]
      simp [om_up_at, Nat.add_assoc]
    · intro b j hb
      have h0 := g1 b j hb
      have h1 := g1 b (k + i + 1) hb
      rw [if_neg (by omega)] at h1
      simp only [om_up_at]
      by_cases hj : j = k + i
      · subst hj
        rw [if_pos (show k ≤ k + i ∧ k + i < k + (i + 1) by omega)]
        rcases hb with rfl | rfl | rfl <;> simp [h1]
      · rw [h0.symm.symm] 
        have : (k ≤ j ∧ j < k + (i + 1)) ↔ (k ≤ j ∧ j < k + i) := by omega
        simp only [this]
        rcases hb with rfl | rfl | rfl <;> simp [hj, h0]
    · intro b j hb
      have h1 : b ≠ 4 := fun h => hb (.inl h)
      have h2 : b ≠ 5 := fun h => hb (.inr (.inl h))
      have h3 : b ≠ 6 := fun h => hb (.inr (.inr h))
      simp only [om_up_at]
      simp [h1, h2, h3, g2 b j hb]) (by
    rintro x ⟨M', rfl, g1, g2, g3⟩
    have em : M'.1 1 1 = nI m := by rw [g2 1 1 (by decide), e]
    refine ⟨_, by simp only [om_B_removeArrow_L12_body, om_B_removeArrow_b12, em]; rw [if_pos (by rw [show k + (m - k) = m by omega]; exact Int32.le_rfl)], M', rfl, fun b j hb hj => ?_, g2, g3⟩
    rw [g1 b j hb]
    have : (k ≤ j ∧ j < k + (m - k)) ↔ k ≤ j := by omega
    simp only [this])
  exact ⟨M1, hz, hq1, hq2, hq3⟩
theorem og_cutB_C {k n : Nat} (h8 : n ≤ 8) {M : om_M} (e : M.1 1 0 = nI n) : ∃ M1, om_B_removeArrow_L70 om_F (nI k, 0, M) = some M1 ∧ (∀ j, j < n → M1.1 3 j = if M.1 3 j = nI k then -1 else if M.1 3 j ≤ nI k then M.1 3 j else M.1 3 j - 1) ∧ (∀ b j, b ≠ 3 → M1.1 b j = M.1 b j) ∧ M1.2 = M.2 := by
  obtain ⟨z, hz, hq1, hq2, hq3⟩ := om_lp (f := om_B_removeArrow_L70_body om_F) (fun i x => ∃ M', x = (nI k, nI i, M') ∧ (∀ j, M'.1 3 j = if j < i then (if M.1 3 j = nI k then -1 else if M.1 3 j ≤ nI k then M.1 3 j else M.1 3 j - 1) else M.1 3 j) ∧ (∀ b j, b ≠ 3 → M'.1 b j = M.1 b j) ∧ M'.2 = M.2) (fun M' : om_M => (∀ j, j < n → M'.1 3 j = if M.1 3 j = nI k then -1 else if M.1 3 j ≤ nI k then M.1 3 j else M.1 3 j - 1) ∧ (∀ b j, b ≠ 3 → M'.1 b j = M.1 b j) ∧ M'.2 = M.2) n (F := om_F) (Nat.lt_of_le_of_lt h8 (by decide)) (s := (nI k, 0, M)) ⟨M, rfl, fun j => by rw [if_neg (by omega)], fun _ _ _ => rfl, rfl⟩ (by
    rintro i x hi ⟨M', rfl, g1, g2, g3⟩
    have hin : om_in (nI i) 8 = true := om_in_nI (by omega) (by omega)
    have hcl : (nI i).toNatClampNeg = i := nI_clamp (by omega)
    have hlt : ¬ nI n ≤ nI i := nI_ge hi (by omega)
    have em : M'.1 1 0 = nI n := by rw [g2 1 0 (by decide), e]
    have hw := g1 i
    rw [if_neg (by omega)] at hw
    have key : ∀ v, v = (if M.1 3 i = nI k then -1 else if M.1 3 i ≤ nI k then M.1 3 i else M.1 3 i - 1) → (∀ j, (om_up M' 3 i v).1 3 j = if j < i + 1 then (if M.1 3 j = nI k then -1 else if M.1 3 j ≤ nI k then M.1 3 j else M.1 3 j - 1) else M.1 3 j) ∧ (∀ b j, b ≠ 3 → (om_up M' 3 i v).1 b j = M.1 b j) ∧ (om_up M' 3 i v).2 = M.2 := by
      intro v hv
      refine ⟨fun j => ?_, fun b j hb => ?_, g3⟩
      · simp only [om_up_at]
        by_cases hj : j = i
        · subst hj; simp [hv]
        · have : (j < i + 1) ↔ (j < i) := by omega
          simp only [this]
          simp [hj, g1 j]
      · simp only [om_up_at]
        simp [hb, g2 b j hb]
    have key0 : (if M.1 3 i = nI k then -1 else if M.1 3 i ≤ nI k then M.1 3 i else M.1 3 i - 1) = M.1 3 i → (∀ j, M'.1 3 j = if j < i + 1 then (if M.1 3 j = nI k then -1 else if M.1 3 j ≤ nI k then M.1 3 j else M.1 3 j - 1) else M.1 3 j) ∧ (∀ b j, b ≠ 3 → M'.1 b j = M.1 b j) ∧ M'.2 = M.2 := by
      intro hv
      refine ⟨fun j => ?_, g2, g3⟩
      by_cases hj : j = i
      · subst hj; rw [if_pos (by omega), hv, hw]
      · have : (j < i + 1) ↔ (j < i) := by omega
        simp only [this]
        exact g1 j
    simp only [om_B_removeArrow_L70_body, om_B_removeArrow_b70, om_B_removeArrow_b118, em, hlt, hin, hcl, cond_true, if_false, hw, og_nI1]
    by_cases h1 : M.1 3 i = nI k
    · simp only [h1, if_true]
      exact .inl ⟨_, rfl, _, rfl, key (-1) (by rw [if_pos h1])⟩
    · simp only [h1, if_false]
      by_cases h2 : M.1 3 i ≤ nI k
      · simp only [h2, if_true]
        first
        | exact .inl ⟨_, rfl, _, rfl, key0 (by rw [if_neg h1, if_pos h2])⟩
        | exact .inl ⟨_, rfl, _, rfl, key _ (by rw [if_neg h1, if_pos h2])⟩
      · simp only [h2, if_false]
        exact .inl ⟨_, rfl, _, rfl, key _ (by rw [if_neg h1, if_neg h2])⟩) (by
    rintro x ⟨M', rfl, g1, g2, g3⟩
    have em : M'.1 1 0 = nI n := by rw [g2 1 0 (by decide), e]
    refine ⟨_, by simp only [om_B_removeArrow_L70_body, om_B_removeArrow_b70, em]; rw [if_pos Int32.le_rfl], fun j hj => ?_, g2, g3⟩
    rw [g1 j, if_pos hj])
  exact ⟨z, hz, hq1, hq2, hq3⟩
theorem og_cutA_D {k m : Nat} (hk : k ≤ m) (hm : m < 20) {M : om_M} (e : M.1 46 6 = nI m) : ∃ M1, om_D_cut_L23 om_F (nI k, nI k, M) = some (nI k, M1) ∧ (∀ b j, (b = 49 ∨ b = 50 ∨ b = 51) → j < m → M1.1 b j = M.1 b (if k ≤ j then j + 1 else j)) ∧ (∀ b j, ¬ (b = 49 ∨ b = 50 ∨ b = 51) → M1.1 b j = M.1 b j) ∧ M1.2 = M.2 := by
  obtain ⟨z, hz, M1, rfl, hq1, hq2, hq3⟩ := om_lp (f := om_D_cut_L23_body om_F) (fun i x => ∃ M', x = (nI k, nI (k + i), M') ∧ (∀ b j, (b = 49 ∨ b = 50 ∨ b = 51) → M'.1 b j = M.1 b (if k ≤ j ∧ j < k + i then j + 1 else j)) ∧ (∀ b j, ¬ (b = 49 ∨ b = 50 ∨ b = 51) → M'.1 b j = M.1 b j) ∧ M'.2 = M.2) (fun z => ∃ M', z = (nI k, M') ∧ (∀ b j, (b = 49 ∨ b = 50 ∨ b = 51) → j < m → M'.1 b j = M.1 b (if k ≤ j then j + 1 else j)) ∧ (∀ b j, ¬ (b = 49 ∨ b = 50 ∨ b = 51) → M'.1 b j = M.1 b j) ∧ M'.2 = M.2) (m - k) (F := om_F) (Nat.lt_of_le_of_lt (show m - k ≤ 20 by omega) (by decide)) (s := (nI k, nI k, M)) ⟨M, rfl, fun b j h => by rw [if_neg (by omega)], fun _ _ _ => rfl, rfl⟩ (by
    rintro i x hi ⟨M', rfl, g1, g2, g3⟩
    have hin : om_in (nI (k + i)) 20 = true := om_in_nI (by omega) (by omega)
    have hcl : (nI (k + i)).toNatClampNeg = k + i := nI_clamp (by omega)
    have hin1 : om_in (nI (k + i + 1)) 20 = true := om_in_nI (by omega) (by omega)
    have hcl1 : (nI (k + i + 1)).toNatClampNeg = k + i + 1 := nI_clamp (by omega)
    have hlt : ¬ nI m ≤ nI (k + i) := nI_ge (by omega) (by omega)
    have em : M'.1 46 6 = nI m := by rw [g2 46 6 (by decide), e]
    refine .inl ⟨_, ?_, om_up (om_up (om_up M' 49 (k + i) (M'.1 49 (k + i + 1))) 50 (k + i) (M'.1 50 (k + i + 1))) 51 (k + i) (M'.1 51 (k + i + 1)), rfl, ?_, ?_, g3⟩
    · simp only [om_D_cut_L23_body, om_D_cut_b23, em, hlt, hin, hcl, hin1, hcl1, cond_true, if_false, og_nI1]
      simp [om_up_at, Nat.add_assoc]
    · intro b j hb
      have h0 := g1 b j hb
      have h1 := g1 b (k + i + 1) hb
      rw [if_neg (by omega)] at h1
      simp only [om_up_at]
      by_cases hj : j = k + i
      · subst hj
        rw [if_pos (show k ≤ k + i ∧ k + i < k + (i + 1) by omega)]
        rcases hb with rfl | rfl | rfl <;> simp [h1]
      · rw [h0.symm.symm] 
        have : (k ≤ j ∧ j < k + (i + 1)) ↔ (k ≤ j ∧ j < k + i) := by omega
        simp only [this]
        rcases hb with rfl | rfl | rfl <;> simp [hj, h0]
    · intro b j hb
      have h1 : b ≠ 49 := fun h => hb (.inl h)
      have h2 : b ≠ 50 := fun h => hb (.inr (.inl h))
      have h3 : b ≠ 51 := fun h => hb (.inr (.inr h))
      simp only [om_up_at]
      simp [h1, h2, h3, g2 b j hb]) (by
    rintro x ⟨M', rfl, g1, g2, g3⟩
    have em : M'.1 46 6 = nI m := by rw [g2 46 6 (by decide), e]
    refine ⟨_, by simp only [om_D_cut_L23_body, om_D_cut_b23, em]; rw [if_pos (by rw [show k + (m - k) = m by omega]; exact Int32.le_rfl)], M', rfl, fun b j hb hj => ?_, g2, g3⟩
    rw [g1 b j hb]
    have : (k ≤ j ∧ j < k + (m - k)) ↔ k ≤ j := by omega
    simp only [this])
  exact ⟨M1, hz, hq1, hq2, hq3⟩
theorem og_cutB_D {k n : Nat} (h8 : n ≤ 8) {M : om_M} (e : M.1 46 2 = nI n) : ∃ M1, om_D_cut_L81 om_F (nI k, 0, M) = some M1 ∧ (∀ j, j < n → M1.1 52 j = if M.1 52 j = nI k then -1 else if M.1 52 j ≤ nI k then M.1 52 j else M.1 52 j - 1) ∧ (∀ b j, b ≠ 52 → M1.1 b j = M.1 b j) ∧ M1.2 = M.2 := by
  obtain ⟨z, hz, hq1, hq2, hq3⟩ := om_lp (f := om_D_cut_L81_body om_F) (fun i x => ∃ M', x = (nI k, nI i, M') ∧ (∀ j, M'.1 52 j = if j < i then (if M.1 52 j = nI k then -1 else if M.1 52 j ≤ nI k then M.1 52 j else M.1 52 j - 1) else M.1 52 j) ∧ (∀ b j, b ≠ 52 → M'.1 b j = M.1 b j) ∧ M'.2 = M.2) (fun M' : om_M => (∀ j, j < n → M'.1 52 j = if M.1 52 j = nI k then -1 else if M.1 52 j ≤ nI k then M.1 52 j else M.1 52 j - 1) ∧ (∀ b j, b ≠ 52 → M'.1 b j = M.1 b j) ∧ M'.2 = M.2) n (F := om_F) (Nat.lt_of_le_of_lt h8 (by decide)) (s := (nI k, 0, M)) ⟨M, rfl, fun j => by rw [if_neg (by omega)], fun _ _ _ => rfl, rfl⟩ (by
    rintro i x hi ⟨M', rfl, g1, g2, g3⟩
    have hin : om_in (nI i) 8 = true := om_in_nI (by omega) (by omega)
    have hcl : (nI i).toNatClampNeg = i := nI_clamp (by omega)
    have hlt : ¬ nI n ≤ nI i := nI_ge hi (by omega)
    have em : M'.1 46 2 = nI n := by rw [g2 46 2 (by decide), e]
    have hw := g1 i
    rw [if_neg (by omega)] at hw
    have key : ∀ v, v = (if M.1 52 i = nI k then -1 else if M.1 52 i ≤ nI k then M.1 52 i else M.1 52 i - 1) → (∀ j, (om_up M' 52 i v).1 52 j = if j < i + 1 then (if M.1 52 j = nI k then -1 else if M.1 52 j ≤ nI k then M.1 52 j else M.1 52 j - 1) else M.1 52 j) ∧ (∀ b j, b ≠ 52 → (om_up M' 52 i v).1 b j = M.1 b j) ∧ (om_up M' 52 i v).2 = M.2 := by
      intro v hv
      refine ⟨fun j => ?_, fun b j hb => ?_, g3⟩
      · simp only [om_up_at]
        by_cases hj : j = i
        · subst hj; simp [hv]
        · have : (j < i + 1) ↔ (j < i) := by omega
          simp only [this]
          simp [hj, g1 j]
      · simp only [om_up_at]
        simp [hb, g2 b j hb]
    have key0 : (if M.1 52 i = nI k then -1 else if M.1 52 i ≤ nI k then M.1 52 i else M.1 52 i - 1) = M.1 52 i → (∀ j, M'.1 52 j = if j < i + 1 then (if M.1 52 j = nI k then -1 else if M.1 52 j ≤ nI k then M.1 52 j else M.1 52 j - 1) else M.1 52 j) ∧ (∀ b j, b ≠ 52 → M'.1 b j = M.1 b j) ∧ M'.2 = M.2 := by
      intro hv
      refine ⟨fun j => ?_, g2, g3⟩
      by_cases hj : j = i
      · subst hj; rw [if_pos (by omega), hv, hw]
      · have : (j < i + 1) ↔ (j < i) := by omega
        simp only [this]
        exact g1 j
    simp only [om_D_cut_L81_body, om_D_cut_b81, om_D_cut_b135, em, hlt, hin, hcl, cond_true, if_false, hw, og_nI1]
    by_cases h1 : M.1 52 i = nI k
    · simp only [h1, if_true]
      exact .inl ⟨_, rfl, _, rfl, key (-1) (by rw [if_pos h1])⟩
    · simp only [h1, if_false]
      by_cases h2 : M.1 52 i ≤ nI k
      · simp only [h2, if_true]
        first
        | exact .inl ⟨_, rfl, _, rfl, key0 (by rw [if_neg h1, if_pos h2])⟩
        | exact .inl ⟨_, rfl, _, rfl, key _ (by rw [if_neg h1, if_pos h2])⟩
      · simp only [h2, if_false]
        exact .inl ⟨_, rfl, _, rfl, key _ (by rw [if_neg h1, if_neg h2])⟩) (by
    rintro x ⟨M', rfl, g1, g2, g3⟩
    have em : M'.1 46 2 = nI n := by rw [g2 46 2 (by decide), e]
    refine ⟨_, by simp only [om_D_cut_L81_body, om_D_cut_b81, em]; rw [if_pos Int32.le_rfl], fun j hj => ?_, g2, g3⟩
    rw [g1 j, if_pos hj])
  exact ⟨z, hz, hq1, hq2, hq3⟩
