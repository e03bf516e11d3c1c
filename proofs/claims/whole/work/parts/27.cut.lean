theorem og_told_dec {k m : Nat} (hk : k < m) (h20 : m ≤ 20) {t : Int32} (h : t = -1 ∨ ∃ l, l < m ∧ t = nI l) : (if t = nI k then (-1 : Int32) else if t ≤ nI k then t else t - 1) = -1 ∨ ∃ l, l < m ∧ t = nI l ∧ ¬ l = k ∧ (if t = nI k then (-1 : Int32) else if t ≤ nI k then t else t - 1) = nI (if l ≤ k then l else l - 1) := by
  rcases h with rfl | ⟨l, hl, rfl⟩
  · left
    have h1 : ¬ (-1 : Int32) = nI k := fun h => nI_pos (show k < 2 ^ 31 by omega) (by rw [← h]; decide)
    have h2 : (-1 : Int32) ≤ nI k := by
      have := nI_pos' (show k < 2 ^ 31 by omega)
      rw [Int32.le_iff_toInt_le] at this ⊢
      have e0 : (0 : Int32).toInt = 0 := by decide
      have e1 : (-1 : Int32).toInt = -1 := by decide
      omega
    rw [if_neg h1, if_pos h2]
  · by_cases hlk : l = k
    · left; rw [if_pos (by rw [hlk])]
    · right
      refine ⟨l, hl, rfl, hlk, ?_⟩
      rw [if_neg (fun h => hlk ((nI_eq (by omega) (by omega)).mp h))]
      by_cases h2 : l ≤ k
      · rw [if_pos (nI_le h2 (by omega)), if_pos h2]
      · rw [if_neg (nI_ge (by omega) (by omega)), if_neg h2]
        obtain ⟨j, rfl⟩ : ∃ j, l = j + 1 := ⟨l - 1, by omega⟩
        rw [nI_pred]; rfl
theorem og_sh {k m : Nat} (hk : k < m) {j : Nat} (hj : j < m - 1) : (if k ≤ j then j + 1 else j) < m := by
  split <;> omega
theorem og_k2 {M : om_M} (h : om_Inv M) : om_ok2 om_Inv M := by
  have hI := h
  obtain ⟨n, m, L, ⟨⟨h8, h20, e10, e11, e462, e466⟩, ⟨ho, hp⟩, ht, ⟨ha, hd⟩⟩, hT, hQ, hA⟩ := h
  intro x0
  show om_ok om_Inv _ _ M
  have c1 := om_C_isArrow_eq om_F x0 M e11
  cases h0 : om_pp m x0 with
  | false => exact ⟨-2, M, M, by simp [om_C_cut, om_C_cut_b0, c1, h0, om_bi], by simp [om_D_cut, om_D_cut_b0, om_D_isArrow_eq om_F x0 M h20 e466, h0, om_bi], hI⟩
  | true =>
  obtain ⟨k, hk, rfl⟩ := om_pp_of (by omega) h0
  have epred : nI m - 1 = nI (m - 1) := by
    obtain ⟨j, rfl⟩ : ∃ j, m = j + 1 := ⟨m - 1, by omega⟩
    rw [nI_pred]; rfl
  obtain ⟨M1, a1, a2, a3, a4⟩ := og_cutA_C (k := k) (m := m - 1) (by omega) (by omega) (M := om_up M 1 1 (nI (m - 1))) (by simp [om_up_at])
  obtain ⟨M2, b1, b2, b3, b4⟩ := og_cutB_C (k := k) h8 (M := M1) (by rw [a3 1 0 (by decide)]; simp [om_up_at, e10])
  obtain ⟨M3, c2, c3, c4, c5⟩ := og_cutA_D (k := k) (m := m - 1) (by omega) (by omega) (M := om_up M2 46 6 (nI (m - 1))) (by simp [om_up_at])
  obtain ⟨M4, d1, d2, d3, d4⟩ := og_cutB_D (k := k) h8 (M := M3) (by rw [c4 46 2 (by decide)]; rw [om_up_at, if_pos rfl, if_neg (by decide), b3 46 2 (by decide), a3 46 2 (by decide)]; simp [om_up_at, e462])
  have e : ∀ b j, ¬ (b = 3 ∨ b = 4 ∨ b = 5 ∨ b = 6 ∨ b = 49 ∨ b = 50 ∨ b = 51 ∨ b = 52) → ¬ (b = 1 ∧ j = 1) → ¬ (b = 46 ∧ j = 6) → M4.1 b j = M.1 b j := by
    intro b j h1 h2 h3
    rw [d3 b j (by omega), c4 b j (by omega), om_up_at]
    have : (if b = 46 then (if j = 6 then nI (m - 1) else M2.1 b j) else M2.1 b j) = M2.1 b j := by
      by_cases hb : b = 46
      · rw [if_pos hb, if_neg (by omega)]
      · rw [if_neg hb]
    rw [this, b3 b j (by omega), a3 b j (by omega), om_up_at]
    by_cases hb : b = 1
    · rw [if_pos hb, if_neg (by omega)]
    · rw [if_neg hb]
  have eS : ∀ b j, (b = 4 ∨ b = 5 ∨ b = 6) → j < m - 1 → M4.1 b j = M.1 b (if k ≤ j then j + 1 else j) := by
    intro b j h1 h2
    rw [d3 b j (by omega), c4 b j (by omega), om_up_at, if_neg (by omega), b3 b j (by omega), a2 b j h1 h2, om_up_at, if_neg (by omega)]
  have eS' : ∀ b j, (b = 49 ∨ b = 50 ∨ b = 51) → j < m - 1 → M4.1 b j = M.1 b (if k ≤ j then j + 1 else j) := by
    intro b j h1 h2
    rw [d3 b j (by omega), c3 b j h1 h2, om_up_at, if_neg (by omega), b3 b _ (by omega), a3 b _ (by omega), om_up_at, if_neg (by omega)]
  have eT : ∀ j, j < n → M4.1 3 j = if M.1 3 j = nI k then -1 else if M.1 3 j ≤ nI k then M.1 3 j else M.1 3 j - 1 := by
    intro j hj
    have : M1.1 3 j = M.1 3 j := by rw [a3 3 j (by decide)]; simp [om_up_at]
    rw [d3 3 j (by decide), c4 3 j (by decide), om_up_at, if_neg (by decide), b2 j hj, this]
  have eT' : ∀ j, j < n → M4.1 52 j = if M.1 3 j = nI k then -1 else if M.1 3 j ≤ nI k then M.1 3 j else M.1 3 j - 1 := by
    intro j hj
    have : M3.1 52 j = M.1 3 j := by rw [c4 52 j (by decide), om_up_at, if_neg (by decide), b3 52 j (by decide), a3 52 j (by decide), om_up_at, if_neg (by decide), (ht j hj).1]
    rw [d2 j hj, this]
  have e11' : M2.1 1 1 = nI (m - 1) := by rw [b3 1 1 (by decide), a3 1 1 (by decide)]; simp [om_up_at]
  have e466' : M4.1 46 6 = nI (m - 1) := by rw [d3 46 6 (by decide), c4 46 6 (by decide)]; simp [om_up_at]
  refine ⟨nI (m - 1), M2, M4, ?_, ?_, n, m - 1, L, ⟨⟨h8, by omega, by rw [e 1 0 (by omega) (by omega) (by omega), e10], ?_, by rw [e 46 2 (by omega) (by omega) (by omega), e462], e466'⟩, ⟨fun i hi => by rw [e 1 2 (by omega) (by omega) (by omega)]; exact ho i hi, fun p hp1 => by rw [e 47 p (by omega) (by omega) (by omega), e 1 2 (by omega) (by omega) (by omega), e 48 p (by omega) (by omega) (by omega), e 2 p (by omega) (by omega) (by omega)]; exact hp p hp1⟩, fun p hp1 => ?_, fun j hj => ?_, fun j l hj hl h1 h2 => ?_⟩, og_keep hT hQ hA (fun a j h => e a j (by omega) (by omega) (by omega)) (e 46 9 (by omega) (by omega) (by omega)) (e 46 15 (by omega) (by omega) (by omega)) (e 46 18 (by omega) (by omega) (by omega)) (by rw [d4, c5]; show M2.2 = _; rw [b4, a4]; rfl)⟩
  · show om_C_cut om_F (nI k) M = _
    have : om_B_removeArrow om_F (nI k) M = some M2 := by
      unfold om_B_removeArrow om_B_removeArrow_b0
      rw [e11, epred, a1, Option.bind_some, b1]; rfl
    simp [om_C_cut, om_C_cut_b0, c1, h0, om_bi, this, e11']
  · show om_D_cut om_F (nI k) M2 = _
    have q : M2.1 46 6 = nI m := by rw [b3 46 6 (by decide), a3 46 6 (by decide)]; simp [om_up_at, e466]
    unfold om_D_cut om_D_cut_b0
    rw [om_D_isArrow_eq om_F _ M2 h20 q, h0]
    simp only [Option.bind_some, show ¬ om_bi true = 0 by decide, if_false, q, epred, c2, d1, e466']
  · rw [d3 1 1 (by decide), c4 1 1 (by decide), om_up_at, if_neg (by decide), e11']
  · rw [eT p hp1, eT' p hp1]
    refine ⟨rfl, ?_⟩
    obtain ⟨-, t2⟩ := ht p hp1
    have t3 : M.1 3 p = -1 ∨ ∃ l, l < m ∧ M.1 3 p = nI l := by
      rcases t2 with h | ⟨l, h1, h2, -⟩
      · exact .inl h
      · exact .inr ⟨l, h1, h2⟩
    rcases og_told_dec hk h20 t3 with h | ⟨l, h1, h2, h3, h4⟩
    · exact .inl h
    · right
      rw [h4]
      refine ⟨_, by split <;> omega, rfl, ?_⟩
      rw [eS 4 _ (by omega) (by split <;> omega)]
      have hl : (if k ≤ (if l ≤ k then l else l - 1) then (if l ≤ k then l else l - 1) + 1 else (if l ≤ k then l else l - 1)) = l := by
        by_cases hlk : l ≤ k
        · rw [if_pos hlk, if_neg (by omega)]
        · rw [if_neg hlk, if_pos (by omega)]; omega
      rw [hl]
      rcases t2 with h | ⟨l', g1, g2, g3⟩
      · rw [h] at h2
        exact absurd (by rw [← h2]; decide) (nI_pos (show l < 2 ^ 31 by omega))
      · have : l = l' := (nI_eq (by omega) (by omega)).mp (h2.symm.trans g2)
        rw [this]; exact g3
  · rw [eS 4 j (by omega) hj, eS 5 j (by omega) hj, eS 6 j (by omega) hj, eS' 49 j (by omega) hj, eS' 50 j (by omega) hj, eS' 51 j (by omega) hj]
    exact ha _ (og_sh hk hj)
  · rw [eS 4 j (by omega) hj, eS 4 l (by omega) hl] at h1
    rw [eS 5 j (by omega) hj, eS 5 l (by omega) hl] at h2
    have := hd _ _ (og_sh hk hj) (og_sh hk hl) h1 h2
    by_cases q1 : k ≤ j <;> by_cases q2 : k ≤ l
    · rw [if_pos q1, if_pos q2] at this; omega
    · rw [if_pos q1, if_neg q2] at this; omega
    · rw [if_neg q1, if_pos q2] at this; omega
    · rw [if_neg q1, if_neg q2] at this; omega
