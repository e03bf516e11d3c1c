theorem og_Qq_n {M : om_M} {n n' : Nat} (h : om_Qq M n) (hn : n ≤ n') : om_Qq M n' := by
  obtain ⟨qa, qd, s, c, d, hq, h1, h2, h3, h4, h5, ⟨h6, h7, h8⟩, h9⟩ := h
  refine ⟨qa, qd, s, c, d, hq, h1, h2, h3, h4, h5, ⟨h6, h7, fun i hi => ?_⟩, h9⟩
  obtain ⟨a1, a2⟩ := h8 i hi
  refine ⟨a1, ?_⟩
  rcases a2 with ⟨b1, ⟨⟨p, c1, c2⟩, c3⟩, b3⟩ | h | h | h
  · refine .inl ⟨b1, ⟨⟨p, by omega, c2⟩, ?_⟩, b3⟩
    rcases c3 with ⟨k, d1, d2, d3, d4, d5, d6⟩ | h
    · exact .inl ⟨k, d1, d2, d3, d4, d5, fun j hj => d6 j (by omega)⟩
    · exact .inr h
  · exact .inr (.inl h)
  · exact .inr (.inr (.inl h))
  · exact .inr (.inr (.inr h))
theorem og_giveTo (F : Nat) {p : Nat} (hp : p < 32) (x : Int32) (M : om_M) : ∃ v, om_B_giveTo F (nI p) x M = some (om_up M 1 2 v) ∧ ∀ i, om_b v i = if i = p then decide (x = 0) else om_b (M.1 1 2) i := by
  unfold om_B_giveTo om_B_giveTo_b0 om_B_giveTo_b33
  by_cases h : x = 0
  · rw [if_pos h]
    refine ⟨_, rfl, fun i => ?_⟩
    rw [om_b_or, om_b_shl hp]
    by_cases hi : i = p <;> simp [hi, h]
  · rw [if_neg h]
    refine ⟨_, rfl, fun i => ?_⟩
    rw [om_b_and, om_b_not, om_b_shl hp]
    by_cases hi : i = p
    · simp [hi, h]
    · by_cases h32 : i < 32
      · simp [hi, h32]
      · simp [hi, h32, om_b_ge _ (show 32 ≤ i by omega)]
theorem og_rg_of {b : Nat} {x : Int32} (hb : b < 2 ^ 31) (h : om_rg 0 (nI b) x = true) : ∃ v, v < b + 1 ∧ x = nI v := by
  simp only [om_rg, Bool.and_eq_true, decide_eq_true_eq] at h
  obtain ⟨v, hv, rfl⟩ := nI_of (x := x) (by rw [Int32.not_lt]; exact h.1)
  exact ⟨v, by have := (nI_leI hv hb).mp h.2; omega, rfl⟩
theorem og_nI1 (n : Nat) : nI n + 1 = nI (n + 1) := nI_1 n
theorem og_addPlace {n : Nat} (hn : n < 8) (x0 x1 : Int32) {M : om_M} (e10 : M.1 1 0 = nI n) : ∃ v, om_B_addPlace om_F x0 x1 M = some (nI n, om_up (om_up (om_up (om_up M 1 0 (nI (n + 1))) 2 n x1) 3 n (-1)) 1 2 v) ∧ ∀ i, om_b v i = if i = n then decide (x0 = 0) else om_b (M.1 1 2) i := by
  have hin : om_in (nI n) 8 = true := om_in_nI (by omega) (by omega)
  have hcl : (nI n).toNatClampNeg = n := nI_clamp (by omega)
  obtain ⟨v, hv1, hv2⟩ := og_giveTo om_F (show n < 32 by omega) x0 (om_up (om_up (om_up M 1 0 (nI (n + 1))) 2 n x1) 3 n (-1))
  refine ⟨v, ?_, hv2⟩
  simp only [om_B_addPlace, om_B_addPlace_b0, e10, hin, hcl, hv1, og_nI1, cond_true, Option.bind_some]
theorem og_D_place {n : Nat} (hn : n < 8) (x0 x1 : Int32) {M : om_M} (e : M.1 46 2 = nI n) (hpl : om_pl x0 = true) (hrg : om_rg 0 7 x1 = true) : om_D_place om_F x0 x1 M = some (nI n, om_up (om_up (om_up (om_up M 47 n x0) 48 n x1) 52 n (-1)) 46 2 (nI (n + 1))) := by
  have hin : om_in (nI n) 8 = true := om_in_nI (by omega) (by omega)
  have hcl : (nI n).toNatClampNeg = n := nI_clamp (by omega)
  have hne : ¬ nI n = 8 := fun h => by have := (nI_eq (by omega) (by omega : 8 < 2 ^ 31)).mp h; omega
  simp [om_D_place, om_D_place_b0, om_D_isPlayer_eq, om_D_in_rg om_F x1 0 7 0 7 _ rfl rfl, hpl, hrg, om_bi, e, hne, hin, hcl, om_up_at, og_nI1, nI_pred]
theorem og_C_place {n : Nat} (hn : n < 8) (x0 x1 : Int32) {M : om_M} (e10 : M.1 1 0 = nI n) (hpl : om_pl x0 = true) (hrg : om_rg 0 7 x1 = true) : ∃ v, om_C_place om_F x0 x1 M = some (nI n, om_up (om_up (om_up (om_up M 1 0 (nI (n + 1))) 2 n x1) 3 n (-1)) 1 2 v) ∧ ∀ i, om_b v i = if i = n then decide (x0 = 0) else om_b (M.1 1 2) i := by
  have hlt : nI n < 8 := (nI_ltI (by omega) (by omega : 8 < 2 ^ 31)).mpr (by omega)
  obtain ⟨v, hv1, hv2⟩ := og_addPlace hn x0 x1 e10
  exact ⟨v, by simp [om_C_place, om_C_place_b0, om_C_isPlayer_eq, om_C_isNumber_eq, hpl, hrg, om_bi, e10, hlt, hv1], hv2⟩
theorem og_k0 {M : om_M} (h : om_Inv M) : om_ok0 om_Inv M := by
  have hI := h
  obtain ⟨n, m, L, ⟨⟨h8, h20, e10, e11, e462, e466⟩, ⟨ho, hp⟩, ht, ha, hd⟩, hT, hQ, hA⟩ := h
  intro x0 x1
  show om_ok om_Inv _ _ M
  cases hpl : om_pl x0 with
  | false => exact ⟨-2, M, M, by simp [om_C_place, om_C_place_b0, om_C_isPlayer_eq, hpl, om_bi], by simp [om_D_place, om_D_place_b0, om_D_isPlayer_eq, hpl, om_bi], hI⟩
  | true =>
  cases hrg : om_rg 0 7 x1 with
  | false => exact ⟨-3, M, M, by simp [om_C_place, om_C_place_b0, om_C_isPlayer_eq, om_C_isNumber_eq, hpl, hrg, om_bi], by simp [om_D_place, om_D_place_b0, om_D_isPlayer_eq, om_D_in_rg om_F x1 0 7 0 7 _ rfl rfl, hpl, hrg, om_bi], hI⟩
  | true =>
  by_cases hn : n = 8
  · subst hn
    exact ⟨-5, M, M, by simp [om_C_place, om_C_place_b0, om_C_isPlayer_eq, om_C_isNumber_eq, hpl, hrg, om_bi, e10, show ¬ nI 8 < 8 by decide], by simp [om_D_place, om_D_place_b0, om_D_isPlayer_eq, om_D_in_rg om_F x1 0 7 0 7 _ rfl rfl, hpl, hrg, om_bi, e462, show nI 8 = 8 from rfl], hI⟩
  · obtain ⟨v, hv1, hv2⟩ := og_C_place (show n < 8 by omega) x0 x1 e10 hpl hrg
    refine ⟨nI n, _, _, hv1, og_D_place (n := n) (by omega) x0 x1 (by simp [om_up_at, e462]) hpl hrg, n + 1, m, L, ⟨⟨by omega, h20, by simp [om_up_at], by simp [om_up_at, e11], by simp [om_up_at], by simp [om_up_at, e466]⟩, ⟨fun i hi => ?_, ?_⟩, ?_, ?_, ?_⟩, og_keep hT (og_Qq_n hQ (by omega)) hA (fun a j h => by simp [om_up_at, show ¬ a = 1 by omega, show ¬ a = 2 by omega, show ¬ a = 3 by omega, show ¬ a = 4 by omega, show ¬ a = 5 by omega, show ¬ a = 6 by omega, show ¬ a = 46 by omega, show ¬ a = 47 by omega, show ¬ a = 48 by omega, show ¬ a = 49 by omega, show ¬ a = 50 by omega, show ¬ a = 51 by omega, show ¬ a = 52 by omega]) (by simp [om_up_at]) (by simp [om_up_at]) (by simp [om_up_at]) rfl⟩
    · simpa [om_up_at, hv2, show ¬ i = n by omega] using ho i (by omega)
    · intro p hp1
      have hb := hv2 p
      by_cases hpn : p = n
      · subst hpn
        obtain ⟨y, hy, rfl⟩ := om_pl_of hpl
        obtain ⟨w, hw, rfl⟩ := og_rg_of (b := 7) (by decide) hrg
        have : y = 0 ∨ y = 1 := by omega
        rcases this with rfl | rfl
        · simp [om_up_at, hb, show nI 0 = 0 from rfl]; exact ⟨w, hw, rfl⟩
        · simp [om_up_at, hb, show nI 1 = 1 from rfl]; exact ⟨w, hw, rfl⟩
      · simpa [om_up_at, hb, hpn] using hp p (by omega)
    · intro p hp1
      simp only [om_up_at]
      by_cases hpn : p = n
      · subst hpn; simp
      · simpa [hpn] using ht p (by omega)
    · intro k hk
      obtain ⟨h1, h2, h3, ⟨a, h4, h5⟩, ⟨b, h6, h7⟩, h9⟩ := ha k hk
      exact ⟨by simpa [om_up_at] using h1, by simpa [om_up_at] using h2, by simpa [om_up_at] using h3, ⟨a, by omega, by simpa [om_up_at] using h5⟩, ⟨b, by omega, by simpa [om_up_at] using h7⟩, by simpa [om_up_at] using h9⟩
    · intro k l hk hl
      simpa [om_up_at] using hd k l hk hl
theorem og_find (F : Nat) {m : Nat} (hF : m < F) (h20 : m ≤ 20) (x1 x2 : Int32) {M : om_M} (e : M.1 1 1 = nI m) : (∃ k, k < m ∧ M.1 4 k = x1 ∧ M.1 5 k = x2 ∧ om_B_find F x1 x2 M = some (nI k, M)) ∨ ((∀ k, k < m → ¬ (M.1 4 k = x1 ∧ M.1 5 k = x2)) ∧ om_B_find F x1 x2 M = some (-1, M)) := by
  obtain ⟨z, hz, hq⟩ := om_lp (f := om_B_find_L2_body F) (fun i s => s = (x1, x2, nI i, M) ∧ ∀ k, k < i → ¬ (M.1 4 k = x1 ∧ M.1 5 k = x2)) (fun z => (∃ k, k < m ∧ M.1 4 k = x1 ∧ M.1 5 k = x2 ∧ z = .inl (nI k, M)) ∨ ((∀ k, k < m → ¬ (M.1 4 k = x1 ∧ M.1 5 k = x2)) ∧ z = .inr M)) m hF (s := (x1, x2, 0, M)) ⟨rfl, fun k hk => absurd hk (by omega)⟩ (by
    rintro i s hi ⟨rfl, hno⟩
    have hin : om_in (nI i) 20 = true := om_in_nI (by omega) (by omega)
    have hcl : (nI i).toNatClampNeg = i := nI_clamp (by omega)
    have hlt : ¬ nI m ≤ nI i := nI_ge hi (by omega)
    simp only [om_B_find_L2_body, om_B_find_b2, om_B_find_b32, e, hlt, hin, hcl, cond_true, if_false]
    by_cases h1 : M.1 4 i = x1
    · by_cases h2 : M.1 5 i = x2
      · exact .inr ⟨_, by rw [if_pos h1, if_pos h2], .inl ⟨i, hi, h1, h2, rfl⟩⟩
      · refine .inl ⟨_, by rw [if_pos h1, if_neg h2], by rw [og_nI1], fun k hk => ?_⟩
        by_cases hki : k = i
        · subst hki; exact fun h => h2 h.2
        · exact hno k (by omega)
    · refine .inl ⟨_, by rw [if_neg h1], by rw [og_nI1], fun k hk => ?_⟩
      by_cases hki : k = i
      · subst hki; exact fun h => h1 h.1
      · exact hno k (by omega)) (by
    rintro s ⟨rfl, hno⟩
    exact ⟨_, by simp only [om_B_find_L2_body, om_B_find_b2, e]; rw [if_pos Int32.le_rfl], .inr ⟨hno, rfl⟩⟩)
  unfold om_B_find om_B_find_b0 om_B_find_L2
  rw [hz]
  rcases hq with ⟨k, h1, h2, h3, rfl⟩ | ⟨h1, rfl⟩
  · exact .inl ⟨k, h1, h2, h3, rfl⟩
  · exact .inr ⟨h1, rfl⟩
theorem og_arrowOf (F : Nat) {m : Nat} (hF : m < F) (h20 : m ≤ 20) (x1 x2 : Int32) {M : om_M} (e : M.1 46 6 = nI m) : (∃ k, k < m ∧ M.1 49 k = x1 ∧ M.1 50 k = x2 ∧ om_D_arrowOf F x1 x2 M = some (nI k, M)) ∨ ((∀ k, k < m → ¬ (M.1 49 k = x1 ∧ M.1 50 k = x2)) ∧ om_D_arrowOf F x1 x2 M = some (-1, M)) := by
  obtain ⟨z, hz, hq⟩ := om_lp (f := om_D_arrowOf_L5_body F) (fun i s => ∃ y, s = (x1, x2, y, nI i, M) ∧ ((∃ k, k < i ∧ M.1 49 k = x1 ∧ M.1 50 k = x2 ∧ y = nI k) ∨ ((∀ k, k < i → ¬ (M.1 49 k = x1 ∧ M.1 50 k = x2)) ∧ y = -1))) (fun z => (∃ k, k < m ∧ M.1 49 k = x1 ∧ M.1 50 k = x2 ∧ z = (nI k, M)) ∨ ((∀ k, k < m → ¬ (M.1 49 k = x1 ∧ M.1 50 k = x2)) ∧ z = (-1, M))) m hF (s := (x1, x2, -1, 0, M)) ⟨-1, rfl, .inr ⟨fun k hk => absurd hk (by omega), rfl⟩⟩ (by
    rintro i s hi ⟨y, rfl, hno⟩
    have hin : om_in (nI i) 20 = true := om_in_nI (by omega) (by omega)
    have hcl : (nI i).toNatClampNeg = i := nI_clamp (by omega)
    have hlt : ¬ nI m ≤ nI i := nI_ge hi (by omega)
    simp only [om_D_arrowOf_L5_body, om_D_arrowOf_b5, om_D_arrowOf_b41, om_D_arrowOf_b42, e, hlt, hin, hcl, cond_true, if_false]
    have hnn : ∀ (h : ¬ (M.1 49 i = x1 ∧ M.1 50 i = x2)), (∃ k, k < i + 1 ∧ M.1 49 k = x1 ∧ M.1 50 k = x2 ∧ y = nI k) ∨ ((∀ k, k < i + 1 → ¬ (M.1 49 k = x1 ∧ M.1 50 k = x2)) ∧ y = -1) := by
      intro h
      rcases hno with ⟨k, h3, h4⟩ | ⟨h3, h4⟩
      · exact .inl ⟨k, by omega, h4⟩
      · refine .inr ⟨fun k hk => ?_, h4⟩
        by_cases hki : k = i
        · subst hki; exact h
        · exact h3 k (by omega)
    by_cases h1 : M.1 49 i = x1
    · by_cases h2 : M.1 50 i = x2
      · exact .inl ⟨_, by rw [if_pos h1, if_pos h2], nI i, by rw [og_nI1], .inl ⟨i, by omega, h1, h2, rfl⟩⟩
      · exact .inl ⟨_, by rw [if_pos h1, if_neg h2], y, by rw [og_nI1], hnn (fun h => h2 h.2)⟩
    · exact .inl ⟨_, by rw [if_neg h1], y, by rw [og_nI1], hnn (fun h => h1 h.1)⟩) (by
    rintro s ⟨y, rfl, hno⟩
    refine ⟨_, by simp only [om_D_arrowOf_L5_body, om_D_arrowOf_b5, e]; rw [if_pos Int32.le_rfl], ?_⟩
    rcases hno with ⟨k, h3, h4, h5, rfl⟩ | ⟨h3, rfl⟩
    · exact .inl ⟨k, h3, h4, h5, rfl⟩
    · exact .inr ⟨h3, rfl⟩)
  unfold om_D_arrowOf om_D_arrowOf_b0 om_D_arrowOf_L5
  rw [hz]
  rcases hq with ⟨k, h1, h2, h3, rfl⟩ | ⟨h1, rfl⟩
  · exact .inl ⟨k, h1, h2, h3, rfl⟩
  · exact .inr ⟨h1, rfl⟩
/-- both look an arrow up alike -/
theorem og_look {M : om_M} {n m : Nat} (h20 : m ≤ 20) (e11 : M.1 1 1 = nI m) (e466 : M.1 46 6 = nI m) (hB : om_Ba M n m) (x1 x2 : Int32) : (∃ k, k < m ∧ M.1 4 k = x1 ∧ M.1 5 k = x2 ∧ om_B_find om_F x1 x2 M = some (nI k, M) ∧ om_D_arrowOf om_F x1 x2 M = some (nI k, M)) ∨ ((∀ k, k < m → ¬ (M.1 4 k = x1 ∧ M.1 5 k = x2)) ∧ om_B_find om_F x1 x2 M = some (-1, M) ∧ om_D_arrowOf om_F x1 x2 M = some (-1, M)) := by
  have hF : m < om_F := Nat.lt_of_le_of_lt h20 (by decide)
  rcases og_find om_F hF h20 x1 x2 e11 with ⟨k, h1, h2, h3, h4⟩ | ⟨h1, h2⟩
  · rcases og_arrowOf om_F hF h20 x1 x2 e466 with ⟨l, g1, g2, g3, g4⟩ | ⟨g1, g2⟩
    · have : k = l := hB.2 k l h1 g1 (by rw [h2, ← (hB.1 l g1).1, g2]) (by rw [h3, ← (hB.1 l g1).2.1, g3])
      subst this
      exact .inl ⟨k, h1, h2, h3, h4, g4⟩
    · exact absurd ⟨by rw [(hB.1 k h1).1, h2], by rw [(hB.1 k h1).2.1, h3]⟩ (g1 k h1)
  · rcases og_arrowOf om_F hF h20 x1 x2 e466 with ⟨l, g1, g2, g3, g4⟩ | ⟨g1, g2⟩
    · exact absurd ⟨by rw [← (hB.1 l g1).1, g2], by rw [← (hB.1 l g1).2.1, g3]⟩ (h1 l g1)
    · exact .inr ⟨h1, h2, g2⟩
