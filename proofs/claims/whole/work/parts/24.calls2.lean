theorem og_k16 {M : om_M} (h : om_Inv M) : om_ok16 om_Inv M := by
  have hI := h
  obtain ⟨n, m, L, ⟨⟨h8, h20, e10, e11, e462, e466⟩, ⟨ho, hp⟩, ht, hB⟩, hT, hQ, hA⟩ := h
  have ⟨ha, hd⟩ := hB
  intro x0
  show om_ok om_Inv _ _ M
  have c1 := om_C_isArrow_eq om_F x0 M e11
  cases h0 : om_pp m x0 with
  | false => exact ⟨-2, M, M, by simp [om_C_tell, om_C_tell_b0, c1, h0, om_bi], by simp [om_D_tell, om_D_tell_b0, om_D_isArrow_eq om_F x0 M h20 e466, h0, om_bi], hI⟩
  | true =>
  obtain ⟨k, hk, rfl⟩ := om_pp_of (by omega) h0
  obtain ⟨h1, h2, h3, ⟨a, ha0, h4⟩, h5⟩ := ha k hk
  have hin : om_in (nI k) 20 = true := om_in_nI (by omega) (by omega)
  have hcl : (nI k).toNatClampNeg = k := nI_clamp (by omega)
  have hin2 : om_in (nI a) 8 = true := om_in_nI (by omega) (by omega)
  have hcl2 : (nI a).toNatClampNeg = a := nI_clamp (by omega)
  have hC : om_C_tell om_F (nI k) M = some (M.1 3 a, om_up M 3 a (nI k)) := by
    simp [om_C_tell, om_C_tell_b0, c1, h0, om_bi, hin, hcl, h4, hin2, hcl2]
  have hD : ∀ M', M'.1 46 6 = nI m → M'.1 49 k = nI a → om_D_tell om_F (nI k) M' = some (M'.1 52 a, om_up M' 52 a (nI k)) := by
    intro M' e1 e2
    simp [om_D_tell, om_D_tell_b0, om_D_isArrow_eq om_F _ M' h20 e1, h0, om_bi, hin, hcl, e2, hin2, hcl2]
  refine ⟨M.1 3 a, _, om_up (om_up M 3 a (nI k)) 52 a (nI k), hC, ?_, n, m, L, ⟨⟨h8, h20, by simp [om_up_at, e10], by simp [om_up_at, e11], by simp [om_up_at, e462], by simp [om_up_at, e466]⟩, ⟨by simpa [om_up_at] using ho, by simpa [om_up_at] using hp⟩, fun q hq => ?_, ?_, ?_⟩, og_keep hT hQ hA (fun a j h => by simp [om_up_at, show ¬ a = 1 by omega, show ¬ a = 2 by omega, show ¬ a = 3 by omega, show ¬ a = 4 by omega, show ¬ a = 5 by omega, show ¬ a = 6 by omega, show ¬ a = 46 by omega, show ¬ a = 47 by omega, show ¬ a = 48 by omega, show ¬ a = 49 by omega, show ¬ a = 50 by omega, show ¬ a = 51 by omega, show ¬ a = 52 by omega]) (by simp [om_up_at]) (by simp [om_up_at]) (by simp [om_up_at]) rfl⟩
  · show om_D_tell om_F (nI k) (om_up M 3 a (nI k)) = _
    rw [hD _ (by simp [om_up_at, e466]) (by simp [om_up_at, h1, h4])]
    simp [om_up_at, (ht a ha0).1]
  · by_cases hqa : q = a
    · subst hqa
      simp [om_up_at]
      exact .inr ⟨k, hk, rfl, h4⟩
    · simpa [om_up_at, hqa] using ht q hq
  · simpa [om_up_at] using ha
  · simpa [om_up_at] using hd
theorem og_k17 {M : om_M} (h : om_Inv M) : om_ok17 om_Inv M := by
  have hI := h
  obtain ⟨n, m, L, ⟨⟨h8, h20, e10, e11, e462, e466⟩, ⟨ho, hp⟩, ht, hB⟩, hT, hQ, hA⟩ := h
  have ⟨ha, hd⟩ := hB
  intro x0
  show om_ok om_Inv _ _ M
  have c1 := om_C_isPlace_eq om_F x0 M e10
  cases h0 : om_pp n x0 with
  | false => exact ⟨-2, M, M, by simp [om_C_untell, om_C_untell_b0, c1, h0, om_bi], by simp [om_D_untell, om_D_untell_b0, om_D_isPlace_eq om_F x0 M h8 e462, h0, om_bi], hI⟩
  | true =>
  obtain ⟨a, ha0, rfl⟩ := om_pp_of (by omega) h0
  have hin2 : om_in (nI a) 8 = true := om_in_nI (by omega) (by omega)
  have hcl2 : (nI a).toNatClampNeg = a := nI_clamp (by omega)
  by_cases h3 : M.1 3 a = -1
  · exact ⟨-4, M, M, by simp [om_C_untell, om_C_untell_b0, c1, h0, om_bi, hin2, hcl2, h3], by simp [om_D_untell, om_D_untell_b0, om_D_isPlace_eq om_F _ M h8 e462, h0, om_bi, hin2, hcl2, (ht a ha0).1, h3], hI⟩
  have hC : om_C_untell om_F (nI a) M = some (M.1 3 a, om_up M 3 a (-1)) := by
    simp [om_C_untell, om_C_untell_b0, c1, h0, om_bi, hin2, hcl2, h3]
  have hD : ∀ M', M'.1 46 2 = nI n → ¬ M'.1 52 a = -1 → om_D_untell om_F (nI a) M' = some (M'.1 52 a, om_up M' 52 a (-1)) := by
    intro M' e1 e2
    simp [om_D_untell, om_D_untell_b0, om_D_isPlace_eq om_F _ M' h8 e1, h0, om_bi, e2, hin2, hcl2]
  refine ⟨M.1 3 a, _, om_up (om_up M 3 a (-1)) 52 a (-1), hC, ?_, n, m, L, ⟨⟨h8, h20, by simp [om_up_at, e10], by simp [om_up_at, e11], by simp [om_up_at, e462], by simp [om_up_at, e466]⟩, ⟨by simpa [om_up_at] using ho, by simpa [om_up_at] using hp⟩, fun q hq => ?_, ?_, ?_⟩, og_keep hT hQ hA (fun a j h => by simp [om_up_at, show ¬ a = 1 by omega, show ¬ a = 2 by omega, show ¬ a = 3 by omega, show ¬ a = 4 by omega, show ¬ a = 5 by omega, show ¬ a = 6 by omega, show ¬ a = 46 by omega, show ¬ a = 47 by omega, show ¬ a = 48 by omega, show ¬ a = 49 by omega, show ¬ a = 50 by omega, show ¬ a = 51 by omega, show ¬ a = 52 by omega]) (by simp [om_up_at]) (by simp [om_up_at]) (by simp [om_up_at]) rfl⟩
  · show om_D_untell om_F (nI a) (om_up M 3 a (-1)) = _
    rw [hD _ (by simp [om_up_at, e462]) (by simp [om_up_at, (ht a ha0).1, h3])]
    simp [om_up_at, (ht a ha0).1]
  · by_cases hqa : q = a
    · subst hqa
      simp [om_up_at]
    · simpa [om_up_at, hqa] using ht q hq
  · simpa [om_up_at] using ha
  · simpa [om_up_at] using hd
theorem og_k4 {M : om_M} (h : om_Inv M) : om_ok4 om_Inv M := by
  have hI := h
  obtain ⟨n, m, L, ⟨⟨h8, h20, e10, e11, e462, e466⟩, ⟨ho, hp⟩, ht, hB⟩, hT, hQ, hA⟩ := h
  have ⟨ha, hd⟩ := hB
  intro x0 x1 x2
  show om_ok om_Inv _ _ M
  have c1 := om_C_isPlace_eq om_F x1 M e10
  have c2 := om_D_isPlace_eq om_F x1 M h8 e462
  have c3 := om_C_isArrow_eq om_F x1 M e11
  have c4 := om_D_isArrow_eq om_F x1 M h20 e466
  have c5 := om_C_isWeight_eq om_F x2 M
  have c6 := om_D_in_rg om_F x2 (-5) 5 (-5) 5 M rfl rfl
  have c7 := om_C_isNumber_eq om_F x2 M
  have c8 := om_D_in_rg om_F x2 0 7 0 7 M rfl rfl
  have hbad : om_C_set om_F x0 x1 x2 M = some (-2147483648, M) → om_D_set om_F x0 x1 x2 M = some (-2147483648, M) → om_ok om_Inv (fun M => om_C_set om_F x0 x1 x2 M) (fun M => om_D_set om_F x0 x1 x2 M) M := fun h1 h2 => ⟨_, M, M, h1, h2, hI⟩
  by_cases hx0 : x0 = 0
  · subst hx0
    have hn1 : ¬ (0 : Int32) = 1 := by decide
    cases h1 : om_pp n x1 with
    | false => exact hbad (by simp [om_C_set, om_C_set_b0, om_C_set_b43, om_C_set_b87, c1, h1, om_bi]) (by simp [om_D_set, om_D_set_b0, om_D_set_b24, om_D_set_b55, om_D_set_b56, c2, h1, om_bi])
    | true =>
    cases h2 : om_rg 0 7 x2 with
    | false => exact hbad (by simp [om_C_set, om_C_set_b0, om_C_set_b43, om_C_set_b87, c1, c7, h1, h2, om_bi]) (by simp [om_D_set, om_D_set_b0, om_D_set_b24, om_D_set_b55, om_D_set_b56, c2, c8, h1, h2, om_bi])
    | true =>
    obtain ⟨a, ha0, rfl⟩ := om_pp_of (by omega) h1
    obtain ⟨v, hv, rfl⟩ := og_rg_of (b := 7) (by decide) h2
    have hin : om_in (nI a) 8 = true := om_in_nI (by omega) (by omega)
    have hcl : (nI a).toNatClampNeg = a := nI_clamp (by omega)
    have hC : om_C_set om_F 0 (nI a) (nI v) M = some (M.1 2 a, om_up M 2 a (nI v)) := by
      simp [om_C_set, om_C_set_b0, c1, c7, h1, h2, om_bi, hin, hcl]
    have hD : ∀ M', M'.1 46 2 = nI n → om_D_set om_F 0 (nI a) (nI v) M' = some (M'.1 48 a, om_up (om_up M' 48 a (nI v)) 51 0 (M'.1 51 0)) := by
      intro M' e1
      have g2 := om_D_isPlace_eq om_F (nI a) M' h8 e1
      have g8 := om_D_in_rg om_F (nI v) 0 7 0 7 M' rfl rfl
      have i0 : om_in 0 20 = true := by decide
      have i1 : (0 : Int32).toNatClampNeg = 0 := by decide
      simp [om_D_set, om_D_set_b0, om_D_set_b51, om_D_set_b56, om_D_set_b85, om_D_set_b100, om_D_set_b114, om_D_set_b129, om_D_set_b144, g2, g8, h1, h2, om_bi, hin, hcl, i0, om_up_at, i1]
    refine ⟨M.1 2 a, _, om_up (om_up (om_up M 2 a (nI v)) 48 a (nI v)) 51 0 (M.1 51 0), hC, ?_, n, m, L, ⟨⟨h8, h20, by simp [om_up_at, e10], by simp [om_up_at, e11], by simp [om_up_at, e462], by simp [om_up_at, e466]⟩, ⟨by simpa [om_up_at] using ho, fun q hq => ?_⟩, by simpa [om_up_at, om_Bt] using ht, fun k hk => ?_, by simpa [om_up_at] using hd⟩, og_keep hT hQ hA (fun a j h => by simp [om_up_at, show ¬ a = 1 by omega, show ¬ a = 2 by omega, show ¬ a = 3 by omega, show ¬ a = 4 by omega, show ¬ a = 5 by omega, show ¬ a = 6 by omega, show ¬ a = 46 by omega, show ¬ a = 47 by omega, show ¬ a = 48 by omega, show ¬ a = 49 by omega, show ¬ a = 50 by omega, show ¬ a = 51 by omega, show ¬ a = 52 by omega]) (by simp [om_up_at]) (by simp [om_up_at]) (by simp [om_up_at]) rfl⟩
    · show om_D_set om_F 0 (nI a) (nI v) (om_up M 2 a (nI v)) = _
      rw [hD _ (by simp [om_up_at, e462])]
      simp [om_up_at, (hp a ha0).2.1]
    · by_cases hqa : q = a
      · subst hqa
        have := (hp q hq).1
        simp [om_up_at, this]
        exact ⟨v, by omega, rfl⟩
      · simpa [om_up_at, hqa] using hp q hq
    · by_cases hk0 : k = 0
      · subst hk0; simpa [om_up_at] using ha 0 hk
      · simpa [om_up_at, hk0] using ha k hk
  by_cases hx1 : x0 = 1
  · subst hx1
    cases h1 : om_pp m x1 with
    | false => exact hbad (by simp [om_C_set, om_C_set_b0, om_C_set_b43, om_C_set_b87, c3, h1, om_bi]) (by simp [om_D_set, om_D_set_b0, om_D_set_b24, om_D_set_b55, om_D_set_b56, c4, h1, om_bi])
    | true =>
    cases h2 : om_rg (-5) 5 x2 with
    | false => exact hbad (by simp [om_C_set, om_C_set_b0, om_C_set_b43, om_C_set_b87, c3, c5, h1, h2, om_bi]) (by simp [om_D_set, om_D_set_b0, om_D_set_b24, om_D_set_b55, om_D_set_b56, c4, c6, h1, h2, om_bi])
    | true =>
    obtain ⟨a, ha0, rfl⟩ := om_pp_of (by omega) h1
    have hw := og_rgw_of h2
    have hin : om_in (nI a) 20 = true := om_in_nI (by omega) (by omega)
    have hcl : (nI a).toNatClampNeg = a := nI_clamp (by omega)
    have hC : om_C_set om_F 1 (nI a) x2 M = some (M.1 6 a, om_up M 6 a x2) := by
      simp [om_C_set, om_C_set_b0, om_C_set_b43, c3, c5, h1, h2, om_bi, hin, hcl]
    have hD : ∀ M', M'.1 46 6 = nI m → om_D_set om_F 1 (nI a) x2 M' = some (M'.1 51 a, om_up (om_up M' 48 0 (M'.1 48 0)) 51 a x2) := by
      intro M' e1
      have g2 := om_D_isArrow_eq om_F (nI a) M' h20 e1
      have g8 := om_D_in_rg om_F x2 (-5) 5 (-5) 5 M' rfl rfl
      have i0 : om_in 0 8 = true := by decide
      have i1 : (0 : Int32).toNatClampNeg = 0 := by decide
      simp [om_D_set, om_D_set_b0, om_D_set_b24, om_D_set_b51, om_D_set_b56, om_D_set_b85, om_D_set_b100, om_D_set_b114, om_D_set_b129, om_D_set_b144, g2, g8, h1, h2, om_bi, hin, hcl, i0, om_up_at, i1]
    refine ⟨M.1 6 a, _, om_up (om_up (om_up M 6 a x2) 48 0 (M.1 48 0)) 51 a x2, hC, ?_, n, m, L, ⟨⟨h8, h20, by simp [om_up_at, e10], by simp [om_up_at, e11], by simp [om_up_at, e462], by simp [om_up_at, e466]⟩, ⟨by simpa [om_up_at] using ho, fun q hq => ?_⟩, by simpa [om_up_at, om_Bt] using ht, fun k hk => ?_, by simpa [om_up_at] using hd⟩, og_keep hT hQ hA (fun a j h => by simp [om_up_at, show ¬ a = 1 by omega, show ¬ a = 2 by omega, show ¬ a = 3 by omega, show ¬ a = 4 by omega, show ¬ a = 5 by omega, show ¬ a = 6 by omega, show ¬ a = 46 by omega, show ¬ a = 47 by omega, show ¬ a = 48 by omega, show ¬ a = 49 by omega, show ¬ a = 50 by omega, show ¬ a = 51 by omega, show ¬ a = 52 by omega]) (by simp [om_up_at]) (by simp [om_up_at]) (by simp [om_up_at]) rfl⟩
    · show om_D_set om_F 1 (nI a) x2 (om_up M 6 a x2) = _
      rw [hD _ (by simp [om_up_at, e466])]
      simp [om_up_at, (ha a ha0).2.2.1]
    · by_cases hqa : q = 0
      · subst hqa; simpa [om_up_at] using hp 0 hq
      · simpa [om_up_at, hqa] using hp q hq
    · by_cases hk0 : k = a
      · subst hk0
        obtain ⟨g1, g2, g3, g4, g5, g6⟩ := ha k hk
        simp [om_up_at, hw, g1, g2]
        exact ⟨g4, g5⟩
      · simpa [om_up_at, hk0] using ha k hk
  · exact hbad (by simp [om_C_set, om_C_set_b0, om_C_set_b43, om_C_set_b87, hx0, hx1]) (by simp [om_D_set, om_D_set_b0, om_D_set_b24, om_D_set_b55, om_D_set_b56, hx0, hx1])
theorem og_k22 {M : om_M} (h : om_Inv M) : om_ok22 om_Inv M := by
  obtain ⟨n, m, L, hB, hT, hQ, hA⟩ := h
  show om_ok om_Inv _ _ M
  obtain ⟨h1, h2, h3, h4⟩ := hT
  obtain ⟨⟨h8, h20, e10, e11, e462, e466⟩, ⟨ho, hp⟩, ht, ⟨ha, hd⟩⟩ := hB
  refine ⟨nI L, om_up M 28 0 0, om_up (om_up M 28 0 0) 46 9 0, by simp [om_C_erase, om_C_erase_b0, h2], by simp [om_D_erase, om_D_erase_b0, om_up_at, h3], n, m, 0, ⟨⟨h8, h20, by simp [om_up_at, e10], by simp [om_up_at, e11], by simp [om_up_at, e462], by simp [om_up_at, e466]⟩, ⟨by simpa [om_up_at] using ho, by simpa [om_up_at] using hp⟩, by simpa [om_up_at, om_Bt] using ht, by simpa [om_up_at] using ha, by simpa [om_up_at] using hd⟩, ⟨by omega, by simp [om_up_at, nI_0], by simp [om_up_at, nI_0], fun i hi => absurd hi (by omega)⟩, om_Qq_fr0 hQ (fun a j h1 h2 => by simp [om_up_at, show ¬ a = 46 by omega, show ¬ a = 28 by omega]) (by simp [om_up_at]) (fun a i h1 h2 => by simp [om_up_at, show ¬ a = 46 by omega, show ¬ a = 28 by omega]) rfl, by simpa [om_up_at, om_Al] using hA⟩
