theorem og_rgw_of {x : Int32} (h : om_rg (-5) 5 x = true) : -5 ≤ x.toInt ∧ x.toInt ≤ 5 := by
  simp only [om_rg, Bool.and_eq_true, decide_eq_true_eq, Int32.le_iff_toInt_le] at h
  have e0 : (-5 : Int32).toInt = -5 := by decide
  have e1 : (5 : Int32).toInt = 5 := by decide
  omega
theorem og_addArrow {m : Nat} (hm : m < 20) (x0 x1 x2 : Int32) {M : om_M} (e : M.1 1 1 = nI m) : om_B_addArrow om_F x0 x1 x2 M = some (nI m, om_up (om_up (om_up (om_up M 1 1 (nI (m + 1))) 4 m x0) 5 m x1) 6 m x2) := by
  have hin : om_in (nI m) 20 = true := om_in_nI (by omega) (by omega)
  have hcl : (nI m).toNatClampNeg = m := nI_clamp (by omega)
  simp only [om_B_addArrow, om_B_addArrow_b0, e, hin, hcl, og_nI1, cond_true]
theorem og_k1 {M : om_M} (h : om_Inv M) : om_ok1 om_Inv M := by
  have hI := h
  obtain ⟨n, m, L, ⟨⟨h8, h20, e10, e11, e462, e466⟩, ⟨ho, hp⟩, ht, hB⟩, hT, hQ, hA⟩ := h
  have ⟨ha, hd⟩ := hB
  intro x0 x1 x2
  show om_ok om_Inv _ _ M
  have c1 : ∀ (x : Int32), om_C_isPlace om_F x M = some (om_bi (om_pp n x), M) := fun x => om_C_isPlace_eq om_F x M e10
  have c2 : ∀ (x : Int32), om_D_isPlace om_F x M = some (om_bi (om_pp n x), M) := fun x => om_D_isPlace_eq om_F x M h8 e462
  have c3 : om_C_isWeight om_F x2 M = some (om_bi (om_rg (-5) 5 x2), M) := om_C_isWeight_eq _ _ _
  have c4 : om_D_in om_F x2.toInt64 (-5) 5 M = some (om_bi (om_rg (-5) 5 x2), M) := om_D_in_rg om_F x2 (-5) 5 (-5) 5 _ rfl rfl
  cases h0 : om_pp n x0 with
  | false => exact ⟨-2, M, M, by simp [om_C_arrow, om_C_arrow_b0, om_C_arrow_b16, c1, h0, om_bi], by simp [om_D_arrow, om_D_arrow_b0, om_D_arrow_b16, c2, h0, om_bi], hI⟩
  | true =>
  cases h1 : om_pp n x1 with
  | false => exact ⟨-2, M, M, by simp [om_C_arrow, om_C_arrow_b0, om_C_arrow_b16, c1, h0, h1, om_bi], by simp [om_D_arrow, om_D_arrow_b0, om_D_arrow_b16, c2, h0, h1, om_bi], hI⟩
  | true =>
  cases h2 : om_rg (-5) 5 x2 with
  | false => exact ⟨-3, M, M, by simp [om_C_arrow, om_C_arrow_b0, c1, c3, h0, h1, h2, om_bi], by simp [om_D_arrow, om_D_arrow_b0, c2, c4, h0, h1, h2, om_bi], hI⟩
  | true =>
  rcases og_look h20 e11 e466 hB x0 x1 with ⟨k, hk, -, -, g1, g2⟩ | ⟨hno, g1, g2⟩
  · have hne : ¬ nI k = -1 := fun h => nI_pos (show k < 2 ^ 31 by omega) (by rw [h]; decide)
    exact ⟨-4, M, M, by simp [om_C_arrow, om_C_arrow_b0, c1, c3, h0, h1, h2, om_bi, g1, hne], by simp [om_D_arrow, om_D_arrow_b0, c2, c4, h0, h1, h2, om_bi, g2, hne], hI⟩
  by_cases hm : m = 20
  · subst hm
    exact ⟨-5, M, M, by simp [om_C_arrow, om_C_arrow_b0, c1, c3, h0, h1, h2, om_bi, g1, e11, show ¬ nI 20 < 20 by decide], by simp [om_D_arrow, om_D_arrow_b0, c2, c4, h0, h1, h2, om_bi, g2, e466, show nI 20 = 20 from rfl], hI⟩
  have hlt : nI m < 20 := (nI_ltI (by omega) (by omega : 20 < 2 ^ 31)).mpr (by omega)
  have hne : ¬ nI m = 20 := fun h => hm ((nI_eq (by omega) (by omega : 20 < 2 ^ 31)).mp h)
  have hin : om_in (nI m) 20 = true := om_in_nI (by omega) (by omega)
  have hcl : (nI m).toNatClampNeg = m := nI_clamp (by omega)
  have hC : om_C_arrow om_F x0 x1 x2 M = some (nI m, om_up (om_up (om_up (om_up M 1 1 (nI (m + 1))) 4 m x0) 5 m x1) 6 m x2) := by
    simp [om_C_arrow, om_C_arrow_b0, c1, c3, h0, h1, h2, om_bi, g1, e11, hlt, og_addArrow (show m < 20 by omega) x0 x1 x2 e11]
  have hD : ∀ M', M'.1 46 6 = nI m → M'.1 46 2 = nI n → om_D_arrowOf om_F x0 x1 M' = some (-1, M') → om_D_arrow om_F x0 x1 x2 M' = some (nI m, om_up (om_up (om_up (om_up M' 49 m x0) 50 m x1) 51 m x2) 46 6 (nI (m + 1))) := by
    intro M' e1 e2 e3
    simp [om_D_arrow, om_D_arrow_b0, om_D_isPlace_eq om_F _ M' h8 e2, om_D_in_rg om_F x2 (-5) 5 (-5) 5 _ rfl rfl, h0, h1, h2, om_bi, e3, hne, hin, hcl, om_up_at, e1, og_nI1, nI_pred]
  obtain ⟨a, ha0, rfl⟩ := om_pp_of (by omega) h0
  obtain ⟨b, hb0, rfl⟩ := om_pp_of (by omega) h1
  refine ⟨nI m, _, _, hC, hD _ (by simp [om_up_at, e466]) (by simp [om_up_at, e462]) ?_, n, m + 1, L, ⟨⟨h8, by omega, by simp [om_up_at, e10], by simp [om_up_at], by simp [om_up_at, e462], by simp [om_up_at]⟩, ⟨by simpa [om_up_at] using ho, by simpa [om_up_at] using hp⟩, ?_, ?_, ?_⟩, og_keep hT hQ hA (fun a j h => by simp [om_up_at, show ¬ a = 1 by omega, show ¬ a = 2 by omega, show ¬ a = 3 by omega, show ¬ a = 4 by omega, show ¬ a = 5 by omega, show ¬ a = 6 by omega, show ¬ a = 46 by omega, show ¬ a = 47 by omega, show ¬ a = 48 by omega, show ¬ a = 49 by omega, show ¬ a = 50 by omega, show ¬ a = 51 by omega, show ¬ a = 52 by omega]) (by simp [om_up_at]) (by simp [om_up_at]) (by simp [om_up_at]) rfl⟩
  · rcases og_arrowOf om_F (m := m) (by have : om_F = 100000 := rfl; omega) h20 (nI a) (nI b) (M := om_up (om_up (om_up (om_up M 1 1 (nI (m + 1))) 4 m (nI a)) 5 m (nI b)) 6 m x2) (by simp [om_up_at, e466]) with ⟨k, hk, g3, g4, g5⟩ | ⟨g3, g4⟩
    · simp [om_up_at] at g3 g4
      exact absurd ⟨by rw [← (ha k hk).1, g3], by rw [← (ha k hk).2.1, g4]⟩ (hno k hk)
    · exact g4
  · intro p hp1
    obtain ⟨t1, t2⟩ := ht p hp1
    refine ⟨by simpa [om_up_at] using t1, ?_⟩
    rcases t2 with t2 | ⟨k, hk, t3, t4⟩
    · exact .inl (by simpa [om_up_at] using t2)
    · exact .inr ⟨k, by omega, by simpa [om_up_at] using t3, by simpa [om_up_at, show ¬ k = m by omega] using t4⟩
  · intro k hk
    by_cases hkm : k = m
    · subst hkm
      have := og_rgw_of h2
      simp [om_up_at, this]
      exact ⟨⟨a, ha0, rfl⟩, ⟨b, hb0, rfl⟩⟩
    · simpa [om_up_at, hkm] using ha k (by omega)
  · intro k l hk hl
    by_cases hkm : k = m
    · by_cases hlm : l = m
      · intros; omega
      · intro e1 e2
        simp [om_up_at, hkm, hlm] at e1 e2
        exact absurd ⟨e1.symm, e2.symm⟩ (hno l (by omega))
    · by_cases hlm : l = m
      · intro e1 e2
        simp [om_up_at, hkm, hlm] at e1 e2
        exact absurd ⟨e1, e2⟩ (hno k (by omega))
      · simpa [om_up_at, hkm, hlm] using hd k l (by omega) (by omega)
theorem og_k5 {M : om_M} (h : om_Inv M) : om_ok5 om_Inv M := by
  have hI := h
  obtain ⟨n, m, L, ⟨⟨h8, h20, e10, e11, e462, e466⟩, ⟨ho, hp⟩, ht, hB⟩, hT, hQ, hA⟩ := h
  intro x0 x1
  show om_ok om_Inv _ _ M
  have c1 : ∀ (x : Int32), om_C_isPlace om_F x M = some (om_bi (om_pp n x), M) := fun x => om_C_isPlace_eq om_F x M e10
  have c2 : ∀ (x : Int32), om_D_isPlace om_F x M = some (om_bi (om_pp n x), M) := fun x => om_D_isPlace_eq om_F x M h8 e462
  cases h0 : om_pp n x0 with
  | false => exact ⟨-2, M, M, by simp [om_C_from, om_C_from_b0, om_C_from_b16, c1, h0, om_bi], by simp [om_D_from, om_D_from_b0, om_D_from_b25, om_D_from_b27, c2, h0, om_bi], hI⟩
  | true =>
  cases h1 : om_pp n x1 with
  | false => exact ⟨-2, M, M, by simp [om_C_from, om_C_from_b0, om_C_from_b16, c1, h0, h1, om_bi], by simp [om_D_from, om_D_from_b0, om_D_from_b25, om_D_from_b27, c2, h0, h1, om_bi], hI⟩
  | true =>
  rcases og_look h20 e11 e466 hB x0 x1 with ⟨k, hk, -, -, g1, g2⟩ | ⟨hno, g1, g2⟩
  · exact ⟨nI k, M, M, by simp [om_C_from, om_C_from_b0, c1, h0, h1, om_bi, g1], by simp [om_D_from, om_D_from_b0, om_D_from_b27, c2, h0, h1, om_bi, g2], hI⟩
  · exact ⟨-1, M, M, by simp [om_C_from, om_C_from_b0, c1, h0, h1, om_bi, g1], by simp [om_D_from, om_D_from_b0, om_D_from_b27, c2, h0, h1, om_bi, g2], hI⟩
theorem og_ownerOf (F : Nat) {p : Nat} (hp : p < 32) (M : om_M) : om_B_ownerOf F (nI p) M = some (if om_b (M.1 1 2) p = true then 0 else 1, M) := by
  unfold om_B_ownerOf om_B_ownerOf_b0 om_B_ownerOf_b16
  cases h : om_b (M.1 1 2) p with
  | false => rw [if_pos ((om_tst hp _).mpr h)]; simp
  | true => rw [if_neg (fun h1 => by rw [(om_tst hp _).mp h1] at h; cases h)]; simp
theorem og_k3 {M : om_M} (h : om_Inv M) : om_ok3 om_Inv M := by
  have hI := h
  obtain ⟨n, m, L, ⟨⟨h8, h20, e10, e11, e462, e466⟩, ⟨ho, hp⟩, ht, hB⟩, hT, hQ, hA⟩ := h
  have ⟨ha, hd⟩ := hB
  intro x0 x1
  show om_ok om_Inv _ _ M
  have c1 : ∀ (x : Int32), om_C_isPlace om_F x M = some (om_bi (om_pp n x), M) := fun x => om_C_isPlace_eq om_F x M e10
  have c2 : ∀ (x : Int32), om_D_isPlace om_F x M = some (om_bi (om_pp n x), M) := fun x => om_D_isPlace_eq om_F x M h8 e462
  cases h0 : om_pp n x0 with
  | false => exact ⟨-2, M, M, by simp [om_C_give, om_C_give_b0, om_C_give_b15, c1, h0, om_bi], by simp [om_D_give, om_D_give_b0, om_D_give_b15, c2, h0, om_bi], hI⟩
  | true =>
  cases h1 : om_pl x1 with
  | false => exact ⟨-2, M, M, by simp [om_C_give, om_C_give_b0, om_C_give_b15, c1, om_C_isPlayer_eq, h0, h1, om_bi], by simp [om_D_give, om_D_give_b0, om_D_give_b15, c2, om_D_isPlayer_eq, h0, h1, om_bi], hI⟩
  | true =>
  obtain ⟨p, hp0, rfl⟩ := om_pp_of (by omega) h0
  obtain ⟨y, hy, rfl⟩ := om_pl_of h1
  have hin : om_in (nI p) 8 = true := om_in_nI (by omega) (by omega)
  have hcl : (nI p).toNatClampNeg = p := nI_clamp (by omega)
  obtain ⟨v, hv1, hv2⟩ := og_giveTo om_F (show p < 32 by omega) (nI y) M
  have hC : om_C_give om_F (nI p) (nI y) M = some (if om_b (M.1 1 2) p = true then 0 else 1, om_up M 1 2 v) := by
    simp [om_C_give, om_C_give_b0, c1, om_C_isPlayer_eq, h0, h1, om_bi, og_ownerOf om_F (show p < 32 by omega), hv1]
  have hD : ∀ M', M'.1 46 2 = nI n → om_D_give om_F (nI p) (nI y) M' = some (M'.1 47 p, om_up M' 47 p (nI y)) := by
    intro M' e2
    simp [om_D_give, om_D_give_b0, om_D_isPlace_eq om_F _ M' h8 e2, om_D_isPlayer_eq, h0, h1, om_bi, hin, hcl]
  refine ⟨_, _, om_up (om_up M 1 2 v) 47 p (nI y), hC, ?_, n, m, L, ⟨⟨h8, h20, by simp [om_up_at, e10], by simp [om_up_at, e11], by simp [om_up_at, e462], by simp [om_up_at, e466]⟩, ⟨fun i hi => ?_, fun q hq => ?_⟩, ?_, ?_, ?_⟩, og_keep hT hQ hA (fun a j h => by simp [om_up_at, show ¬ a = 1 by omega, show ¬ a = 2 by omega, show ¬ a = 3 by omega, show ¬ a = 4 by omega, show ¬ a = 5 by omega, show ¬ a = 6 by omega, show ¬ a = 46 by omega, show ¬ a = 47 by omega, show ¬ a = 48 by omega, show ¬ a = 49 by omega, show ¬ a = 50 by omega, show ¬ a = 51 by omega, show ¬ a = 52 by omega]) (by simp [om_up_at]) (by simp [om_up_at]) (by simp [om_up_at]) rfl⟩
  · show om_D_give om_F (nI p) (nI y) (om_up M 1 2 v) = _
    rw [hD (om_up M 1 2 v) (by simp [om_up_at, e462]), show (om_up M 1 2 v).1 47 p = M.1 47 p from by simp [om_up_at], (hp p hp0).1]
  · simpa [om_up_at, hv2, show ¬ i = p by omega] using ho i (by omega)
  · by_cases hqp : q = p
    · subst hqp
      have : y = 0 ∨ y = 1 := by omega
      have hb := hv2 q
      rcases this with rfl | rfl
      · simpa [om_up_at, hb, show nI 0 = 0 from rfl] using (hp q hq).2
      · simpa [om_up_at, hb, show nI 1 = 1 from rfl] using (hp q hq).2
    · have hb := hv2 q
      simpa [om_up_at, hb, hqp] using hp q hq
  · intro q hq
    simpa [om_up_at] using ht q hq
  · intro k hk
    simpa [om_up_at] using ha k hk
  · intro k l hk hl
    simpa [om_up_at] using hd k l hk hl
