/-! ===== the model's rows ===== -/
theorem og_pred {k : Nat} (h : 1 ≤ k) : nI k - 1 = nI (k - 1) := by
  obtain ⟨j, rfl⟩ : ∃ j, k = j + 1 := ⟨k - 1, by omega⟩
  rw [nI_pred, Nat.add_sub_cancel]
theorem og_pred' {k : Nat} (h : 1 ≤ k) : nI k + (-1) = nI (k - 1) := by
  rw [← og_pred h, Int32.sub_eq_add_neg]
theorem og_n120 : (120 : Int32) = nI 120 := by decide
theorem og_sD_lt {s i : Nat} (hs : s ≤ 120) (hi : i < s) : ¬ (120 : Int32) + nI s ≤ nI (120 + i) := by
  rw [og_n120, nI_add]
  exact nI_ge (by omega) (by omega)
theorem og_sD_nx (i : Nat) : nI (120 + i) + 1 = nI (120 + (i + 1)) := by rw [og_nI1, Nat.add_assoc]
theorem og_bi0 (b : Bool) : (om_bi b = 0) = (b = false) := by cases b <;> decide
theorem og_sD_end {M : om_M} {s : Nat} {x : Int32} (f15 : M.1 46 15 = nI s) : om_D_holdsNow_L78_body om_F (x, nI (120 + s), M) = some (.inr M) := by
  have h : (120 : Int32) + nI s ≤ nI (120 + s) := by rw [og_n120, nI_add]; exact Int32.le_rfl
  show om_D_holdsNow_b78 om_F x (nI (120 + s)) M = _
  unfold om_D_holdsNow_b78
  rw [f15, if_pos h]
theorem og_sD_unit {M : om_M} {s i d : Nat} (hs : s ≤ 120) (hi : i < s) (f15 : M.1 46 15 = nI s) {M3 : om_M} {b : Bool} (h6 : ¬ (6 : Int32) ≤ M.1 54 (120 + i)) (hd : d ≤ 60) (u : om_D_plainHolds om_F (nI (120 + i)) M = some (om_bi b, M3)) : om_D_holdsNow_L78_body om_F (nI d, nI (120 + i), M) = some (.inl (nI (d + 1), nI (120 + (i + 1)), om_up M3 68 d (om_bi b))) := by
  have hlt := og_sD_lt hs hi
  have hin : om_in (nI (120 + i)) 240 = true := om_in_nI (by omega) (by omega)
  have hcl : (nI (120 + i)).toNatClampNeg = 120 + i := nI_clamp (by omega)
  have hin2 : om_in (nI d) 120 = true := om_in_nI (by omega) (by omega)
  have hcl2 : (nI d).toNatClampNeg = d := nI_clamp (by omega)
  show om_D_holdsNow_b78 om_F (nI d) (nI (120 + i)) M = _
  unfold om_D_holdsNow_b78
  rw [f15, if_neg hlt, hin, cond_true, hcl, if_neg h6, u, Option.bind_some]
  show (bif om_in (nI d) 120 then (bif om_nr 1 (om_bi b) then _ else none) else none) = _
  rw [hin2, cond_true, om_nr_bi, cond_true]
  unfold om_D_holdsNow_b230
  show some (Sum.inl (nI d + 1, nI (120 + i) + 1, om_up M3 68 (nI d).toNatClampNeg (om_bi b))) = _
  rw [hcl2, og_nI1, og_sD_nx]
theorem og_sD_not {M : om_M} {s i d : Nat} (hs : s ≤ 120) (hi : i < s) (f15 : M.1 46 15 = nI s) {b : Bool} (h6 : M.1 54 (120 + i) = 6) (hd : 1 ≤ d) (hd60 : d ≤ 60) (hv : M.1 68 (d - 1) = om_bi b) : om_D_holdsNow_L78_body om_F (nI d, nI (120 + i), M) = some (.inl (nI d, nI (120 + (i + 1)), om_up M 68 (d - 1) (om_bi (!b)))) := by
  have hlt := og_sD_lt hs hi
  have hin : om_in (nI (120 + i)) 240 = true := om_in_nI (by omega) (by omega)
  have hcl : (nI (120 + i)).toNatClampNeg = 120 + i := nI_clamp (by omega)
  have hp1 : nI d - 1 = nI (d - 1) := og_pred hd
  have hin2 : om_in (nI (d - 1)) 120 = true := om_in_nI (by omega) (by omega)
  have hcl2 : (nI (d - 1)).toNatClampNeg = d - 1 := nI_clamp (by omega)
  show om_D_holdsNow_b78 om_F (nI d) (nI (120 + i)) M = _
  unfold om_D_holdsNow_b78
  rw [f15, if_neg hlt, hin, cond_true, hcl, h6, if_pos (by decide), cond_true, if_pos rfl, hp1, hin2, cond_true, hcl2, hv]
  unfold om_D_holdsNow_b151 om_D_holdsNow_b230
  rw [hin2, cond_true, cond_true, hcl2, og_sD_nx]
  cases b
  · rw [if_pos (by decide)]; rfl
  · rw [if_neg (by decide)]; rfl
theorem og_sD_and {M : om_M} {s i d : Nat} (hs : s ≤ 120) (hi : i < s) (f15 : M.1 46 15 = nI s) {b c : Bool} (h6 : M.1 54 (120 + i) = 7) (hd : 2 ≤ d) (hd60 : d ≤ 60) (hv : M.1 68 (d - 2) = om_bi b) (hw : M.1 68 (d - 1) = om_bi c) : om_D_holdsNow_L78_body om_F (nI d, nI (120 + i), M) = some (.inl (nI (d - 1), nI (120 + (i + 1)), om_up M 68 (d - 2) (om_bi (b && c)))) := by
  have hlt := og_sD_lt hs hi
  have hin : om_in (nI (120 + i)) 240 = true := om_in_nI (by omega) (by omega)
  have hcl : (nI (120 + i)).toNatClampNeg = 120 + i := nI_clamp (by omega)
  have hp1 : nI d + (-1) = nI (d - 1) := og_pred' (by omega)
  have hp2 : nI (d - 1) - 1 = nI (d - 2) := by rw [og_pred (by omega), show d - 1 - 1 = d - 2 by omega]
  have hin1 : om_in (nI (d - 1)) 120 = true := om_in_nI (by omega) (by omega)
  have hcl1 : (nI (d - 1)).toNatClampNeg = d - 1 := nI_clamp (by omega)
  have hin2 : om_in (nI (d - 2)) 120 = true := om_in_nI (by omega) (by omega)
  have hcl2 : (nI (d - 2)).toNatClampNeg = d - 2 := nI_clamp (by omega)
  show om_D_holdsNow_b78 om_F (nI d) (nI (120 + i)) M = _
  unfold om_D_holdsNow_b78
  rw [f15, if_neg hlt, hin, cond_true, hcl, h6, if_pos (by decide), cond_true, if_neg (by decide), cond_true, if_pos rfl, hp1, hp2, hin1, hin2, cond_true, cond_true, hcl1, hcl2, hv, hw]
  simp only [om_D_holdsNow_b200, om_D_holdsNow_b224, om_D_holdsNow_b229, om_D_holdsNow_b230, hin2, cond_true, hcl2, og_sD_nx]
  cases b <;> cases c
  · rw [if_pos (by decide)]; rfl
  · rw [if_pos (by decide)]; rfl
  · rw [if_neg (by decide), if_pos (by decide)]; rfl
  · rw [if_neg (by decide), if_neg (by decide)]; rfl
theorem og_sD_or {M : om_M} {s i d : Nat} (hs : s ≤ 120) (hi : i < s) (f15 : M.1 46 15 = nI s) {b c : Bool} (h6 : M.1 54 (120 + i) = 8) (hd : 2 ≤ d) (hd60 : d ≤ 60) (hv : M.1 68 (d - 2) = om_bi b) (hw : M.1 68 (d - 1) = om_bi c) : om_D_holdsNow_L78_body om_F (nI d, nI (120 + i), M) = some (.inl (nI (d - 1), nI (120 + (i + 1)), om_up M 68 (d - 2) (om_bi (b || c)))) := by
  have hlt := og_sD_lt hs hi
  have hin : om_in (nI (120 + i)) 240 = true := om_in_nI (by omega) (by omega)
  have hcl : (nI (120 + i)).toNatClampNeg = 120 + i := nI_clamp (by omega)
  have hp1 : nI d + (-1) = nI (d - 1) := og_pred' (by omega)
  have hp2 : nI (d - 1) - 1 = nI (d - 2) := by rw [og_pred (by omega), show d - 1 - 1 = d - 2 by omega]
  have hin1 : om_in (nI (d - 1)) 120 = true := om_in_nI (by omega) (by omega)
  have hcl1 : (nI (d - 1)).toNatClampNeg = d - 1 := nI_clamp (by omega)
  have hin2 : om_in (nI (d - 2)) 120 = true := om_in_nI (by omega) (by omega)
  have hcl2 : (nI (d - 2)).toNatClampNeg = d - 2 := nI_clamp (by omega)
  show om_D_holdsNow_b78 om_F (nI d) (nI (120 + i)) M = _
  unfold om_D_holdsNow_b78
  rw [f15, if_neg hlt, hin, cond_true, hcl, h6, if_pos (by decide), cond_true, if_neg (by decide), cond_true, if_neg (by decide), hp1, hp2, hin1, hin2, cond_true, cond_true, hcl1, hcl2, hv, hw]
  simp only [om_D_holdsNow_b200, om_D_holdsNow_b224, om_D_holdsNow_b229, om_D_holdsNow_b230, hin2, cond_true, hcl2, og_sD_nx]
  cases b <;> cases c
  · rw [if_pos (by decide), if_pos (by decide)]; rfl
  · rw [if_pos (by decide), if_neg (by decide)]; rfl
  · rw [if_neg (by decide)]; rfl
  · rw [if_neg (by decide)]; rfl
theorem og_runD {M : om_M} {n qa s : Nat} {c d : Nat → Nat} (hs : s ≤ 120) (h15 : M.1 46 15 = nI s) (hr : om_Qr M n qa 120 s c d) {τ : Nat → Bool} {Fr : om_M → Prop} (hFr : ∀ M', Fr M' → M'.1 46 15 = M.1 46 15 ∧ ∀ j, M'.1 54 (120 + j) = M.1 54 (120 + j)) (hF68 : ∀ M' j v, Fr M' → Fr (om_up M' 68 j v)) (hu : ∀ i, i < s → om_Qu M n qa (c i) (120 + i) → ∀ M', Fr M' → ∃ M'', om_D_plainHolds om_F (nI (120 + i)) M' = some (om_bi (τ i), M'') ∧ Fr M'' ∧ ∀ j, M''.1 68 j = M'.1 68 j) {M1 : om_M} (h1 : Fr M1) : ∃ M', om_D_holdsNow_L78 om_F (0, 120, M1) = some M' ∧ Fr M' ∧ ∀ j, j < d s → M'.1 68 j = om_bi (og_stk (fun i => M.1 54 (120 + i)) τ d s j) := by
  have h0 : ((0 : Int32), (120 : Int32), M1) = (nI (d 0), nI (120 + 0), M1) := by rw [hr.2.1, og_n120]; rfl
  rw [h0]
  refine om_lp (f := om_D_holdsNow_L78_body om_F) (fun i st => ∃ M', st = (nI (d i), nI (120 + i), M') ∧ Fr M' ∧ ∀ j, j < d i → M'.1 68 j = om_bi (og_stk (fun i => M.1 54 (120 + i)) τ d i j)) (fun M' : om_M => Fr M' ∧ ∀ j, j < d s → M'.1 68 j = om_bi (og_stk (fun i => M.1 54 (120 + i)) τ d s j)) s (F := om_F) (Nat.lt_of_le_of_lt hs (by decide)) ⟨M1, rfl, h1, fun j hj => by rw [hr.2.1] at hj; exact absurd hj (Nat.not_lt_zero _)⟩ (fun i s' hi hh => ?_) (fun s' hh => ?_)
  · obtain ⟨M2, rfl, g1, g2⟩ := hh
    have f15 : M2.1 46 15 = nI s := by rw [(hFr M2 g1).1, h15]
    have f54 : M2.1 54 (120 + i) = M.1 54 (120 + i) := (hFr M2 g1).2 _
    obtain ⟨hd60, hcase⟩ := hr.2.2 i hi
    rcases hcase with ⟨e1, e2, e3, e4⟩ | ⟨e1, e2, e3, e4, e5⟩ | ⟨e1, e2, e3, e4, e5⟩ | ⟨e1, e2, e3, e4, e5⟩
    · obtain ⟨M3, u1, u2, u3⟩ := hu i hi e2 M2 g1
      have hk : ¬ (6 : Int32) ≤ M.1 54 (120 + i) ∧ ¬ M.1 54 (120 + i) = 6 ∧ ¬ M.1 54 (120 + i) = 7 ∧ ¬ M.1 54 (120 + i) = 8 := by
        rcases e2.2 with ⟨k, k1, -, k2, -⟩ | ⟨-, k2⟩ | ⟨_, _, _, _, ⟨-, k2⟩ | ⟨-, k2⟩⟩
        · have : k = 0 ∨ k = 1 ∨ k = 2 := by omega
          rw [k2]
          rcases this with rfl | rfl | rfl <;> decide
        · rw [k2]; decide
        · rw [k2]; decide
        · rw [k2]; decide
      refine .inl ⟨_, og_sD_unit hs hi f15 (by rw [f54]; exact hk.1) hd60 u1, _, by rw [e4], hF68 _ _ _ u2, fun j hj => ?_⟩
      rw [om_up_at, if_pos (rfl : (68 : Nat) = 68)]
      show _ = om_bi (if M.1 54 (120 + i) = 6 then _ else if M.1 54 (120 + i) = 7 then _ else if M.1 54 (120 + i) = 8 then _ else (if j = d i then τ i else og_stk (fun i => M.1 54 (120 + i)) τ d i j))
      rw [if_neg hk.2.1, if_neg hk.2.2.1, if_neg hk.2.2.2]
      by_cases h : j = d i
      · rw [if_pos h, if_pos h]
      · rw [if_neg h, if_neg h, u3, g2 j (by omega)]
    · refine .inl ⟨_, og_sD_not hs hi f15 (by rw [f54]; exact e2) e3 hd60 (g2 (d i - 1) (by omega)), _, by rw [e5], hF68 _ _ _ g1, fun j hj => ?_⟩
      rw [om_up_at, if_pos (rfl : (68 : Nat) = 68)]
      show _ = om_bi (if M.1 54 (120 + i) = 6 then (if j = d i - 1 then !(og_stk (fun i => M.1 54 (120 + i)) τ d i j) else og_stk (fun i => M.1 54 (120 + i)) τ d i j) else _)
      rw [if_pos e2]
      by_cases h : j = d i - 1
      · rw [if_pos h, if_pos h, h]
      · rw [if_neg h, if_neg h, g2 j (by omega)]
    · refine .inl ⟨_, og_sD_and hs hi f15 (by rw [f54]; exact e2) e3 hd60 (g2 (d i - 2) (by omega)) (g2 (d i - 1) (by omega)), _, by rw [show d (i + 1) = d i - 1 by omega], hF68 _ _ _ g1, fun j hj => ?_⟩
      rw [om_up_at, if_pos (rfl : (68 : Nat) = 68)]
      show _ = om_bi (if M.1 54 (120 + i) = 6 then _ else if M.1 54 (120 + i) = 7 then (if j = d i - 2 then (og_stk (fun i => M.1 54 (120 + i)) τ d i (d i - 2) && og_stk (fun i => M.1 54 (120 + i)) τ d i (d i - 1)) else og_stk (fun i => M.1 54 (120 + i)) τ d i j) else _)
      rw [e2, if_neg (show ¬ (7 : Int32) = 6 by decide), if_pos (rfl : (7 : Int32) = 7)]
      by_cases h : j = d i - 2
      · rw [if_pos h, if_pos h]
      · rw [if_neg h, if_neg h, g2 j (by omega)]
    · refine .inl ⟨_, og_sD_or hs hi f15 (by rw [f54]; exact e2) e3 hd60 (g2 (d i - 2) (by omega)) (g2 (d i - 1) (by omega)), _, by rw [show d (i + 1) = d i - 1 by omega], hF68 _ _ _ g1, fun j hj => ?_⟩
      rw [om_up_at, if_pos (rfl : (68 : Nat) = 68)]
      show _ = om_bi (if M.1 54 (120 + i) = 6 then _ else if M.1 54 (120 + i) = 7 then _ else if M.1 54 (120 + i) = 8 then (if j = d i - 2 then (og_stk (fun i => M.1 54 (120 + i)) τ d i (d i - 2) || og_stk (fun i => M.1 54 (120 + i)) τ d i (d i - 1)) else og_stk (fun i => M.1 54 (120 + i)) τ d i j) else _)
      rw [e2, if_neg (show ¬ (8 : Int32) = 6 by decide), if_neg (show ¬ (8 : Int32) = 7 by decide), if_pos (rfl : (8 : Int32) = 8)]
      by_cases h : j = d i - 2
      · rw [if_pos h, if_pos h]
      · rw [if_neg h, if_neg h, g2 j (by omega)]
  · obtain ⟨M2, rfl, g1, g2⟩ := hh
    exact ⟨_, og_sD_end (by rw [(hFr M2 g1).1, h15]), g1, g2⟩
