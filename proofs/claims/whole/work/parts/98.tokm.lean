/-! ===== the model's tokens ===== -/
section TM
variable {L : Nat} {bt : Nat → Nat}
def og_fD (D D' : om_M) : Prop := (∀ a j, ¬ (a = 46 ∧ 29 ≤ j ∧ j ≤ 32) → D'.1 a j = D.1 a j) ∧ D'.2 = D.2
theorem og_fD_rfl {D : om_M} : og_fD D D := ⟨fun _ _ _ => rfl, rfl⟩
theorem og_fD_tr {C C' C'' : om_M} (h : og_fD C C') (h' : og_fD C' C'') : og_fD C C'' := ⟨fun a j ha => by rw [h'.1 a j ha, h.1 a j ha], by rw [h'.2, h.2]⟩
theorem og_fD_up {C C' : om_M} (h : og_fD C C') {j : Nat} (hj : 29 ≤ j ∧ j ≤ 32) (v : Int32) : og_fD C (om_up C' 46 j v) := ⟨fun a i ha => by
  rw [om_up_at]
  by_cases h28 : a = 46
  · rw [if_pos h28, if_neg (fun hij => ha ⟨h28, by omega⟩)]; exact h.1 a i ha
  · rw [if_neg h28]; exact h.1 a i ha, h.2⟩
theorem og_TD_fD {C C' : om_M} (h : og_TD L bt C) (g : og_fD C C') : og_TD L bt C' := ⟨by rw [g.1 46 9 (by omega)]; exact h.1, fun i hi => by rw [g.1 53 i (by omega)]; exact h.2 i hi⟩
/-- the token that the model has read -/
def og_cu (L : Nat) (bt : Nat → Nat) (D : om_M) (c f e : Nat) : Prop := og_tok bt L c f e ∧ D.1 46 30 = nI f ∧ D.1 46 31 = nI e ∧ D.1 46 29 = nI e
theorem og_tok_le {c f e : Nat} (h : og_tok bt L c f e) : f ≤ e ∧ e ≤ L ∧ c ≤ e ∧ (f < L → c < e) := by
  obtain ⟨a1, a2, a3, a4, a5, a6⟩ := h
  by_cases hL : f = L
  · have := a5 hL; omega
  · obtain ⟨c1, c2, -, -⟩ := a6 (by omega); omega
theorem og_dtoken (hL : L ≤ 120) (hbt : ∀ i, bt i < 256) {D : om_M} (hT : og_TD L bt D) {c : Nat} (hc : c ≤ L) (h2 : D.1 46 29 = nI c) : ∃ D' f e, om_D_token om_F D = some D' ∧ og_fD D D' ∧ D'.1 46 32 = D.1 46 32 ∧ og_cu L bt D' c f e := by
  obtain ⟨C1, hz, f, a2, a32, a3, a4, a5, a6, a7⟩ := om_lp (f := om_D_token_L0_body om_F) (fun j C' => og_fD D C' ∧ C'.1 46 32 = D.1 46 32 ∧ C'.1 46 29 = nI (c + j) ∧ ∀ i, c ≤ i → i < c + j → bt i = 32) (fun C' => ∃ f, og_fD D C' ∧ C'.1 46 32 = D.1 46 32 ∧ C'.1 46 29 = nI f ∧ c ≤ f ∧ f ≤ L ∧ (∀ i, c ≤ i → i < f → bt i = 32) ∧ (f < L → bt f ≠ 32)) (L - c) (F := om_F) (Nat.lt_of_le_of_lt (show L - c ≤ 120 by omega) (by decide)) (s := D) ⟨og_fD_rfl, rfl, h2, fun i h1 h2 => absurd h1 (by omega)⟩ (by
    rintro j C' hj ⟨g1, g32, g2, g3⟩
    have hT' := og_TD_fD hT g1
    have hlt : ¬ nI L ≤ nI (c + j) := nI_ge (by omega) (by omega)
    have hin : om_in (nI (c + j)) 120 = true := om_in_nI (by omega) (by omega)
    have hcl : (nI (c + j)).toNatClampNeg = c + j := nI_clamp (by omega)
    have hb := hT'.2 (c + j) (by omega)
    have h32 : nI (bt (c + j)) = 32 ↔ bt (c + j) = 32 := nI_eq (b := 32) (by have := hbt (c + j); omega) (by omega)
    by_cases h : bt (c + j) = 32
    · refine .inl ⟨om_up C' 46 29 (nI (c + (j + 1))), ?_, og_fD_up g1 (by omega) _, by rw [om_up_at, if_pos rfl, if_neg (by decide)]; exact g32, by simp [om_up_at], fun i h1 h2 => ?_⟩
      · simp only [om_D_token_L0_body, om_D_token_b0, hT'.1, g2, hlt, if_false, hin, cond_true, hcl, hb, og_nI1, Nat.add_assoc]
        rw [if_pos (h32.mpr h)]
      · by_cases hi : i = c + j
        · subst hi; exact h
        · exact g3 i h1 (by omega)
    · exact .inr ⟨C', by simp only [om_D_token_L0_body, om_D_token_b0, hT'.1, g2, hlt, if_false, hin, cond_true, hcl, hb]; rw [if_neg (fun h1 => h (h32.mp h1))], c + j, g1, g32, g2, by omega, by omega, g3, fun _ => h⟩) (by
    rintro C' ⟨g1, g32, g2, g3⟩
    have hT' := og_TD_fD hT g1
    rw [show c + (L - c) = L by omega] at g2 g3
    exact ⟨C', by simp only [om_D_token_L0_body, om_D_token_b0, hT'.1, g2]; rw [if_pos Int32.le_rfl], L, g1, g32, g2, hc, Nat.le_refl _, g3, fun h => absurd h (Nat.lt_irrefl _)⟩)
  have hT1 := og_TD_fD hT a2
  have hX : og_fD C1 (om_up C1 46 30 (nI f)) := og_fD_up og_fD_rfl (by omega) _
  have x9 : (om_up C1 46 30 (nI f)).1 46 9 = nI L := (og_TD_fD hT1 hX).1
  have x29 : (om_up C1 46 30 (nI f)).1 46 29 = nI f := by simp [om_up_at, a3]
  have x30 : (om_up C1 46 30 (nI f)).1 46 30 = nI f := by simp [om_up_at]
  have x32 : (om_up C1 46 30 (nI f)).1 46 32 = D.1 46 32 := by simp [om_up_at, a32]
  unfold om_D_token om_D_token_e
  show ∃ D' f e, ((om_it (om_D_token_L0_body om_F) om_F D).bind _) = some D' ∧ _
  rw [hz]
  simp only [Option.bind_some]
  unfold om_D_token_b38
  rw [a3]
  generalize om_up C1 46 30 (nI f) = X at hX x9 x29 x30 x32
  rw [x9, x29]
  have hle : nI L ≤ nI f ↔ L ≤ f := by
    rw [Int32.le_iff_toInt_le, nI_toInt (by omega), nI_toInt (by omega)]; omega
  by_cases hfL : f < L
  · rw [if_neg (fun h => by have := hle.mp h; omega)]
    unfold om_D_token_b67 om_D_token_b137
    rw [og_nI1]
    have hY : og_fD C1 (om_up X 46 29 (nI (f + 1))) := og_fD_up hX (by omega) _
    have y29 : (om_up X 46 29 (nI (f + 1))).1 46 29 = nI (f + 1) := by simp [om_up_at]
    have y30 : (om_up X 46 29 (nI (f + 1))).1 46 30 = nI f := by simp [om_up_at, x30]
    have y32 : (om_up X 46 29 (nI (f + 1))).1 46 32 = D.1 46 32 := by simp [om_up_at, x32]
    generalize om_up X 46 29 (nI (f + 1)) = Y at hY y29 y30 y32
    have hTY := og_TD_fD hT1 hY
    have hinf : om_in (nI f) 120 = true := om_in_nI (by omega) (by omega)
    have hclf : (nI f).toNatClampNeg = f := nI_clamp (by omega)
    have hso : nI (og_so (bt f)) ≤ 0 ↔ og_so (bt f) = 0 := by
      have := og_so_le (bt f)
      rw [Int32.le_iff_toInt_le, nI_toInt (by omega), show (0 : Int32).toInt = 0 by decide]; omega
    obtain ⟨Z, hz2, e, b1, b32, b2, b3, b4, b5, b6, b7⟩ := om_lp (f := om_D_token_L71_body om_F) (fun j C' => og_fD Y C' ∧ C'.1 46 32 = D.1 46 32 ∧ C'.1 46 29 = nI (f + 1 + j) ∧ C'.1 46 30 = nI f ∧ ∀ i, f < i → i < f + 1 + j → 0 < og_so (bt f) ∧ og_so (bt i) = og_so (bt f)) (fun C' => ∃ e, og_fD Y C' ∧ C'.1 46 32 = D.1 46 32 ∧ C'.1 46 29 = nI e ∧ C'.1 46 30 = nI f ∧ f < e ∧ e ≤ L ∧ (∀ i, f < i → i < e → 0 < og_so (bt f) ∧ og_so (bt i) = og_so (bt f)) ∧ (e < L → og_so (bt f) = 0 ∨ og_so (bt e) ≠ og_so (bt f))) (L - (f + 1)) (F := om_F) (Nat.lt_of_le_of_lt (show L - (f + 1) ≤ 120 by omega) (by decide)) (s := Y) ⟨og_fD_rfl, y32, y29, y30, fun i h1 h2 => absurd h1 (by omega)⟩ (by
      rintro j C' hj ⟨g1, g32, g2, g4, g3⟩
      have hT' := og_TD_fD hTY g1
      have hlt : ¬ nI L ≤ nI (f + 1 + j) := nI_ge (by omega) (by omega)
      have hin : om_in (nI (f + 1 + j)) 120 = true := om_in_nI (by omega) (by omega)
      have hcl : (nI (f + 1 + j)).toNatClampNeg = f + 1 + j := nI_clamp (by omega)
      have hb := hT'.2 (f + 1 + j) (by omega)
      have hbf := hT'.2 f hfL
      have hseq : nI (og_so (bt (f + 1 + j))) = nI (og_so (bt f)) ↔ og_so (bt (f + 1 + j)) = og_so (bt f) := nI_eq (by have := og_so_le (bt (f + 1 + j)); omega) (by have := og_so_le (bt f); omega)
      by_cases h0 : og_so (bt f) = 0
      · exact .inr ⟨C', by simp only [om_D_token_L71_body, om_D_token_b71, hT'.1, g2, hlt, if_false, g4, hinf, cond_true, hclf, hbf, og_D_sort (hbt _), Option.bind_some, hso]; rw [if_pos h0], f + 1 + j, g1, g32, g2, g4, by omega, by omega, g3, fun _ => .inl h0⟩
      · by_cases h1 : og_so (bt (f + 1 + j)) = og_so (bt f)
        · refine .inl ⟨om_up C' 46 29 (nI (f + 1 + (j + 1))), ?_, og_fD_up g1 (by omega) _, by rw [om_up_at, if_pos rfl, if_neg (by decide)]; exact g32, by simp [om_up_at], by rw [om_up_at, if_pos rfl, if_neg (by decide)]; exact g4, fun i h3 h4 => ?_⟩
          · simp only [om_D_token_L71_body, om_D_token_b71, hT'.1, g2, hlt, if_false, g4, hinf, cond_true, hclf, hbf, og_D_sort (hbt _), Option.bind_some, hso, h0, hin, hcl, hb, og_nI1]
            rw [if_pos (hseq.mpr h1)]; rfl
          · by_cases hi : i = f + 1 + j
            · subst hi; exact ⟨by omega, h1⟩
            · exact g3 i h3 (by omega)
        · refine .inr ⟨C', ?_, f + 1 + j, g1, g32, g2, g4, by omega, by omega, g3, fun _ => .inr h1⟩
          simp only [om_D_token_L71_body, om_D_token_b71, hT'.1, g2, hlt, if_false, g4, hinf, cond_true, hclf, hbf, og_D_sort (hbt _), Option.bind_some, hso, h0, hin, hcl, hb]
          rw [if_neg (fun h => h1 (hseq.mp h))]) (by
      rintro C' ⟨g1, g32, g2, g4, g3⟩
      have hT' := og_TD_fD hTY g1
      rw [show f + 1 + (L - (f + 1)) = L by omega] at g2 g3
      exact ⟨C', by simp only [om_D_token_L71_body, om_D_token_b71, hT'.1, g2]; rw [if_pos Int32.le_rfl], L, g1, g32, g2, g4, hfL, Nat.le_refl _, g3, fun h => absurd h (Nat.lt_irrefl _)⟩)
    show ∃ D' f e, ((om_it (om_D_token_L71_body om_F) om_F Y).bind _) = some D' ∧ _
    rw [hz2]
    refine ⟨om_up Z 46 31 (Z.1 46 29), f, e, rfl, og_fD_tr a2 (og_fD_up (og_fD_tr hY b1) (by omega) _), by rw [om_up_at, if_pos rfl, if_neg (by decide)]; exact b32, ⟨a4, a5, a6, a7, fun h => by omega, fun _ => ⟨b4, b5, b6, b7⟩⟩, by rw [om_up_at, if_pos rfl, if_neg (by decide)]; exact b3, by rw [om_up_at, if_pos rfl, if_pos rfl]; exact b2, by rw [om_up_at, if_pos rfl, if_neg (by decide)]; exact b2⟩
  · rw [if_pos (hle.mpr (by omega))]
    have hfe : f = L := by omega
    unfold om_D_token_b67 om_D_token_b137
    rw [Int32.add_zero]
    have hY : og_fD C1 (om_up X 46 29 (nI f)) := og_fD_up hX (by omega) _
    have y29 : (om_up X 46 29 (nI f)).1 46 29 = nI f := by simp [om_up_at]
    have y30 : (om_up X 46 29 (nI f)).1 46 30 = nI f := by simp [om_up_at, x30]
    have y32 : (om_up X 46 29 (nI f)).1 46 32 = D.1 46 32 := by simp [om_up_at, x32]
    generalize om_up X 46 29 (nI f) = Y at hY y29 y30 y32
    have hTY := og_TD_fD hT1 hY
    have hz2 : om_D_token_L71 om_F Y = some Y := by
      have h1 : om_D_token_L71_body om_F Y = some (.inr Y) := by
        simp only [om_D_token_L71_body, om_D_token_b71, hTY.1, y29]
        rw [if_pos (hle.mpr (by omega))]
      exact om_it_r (F := 99999) h1
    rw [hz2]
    exact ⟨om_up Y 46 31 (Y.1 46 29), f, L, rfl, og_fD_tr a2 (og_fD_up hY (by omega) _), by rw [om_up_at, if_pos rfl, if_neg (by decide)]; exact y32, ⟨a4, a5, a6, a7, fun _ => rfl, fun h => absurd h hfL⟩, by rw [om_up_at, if_pos rfl, if_neg (by decide)]; exact y30, by rw [om_up_at, if_pos rfl, if_pos rfl, y29, hfe], by rw [om_up_at, if_pos rfl, if_neg (by decide), y29, hfe]⟩
theorem og_D_isWord (hL : L ≤ 120) (hbt : ∀ i, bt i < 256) {D : om_M} (hT : og_TD L bt D) {c f e : Nat} (hcu : og_cu L bt D c f e) {k : Nat} (hk : k < 13) : ∃ r, om_D_isWord om_F (og_pkd k) (nI (og_ltn k)) D = some (om_bi r, D) ∧ (r = true ↔ og_isw bt k f e) := by
  obtain ⟨htk, h30, h31, h29⟩ := hcu
  obtain ⟨hfe, heL, -, -⟩ := og_tok_le htk
  obtain ⟨l1, l2⟩ : 1 ≤ og_ltn k ∧ og_ltn k ≤ 6 := og_ltn_le ⟨k, hk⟩
  have hsub : nI e - nI f = nI (e - f) := pk_sub hfe
  have hceq : nI (e - f) = nI (og_ltn k) ↔ e - f = og_ltn k := nI_eq (by omega) (by omega)
  unfold om_D_isWord om_D_isWord_b0 om_D_isWord_b18 om_D_isWord_b71
  rw [h30, h31, hsub]
  by_cases hlen : e - f = og_ltn k
  · rw [if_pos (hceq.mpr hlen)]
    obtain ⟨z, hz, r, q0, q1⟩ := om_lp (f := om_D_isWord_L22_body om_F) (fun i st => ∃ r : Bool, st = (og_pkd k, nI (og_ltn k), om_bi r, nI i, D) ∧ (r = true → ∀ j, j < i → bt (f + j) = og_ltr k j) ∧ (r = false → ¬ og_isw bt k f e)) (fun z => ∃ r : Bool, z = (om_bi r, D) ∧ (r = true ↔ og_isw bt k f e)) (og_ltn k) (F := om_F) (Nat.lt_of_le_of_lt l2 (by decide)) (s := (og_pkd k, nI (og_ltn k), 1, 0, D)) ⟨true, rfl, fun _ j hj => absurd hj (Nat.not_lt_zero _), fun h => (by cases h)⟩ (by
      rintro i st hi ⟨r, rfl, g1, g2⟩
      cases r with
      | false => exact .inr ⟨(0, D), by simp only [om_D_isWord_L22_body, om_D_isWord_b22]; rw [if_pos (show om_bi false = 0 from rfl)]; rfl, false, rfl, fun h => (by cases h), fun h => absurd h (g2 rfl)⟩
      | true =>
        have hlt : ¬ nI (og_ltn k) ≤ nI i := nI_ge hi (by omega)
        have hadd : nI f + nI i = nI (f + i) := nI_add ..
        have hin : om_in (nI (f + i)) 120 = true := om_in_nI (by omega) (by omega)
        have hcl : (nI (f + i)).toNatClampNeg = f + i := nI_clamp (by omega)
        have hb := hT.2 (f + i) (by omega)
        have hl : og_ltr k i < 256 := og_ltr_lt ⟨k, hk⟩ ⟨i, by omega⟩
        have hpk : (96 : Int32) + ((og_pkd k >>> ((5 * nI i) &&& 31)) &&& 31) = nI (og_ltr k i) := og_pkd_at ⟨k, hk⟩ ⟨i, by omega⟩ hi
        have hc : nI (bt (f + i)) = nI (og_ltr k i) ↔ bt (f + i) = og_ltr k i := nI_eq (by have := hbt (f + i); omega) (by omega)
        by_cases h : bt (f + i) = og_ltr k i
        · refine .inl ⟨(og_pkd k, nI (og_ltn k), om_bi true, nI (i + 1), D), ?_, true, rfl, fun _ j hj => ?_, fun h => (by cases h)⟩
          · simp only [om_D_isWord_L22_body, om_D_isWord_b22, om_D_isWord_b64, show ¬ om_bi true = 0 by decide, if_false, hlt, h30, hadd, hin, cond_true, hcl, hb, hpk, og_nI1]
            rw [if_pos (hc.mpr h)]; rfl
          · by_cases hji : j = i
            · subst hji; exact h
            · exact g1 rfl j (by omega)
        · refine .inl ⟨(og_pkd k, nI (og_ltn k), om_bi false, nI (i + 1), D), ?_, false, rfl, fun h => (by cases h), fun _ hw => h (hw.2 i hi)⟩
          simp only [om_D_isWord_L22_body, om_D_isWord_b22, om_D_isWord_b64, show ¬ om_bi true = 0 by decide, if_false, hlt, h30, hadd, hin, cond_true, hcl, hb, hpk, og_nI1]
          rw [if_neg (fun h1 => h (hc.mp h1))]; rfl) (by
      rintro st ⟨r, rfl, g1, g2⟩
      cases r with
      | false => exact ⟨(0, D), by simp only [om_D_isWord_L22_body, om_D_isWord_b22]; rw [if_pos (show om_bi false = 0 from rfl)]; rfl, false, rfl, fun h => (by cases h), fun h => absurd h (g2 rfl)⟩
      | true => exact ⟨(1, D), by simp only [om_D_isWord_L22_body, om_D_isWord_b22, show ¬ om_bi true = 0 by decide, if_false]; rw [if_pos Int32.le_rfl]; rfl, true, rfl, fun _ => ⟨by omega, g1 rfl⟩, fun _ => rfl⟩)
    subst q0
    refine ⟨r, ?_, q1⟩
    show ((om_it (om_D_isWord_L22_body om_F) om_F (og_pkd k, nI (og_ltn k), 1, 0, D)).bind _) = _
    rw [hz]
    simp only [Option.bind_some, om_nr_bi, cond_true]
  · rw [if_neg (fun h => hlen (hceq.mp h))]
    have hz2 : om_D_isWord_L22 om_F (og_pkd k, nI (og_ltn k), 0, 0, D) = some (0, D) := by
      have h1 : om_D_isWord_L22_body om_F (og_pkd k, nI (og_ltn k), 0, 0, D) = some (.inr (0, D)) := by
        simp only [om_D_isWord_L22_body, om_D_isWord_b22, if_true]
      exact om_it_r (F := 99999) h1
    rw [hz2]
    exact ⟨false, rfl, fun h => (by cases h), fun h => by have := h.1; omega⟩
theorem og_D_skips (hL : L ≤ 120) (hbt : ∀ i, bt i < 256) {D : om_M} (hT : og_TD L bt D) {c f e : Nat} (hcu : og_cu L bt D c f e) {k : Nat} (hk : k < 13) : ∃ r D', om_D_skips om_F (og_pkd k) (nI (og_ltn k)) D = some (om_bi r, D') ∧ (r = true ↔ og_isw bt k f e) ∧ (r = false → D' = D) ∧ (r = true → og_fD D D' ∧ ∃ f' e', og_cu L bt D' e f' e') := by
  obtain ⟨r, h1, h2⟩ := og_D_isWord hL hbt hT hcu hk
  unfold om_D_skips om_D_skips_b0 om_D_skips_b15
  rw [h1]
  simp only [Option.bind_some]
  cases r with
  | false => exact ⟨false, D, rfl, h2, fun _ => rfl, fun h => (by cases h)⟩
  | true =>
    rw [if_neg (show ¬ om_bi true = 0 by decide)]
    obtain ⟨D', f', e', g1, g2, -, g3⟩ := og_dtoken hL hbt hT (og_tok_le hcu.1).2.1 hcu.2.2.2
    rw [g1]
    exact ⟨true, D', rfl, h2, fun h => (by cases h), fun _ => ⟨g2, f', e', g3⟩⟩
theorem og_D_isSign (hL : L ≤ 120) (hbt : ∀ i, bt i < 256) {D : om_M} (hT : og_TD L bt D) {c f e : Nat} (hcu : og_cu L bt D c f e) {v : Nat} (hv : v < 256) (hv0 : og_so v = 0) : ∃ r, om_D_isSign om_F (nI v) D = some (om_bi r, D) ∧ (r = true ↔ (f < L ∧ bt f = v)) := by
  obtain ⟨htk, h30, h31, h29⟩ := hcu
  obtain ⟨hfe, heL, -, -⟩ := og_tok_le htk
  have hsub : nI e - nI f = nI (e - f) := pk_sub hfe
  have hle : nI L ≤ nI f ↔ L ≤ f := by
    rw [Int32.le_iff_toInt_le, nI_toInt (by omega), nI_toInt (by omega)]; have := htk.2.1; omega
  have h1 : nI (e - f) = 1 ↔ e - f = 1 := nI_eq (b := 1) (by omega) (by omega)
  unfold om_D_isSign om_D_isSign_b0 om_D_isSign_b41 om_D_isSign_b42
  rw [hT.1, h30, h31, hsub]
  by_cases hfL : f < L
  · rw [if_neg (fun h => by have := hle.mp h; omega)]
    have hin : om_in (nI f) 120 = true := om_in_nI (by omega) (by omega)
    have hcl : (nI f).toNatClampNeg = f := nI_clamp (by omega)
    have hc : nI (bt f) = nI v ↔ bt f = v := nI_eq (by have := hbt f; omega) (by omega)
    by_cases hb : bt f = v
    · have he1 : e - f = 1 := by
        obtain ⟨c1, c2, c3, c4⟩ := htk.2.2.2.2.2 hfL
        refine Classical.byContradiction fun hne => ?_
        have := (c3 (f + 1) (by omega) (by omega)).1
        rw [hb, hv0] at this; omega
      rw [if_pos (h1.mpr he1), hin, cond_true, hcl, hT.2 f hfL, if_pos (hc.mpr hb)]
      exact ⟨true, rfl, fun _ => ⟨hfL, hb⟩, fun _ => rfl⟩
    · refine ⟨false, ?_, fun h => (by cases h), fun h => absurd h.2 hb⟩
      by_cases he1 : e - f = 1
      · rw [if_pos (h1.mpr he1), hin, cond_true, hcl, hT.2 f hfL, if_neg (fun h => hb (hc.mp h))]; rfl
      · rw [if_neg (fun h => he1 (h1.mp h))]; rfl
  · rw [if_pos (hle.mpr (by omega))]
    exact ⟨false, rfl, fun h => (by cases h), fun h => absurd h.1 hfL⟩
theorem og_nv_stepD {s v : Nat} (hv : 48 ≤ v) : 10 * nI s + nI v - 48 = nI (s * 10 + (v - 48)) := by
  rw [show (10 : Int32) = nI 10 by decide, pk_mul, nI_add, show (48 : Int32) = nI 48 by decide, pk_sub (by omega)]
  congr 1; omega
/-- what a number token says, if it says it in two digits -/
def og_num2 (bt : Nat → Nat) (L f e v : Nat) : Prop := f < L ∧ og_so (bt f) = 2 ∧ e - f ≤ 2 ∧ v = og_nv bt f (e - f)
theorem og_D_isNumber (hL : L ≤ 120) (hbt : ∀ i, bt i < 256) {D : om_M} (hT : og_TD L bt D) {c f e : Nat} (hcu : og_cu L bt D c f e) {x : Int32} {mo : Int} (hx : x.toInt = mo) : ∃ r D', om_D_isNumber om_F x D = some (om_bi r, D') ∧ og_fD D D' ∧ og_cu L bt D' c f e ∧ (r = true ↔ ∃ v : Nat, og_num2 bt L f e v ∧ (v : Int) ≤ mo) ∧ (r = true → ∀ v, og_num2 bt L f e v → D'.1 46 32 = nI v) := by
  obtain ⟨htk, h30, h31, h29⟩ := id hcu
  obtain ⟨hfe, heL, -, -⟩ := og_tok_le htk
  have hsub : nI e - nI f = nI (e - f) := pk_sub hfe
  have hle : nI L ≤ nI f ↔ L ≤ f := by
    rw [Int32.le_iff_toInt_le, nI_toInt (by omega), nI_toInt (by omega)]; have := htk.2.1; omega
  have hX : og_fD D (om_up D 46 32 0) := og_fD_up og_fD_rfl (by omega) _
  have hcuX : ∀ D', og_fD D D' → D'.1 46 29 = D.1 46 29 → D'.1 46 30 = D.1 46 30 → D'.1 46 31 = D.1 46 31 → og_cu L bt D' c f e := fun D' _ a1 a2 a3 => ⟨htk, by rw [a2, h30], by rw [a3, h31], by rw [a1, h29]⟩
  -- no number
  have hno : (¬ ∃ v : Nat, og_num2 bt L f e v ∧ (v : Int) ≤ mo) → om_D_isNumber_b44 om_F x D = some (0, om_up D 46 32 0) := by
    intro _
    unfold om_D_isNumber_b44 om_D_isNumber_b45
    have h1 : om_D_isNumber_L56_body om_F (x, 0, (om_up D 46 32 0).1 46 30, om_up D 46 32 0) = some (.inr (x, 0, om_up D 46 32 0)) := by
      simp only [om_D_isNumber_L56_body, om_D_isNumber_b56, if_true]
    have h2 : om_D_isNumber_L56 om_F (x, 0, (om_up D 46 32 0).1 46 30, om_up D 46 32 0) = some (x, 0, om_up D 46 32 0) := om_it_r (F := 99999) h1
    rw [h2]
    simp only [Option.bind_some, om_D_isNumber_b95, om_D_isNumber_b111, om_D_isNumber_b112, if_true]
    rfl
  have out : om_D_isNumber om_F x D = om_D_isNumber_b44 om_F x D → (¬ ∃ v : Nat, og_num2 bt L f e v ∧ (v : Int) ≤ mo) → ∃ r D', om_D_isNumber om_F x D = some (om_bi r, D') ∧ og_fD D D' ∧ og_cu L bt D' c f e ∧ (r = true ↔ ∃ v : Nat, og_num2 bt L f e v ∧ (v : Int) ≤ mo) ∧ (r = true → ∀ v, og_num2 bt L f e v → D'.1 46 32 = nI v) := fun he hn => ⟨false, om_up D 46 32 0, by rw [he, hno hn]; rfl, hX, hcuX _ hX (by simp [om_up_at]) (by simp [om_up_at]) (by simp [om_up_at]), ⟨fun h => (by cases h), fun h => absurd h hn⟩, fun h => (by cases h)⟩
  by_cases hfL : f < L
  · have hin : om_in (nI f) 120 = true := om_in_nI (by omega) (by omega)
    have hcl : (nI f).toNatClampNeg = f := nI_clamp (by omega)
    have hs2 : nI (og_so (bt f)) = 2 ↔ og_so (bt f) = 2 := nI_eq (b := 2) (by have := og_so_le (bt f); omega) (by omega)
    have h2lt : (2 : Int32) < nI (e - f) ↔ 2 < e - f := nI_ltI (a := 2) (by omega) (by omega)
    have hdef : om_D_isNumber om_F x D = (if og_so (bt f) = 2 then (if 2 < e - f then om_D_isNumber_b44 om_F x D else om_D_isNumber_b45 om_F x 1 D) else om_D_isNumber_b44 om_F x D) := by
      unfold om_D_isNumber om_D_isNumber_b0
      rw [hT.1, h30, if_neg (fun h => by have := hle.mp h; omega), hin, cond_true, hcl, hT.2 f hfL, og_D_sort (hbt f)]
      simp only [Option.bind_some, hs2, h30, h31, hsub, h2lt]
    by_cases hd : og_so (bt f) = 2
    · by_cases hlen : 2 < e - f
      · refine out (by rw [hdef, if_pos hd, if_pos hlen]) fun ⟨v, hv, _⟩ => ?_
        have := hv.2.2.1; omega
      · rw [hdef, if_pos hd, if_neg hlen]
        have hall : ∀ i, f ≤ i → i < e → og_so (bt i) = 2 := fun i h1 h2 => by
          by_cases hif : i = f
          · subst hif; exact hd
          · rw [((htk.2.2.2.2.2 hfL).2.2.1 i (by omega) h2).2, hd]
        unfold om_D_isNumber_b45
        have x30 : (om_up D 46 32 0).1 46 30 = nI f := by simp [om_up_at, h30]
        rw [x30]
        obtain ⟨z, hz, D', q0, q1, q2, q3, q4, q5⟩ := om_lp (f := om_D_isNumber_L56_body om_F) (fun j st => ∃ D', st = (x, 1, nI (f + j), D') ∧ og_fD D D' ∧ D'.1 46 29 = D.1 46 29 ∧ D'.1 46 30 = D.1 46 30 ∧ D'.1 46 31 = D.1 46 31 ∧ D'.1 46 32 = nI (og_nv bt f j)) (fun z => ∃ D', z = (x, 1, D') ∧ og_fD D D' ∧ D'.1 46 29 = D.1 46 29 ∧ D'.1 46 30 = D.1 46 30 ∧ D'.1 46 31 = D.1 46 31 ∧ D'.1 46 32 = nI (og_nv bt f (e - f))) (e - f) (F := om_F) (Nat.lt_of_le_of_lt (show e - f ≤ 2 by omega) (by decide)) (s := (x, 1, nI f, om_up D 46 32 0)) ⟨om_up D 46 32 0, rfl, hX, by simp [om_up_at], by simp [om_up_at], by simp [om_up_at], by simp [om_up_at]; rfl⟩ (by
          rintro j st hj ⟨D', rfl, g1, g2, g3, g4, g5⟩
          have hT' := og_TD_fD hT g1
          have hlt : ¬ nI e ≤ nI (f + j) := nI_ge (by omega) (by omega)
          have hin : om_in (nI (f + j)) 120 = true := om_in_nI (by omega) (by omega)
          have hcl : (nI (f + j)).toNatClampNeg = f + j := nI_clamp (by omega)
          have hb := hT'.2 (f + j) (by omega)
          have h48 := og_so_2 (hall (f + j) (by omega) (by omega))
          refine .inl ⟨(x, 1, nI (f + (j + 1)), om_up D' 46 32 (nI (og_nv bt f (j + 1)))), ?_, _, rfl, og_fD_up g1 (by omega) _, by simp [om_up_at, g2], by simp [om_up_at, g3], by simp [om_up_at, g4], by simp [om_up_at]⟩
          simp only [om_D_isNumber_L56_body, om_D_isNumber_b56, show ¬ (1 : Int32) = 0 by decide, if_false, g4, h31, hlt, hin, cond_true, hcl, g5, hb, og_nv_stepD h48.1, og_nv, og_nI1, Nat.add_assoc]) (by
          rintro st ⟨D', rfl, g1, g2, g3, g4, g5⟩
          exact ⟨_, by simp only [om_D_isNumber_L56_body, om_D_isNumber_b56, show ¬ (1 : Int32) = 0 by decide, if_false, g4, h31]; rw [if_pos (by rw [show f + (e - f) = e by omega]; exact Int32.le_rfl)], D', rfl, g1, g2, g3, g4, g5⟩)
        subst q0
        show ∃ r D', ((om_it (om_D_isNumber_L56_body om_F) om_F (x, 1, nI f, om_up D 46 32 0)).bind _) = some (om_bi r, D') ∧ _
        rw [hz]
        simp only [Option.bind_some]
        have hnv : og_nv bt f (e - f) < 100 := by
          have h1 := og_nv_lt (bt := bt) hall
          have h2 : e - f = 1 ∨ e - f = 2 := by have := (htk.2.2.2.2.2 hfL).1; omega
          rcases h2 with h2 | h2 <;> rw [h2]
          · have := h1.1 (by omega); omega
          · exact h1.2 (by omega)
        have hcmp : x < nI (og_nv bt f (e - f)) ↔ mo < og_nv bt f (e - f) := by
          rw [Int32.lt_iff_toInt_lt, hx, nI_toInt (by omega)]
        have hnum : og_num2 bt L f e (og_nv bt f (e - f)) := ⟨hfL, hd, by omega, rfl⟩
        unfold om_D_isNumber_b95 om_D_isNumber_b111 om_D_isNumber_b112
        rw [if_neg (show ¬ (1 : Int32) = 0 by decide), q5]
        by_cases hm : mo < og_nv bt f (e - f)
        · rw [if_pos (hcmp.mpr hm)]
          exact ⟨false, D', rfl, q1, hcuX _ q1 q2 q3 q4, ⟨fun h => (by cases h), fun ⟨v, hv, hvm⟩ => by rw [hv.2.2.2] at hvm; omega⟩, fun h => (by cases h)⟩
        · rw [if_neg (fun h => hm (hcmp.mp h))]
          exact ⟨true, D', rfl, q1, hcuX _ q1 q2 q3 q4, ⟨fun _ => ⟨_, hnum, by omega⟩, fun _ => rfl⟩, fun _ v hv => by rw [q5, hv.2.2.2]⟩
    · exact out (by rw [hdef, if_neg hd]) fun ⟨v, hv, _⟩ => hd hv.2.1
  · refine out ?_ fun ⟨v, hv, _⟩ => hfL hv.1
    unfold om_D_isNumber om_D_isNumber_b0
    rw [hT.1, h30, if_pos (hle.mpr (by omega))]
end TM
