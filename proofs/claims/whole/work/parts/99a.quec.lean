/-! ===== the class pops ===== -/
theorem og_wv_eq {k : Nat} (h1 : 6 ≤ k) (h2 : k ≤ 9) : (og_wv k = -1 ↔ k = 6) ∧ (og_wv k = -2 ↔ k = 7) ∧ (og_wv k = -3 ↔ k = 8) ∧ (og_wv k = -4 ↔ k = 9) := by
  have : k = 6 ∨ k = 7 ∨ k = 8 ∨ k = 9 := by omega
  rcases this with rfl | rfl | rfl | rfl <;> decide
section QC
variable {qd : Nat} {h : Nat → Nat} {C : om_M} {R H m : Nat}
/-- one pop of the class -/
theorem og_popC (hq : qd = 30 ∨ qd = 38) (h6 : C.1 qd 6 = nI R) (h8 : C.1 qd 8 = nI H) (hHR : H + R ≤ 120) {j : Nat} (hj : j < H) : om_Q_emit om_F qd (og_wv (h (H - j - 1))) (og_poC qd h C R H j) = some (om_up (om_up (og_poC qd h C R H j) qd 6 (nI (R + j + 1))) (qd + 6) (R + j) (og_wv (h (H - j - 1)))) ∧ om_up (om_up (om_up (og_poC qd h C R H j) qd 6 (nI (R + j + 1))) (qd + 6) (R + j) (og_wv (h (H - j - 1)))) qd 8 ((om_up (om_up (og_poC qd h C R H j) qd 6 (nI (R + j + 1))) (qd + 6) (R + j) (og_wv (h (H - j - 1)))).1 qd 8 - 1) = og_poC qd h C R H (j + 1) := by
  obtain ⟨a1, a2, a3, a4, a5⟩ := og_poC_facts hq h6 h8 (h := h) j (by omega)
  refine ⟨og_Q_emit hq (by omega) a1 _, ?_⟩
  have e8 : (om_up (om_up (og_poC qd h C R H j) qd 6 (nI (R + j + 1))) (qd + 6) (R + j) (og_wv (h (H - j - 1)))).1 qd 8 = nI (H - j) := by
    rw [om_up_at, if_neg (by omega), om_up_at, if_pos rfl, if_neg (by decide), a2]
  rw [e8, og_pred (by omega)]
  rfl
theorem og_lastC (hq : qd = 30 ∨ qd = 38) (h6 : C.1 qd 6 = nI R) (h8 : C.1 qd 8 = nI H) (hHR : H + R ≤ 120) (hw : ∀ j, j < H → C.1 (qd + 7) j = og_wv (h j)) {j : Nat} (hj : j ≤ H) : om_Q_lastHeld om_F qd (og_poC qd h C R H j) = some (if H - j = 0 then 0 else og_wv (h (H - j - 1)), og_poC qd h C R H j) := by
  obtain ⟨a1, a2, a3, a4, a5⟩ := og_poC_facts hq h6 h8 (h := h) j hj
  rw [og_Q_last hq (by omega) a2]
  by_cases h0 : H - j = 0
  · rw [if_pos h0, if_pos h0]
  · rw [if_neg h0, if_neg h0, a3, hw _ (by omega)]
theorem og_emitNots (hq : qd = 30 ∨ qd = 38) (h6 : C.1 qd 6 = nI R) (h8 : C.1 qd 8 = nI H) (hHR : H + R ≤ 120) (hw : ∀ j, j < H → C.1 (qd + 7) j = og_wv (h j) ∧ 6 ≤ h j ∧ h j ≤ 9) (hm : og_pp 6 h H m) : om_Q_emitNots om_F qd C = some (og_poC qd h C R H m) := by
  obtain ⟨m1, m2, m3⟩ := hm
  have hob := og_qa1 hq
  obtain ⟨z, hz, rfl⟩ := om_lp (f := om_Q_emitNots_L5_body om_F) (fun i st => st = (qd, nI (H - i), og_poC qd h C R H i)) (fun z => z = og_poC qd h C R H m) m (F := om_F) (Nat.lt_of_le_of_lt (show m ≤ 120 by omega) (by decide)) (s := (qd, nI H, C)) rfl (by
    rintro i st hi rfl
    have hgt : ¬ nI (H - i) ≤ 0 := nI_ge (b := H - i) (a := 0) (by omega) (by omega)
    obtain ⟨w1, w2, w3⟩ := hw (H - i - 1) (by omega)
    have hle := m2 (H - i - 1) (by omega) (by omega)
    have hk : h (H - i - 1) = 6 := by omega
    have e := (og_wv_eq w2 w3).1.mpr hk
    have hl := og_lastC hq h6 h8 hHR (fun j hj => (hw j hj).1) (j := i) (by omega)
    rw [if_neg (show ¬ H - i = 0 by omega), e] at hl
    obtain ⟨p1, p2⟩ := og_popC hq h6 h8 hHR (h := h) (j := i) (by omega)
    rw [e] at p1 p2
    refine .inl ⟨(qd, nI (H - (i + 1)), og_poC qd h C R H (i + 1)), ?_, rfl⟩
    simp only [om_Q_emitNots_L5_body, om_Q_emitNots_b5, hgt, if_false, hob, cond_true, hl, Option.bind_some, if_true, p1, p2, og_pred' (show 1 ≤ H - i by omega)]
    rfl) (by
    rintro st rfl
    by_cases h0 : H - m = 0
    · refine ⟨_, ?_, rfl⟩
      simp only [om_Q_emitNots_L5_body, om_Q_emitNots_b5, h0]
      rw [if_pos (show nI 0 ≤ 0 from Int32.le_rfl)]
    · have hgt : ¬ nI (H - m) ≤ 0 := nI_ge (b := H - m) (a := 0) (by omega) (by omega)
      obtain ⟨w1, w2, w3⟩ := hw (H - m - 1) (by omega)
      have hl := og_lastC hq h6 h8 hHR (fun j hj => (hw j hj).1) (j := m) m1
      rw [if_neg h0] at hl
      have hne : ¬ og_wv (h (H - m - 1)) = -1 := fun hx => by
        have := (og_wv_eq w2 w3).1.mp hx; omega
      refine ⟨_, ?_, rfl⟩
      simp only [om_Q_emitNots_L5_body, om_Q_emitNots_b5, hgt, if_false, hob, cond_true, hl, Option.bind_some, hne])
  unfold om_Q_emitNots om_Q_emitNots_b0 om_Q_emitNots_b38 om_Q_emitNots_L5
  rw [hob, cond_true, h8, hz]; rfl
theorem og_emitHeld (hq : qd = 30 ∨ qd = 38) (h6 : C.1 qd 6 = nI R) (h8 : C.1 qd 8 = nI H) (hHR : H + R ≤ 120) (hw : ∀ j, j < H → C.1 (qd + 7) j = og_wv (h j) ∧ 6 ≤ h j ∧ h j ≤ 9) (hm : og_pp 8 h H m) : om_Q_emitHeld om_F qd C = some (og_poC qd h C R H m) := by
  obtain ⟨m1, m2, m3⟩ := hm
  have hob := og_qa1 hq
  obtain ⟨z, hz, rfl⟩ := om_lp (f := om_Q_emitHeld_L5_body om_F) (fun i st => st = (qd, nI (H - i), og_poC qd h C R H i)) (fun z => z = og_poC qd h C R H m) m (F := om_F) (Nat.lt_of_le_of_lt (show m ≤ 120 by omega) (by decide)) (s := (qd, nI H, C)) rfl (by
    rintro i st hi rfl
    have hgt : ¬ nI (H - i) ≤ 0 := nI_ge (b := H - i) (a := 0) (by omega) (by omega)
    obtain ⟨w1, w2, w3⟩ := hw (H - i - 1) (by omega)
    have hle := m2 (H - i - 1) (by omega) (by omega)
    have hne : ¬ og_wv (h (H - i - 1)) = -4 := fun hx => by
      have := (og_wv_eq w2 w3).2.2.2.mp hx; omega
    have hl := og_lastC hq h6 h8 hHR (fun j hj => (hw j hj).1) (j := i) (by omega)
    rw [if_neg (show ¬ H - i = 0 by omega)] at hl
    obtain ⟨p1, p2⟩ := og_popC hq h6 h8 hHR (h := h) (j := i) (by omega)
    refine .inl ⟨(qd, nI (H - (i + 1)), og_poC qd h C R H (i + 1)), ?_, rfl⟩
    simp only [om_Q_emitHeld_L5_body, om_Q_emitHeld_b5, hgt, if_false, hob, cond_true, hl, Option.bind_some, hne, p1, p2, og_pred' (show 1 ≤ H - i by omega)]
    rfl) (by
    rintro st rfl
    by_cases h0 : H - m = 0
    · refine ⟨_, ?_, rfl⟩
      simp only [om_Q_emitHeld_L5_body, om_Q_emitHeld_b5, h0]
      rw [if_pos (show nI 0 ≤ 0 from Int32.le_rfl)]
    · have hgt : ¬ nI (H - m) ≤ 0 := nI_ge (b := H - m) (a := 0) (by omega) (by omega)
      obtain ⟨w1, w2, w3⟩ := hw (H - m - 1) (by omega)
      have hl := og_lastC hq h6 h8 hHR (fun j hj => (hw j hj).1) (j := m) m1
      rw [if_neg h0] at hl
      have he : og_wv (h (H - m - 1)) = -4 := (og_wv_eq w2 w3).2.2.2.mpr (by omega)
      refine ⟨_, ?_, rfl⟩
      simp only [om_Q_emitHeld_L5_body, om_Q_emitHeld_b5, hgt, if_false, hob, cond_true, hl, Option.bind_some, he, if_true])
  unfold om_Q_emitHeld om_Q_emitHeld_b0 om_Q_emitHeld_b42 om_Q_emitHeld_L5
  rw [hob, cond_true, h8, hz]; rfl
theorem og_join (hq : qd = 30 ∨ qd = 38) (h6 : C.1 qd 6 = nI R) (h8 : C.1 qd 8 = nI H) (hHR : H + R ≤ 120) (hw : ∀ j, j < H → C.1 (qd + 7) j = og_wv (h j) ∧ 6 ≤ h j ∧ h j ≤ 9) {k : Nat} (hk : k = 7 ∨ k = 8) (hm : og_pp k h H m) (h6n : ∀ j, H - m - 1 ≤ j → j < H → h j ≠ 6) (hroom : H - m < 120) : om_Q_join om_F qd (og_wv k) C = some (om_up (om_up (og_poC qd h C R H m) qd 8 (nI (H - m + 1))) (qd + 7) (H - m) (og_wv k)) := by
  obtain ⟨m1, m2, m3⟩ := hm
  have hob := og_qa1 hq
  obtain ⟨z, hz, hq2⟩ := om_lp (f := om_Q_join_L5_body om_F) (fun i st => st = (qd, og_wv k, nI (H - i), og_poC qd h C R H i)) (fun z => z = .inl (qd, og_wv k, og_poC qd h C R H m) ∨ z = .inr (qd, og_wv k, og_poC qd h C R H m)) m (F := om_F) (Nat.lt_of_le_of_lt (show m ≤ 120 by omega) (by decide)) (s := (qd, og_wv k, nI H, C)) rfl (by
    rintro i st hi rfl
    have hgt : ¬ nI (H - i) ≤ 0 := nI_ge (b := H - i) (a := 0) (by omega) (by omega)
    obtain ⟨w1, w2, w3⟩ := hw (H - i - 1) (by omega)
    have hle := m2 (H - i - 1) (by omega) (by omega)
    have hn6 := h6n (H - i - 1) (by omega) (by omega)
    have hl := og_lastC hq h6 h8 hHR (fun j hj => (hw j hj).1) (j := i) (by omega)
    rw [if_neg (show ¬ H - i = 0 by omega)] at hl
    obtain ⟨p1, p2⟩ := og_popC hq h6 h8 hHR (h := h) (j := i) (by omega)
    refine .inl ⟨(qd, og_wv k, nI (H - (i + 1)), og_poC qd h C R H (i + 1)), ?_, rfl⟩
    have h78 : h (H - i - 1) = 7 ∨ h (H - i - 1) = 8 := by omega
    rcases h78 with h7 | h8'
    · have e := (og_wv_eq w2 w3).2.1.mpr h7
      rw [e] at hl p1 p2
      simp only [om_Q_join_L5_body, om_Q_join_b5, om_Q_join_b35, hgt, if_false, hob, cond_true, hl, Option.bind_some, if_true, p1, p2, og_pred' (show 1 ≤ H - i by omega)]
      rfl
    · have e := (og_wv_eq w2 w3).2.2.1.mpr h8'
      have hk8 : k = 8 := by omega
      subst hk8
      rw [e] at hl p1 p2
      simp only [om_Q_join_L5_body, om_Q_join_b5, om_Q_join_b35, hgt, if_false, hob, cond_true, hl, Option.bind_some, if_true, show ¬ (-3 : Int32) = -2 by decide, show ¬ og_wv 8 = -2 by decide, p1, p2, og_pred' (show 1 ≤ H - i by omega)]
      rfl) (by
    rintro st rfl
    by_cases h0 : H - m = 0
    · refine ⟨_, ?_, .inr rfl⟩
      simp only [om_Q_join_L5_body, om_Q_join_b5, h0]
      rw [if_pos (show nI 0 ≤ 0 from Int32.le_rfl)]
    · have hgt : ¬ nI (H - m) ≤ 0 := nI_ge (b := H - m) (a := 0) (by omega) (by omega)
      obtain ⟨w1, w2, w3⟩ := hw (H - m - 1) (by omega)
      have hl := og_lastC hq h6 h8 hHR (fun j hj => (hw j hj).1) (j := m) m1
      rw [if_neg h0] at hl
      have hn6 := h6n (H - m - 1) (Nat.le_refl _) (by omega)
      have hlev : k < h (H - m - 1) := by omega
      by_cases h8' : h (H - m - 1) = 8
      · have e := (og_wv_eq w2 w3).2.2.1.mpr h8'
        have hk7 : k = 7 := by omega
        subst hk7
        rw [e] at hl
        refine ⟨_, ?_, .inl rfl⟩
        simp only [om_Q_join_L5_body, om_Q_join_b5, hgt, if_false, hob, cond_true, hl, Option.bind_some, show ¬ (-3 : Int32) = -2 by decide, if_true, show og_wv 7 = -2 from rfl]
      · have e := (og_wv_eq w2 w3).2.2.2.mpr (by omega)
        rw [e] at hl
        refine ⟨_, ?_, .inr rfl⟩
        simp only [om_Q_join_L5_body, om_Q_join_b5, hgt, if_false, hob, cond_true, hl, Option.bind_some, show ¬ (-4 : Int32) = -2 by decide, show ¬ (-4 : Int32) = -3 by decide])
  obtain ⟨a1, a2, a3, a4, a5⟩ := og_poC_facts hq h6 h8 (h := h) m m1
  have hh := og_Q_hold hq hroom a2 (og_wv k)
  unfold om_Q_join om_Q_join_b0 om_Q_join_L5
  rw [hob, cond_true, h8, hz]
  rcases hq2 with rfl | rfl
  · simp only [Option.bind_some, Sum.elim_inl, om_Q_join_b56, hob, cond_true, hh]
  · simp only [Option.bind_some, Sum.elim_inr, om_Q_join_b56, hob, cond_true, hh]
end QC
/-- one pop keeps the two sides together -/
theorem og_Rel_pop {n qd : Nat} (hq : qd = 30 ∨ qd = 38) {C D : om_M} {H : Nat} {h : Nat → Nat} {R u dd : Nat} (hR : og_Rel n qd C D H h R u dd) (hH : 0 < H) (hd60 : dd ≤ 60) {dd' : Nat} (hk : (h (H - 1) = 6 ∧ 1 ≤ dd ∧ dd' = dd) ∨ ((h (H - 1) = 7 ∨ h (H - 1) = 8) ∧ 2 ≤ dd ∧ dd' + 1 = dd)) : og_Rel n qd (og_p1C qd h C R H) (og_p1D h D R H) (H - 1) h (R + 1) u dd' := by
  obtain ⟨r1, r2, r3, r4, r5, r6, r7, cf, df, q1, q2, q3⟩ := hR
  have f0 := og_poC_facts hq r4 r1 (h := h) 1 (by omega)
  have f1 := og_poD_facts r5 r2 (h := h) 1 (by omega)
  have eC : og_poC qd h C R H 1 = og_p1C qd h C R H := rfl
  have eD : og_poD h D R H 1 = og_p1D h D R H := rfl
  rw [eC] at f0
  rw [eD] at f1
  obtain ⟨a1, a2, a3, a4, a5⟩ := f0
  obtain ⟨b1, b2, b3, b4, b5⟩ := f1
  have e6 : ∀ i, i < R → (og_p1C qd h C R H).1 (qd + 6) i = C.1 (qd + 6) i := fun i hi => by
    show (if qd + 6 = qd then _ else if qd + 6 = qd + 6 then (if i = R then _ else (if qd + 6 = qd then _ else C.1 (qd + 6) i)) else _) = _
    rw [if_neg (by omega), if_pos rfl, if_neg (by omega), if_neg (by omega)]
  have e6R : (og_p1C qd h C R H).1 (qd + 6) R = og_wv (h (H - 1)) := by
    show (if qd + 6 = qd then _ else if qd + 6 = qd + 6 then (if R = R then og_wv (h (H - 1)) else _) else _) = _
    rw [if_neg (by omega), if_pos rfl, if_pos rfl]
  have e54 : (og_p1D h D R H).1 54 R = nI (h (H - 1)) := by
    unfold og_p1D; rw [og_emD_at]; simp
  have keep := og_Qr_keep (X' := og_mix (og_p1C qd h C R H) (og_p1D h D R H)) q1 (fun i hi => by rw [og_mix_lo (by omega), og_mix_lo (by omega), e6 i hi]) (fun k j h1 h2 _ => by rw [og_mix_lo (by omega), og_mix_lo (by omega)]; exact a4 _ j (by omega) (by omega)) (fun a i h1 h2 hi => by rw [og_mix_hi (by omega), og_mix_hi (by omega)]; exact b4 a i h1 h2 (.inl hi))
  refine ⟨a2, b2, fun j hj => ?_, a1, b1, by rw [a4 qd 0 (by omega) (by omega)]; exact r6, by omega, ?_⟩
  · obtain ⟨c1, c2, c3⟩ := r3 j (by omega)
    exact ⟨by rw [a3]; exact c1, by rw [b3 67 j (by omega) (by omega)]; exact c2, c3⟩
  · obtain ⟨cf', df', s1, s2, s3⟩ := og_Qr_snoc (c' := u) (d' := dd') keep (by
      refine ⟨by omega, ?_⟩
      rw [og_mix_lo (show qd + 6 < 46 by omega), e6R, og_mix_hi (show 46 ≤ 54 by omega), Nat.zero_add, e54, q2, q3]
      rcases hk with ⟨k1, k2, k3⟩ | ⟨k1 | k1, k2, k3⟩ <;> rw [k1]
      · exact .inr (.inl ⟨rfl, rfl, k2, rfl, k3⟩)
      · exact .inr (.inr (.inl ⟨rfl, rfl, k2, rfl, k3⟩))
      · exact .inr (.inr (.inr ⟨rfl, rfl, k2, rfl, k3⟩)))
    exact ⟨cf', df', s1, s2, s3⟩
/-- many pops -/
theorem og_Rel_pops {n qd : Nat} (hq : qd = 30 ∨ qd = 38) {C D : om_M} {H : Nat} {h : Nat → Nat} {R u dd : Nat} (hR : og_Rel n qd C D H h R u dd) (hd60 : dd ≤ 60) (hdd : dd = og_jn h H + 1) : ∀ m, m ≤ H → (∀ j, H - m ≤ j → j < H → h j ≤ 8) → og_Rel n qd (og_poC qd h C R H m) (og_poD h D R H m) (H - m) h (R + m) u (og_jn h (H - m) + 1) ∧ og_jn h (H - m) ≤ og_jn h H
  | 0, _, _ => ⟨by rw [Nat.sub_zero, ← hdd]; exact hR, Nat.le_refl _⟩
  | m + 1, hm, h8 => by
    obtain ⟨ih, ih2⟩ := og_Rel_pops hq hR hd60 hdd m (by omega) (fun j h1 h2 => h8 j (by omega) h2)
    have hk := (ih.2.2.1 (H - m - 1) (by omega)).2.2
    have hk8 := h8 (H - m - 1) (by omega) (by omega)
    have hjn : og_jn h (H - m) = og_jn h (H - m - 1) + (if decide (h (H - m - 1) = 7 ∨ h (H - m - 1) = 8) = true then 1 else 0) := by
      have : og_jn h (H - m - 1 + 1) = og_jn h (H - m - 1) + (if decide (h (H - m - 1) = 7 ∨ h (H - m - 1) = 8) = true then 1 else 0) := rfl
      rw [show H - m - 1 + 1 = H - m by omega] at this; exact this
    have e : H - (m + 1) = H - m - 1 := by omega
    have hle : og_jn h (H - m - 1) ≤ og_jn h (H - m) := by rw [hjn]; exact Nat.le_add_right _ _
    refine ⟨?_, by rw [e]; omega⟩
    rw [e]
    have := og_Rel_pop hq ih (by omega) (by omega) (dd' := og_jn h (H - m - 1) + 1) (by
      by_cases h6 : h (H - m - 1) = 6
      · left
        rw [hjn, h6, if_neg (by decide)]
        exact ⟨rfl, by omega, rfl⟩
      · right
        have h78 : h (H - m - 1) = 7 ∨ h (H - m - 1) = 8 := by omega
        rw [hjn, if_pos (by rw [decide_eq_true_eq]; exact h78)]
        exact ⟨h78, by omega, rfl⟩)
    exact this
