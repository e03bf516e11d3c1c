/-! ===== the rows and the waiting joins, on both sides ===== -/
def og_wv (k : Nat) : Int32 := if k = 6 then -1 else if k = 7 then -2 else if k = 8 then -3 else -4
def og_mix (C D : om_M) : om_M := (fun a j => if a < 46 then C.1 a j else D.1 a j, C.2)
theorem og_mix_lo {C D : om_M} {a j : Nat} (h : a < 46) : (og_mix C D).1 a j = C.1 a j := if_pos h
theorem og_mix_hi {C D : om_M} {a j : Nat} (h : 46 ≤ a) : (og_mix C D).1 a j = D.1 a j := if_neg (by omega)
theorem og_Qr_cm {M : om_M} {n q b s : Nat} {c d : Nat → Nat} (h : om_Qr M n q b s c d) : ∀ j i, i ≤ j → j ≤ s → c i ≤ c j
  | 0, i, hij, _ => by rw [show i = 0 by omega]; exact Nat.le_refl _
  | j + 1, i, hij, hj => by
    by_cases hi : i = j + 1
    · rw [hi]; exact Nat.le_refl _
    · have h1 := og_Qr_cm h j i (by omega) (by omega)
      obtain ⟨-, h2⟩ := h.2.2 j (by omega)
      rcases h2 with ⟨-, -, h3, -⟩ | ⟨-, -, -, h3, -⟩ | ⟨-, -, -, h3, -⟩ | ⟨-, -, -, h3, -⟩ <;> omega
/-- the rows stay if only what lies behind them changes -/
theorem og_Qr_keep {X X' : om_M} {n q R : Nat} {c d : Nat → Nat} (h : om_Qr X n q 0 R c d) (h6 : ∀ i, i < R → X'.1 (q + 6) i = X.1 (q + 6) i) (hq : ∀ k j, 1 ≤ k → k ≤ 5 → j < c R → X'.1 (q + k) j = X.1 (q + k) j) (hm : ∀ a i, 54 ≤ a → a ≤ 57 → i < R → X'.1 a i = X.1 a i) : om_Qr X' n q 0 R c d := by
  refine ⟨h.1, h.2.1, fun i hi => ?_⟩
  obtain ⟨h1, h2⟩ := h.2.2 i hi
  refine ⟨h1, ?_⟩
  have e54 : X'.1 54 (0 + i) = X.1 54 (0 + i) := hm 54 _ (by omega) (by omega) (by omega)
  rcases h2 with ⟨a1, a2, a3, a4⟩ | ⟨a1, a2, a3⟩ | ⟨a1, a2, a3⟩ | ⟨a1, a2, a3⟩
  · left
    have hc : c i < c R := by
      have := og_Qr_cm h R (i + 1) (by omega) (Nat.le_refl _)
      omega
    refine ⟨by rw [h6 i hi]; exact a1, ?_, a3, a4⟩
    unfold om_Qu at a2 ⊢
    rw [hq 1 _ (by omega) (by omega) hc, hq 2 _ (by omega) (by omega) hc, hq 3 _ (by omega) (by omega) hc, hq 4 _ (by omega) (by omega) hc, hq 5 _ (by omega) (by omega) hc, e54, hm 55 _ (by omega) (by omega) (show 0 + i < R by omega), hm 56 _ (by omega) (by omega) (show 0 + i < R by omega), hm 57 _ (by omega) (by omega) (show 0 + i < R by omega)]
    exact a2
  · exact .inr (.inl ⟨by rw [h6 i hi]; exact a1, by rw [e54]; exact a2, a3⟩)
  · exact .inr (.inr (.inl ⟨by rw [h6 i hi]; exact a1, by rw [e54]; exact a2, a3⟩))
  · exact .inr (.inr (.inr ⟨by rw [h6 i hi]; exact a1, by rw [e54]; exact a2, a3⟩))
theorem og_Qr_snoc {X : om_M} {n q R c' d' : Nat} {c d : Nat → Nat} (h : om_Qr X n q 0 R c d) (hc : om_Qc X n q 0 R (c R) (d R) c' d') : ∃ cf df, om_Qr X n q 0 (R + 1) cf df ∧ cf (R + 1) = c' ∧ df (R + 1) = d' := by
  refine ⟨fun i => if i ≤ R then c i else c', fun i => if i ≤ R then d i else d', ⟨?_, ?_, fun i hi => ?_⟩, ?_, ?_⟩
  · show (if 0 ≤ R then c 0 else c') = 0
    rw [if_pos (Nat.zero_le _)]; exact h.1
  · show (if 0 ≤ R then d 0 else d') = 0
    rw [if_pos (Nat.zero_le _)]; exact h.2.1
  · show om_Qc X n q 0 i (if i ≤ R then c i else c') (if i ≤ R then d i else d') (if i + 1 ≤ R then c (i + 1) else c') (if i + 1 ≤ R then d (i + 1) else d')
    rw [if_pos (show i ≤ R by omega), if_pos (show i ≤ R by omega)]
    by_cases hi2 : i + 1 ≤ R
    · rw [if_pos hi2, if_pos hi2]; exact h.2.2 i (by omega)
    · rw [if_neg hi2, if_neg hi2]
      have : i = R := by omega
      subst this; exact hc
  · show (if R + 1 ≤ R then _ else c') = c'
    rw [if_neg (by omega)]
  · show (if R + 1 ≤ R then _ else d') = d'
    rw [if_neg (by omega)]
def og_jn (h : Nat → Nat) (H : Nat) : Nat := og_cnt (fun j => decide (h j = 7 ∨ h j = 8)) H
def og_Rel (n qd : Nat) (C D : om_M) (H : Nat) (h : Nat → Nat) (R u dd : Nat) : Prop := C.1 qd 8 = nI H ∧ D.1 46 34 = nI H ∧ (∀ j, j < H → C.1 (qd + 7) j = og_wv (h j) ∧ D.1 67 j = nI (h j) ∧ 6 ≤ h j ∧ h j ≤ 9) ∧ C.1 qd 6 = nI R ∧ D.1 46 14 = nI R ∧ C.1 qd 0 = nI u ∧ H + R ≤ 120 ∧ ∃ cf df, om_Qr (og_mix C D) n qd 0 R cf df ∧ cf R = u ∧ df R = dd
def og_p1C (qd : Nat) (h : Nat → Nat) (C : om_M) (R H : Nat) : om_M := om_up (om_up (om_up C qd 6 (nI (R + 1))) (qd + 6) R (og_wv (h (H - 1)))) qd 8 (nI (H - 1))
def og_emD (D : om_M) (R : Nat) (k pl set p : Int32) : om_M := om_up (om_up (om_up (om_up (om_up D 54 R k) 55 R pl) 56 R set) 57 R p) 46 14 (nI (R + 1))
def og_p1D (h : Nat → Nat) (D : om_M) (R H : Nat) : om_M := og_emD (om_up D 46 34 (nI (H - 1))) R (nI (h (H - 1))) 0 0 0
def og_poC (qd : Nat) (h : Nat → Nat) (C : om_M) (R H : Nat) : Nat → om_M
  | 0 => C
  | m + 1 => og_p1C qd h (og_poC qd h C R H m) (R + m) (H - m)
def og_poD (h : Nat → Nat) (D : om_M) (R H : Nat) : Nat → om_M
  | 0 => D
  | m + 1 => og_p1D h (og_poD h D R H m) (R + m) (H - m)
theorem og_emD_at {D : om_M} {R : Nat} {k pl set p : Int32} {a j : Nat} : (og_emD D R k pl set p).1 a j = if a = 46 ∧ j = 14 then nI (R + 1) else if a = 57 ∧ j = R then p else if a = 56 ∧ j = R then set else if a = 55 ∧ j = R then pl else if a = 54 ∧ j = R then k else D.1 a j := by
  unfold og_emD
  simp only [om_up_at]
  by_cases h46 : a = 46
  · subst h46
    by_cases hj : j = 14 <;> simp [hj]
  · by_cases h57 : a = 57
    · subst h57
      by_cases hj : j = R <;> simp [hj]
    · by_cases h56 : a = 56
      · subst h56
        by_cases hj : j = R <;> simp [hj]
      · by_cases h55 : a = 55
        · subst h55
          by_cases hj : j = R <;> simp [hj]
        · by_cases h54 : a = 54
          · subst h54
            by_cases hj : j = R <;> simp [hj]
          · simp [h46, h57, h56, h55, h54]
theorem og_D_emit {D : om_M} {R : Nat} (hR : R < 240) (h14 : D.1 46 14 = nI R) (k pl set p : Int32) : om_D_emit om_F k pl set p D = some (og_emD D R k pl set p) := by
  have hin : om_in (nI R) 240 = true := om_in_nI hR (by omega)
  have hcl : (nI R).toNatClampNeg = R := nI_clamp (by omega)
  have r1 : (om_up D 54 R k).1 46 14 = nI R := by simp [om_up_at, h14]
  have r2 : (om_up (om_up D 54 R k) 55 R pl).1 46 14 = nI R := by simp [om_up_at, h14]
  have r3 : (om_up (om_up (om_up D 54 R k) 55 R pl) 56 R set).1 46 14 = nI R := by simp [om_up_at, h14]
  have r4 : (om_up (om_up (om_up (om_up D 54 R k) 55 R pl) 56 R set) 57 R p).1 46 14 = nI R := by simp [om_up_at, h14]
  unfold om_D_emit om_D_emit_b0 og_emD
  simp only [h14, hin, hcl, cond_true, r1, r2, r3, r4, og_nI1]
section QE
variable {n qd : Nat}
theorem og_qd7 (h : qd = 30 ∨ qd = 38) {k : Nat} (hk : k = 6 ∨ k = 7) {i : Nat} (hi : i < 120) : (om_isA (qd + k) 1 && om_in (nI i) (om_ln (qd + k))) = true := by
  have h1 : om_isA (qd + k) 1 = true ∧ om_ln (qd + k) = 120 := by rcases h with rfl | rfl <;> rcases hk with rfl | rfl <;> decide
  rw [h1.1, h1.2, om_in_nI hi (by omega)]; rfl
theorem og_Q_emit (hq : qd = 30 ∨ qd = 38) {C : om_M} {R : Nat} (hR : R < 120) (h6 : C.1 qd 6 = nI R) (v : Int32) : om_Q_emit om_F qd v C = some (om_up (om_up C qd 6 (nI (R + 1))) (qd + 6) R v) := by
  have hlt : ¬ (120 : Int32) ≤ nI R := nI_ge (b := 120) hR (by omega)
  have hcl : (nI R).toNatClampNeg = R := nI_clamp (by omega)
  unfold om_Q_emit om_Q_emit_b0 om_Q_emit_b26
  simp only [og_qa1 hq, cond_true, h6, hlt, if_false, og_qd7 hq (.inl rfl) hR, hcl, og_nI1]
theorem og_Q_hold (hq : qd = 30 ∨ qd = 38) {C : om_M} {H : Nat} (hH : H < 120) (h8 : C.1 qd 8 = nI H) (v : Int32) : om_Q_hold om_F qd v C = some (om_up (om_up C qd 8 (nI (H + 1))) (qd + 7) H v) := by
  have hlt : ¬ (120 : Int32) ≤ nI H := nI_ge (b := 120) hH (by omega)
  have hcl : (nI H).toNatClampNeg = H := nI_clamp (by omega)
  unfold om_Q_hold om_Q_hold_b0 om_Q_hold_b26
  simp only [og_qa1 hq, cond_true, h8, hlt, if_false, og_qd7 hq (.inr rfl) hH, hcl, og_nI1]
theorem og_Q_last (hq : qd = 30 ∨ qd = 38) {C : om_M} {H : Nat} (hH : H ≤ 120) (h8 : C.1 qd 8 = nI H) : om_Q_lastHeld om_F qd C = some (if H = 0 then 0 else C.1 (qd + 7) (H - 1), C) := by
  unfold om_Q_lastHeld om_Q_lastHeld_b0 om_Q_lastHeld_b22
  rw [og_qa1 hq, cond_true, h8]
  by_cases h0 : H = 0
  · subst h0
    rw [if_pos (show nI 0 ≤ 0 from Int32.le_rfl), if_pos rfl]
  · have hlt : ¬ nI H ≤ 0 := nI_ge (b := H) (a := 0) (by omega) (by omega)
    have h1 : nI H - 1 = nI (H - 1) := og_pred (by omega)
    have hcl : (nI (H - 1)).toNatClampNeg = H - 1 := nI_clamp (by omega)
    rw [if_neg hlt, if_neg h0]
    simp only [h1, og_qd7 hq (.inr rfl) (show H - 1 < 120 by omega), hcl, cond_true]
theorem og_poC_facts (hq : qd = 30 ∨ qd = 38) {h : Nat → Nat} {C : om_M} {R H : Nat} (h6 : C.1 qd 6 = nI R) (h8 : C.1 qd 8 = nI H) : ∀ m, m ≤ H → (og_poC qd h C R H m).1 qd 6 = nI (R + m) ∧ (og_poC qd h C R H m).1 qd 8 = nI (H - m) ∧ (∀ j, (og_poC qd h C R H m).1 (qd + 7) j = C.1 (qd + 7) j) ∧ (∀ a j, ¬ (a = qd ∧ (j = 6 ∨ j = 8)) → a ≠ qd + 6 → (og_poC qd h C R H m).1 a j = C.1 a j) ∧ (og_poC qd h C R H m).2 = C.2
  | 0, _ => ⟨h6, h8, fun _ => rfl, fun _ _ _ _ => rfl, rfl⟩
  | m + 1, hm => by
    obtain ⟨a1, a2, a3, a4, a5⟩ := og_poC_facts hq h6 h8 (h := h) m (by omega)
    have hne : ¬ qd = qd + 6 := by omega
    refine ⟨?_, ?_, fun j => ?_, fun a j ha hb => ?_, a5⟩
    · show (og_p1C qd h (og_poC qd h C R H m) (R + m) (H - m)).1 qd 6 = _
      simp [og_p1C, om_up_at, hne, Nat.add_assoc]
    · show (og_p1C qd h (og_poC qd h C R H m) (R + m) (H - m)).1 qd 8 = _
      simp [og_p1C, om_up_at]
      congr 1
    · show (og_p1C qd h (og_poC qd h C R H m) (R + m) (H - m)).1 (qd + 7) j = _
      simp [og_p1C, om_up_at, show ¬ qd + 7 = qd by omega, a3]
    · show (og_p1C qd h (og_poC qd h C R H m) (R + m) (H - m)).1 a j = _
      simp only [og_p1C, om_up_at]
      by_cases haq : a = qd
      · rw [if_pos haq, if_neg (fun hj => ha ⟨haq, .inr hj⟩), if_neg hb, if_pos haq, if_neg (fun hj => ha ⟨haq, .inl hj⟩), ← haq, ← a4 a j ha hb]
        rw [haq]
      · rw [if_neg haq, if_neg hb, if_neg haq]; exact a4 a j ha hb
theorem og_poD_facts {h : Nat → Nat} {D : om_M} {R H : Nat} (h14 : D.1 46 14 = nI R) (h34 : D.1 46 34 = nI H) : ∀ m, m ≤ H → (og_poD h D R H m).1 46 14 = nI (R + m) ∧ (og_poD h D R H m).1 46 34 = nI (H - m) ∧ (∀ a j, ¬ (a = 46 ∧ (j = 14 ∨ j = 34)) → ¬ (54 ≤ a ∧ a ≤ 57) → (og_poD h D R H m).1 a j = D.1 a j) ∧ (∀ a j, 54 ≤ a → a ≤ 57 → j < R ∨ R + m ≤ j → (og_poD h D R H m).1 a j = D.1 a j) ∧ (og_poD h D R H m).2 = D.2
  | 0, _ => ⟨h14, h34, fun _ _ _ _ => rfl, fun _ _ _ _ _ => rfl, rfl⟩
  | m + 1, hm => by
    obtain ⟨a1, a2, a3, a4, a5⟩ := og_poD_facts h14 h34 (h := h) m (by omega)
    refine ⟨?_, ?_, fun a j ha hb => ?_, fun a j h1 h2 h3 => ?_, a5⟩
    · show (og_p1D h (og_poD h D R H m) (R + m) (H - m)).1 46 14 = _
      unfold og_p1D; rw [og_emD_at]; simp [Nat.add_assoc]
    · show (og_p1D h (og_poD h D R H m) (R + m) (H - m)).1 46 34 = _
      unfold og_p1D; rw [og_emD_at]; simp [om_up_at]
      congr 1
    · show (og_p1D h (og_poD h D R H m) (R + m) (H - m)).1 a j = _
      unfold og_p1D; rw [og_emD_at]
      rw [if_neg (fun hx => ha ⟨hx.1, .inl hx.2⟩), if_neg (fun hx => hb ⟨by omega, by omega⟩), if_neg (fun hx => hb ⟨by omega, by omega⟩), if_neg (fun hx => hb ⟨by omega, by omega⟩), if_neg (fun hx => hb ⟨by omega, by omega⟩), om_up_at]
      by_cases h46 : a = 46
      · rw [if_pos h46, if_neg (fun hj => ha ⟨h46, .inr hj⟩)]; exact a3 a j ha hb
      · rw [if_neg h46]; exact a3 a j ha hb
    · show (og_p1D h (og_poD h D R H m) (R + m) (H - m)).1 a j = _
      unfold og_p1D; rw [og_emD_at]
      rw [if_neg (fun hx => by omega), if_neg (fun hx => by omega), if_neg (fun hx => by omega), if_neg (fun hx => by omega), if_neg (fun hx => by omega), om_up_at, if_neg (by omega)]
      exact a4 a j h1 h2 (by omega)
/-- how many are popped: all at the top that are no more than lev -/
def og_pp (lev : Nat) (h : Nat → Nat) (H m : Nat) : Prop := m ≤ H ∧ (∀ j, H - m ≤ j → j < H → h j ≤ lev) ∧ (H - m = 0 ∨ lev < h (H - m - 1))
theorem og_pp_ex (lev : Nat) (h : Nat → Nat) : ∀ H, ∃ m, og_pp lev h H m
  | 0 => ⟨0, Nat.le_refl _, fun j h1 h2 => absurd h2 (Nat.not_lt_zero _), .inl rfl⟩
  | H + 1 => by
    by_cases hl : h H ≤ lev
    · obtain ⟨m, h1, h2, h3⟩ := og_pp_ex lev h H
      refine ⟨m + 1, by omega, fun j h4 h5 => ?_, by rw [show H + 1 - (m + 1) = H - m by omega]; exact h3⟩
      by_cases hj : j = H
      · subst hj; exact hl
      · exact h2 j (by omega) (by omega)
    · exact ⟨0, Nat.zero_le _, fun j h1 h2 => by omega, .inr (by rw [show H + 1 - 0 - 1 = H by omega]; omega)⟩
/-- the model pops -/
theorem og_emitWhile {h : Nat → Nat} {D : om_M} {R H lev m : Nat} (hlev : 6 ≤ lev ∧ lev ≤ 8) (h14 : D.1 46 14 = nI R) (h34 : D.1 46 34 = nI H) (hHR : H + R ≤ 120) (h67 : ∀ j, j < H → D.1 67 j = nI (h j) ∧ 6 ≤ h j ∧ h j ≤ 9) (hm : og_pp lev h H m) : om_D_emitWhile om_F (nI lev) D = some (og_poD h D R H m) := by
  obtain ⟨m1, m2, m3⟩ := hm
  obtain ⟨z, hz, rfl⟩ := om_lp (f := om_D_emitWhile_L0_body om_F) (fun i st => st = (nI lev, og_poD h D R H i)) (fun z => z = og_poD h D R H m) m (F := om_F) (Nat.lt_of_le_of_lt (show m ≤ 120 by omega) (by decide)) (s := (nI lev, D)) rfl (by
    rintro i st hi rfl
    obtain ⟨a1, a2, a3, -, -⟩ := og_poD_facts (h := h) h14 h34 i (by omega)
    have hgt : ¬ nI (H - i) ≤ 0 := nI_ge (b := H - i) (a := 0) (by omega) (by omega)
    have hp : nI (H - i) - 1 = nI (H - i - 1) := og_pred (by omega)
    have hin : om_in (nI (H - i - 1)) 120 = true := om_in_nI (by omega) (by omega)
    have hcl : (nI (H - i - 1)).toNatClampNeg = H - i - 1 := nI_clamp (by omega)
    obtain ⟨b1, b2, b3⟩ := h67 (H - i - 1) (by omega)
    have e67 : (og_poD h D R H i).1 67 (H - i - 1) = nI (h (H - i - 1)) := by rw [a3 67 _ (by omega) (by omega), b1]
    have hle := m2 (H - i - 1) (by omega) (by omega)
    have h9 : ¬ nI (h (H - i - 1)) = 9 := fun hx => by
      have := (nI_eq (b := 9) (by omega) (by omega)).mp hx; omega
    have hl : ¬ nI lev < nI (h (H - i - 1)) := by rw [nI_ltI (by omega) (by omega)]; omega
    have x34 : (om_up (og_poD h D R H i) 46 34 (nI (H - i - 1))).1 46 34 = nI (H - i - 1) := by simp [om_up_at]
    have x67 : (om_up (og_poD h D R H i) 46 34 (nI (H - i - 1))).1 67 (H - i - 1) = nI (h (H - i - 1)) := by
      rw [om_up_at, if_neg (by decide)]; exact e67
    have x14 : (om_up (og_poD h D R H i) 46 34 (nI (H - i - 1))).1 46 14 = nI (R + i) := by simp [om_up_at, a1]
    refine .inl ⟨(nI lev, og_poD h D R H (i + 1)), ?_, rfl⟩
    simp only [om_D_emitWhile_L0_body, om_D_emitWhile_b0, a2, hgt, if_false, hp, hin, cond_true, hcl, e67, h9, hl, x34, x67, og_D_emit (show R + i < 240 by omega) x14, Option.bind_some]
    rfl) (by
    rintro st rfl
    obtain ⟨a1, a2, a3, -, -⟩ := og_poD_facts (h := h) h14 h34 m m1
    rcases m3 with m3 | m3
    · refine ⟨_, ?_, rfl⟩
      simp only [om_D_emitWhile_L0_body, om_D_emitWhile_b0, a2, m3]
      rw [if_pos (show nI 0 ≤ 0 from Int32.le_rfl)]
    · by_cases h0 : H - m = 0
      · refine ⟨_, ?_, rfl⟩
        simp only [om_D_emitWhile_L0_body, om_D_emitWhile_b0, a2, h0]
        rw [if_pos (show nI 0 ≤ 0 from Int32.le_rfl)]
      · have hgt : ¬ nI (H - m) ≤ 0 := nI_ge (b := H - m) (a := 0) (by omega) (by omega)
        have hp : nI (H - m) - 1 = nI (H - m - 1) := og_pred (by omega)
        have hin : om_in (nI (H - m - 1)) 120 = true := om_in_nI (by omega) (by omega)
        have hcl : (nI (H - m - 1)).toNatClampNeg = H - m - 1 := nI_clamp (by omega)
        obtain ⟨b1, b2, b3⟩ := h67 (H - m - 1) (by omega)
        have e67 : (og_poD h D R H m).1 67 (H - m - 1) = nI (h (H - m - 1)) := by rw [a3 67 _ (by omega) (by omega), b1]
        have hl : nI lev < nI (h (H - m - 1)) := (nI_ltI (by omega) (by omega)).mpr m3
        refine ⟨_, ?_, rfl⟩
        simp only [om_D_emitWhile_L0_body, om_D_emitWhile_b0, a2, hgt, if_false, hp, hin, cond_true, hcl, e67, hl, if_true]
        split <;> rfl)
  unfold om_D_emitWhile om_D_emitWhile_e om_D_emitWhile_b67 om_D_emitWhile_L0
  rw [hz]; rfl
end QE
