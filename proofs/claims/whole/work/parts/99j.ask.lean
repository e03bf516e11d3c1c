/-! ===== fault and ask ===== -/
def og_stC (qd : Nat) (M : om_M) : om_M := om_up (om_up (om_up (om_up (om_up (om_up (om_upR M 28 7 qd) qd 0 0) qd 6 0) qd 8 0) qd 10 0) 28 2 0) 28 6 0
def og_stD (D : om_M) : om_M := om_up (om_up (om_up (om_up D 46 29 0) 46 14 0) 46 34 0) 46 35 0
section PA
variable {M : om_M} {n m L qd : Nat} {bt : Nat → Nat}
theorem og_stC_at (hq : qd = 30 ∨ qd = 38) {a j : Nat} (h1 : ¬ (a = 28 ∧ 2 ≤ j ∧ j ≤ 6)) (h2 : ¬ (qd ≤ a ∧ a ≤ qd + 7)) : (og_stC qd M).1 a j = M.1 a j := by
  unfold og_stC
  rw [om_up_at]
  by_cases h28 : a = 28
  · rw [if_pos h28, if_neg (fun hj => h1 ⟨h28, by omega, by omega⟩), om_up_at, if_pos h28, if_neg (fun hj => h1 ⟨h28, by omega, by omega⟩), om_up_at, if_neg (by omega), om_up_at, if_neg (by omega), om_up_at, if_neg (by omega), om_up_at, if_neg (by omega)]; rfl
  · rw [if_neg h28, om_up_at, if_neg h28, om_up_at, if_neg (by omega), om_up_at, if_neg (by omega), om_up_at, if_neg (by omega), om_up_at, if_neg (by omega)]; rfl
theorem og_stD_at {D : om_M} {a j : Nat} (h1 : ¬ (a = 46 ∧ (j = 14 ∨ (29 ≤ j ∧ j ≤ 32) ∨ j = 34 ∨ j = 35))) : (og_stD D).1 a j = D.1 a j := by
  unfold og_stD
  rw [om_up_at]
  by_cases h46 : a = 46
  · rw [if_pos h46, if_neg (fun hj => h1 ⟨h46, by omega⟩), om_up_at, if_pos h46, if_neg (fun hj => h1 ⟨h46, by omega⟩), om_up_at, if_pos h46, if_neg (fun hj => h1 ⟨h46, by omega⟩), om_up_at, if_pos h46, if_neg (fun hj => h1 ⟨h46, by omega⟩)]
  · rw [if_neg h46, om_up_at, if_neg h46, om_up_at, if_neg h46, om_up_at, if_neg h46]
/-- the class reads and the model reads: the same fault, or the same rows -/
theorem og_parse (hq : qd = 30 ∨ qd = 38) (h8 : n ≤ 8) (hL : L ≤ 120) (hbt : ∀ i, bt i < 256) (hTC : og_TC L bt M) {D0 : om_M} (hTD : og_TD L bt D0) (hD2 : D0.1 46 2 = nI n) : ∃ r C' D', om_R_read om_F qd (nI n) M = some (r, C') ∧ om_D_fault om_F D0 = some (r, D') ∧ og_gC qd (og_stC qd M) C' ∧ og_gD (og_stD D0) D' ∧ (r = -1 → ∃ R u cf df, R ≤ 120 ∧ om_Qr (og_mix C' D') n qd 0 R cf df ∧ cf R = u ∧ df R = 1 ∧ C'.1 qd 6 = nI R ∧ C'.1 qd 0 = nI u ∧ D'.1 46 14 = nI R) := by
  have hob := og_qa1 hq
  have hE : og_Env n qd L bt (og_stC qd M) (og_stD D0) := ⟨h8, hL, hbt, hq, ⟨by rw [og_stC_at hq (by omega) (by omega)]; exact hTC.1, fun i hi => by rw [og_stC_at hq (by omega) (by omega)]; exact hTC.2 i hi⟩, ⟨by rw [og_stD_at (by omega)]; exact hTD.1, fun i hi => by rw [og_stD_at (by omega)]; exact hTD.2 i hi⟩, rfl, by rw [og_stD_at (by omega)]; exact hD2⟩
  have d29 : (og_stD D0).1 46 29 = nI 0 := by simp [og_stD, om_up_at]; rfl
  obtain ⟨D1, f, e, a1, a2, -, a3⟩ := og_dtoken hL hbt hE.2.2.2.2.2.1 (Nat.zero_le L) d29
  have hS : og_Sim n qd L bt (og_stC qd M) (og_stD D0) 0 0 0 (fun _ => 0) 0 0 (og_stC qd M) D1 := by
    refine ⟨⟨fun _ _ _ _ => rfl, rfl⟩, og_gD_fD a2, ?_, Nat.zero_le _, ?_, ?_, ⟨?_, ?_, fun j hj => absurd hj (Nat.not_lt_zero _), ?_, ?_, ?_, by omega, fun _ => 0, fun _ => 0, ⟨rfl, rfl, fun i hi => absurd hi (Nat.not_lt_zero _)⟩, rfl, rfl⟩, by omega, by omega, fun j hj => absurd hj (by omega)⟩
    · unfold og_stC; rw [om_up_at, if_pos rfl, if_neg (by decide), om_up_at, if_pos rfl, if_pos rfl]; rfl
    · unfold og_stC; rw [om_up_at, if_pos rfl, if_pos rfl]; rfl
    · rw [a2.1 46 35 (by omega)]; simp [og_stD, om_up_at]; rfl
    · unfold og_stC; rw [om_up_at, if_neg (by omega), om_up_at, if_neg (by omega), om_up_at, if_pos rfl, if_neg (by decide), om_up_at, if_pos rfl, if_pos rfl]; rfl
    · rw [a2.1 46 34 (by omega)]; simp [og_stD, om_up_at]; rfl
    · unfold og_stC; rw [om_up_at, if_neg (by omega), om_up_at, if_neg (by omega), om_up_at, if_pos rfl, if_neg (by decide), om_up_at, if_pos rfl, if_neg (by decide), om_up_at, if_pos rfl, if_pos rfl]; rfl
    · rw [a2.1 46 14 (by omega)]; simp [og_stD, om_up_at]; rfl
    · unfold og_stC; rw [om_up_at, if_neg (by omega), om_up_at, if_neg (by omega), om_up_at, if_pos rfl, if_neg (by decide), om_up_at, if_pos rfl, if_neg (by decide), om_up_at, if_pos rfl, if_neg (by decide), om_up_at, if_pos rfl, if_pos rfl]; rfl
  have hread : ∀ z, om_R_read_L27 om_F (nI n, 0, 0, og_stC qd M) = some z → om_R_read om_F qd (nI n) M = og_ans z := by
    intro z hz
    have e7 : (om_upR M 28 7 qd).2 28 7 = some qd := rfl
    have hclr : om_Q_clear om_F qd (om_upR M 28 7 qd) = some (om_up (om_up (om_up (om_up (om_upR M 28 7 qd) qd 0 0) qd 6 0) qd 8 0) qd 10 0) := by
      unfold om_Q_clear om_Q_clear_b0
      simp only [hob, cond_true]
    unfold om_R_read om_R_read_b0
    rw [e7]
    simp only [Option.bind_some, hob, cond_true, hclr]
    unfold og_stC at hz
    rw [hz]; rfl
  have hfault : ∀ X, ((om_D_fault_L26 om_F (1, D1)).bind fun z2 => Sum.elim (fun z3 => some (z3.1 46 30, z3)) (fun z4 => (if (z4.1 46 30) < (z4.1 46 9) then om_D_fault_b152 om_F z4 else (if (z4.1 46 35) ≤ 0 then (om_D_emitWhile om_F 8 z4).bind (fun q_5 => some ((-1 : Int32), q_5)) else om_D_fault_b152 om_F z4))) z2) = X → om_D_fault om_F D0 = X := by
    intro X hX
    rw [← hX]
    unfold om_D_fault om_D_fault_b0
    have a1' : om_D_token om_F (om_up (om_up (om_up (om_up D0 46 29 0) 46 14 0) 46 34 0) 46 35 0) = some D1 := a1
    rw [a1']; rfl
  have hF : om_F = 100000 := rfl
  obtain ⟨z, hz, hz2⟩ := og_fLoop (i := 0) hE hS a3 (Nat.le_refl 0)
  rcases hz2 with ⟨D', rfl, k, s1, f', t1, t2, ⟨z', C', b1, b2, b3⟩, b4, b5, b6⟩ | ⟨D', k, c', H, h, R, u, C', f', e', rfl, t1, t2, t3, t4, t5, t6, t7⟩
  · have hrun : om_R_read_L27 om_F (nI n, 0, 0, og_stC qd M) = some z' := og_tr_it t1 b1 (by omega)
    refine ⟨nI f', C', D', by rw [hread _ hrun]; exact b2, hfault _ (by rw [hz]; show some (D'.1 46 30, D') = _; rw [b4]), b3, b5, fun hx => absurd hx (fun hx => nI_pos (show f' < 2 ^ 31 by omega) (by rw [hx]; decide))⟩
  · obtain ⟨C1, t, c1, c2, c3, c4, c5, c6, c7⟩ := og_tokC hE t3 t4
    have hb := og_bodyC hE t3 t2 1 c1
    obtain ⟨hTC1, hTD1, hqd1, hD21⟩ := og_S_T hE t3
    obtain ⟨s1, s2, s3, s4, s5, s6, hR, s8, s9, s10⟩ := id t3
    have hle := og_tok_le t4.1
    have h0 : C1.1 28 4 = 0 ↔ t = 0 := by rw [c5]; exact nI_eq (b := 0) (by have := c6.1; omega) (by omega)
    have h9 : og_n9 h H ≤ H := og_cnt_le _ H
    have gC1 := og_gC_tr s1 (og_gC_fT (qd := qd) c2)
    have hfL : nI f' < nI L ↔ f' < L := nI_ltI (by omega) (by omega)
    have e9 : D'.1 46 9 = nI L := hTD1.1
    by_cases ht : t = 0
    · have hfe := c6.2.1.mp ht
      rw [if_pos (h0.mpr ht)] at hb
      have hrun : om_R_read_L27 om_F (nI n, 0, 0, og_stC qd M) = some (.inl (1, C1)) := og_tr_it t1 hb (by omega)
      have c16 : C1.1 28 6 = nI (og_n9 h H) := by rw [c2.1 28 6 (by omega)]; exact s5
      by_cases hd : og_n9 h H = 0
      · -- nothing is open
        obtain ⟨mm, hmm⟩ := og_pp_ex 8 h H
        have hH0 : H - mm = 0 := by
          rcases hmm.2.2 with hx | hx
          · exact hx
          · refine Classical.byContradiction fun hne => ?_
            have h6 := (hR.2.2.1 (H - mm - 1) (by omega)).2.2
            have : 0 < og_n9 h H := by
              have e1 := og_n9_set (h := h) (H := H - mm - 1) (k := 9)
              have e2 : og_n9 h (H - mm - 1 + 1) = og_n9 h (H - mm - 1) + (if decide (h (H - mm - 1) = 9) = true then 1 else 0) := rfl
              rw [if_pos (by rw [show h (H - mm - 1) = 9 by omega]; rfl)] at e2
              have mono : ∀ a b, a ≤ b → og_n9 h a ≤ og_n9 h b := by
                intro a b hab
                induction b with
                | zero => rw [show a = 0 by omega]; exact Nat.le_refl _
                | succ b ih =>
                  by_cases hx : a = b + 1
                  · rw [hx]; exact Nat.le_refl _
                  · have := ih (by omega)
                    have e3 : og_n9 h (b + 1) = og_n9 h b + (if decide (h b = 9) = true then 1 else 0) := rfl
                    omega
              have := mono (H - mm - 1 + 1) H (by omega)
              omega
            omega
        have hRX := og_Rel_eq hq (C' := C1) (D' := D') hR (fun a j h1 h2 => c2.1 a j (by omega)) rfl rfl (fun _ _ _ => rfl)
        have hdd := og_S_dd hL t3
        have hRp := (og_Rel_pops hq hRX (by omega) rfl mm hmm.1 hmm.2.1).1
        rw [hH0] at hRp
        have hheld := og_emitHeld hq hRX.2.2.2.1 hRX.1 hRX.2.2.2.2.2.2.1 (fun j hj => ⟨(hRX.2.2.1 j hj).1, (hRX.2.2.1 j hj).2.2⟩) hmm
        have hem := og_emitD t3 hL (lev := 8) (by omega) hmm
        have hem' : om_D_emitWhile om_F 8 D' = some (og_poD h D' R H mm) := hem
        obtain ⟨b1, b2, b3, b4, b5⟩ := og_poC_facts hq hRX.2.2.2.1 hRX.1 (h := h) mm hmm.1
        obtain ⟨k1, k2, k3, k4, k5⟩ := og_poD_facts hR.2.2.2.2.1 hR.2.1 (h := h) mm hmm.1
        have hmm1 := hmm.1
        refine ⟨-1, og_poC qd h C1 R H mm, og_poD h D' R H mm, ?_, hfault _ ?_, ?_, ?_, fun _ => ?_⟩
        · rw [hread _ hrun]
          show om_R_read_b73 om_F 1 C1 = _
          unfold om_R_read_b73
          have e7 : C1.2 28 7 = some qd := by rw [c2.2]; exact hqd1
          rw [if_pos rfl, c16, if_pos (by rw [hd]; exact Int32.le_rfl), e7]
          simp only [Option.bind_some, hob, cond_true, hheld]
        · rw [hz]
          show (if D'.1 46 30 < D'.1 46 9 then _ else _) = _
          rw [t4.2.1, e9, if_neg (fun hx => by have := hfL.mp hx; omega), s6, if_pos (by rw [hd]; exact Int32.le_rfl), hem']
          rfl
        · exact og_gC_tr gC1 ⟨fun a j ha hb => b4 a j (fun hx => hb ⟨by omega, by omega⟩) (fun hx => hb ⟨by omega, by omega⟩), b5⟩
        · exact og_gD_tr s2 ⟨fun a j ha hb hc => by
            by_cases h54 : 54 ≤ a ∧ a ≤ 57
            · exact k4 a j h54.1 h54.2 (.inr (by omega))
            · exact k3 a j (fun hx => ha ⟨hx.1, hx.2.elim (fun h => .inl h) (fun h => .inr (.inr (.inl h)))⟩) h54, k5⟩
        · obtain ⟨y1, y2, y3, y4, y5, y6, y7, cf, df, y8, y9, y10⟩ := hRp
          exact ⟨R + mm, u, cf, df, by omega, y8, y9, y10, y4, y6, y5⟩
      · have hgt : ¬ nI (og_n9 h H) ≤ 0 := nI_ge (b := og_n9 h H) (a := 0) (by omega) (by omega)
        refine ⟨nI L, C1, D', ?_, hfault _ ?_, gC1, s2, fun hx => absurd hx (fun hx => nI_pos (show L < 2 ^ 31 by omega) (by rw [hx]; decide))⟩
        · rw [hread _ hrun]
          show om_R_read_b73 om_F 1 C1 = _
          unfold om_R_read_b73 om_R_read_b85
          rw [if_pos rfl, c16, if_neg hgt, (og_TC_fT hTC1 c2).1]
        · rw [hz]
          show (if D'.1 46 30 < D'.1 46 9 then _ else _) = _
          rw [t4.2.1, e9, if_neg (fun hx => by have := hfL.mp hx; omega), s6, if_neg hgt]
          unfold om_D_fault_b152
          rw [t4.2.1, hfe]
    · have hfl : f' < L := by
        have := t4.1.2.1
        refine Classical.byContradiction fun hx => ht (c6.2.1.mpr (by omega))
      have hsa : om_R_stateAfter om_F 1 (nI n) C1 = some (-1, C1) := by
        have ht18 := c6.1
        have hcmp : ∀ k, k < 2 ^ 31 → (nI t = nI k ↔ t = k) := fun k hk => nI_eq (by omega) hk
        have n6 : ¬ C1.1 28 4 = 6 := fun hx => t6 ((c6.2.2.2.2.2 1 (by omega)).mp ((hcmp 6 (by omega)).mp (c5.symm.trans hx)))
        have n7 : ¬ C1.1 28 4 = 7 := fun hx => t7 ((c6.2.2.2.2.2 2 (by omega)).mp ((hcmp 7 (by omega)).mp (c5.symm.trans hx)))
        by_cases h3 : t = 3
        · have hd : og_n9 h H = 0 := by
            have := c6.2.2.2.2.1.mp h3
            refine Classical.byContradiction fun hx => t5 ⟨by omega, this⟩
          have e3 : C1.1 28 4 = 3 := by rw [c5, h3]; decide
          have c16 : C1.1 28 6 = 0 := by rw [c2.1 28 6 (by omega), s5, hd]; rfl
          simp only [om_R_stateAfter, om_R_stateAfter_b0, om_R_joinUnits, om_R_joinUnits_b0, om_R_joinUnits_b55, show ¬ (1 : Int32) = 0 by decide, if_true, if_false, e3, show ¬ (3 : Int32) = 6 by decide, show ¬ (3 : Int32) = 7 by decide, c16, Option.bind_some]
        · have n3 : ¬ C1.1 28 4 = 3 := fun hx => h3 ((hcmp 3 (by omega)).mp (c5.symm.trans hx))
          simp only [om_R_stateAfter, om_R_stateAfter_b0, om_R_joinUnits, om_R_joinUnits_b0, om_R_joinUnits_b55, show ¬ (1 : Int32) = 0 by decide, if_true, if_false, n6, n7, n3, Option.bind_some]
      rw [if_neg (fun hx => ht (h0.mp hx)), hsa] at hb
      have hrun : om_R_read_L27 om_F (nI n, 0, 0, og_stC qd M) = some (.inr (.inl C1)) := og_tr_it t1 hb (by omega)
      refine ⟨nI f', C1, D', ?_, hfault _ ?_, gC1, s2, fun hx => absurd hx (fun hx => nI_pos (show f' < 2 ^ 31 by omega) (by rw [hx]; decide))⟩
      · rw [hread _ hrun]
        show some (C1.1 28 3, C1) = _
        rw [c3]
      · rw [hz]
        show (if D'.1 46 30 < D'.1 46 9 then _ else _) = _
        rw [t4.2.1, e9, if_pos (hfL.mpr hfl)]
        unfold om_D_fault_b152
        rw [t4.2.1]
end PA
