/-! ===== joins and parentheses on both sides ===== -/
theorem og_jn_set {h : Nat → Nat} {H k : Nat} : og_jn (og_set h H k) (H + 1) = og_jn h H + (if k = 7 ∨ k = 8 then 1 else 0) := by
  show og_cnt (fun j => decide (og_set h H k j = 7 ∨ og_set h H k j = 8)) H + (if decide (og_set h H k H = 7 ∨ og_set h H k H = 8) = true then 1 else 0) = _
  have e1 : og_set h H k H = k := if_pos rfl
  have e2 : og_cnt (fun j => decide (og_set h H k j = 7 ∨ og_set h H k j = 8)) H = og_jn h H := og_cnt_ext fun j hj => by
    have : og_set h H k j = h j := if_neg (by omega)
    rw [this]
  rw [e1, e2]
  by_cases hk : k = 7 ∨ k = 8
  · rw [if_pos hk, if_pos (decide_eq_true hk)]
  · rw [if_neg hk, if_neg (by simpa using hk)]
theorem og_n9_set {h : Nat → Nat} {H k : Nat} : og_n9 (og_set h H k) (H + 1) = og_n9 h H + (if k = 9 then 1 else 0) := by
  show og_cnt (fun j => decide (og_set h H k j = 9)) H + (if decide (og_set h H k H = 9) = true then 1 else 0) = _
  have e1 : og_set h H k H = k := if_pos rfl
  have e2 : og_cnt (fun j => decide (og_set h H k j = 9)) H = og_n9 h H := og_cnt_ext fun j hj => by
    have : og_set h H k j = h j := if_neg (by omega)
    rw [this]
  rw [e1, e2]
  by_cases hk : k = 9
  · rw [if_pos hk, if_pos (decide_eq_true hk)]
  · rw [if_neg hk, if_neg (by simpa using hk)]
theorem og_Rel_eq {n qd : Nat} (hq : qd = 30 ∨ qd = 38) {C D C' D' : om_M} {H : Nat} {h : Nat → Nat} {R u dd : Nat} (hR : og_Rel n qd C D H h R u dd) (hC : ∀ a j, qd ≤ a → a ≤ qd + 7 → C'.1 a j = C.1 a j) (hD1 : D'.1 46 34 = D.1 46 34) (hD2 : D'.1 46 14 = D.1 46 14) (hD : ∀ a j, 54 ≤ a ∧ a ≤ 57 ∨ a = 67 → D'.1 a j = D.1 a j) : og_Rel n qd C' D' H h R u dd := by
  obtain ⟨r1, r2, r3, r4, r5, r6, r7, cf, df, q1, q2, q3⟩ := hR
  refine ⟨by rw [hC qd 8 (by omega) (by omega)]; exact r1, by rw [hD1]; exact r2, fun j hj => by rw [hC (qd + 7) j (by omega) (by omega), hD 67 j (.inr rfl)]; exact r3 j hj, by rw [hC qd 6 (by omega) (by omega)]; exact r4, by rw [hD2]; exact r5, by rw [hC qd 0 (by omega) (by omega)]; exact r6, r7, cf, df, ?_, q2, q3⟩
  refine og_Qr_keep q1 (fun i hi => ?_) (fun k j h1 h2 h3 => ?_) (fun a i h1 h2 hi => ?_)
  · rw [og_mix_lo (by omega), og_mix_lo (by omega)]; exact hC _ _ (by omega) (by omega)
  · rw [og_mix_lo (by omega), og_mix_lo (by omega)]; exact hC _ _ (by omega) (by omega)
  · rw [og_mix_hi (by omega), og_mix_hi (by omega)]; exact hD _ _ (.inl ⟨h1, h2⟩)
section MO
variable {n qd L : Nat} {bt : Nat → Nat} {C0 D0 : om_M} {x c H R u i f e m : Nat} {h : Nat → Nat} {C D : om_M}
theorem og_S_push (hE : og_Env n qd L bt C0 D0) (hS : og_Sim n qd L bt C0 D0 x c H h R u C D) (hroom : H + R + 1 ≤ c) {k : Nat} (hk : 6 ≤ k ∧ k ≤ 9) {x' : Nat} (hx : x = (if k = 7 ∨ k = 8 then 1 else 0) + x') (hux : 12 * u ≤ c + 2 * x') (hjoin : k = 7 ∨ k = 8 → H = 0 ∨ h (H - 1) ≠ 6) {C' D' : om_M} (hC : ∀ a j, ¬ (a = qd ∧ j = 8) → ¬ (a = qd + 7 ∧ j = H) → ¬ (a = 28 ∧ j = 6) → C'.1 a j = C.1 a j) (hC2 : C'.2 = C.2) (c8 : C'.1 qd 8 = nI (H + 1)) (c7 : C'.1 (qd + 7) H = og_wv k) (c6 : C'.1 28 6 = nI (og_n9 h H + (if k = 9 then 1 else 0))) (hD : ∀ a j, ¬ (a = 46 ∧ (j = 34 ∨ j = 35)) → ¬ (a = 67 ∧ j = H) → D'.1 a j = D.1 a j) (hD2 : D'.2 = D.2) (d34 : D'.1 46 34 = nI (H + 1)) (d67 : D'.1 67 H = nI k) (d35 : D'.1 46 35 = nI (og_n9 h H + (if k = 9 then 1 else 0))) : og_Sim n qd L bt C0 D0 x' c (H + 1) (og_set h H k) R u C' D' := by
  obtain ⟨h8, hL, hbt, hq, -⟩ := hE
  obtain ⟨s1, s2, s3, s4, s5, s6, ⟨r1, r2, r3, r4, r5, r6, r7, cf, df, q1, q2, q3⟩, s8, s9, s10⟩ := hS
  have hset : ∀ j, j < H → og_set h H k j = h j := fun j hj => if_neg (by omega)
  have hsetH : og_set h H k H = k := if_pos rfl
  refine ⟨og_gC_tr s1 ⟨fun a j ha hb => hC a j (fun hx => hb ⟨by omega, by omega⟩) (fun hx => hb ⟨by omega, by omega⟩) (fun hx => ha ⟨hx.1, by omega, by omega⟩), hC2⟩, og_gD_tr s2 ⟨fun a j ha hb hc => hD a j (fun hx => ha ⟨hx.1, .inr (.inr hx.2)⟩) (fun hx => hc hx.1), hD2⟩, by rw [hC 28 2 (by omega) (by omega) (by omega)]; exact s3, s4, by rw [og_n9_set]; exact c6, by rw [og_n9_set]; exact d35, ⟨c8, d34, fun j hj => ?_, by rw [hC qd 6 (by omega) (by omega) (by omega)]; exact r4, by rw [hD 46 14 (by omega) (by omega)]; exact r5, by rw [hC qd 0 (by omega) (by omega) (by omega)]; exact r6, by omega, cf, df, ?_, q2, by rw [q3, og_jn_set]; omega⟩, by omega, hux, fun j hj hjn => ?_⟩
  · by_cases hjH : j = H
    · subst hjH
      rw [hsetH]; exact ⟨c7, d67, hk⟩
    · rw [hset j (by omega), hC (qd + 7) j (by omega) (by omega) (by omega), hD 67 j (by omega) (by omega)]
      exact r3 j (by omega)
  · refine og_Qr_keep q1 (fun i hi => ?_) (fun k j h1 h2 h3 => ?_) (fun a i h1 h2 hi => ?_)
    · rw [og_mix_lo (by omega), og_mix_lo (by omega)]; exact hC _ _ (by omega) (by omega) (by omega)
    · rw [og_mix_lo (by omega), og_mix_lo (by omega)]; exact hC _ _ (by omega) (by omega) (by omega)
    · rw [og_mix_hi (by omega), og_mix_hi (by omega)]; exact hD _ _ (by omega) (by omega)
  · by_cases hjH : j + 1 = H
    · rw [hjH, hsetH] at hjn
      rw [hset j (by omega)]
      rcases hjoin hjn with h0 | h0
      · omega
      · rw [show j = H - 1 by omega]; exact h0
    · rw [hset (j + 1) (by omega)] at hjn
      rw [hset j (by omega)]
      exact s10 j (by omega) hjn
theorem og_S_pops (hE : og_Env n qd L bt C0 D0) (hS : og_Sim n qd L bt C0 D0 1 c H h R u C D) {lev : Nat} (hlev : lev ≤ 8) (hm : og_pp lev h H m) : og_Sim n qd L bt C0 D0 1 c (H - m) h (R + m) u (og_poC qd h C R H m) (og_poD h D R H m) := by
  have hdd := og_S_dd hE.2.1 hS
  obtain ⟨h8, hL, hbt, hq, -⟩ := hE
  obtain ⟨s1, s2, s3, s4, s5, s6, hR, s8, s9, s10⟩ := hS
  obtain ⟨m1, m2, m3⟩ := hm
  obtain ⟨p1, -⟩ := og_Rel_pops hq hR (by omega) rfl m m1 (fun j h1 h2 => by have := m2 j h1 h2; omega)
  obtain ⟨a1, a2, a3, a4, a5⟩ := og_poC_facts hq hR.2.2.2.1 hR.1 (h := h) m m1
  obtain ⟨b1, b2, b3, b4, b5⟩ := og_poD_facts hR.2.2.2.2.1 hR.2.1 (h := h) m m1
  have hn9 : og_n9 h (H - m) = og_n9 h H := by
    have : ∀ m, m ≤ H → (∀ j, H - m ≤ j → j < H → h j ≤ lev) → og_n9 h (H - m) = og_n9 h H := by
      intro m
      induction m with
      | zero => intro _ _; rfl
      | succ m ih =>
        intro h1 h2
        have h3 := ih (by omega) (fun j h4 h5 => h2 j (by omega) h5)
        have h4 := h2 (H - m - 1) (by omega) (by omega)
        have h5 : og_n9 h (H - m - 1 + 1) = og_n9 h (H - m - 1) + (if decide (h (H - m - 1) = 9) = true then 1 else 0) := rfl
        rw [if_neg (by simp; omega), show H - m - 1 + 1 = H - m by omega] at h5
        rw [show H - (m + 1) = H - m - 1 by omega]
        omega
    exact this m m1 m2
  refine ⟨og_gC_tr s1 ⟨fun a j ha hb => a4 a j (fun hx => hb ⟨by omega, by omega⟩) (fun hx => hb ⟨by omega, by omega⟩), a5⟩, og_gD_tr s2 ⟨fun a j ha hb hc => ?_, b5⟩, by rw [a4 28 2 (by omega) (by omega)]; exact s3, s4, by rw [a4 28 6 (by omega) (by omega), hn9]; exact s5, by rw [b3 46 35 (by omega) (by omega), hn9]; exact s6, p1, by omega, s9, fun j hj => s10 j (by omega)⟩
  by_cases h54 : 54 ≤ a ∧ a ≤ 57
  · exact b4 a j h54.1 h54.2 (.inr (by omega))
  · exact b3 a j (fun hx => ha ⟨hx.1, hx.2.elim (fun h => .inl h) (fun h => .inr (.inr (.inl h)))⟩) h54
theorem og_emitD (hS : og_Sim n qd L bt C0 D0 x c H h R u C D) (hL : L ≤ 120) {lev : Nat} (hlev : 6 ≤ lev ∧ lev ≤ 8) (hm : og_pp lev h H m) : om_D_emitWhile om_F (nI lev) D = some (og_poD h D R H m) := by
  obtain ⟨s1, s2, s3, s4, s5, s6, ⟨r1, r2, r3, r4, r5, r6, r7, -⟩, s8, s9, s10⟩ := hS
  exact og_emitWhile hlev r5 r2 r7 (fun j hj => (r3 j hj).2) hm
/-- nots and opening parentheses -/
theorem og_c_not (hE : og_Env n qd L bt C0 D0) (hS : og_Sim n qd L bt C0 D0 x c H h R u C D) (hcu : og_cu L bt D c f e) (hi : i ≤ c) (hce : c < e) (hw : og_isw bt 0 f e) : ∃ C2, og_tr (om_R_read_L27_body om_F) 1 (nI n, 0, nI i, C) (nI n, 0, nI (i + 1), C2) ∧ ∃ C1, og_fT C C1 ∧ C1.1 28 2 = nI e ∧ C2 = om_up (om_up C1 qd 8 (nI (H + 1))) (qd + 7) H (og_wv 6) := by
  have hq := hE.2.2.2.1
  have hqd := (og_S_T hE hS).2.2.1
  have hcL := (og_tok_le hcu.1).2.1
  have hL := hE.2.1
  have h8 : C.1 qd 8 = nI H := hS.2.2.2.2.2.2.1.1
  have hHR := hS.2.2.2.2.2.2.2.1
  refine og_step hE hS hcu hi (by decide) fun C1 t a2 a4 a5 a6 a7 => ?_
  have ht : t = 5 := (a6.2.2.2.2.2 0 (by omega)).mpr hw
  have e4 : C1.1 28 4 = 5 := by rw [a5, ht]; decide
  have e7 : C1.2 28 7 = some qd := by rw [a2.2]; exact hqd
  have e8 : C1.1 qd 8 = nI H := by rw [a2.1 qd 8 (by omega)]; exact h8
  have hh := og_Q_hold hq (show H < 120 by omega) e8 (-1)
  refine ⟨by omega, om_up (om_up C1 qd 8 (nI (H + 1))) (qd + 7) H (og_wv 6), ?_, C1, a2, a4, rfl⟩
  simp only [om_R_stateAfter, om_R_stateAfter_b0, om_R_beginUnit, om_R_beginUnit_b0, if_true, if_false, e4, show ¬ (5 : Int32) = 2 by decide, show ¬ (5 : Int32) = 3 by decide, show ¬ (5 : Int32) = 4 by decide, e7, Option.bind_some, og_qa1 hq, cond_true, hh]
  rfl
theorem og_c_open (hE : og_Env n qd L bt C0 D0) (hS : og_Sim n qd L bt C0 D0 x c H h R u C D) (hcu : og_cu L bt D c f e) (hi : i ≤ c) (hce : c < e) (hw : f < L ∧ bt f = 40) : ∃ C2, og_tr (om_R_read_L27_body om_F) 1 (nI n, 0, nI i, C) (nI n, 0, nI (i + 1), C2) ∧ ∃ C1, og_fT C C1 ∧ C1.1 28 2 = nI e ∧ C2 = om_up (om_up (om_up C1 qd 8 (nI (H + 1))) (qd + 7) H (og_wv 9)) 28 6 (nI (og_n9 h H + 1)) := by
  have hq := hE.2.2.2.1
  have hqd := (og_S_T hE hS).2.2.1
  have hcL := (og_tok_le hcu.1).2.1
  have hL := hE.2.1
  have h8 : C.1 qd 8 = nI H := hS.2.2.2.2.2.2.1.1
  have h6 := hS.2.2.2.2.1
  have hHR := hS.2.2.2.2.2.2.2.1
  refine og_step hE hS hcu hi (by decide) fun C1 t a2 a4 a5 a6 a7 => ?_
  have ht : t = 2 := a6.2.2.2.1.mpr hw
  have e4 : C1.1 28 4 = 2 := by rw [a5, ht]; decide
  have e7 : C1.2 28 7 = some qd := by rw [a2.2]; exact hqd
  have e8 : C1.1 qd 8 = nI H := by rw [a2.1 qd 8 (by omega)]; exact h8
  have hh := og_Q_hold hq (show H < 120 by omega) e8 (-4)
  have e6 : (om_up (om_up C1 qd 8 (nI (H + 1))) (qd + 7) H (-4)).1 28 6 = nI (og_n9 h H) := by
    rw [om_up_at, if_neg (by omega), om_up_at, if_neg (by omega), a2.1 28 6 (by omega)]; exact h6
  refine ⟨by omega, om_up (om_up (om_up C1 qd 8 (nI (H + 1))) (qd + 7) H (og_wv 9)) 28 6 (nI (og_n9 h H + 1)), ?_, C1, a2, a4, rfl⟩
  simp only [om_R_stateAfter, om_R_stateAfter_b0, om_R_beginUnit, om_R_beginUnit_b0, if_true, if_false, e4, e7, Option.bind_some, og_qa1 hq, cond_true, hh, e6, og_nI1]
  rfl
theorem og_rUnitL (hE : og_Env n qd L bt C0 D0) (hS : og_Sim n qd L bt C0 D0 0 c H h R u C D) (hcu : og_cu L bt D c f e) (hi : i ≤ c) : ∃ D' k c' H' h' f' e' C', om_D_readsUnit_L2 om_F (1, D) = some D' ∧ og_tr (om_R_read_L27_body om_F) k (nI n, 0, nI i, C) (nI n, 0, nI (i + k), C') ∧ og_Sim n qd L bt C0 D0 0 c' H' h' R u C' D' ∧ og_cu L bt D' c' f' e' ∧ i + k ≤ c' ∧ c ≤ c' ∧ ¬ (f' < L ∧ bt f' = 40) ∧ ¬ og_isw bt 0 f' e' := by
  have hL := hE.2.1
  have hbt := hE.2.2.1
  have hq := hE.2.2.2.1
  obtain ⟨z, hz, hqz⟩ := om_lx (f := om_D_readsUnit_L2_body om_F) (fun μ st => ∃ flag k c' H' h' f' e' C' D', st = (om_bi flag, D') ∧ og_tr (om_R_read_L27_body om_F) k (nI n, 0, nI i, C) (nI n, 0, nI (i + k), C') ∧ og_Sim n qd L bt C0 D0 0 c' H' h' R u C' D' ∧ og_cu L bt D' c' f' e' ∧ i + k ≤ c' ∧ c ≤ c' ∧ (flag = false → ¬ (f' < L ∧ bt f' = 40) ∧ ¬ og_isw bt 0 f' e') ∧ μ = 2 * (L - c') + (if flag = true then 1 else 0)) (fun D' => ∃ k c' H' h' f' e' C', og_tr (om_R_read_L27_body om_F) k (nI n, 0, nI i, C) (nI n, 0, nI (i + k), C') ∧ og_Sim n qd L bt C0 D0 0 c' H' h' R u C' D' ∧ og_cu L bt D' c' f' e' ∧ i + k ≤ c' ∧ c ≤ c' ∧ ¬ (f' < L ∧ bt f' = 40) ∧ ¬ og_isw bt 0 f' e') (by
    rintro μ st ⟨flag, k, c', H', h', f', e', C', D', rfl, g1, g2, g3, g4, g5, g6, rfl⟩
    cases flag with
    | false =>
      obtain ⟨y1, y2⟩ := g6 rfl
      exact .inr ⟨D', by simp only [om_D_readsUnit_L2_body, om_D_readsUnit_b2]; rw [if_pos (show om_bi false = 0 from rfl)], k, c', H', h', f', e', C', g1, g2, g3, g4, g5, y1, y2⟩
    | true =>
      obtain ⟨hTC', hTD', -, hD2'⟩ := og_S_T hE g2
      have hle := og_tok_le g3.1
      have hHR := g2.2.2.2.2.2.2.2.1
      have h34 : D'.1 46 34 = nI H' := g2.2.2.2.2.2.2.1.2.1
      have h35 := g2.2.2.2.2.2.1
      have h6c := g2.2.2.2.2.1
      obtain ⟨r0, D1, a0, b0, x0, y0⟩ := og_D_skips hL hbt hTD' g3 (k := 0) (by omega)
      have a0' : om_D_skips om_F 20974 3 D' = some (om_bi r0, D1) := a0
      cases r0 with
      | true =>
        have hw := b0.mp rfl
        obtain ⟨z1, f2, e2, z2⟩ := y0 rfl
        have hce := og_isw_lt (by omega) g3.1 hw
        obtain ⟨C2, t1, C1, m1, m2, rfl⟩ := og_c_not hE g2 g3 g4 hce hw
        have hS1 := og_S_move hE g2 (og_mv_fT m1) m2 (by omega) hle.2.1 z1
        have h34' : D1.1 46 34 = nI H' := by rw [z1.1 46 34 (by omega)]; exact h34
        have hin : om_in (nI H') 120 = true := om_in_nI (by omega) (by omega)
        have hcl : (nI H').toNatClampNeg = H' := nI_clamp (by omega)
        have x34 : (om_up D1 67 H' 6).1 46 34 = nI H' := by rw [om_up_at, if_neg (by decide)]; exact h34'
        have hS2 := og_S_push hE hS1 (by omega) (k := 6) (by omega) (x' := 0) (by simp) hS1.2.2.2.2.2.2.2.2.1 (fun hx => by omega) (C' := om_up (om_up C1 qd 8 (nI (H' + 1))) (qd + 7) H' (og_wv 6)) (D' := om_up (om_up D1 67 H' 6) 46 34 (nI (H' + 1))) (fun a j h1 h2 h3 => by
          rw [om_up_at]
          by_cases ha : a = qd + 7
          · rw [if_pos ha, if_neg (fun hj => h2 ⟨ha, hj⟩), om_up_at, if_neg (by omega)]
          · rw [if_neg ha, om_up_at]
            by_cases hb : a = qd
            · rw [if_pos hb, if_neg (fun hj => h1 ⟨hb, hj⟩)]
            · rw [if_neg hb]) rfl (by rw [om_up_at, if_neg (by omega), om_up_at, if_pos rfl, if_pos rfl]) (by rw [om_up_at, if_pos rfl, if_pos rfl]) (by rw [om_up_at, if_neg (by omega), om_up_at, if_neg (by omega), m1.1 28 6 (by omega), h6c]; simp) (fun a j h1 h2 => by
          rw [om_up_at]
          by_cases ha : a = 46
          · rw [if_pos ha, if_neg (fun hj => h1 ⟨ha, .inl hj⟩), om_up_at, if_neg (by omega)]
          · rw [if_neg ha, om_up_at]
            by_cases hb : a = 67
            · rw [if_pos hb, if_neg (fun hj => h2 ⟨hb, hj⟩)]
            · rw [if_neg hb]) rfl (by simp [om_up_at]) (by rw [om_up_at, if_neg (by decide), om_up_at, if_pos rfl, if_pos rfl]; decide) (by rw [om_up_at, if_pos rfl, if_neg (by decide), om_up_at, if_neg (by decide), z1.1 46 35 (by omega), h35]; simp)
        refine .inl ⟨(om_bi true, om_up (om_up D1 67 H' 6) 46 34 (nI (H' + 1))), 2 * (L - e') + 1, ?_, ⟨true, k + 1, e', H' + 1, og_set h' H' 6, f2, e2, _, _, rfl, og_tr_app g1 t1, hS2, ⟨z2.1, ?_, ?_, ?_⟩, by omega, by omega, fun hx => (by cases hx), by simp⟩, ?_⟩
        · simp only [om_D_readsUnit_L2_body, om_D_readsUnit_b2]
          rw [if_neg (show ¬ om_bi true = 0 by decide), a0']
          simp only [Option.bind_some]
          rw [if_neg (show ¬ om_bi true = 0 by decide)]
          simp only [h34', hin, hcl, cond_true, x34, og_nI1]
          rfl
        · rw [om_up_at, if_pos rfl, if_neg (by decide), om_up_at, if_neg (by decide)]; exact z2.2.1
        · rw [om_up_at, if_pos rfl, if_neg (by decide), om_up_at, if_neg (by decide)]; exact z2.2.2.1
        · rw [om_up_at, if_pos rfl, if_neg (by decide), om_up_at, if_neg (by decide)]; exact z2.2.2.2
        · have := hle.2.1
          simp; omega
      | false =>
        have := x0 rfl
        subst this
        have hnw : ¬ og_isw bt 0 f' e' := fun hx => by have := b0.mpr hx; cases this
        obtain ⟨r4, a4, b4⟩ := og_D_isSign hL hbt hTD' g3 (v := 40) (by omega) (by decide)
        have a4' : om_D_isSign om_F 40 D1 = some (om_bi r4, D1) := a4
        cases r4 with
        | false =>
          refine .inl ⟨(om_bi false, D1), 2 * (L - c') + 0, ?_, ⟨false, k, c', H', h', f', e', C', D1, rfl, g1, g2, g3, g4, g5, fun _ => ⟨fun hx => (by have := b4.mpr hx; cases this), hnw⟩, by simp⟩, by simp⟩
          simp only [om_D_readsUnit_L2_body, om_D_readsUnit_b2]
          rw [if_neg (show ¬ om_bi true = 0 by decide), a0']
          simp only [Option.bind_some]
          rw [if_pos (show om_bi false = 0 from rfl), a4']
          simp only [Option.bind_some]
          rw [if_pos (show om_bi false = 0 from rfl)]
          rfl
        | true =>
          have hw := b4.mp rfl
          have hce : c' < e' := hle.2.2.2 hw.1
          obtain ⟨C2, t1, C1, m1, m2, rfl⟩ := og_c_open hE g2 g3 g4 hce hw
          have hS1 := og_S_move hE g2 (og_mv_fT m1) m2 (by omega) hle.2.1 (og_fD_rfl (D := D1))
          have hin : om_in (nI H') 120 = true := om_in_nI (by omega) (by omega)
          have hcl : (nI H').toNatClampNeg = H' := nI_clamp (by omega)
          have x34 : (om_up D1 67 H' 9).1 46 34 = nI H' := by rw [om_up_at, if_neg (by decide)]; exact h34
          have x35 : (om_up (om_up D1 67 H' 9) 46 34 (nI (H' + 1))).1 46 35 = nI (og_n9 h' H') := by rw [om_up_at, if_pos rfl, if_neg (by decide), om_up_at, if_neg (by decide)]; exact h35
          have hS2 := og_S_push hE hS1 (by omega) (k := 9) (by omega) (x' := 0) (by simp) hS1.2.2.2.2.2.2.2.2.1 (fun hx => by omega) (C' := om_up (om_up (om_up C1 qd 8 (nI (H' + 1))) (qd + 7) H' (og_wv 9)) 28 6 (nI (og_n9 h' H' + 1))) (D' := om_up (om_up (om_up D1 67 H' 9) 46 34 (nI (H' + 1))) 46 35 (nI (og_n9 h' H' + 1))) (fun a j h1 h2 h3 => by
            rw [om_up_at]
            by_cases hc : a = 28
            · rw [if_pos hc, if_neg (fun hj => h3 ⟨hc, hj⟩), om_up_at, if_neg (by omega), om_up_at, if_neg (by omega)]
            · rw [if_neg hc, om_up_at]
              by_cases ha : a = qd + 7
              · rw [if_pos ha, if_neg (fun hj => h2 ⟨ha, hj⟩), om_up_at, if_neg (by omega)]
              · rw [if_neg ha, om_up_at]
                by_cases hb : a = qd
                · rw [if_pos hb, if_neg (fun hj => h1 ⟨hb, hj⟩)]
                · rw [if_neg hb]) rfl (by rw [om_up_at, if_neg (by omega), om_up_at, if_neg (by omega), om_up_at, if_pos rfl, if_pos rfl]) (by rw [om_up_at, if_neg (by omega), om_up_at, if_pos rfl, if_pos rfl]) (by rw [om_up_at, if_pos rfl, if_pos rfl]; simp) (fun a j h1 h2 => by
            rw [om_up_at]
            by_cases ha : a = 46
            · rw [if_pos ha, if_neg (fun hj => h1 ⟨ha, .inr hj⟩), om_up_at, if_pos ha, if_neg (fun hj => h1 ⟨ha, .inl hj⟩), om_up_at, if_neg (by omega)]
            · rw [if_neg ha, om_up_at, if_neg ha, om_up_at]
              by_cases hb : a = 67
              · rw [if_pos hb, if_neg (fun hj => h2 ⟨hb, hj⟩)]
              · rw [if_neg hb]) rfl (by simp [om_up_at]) (by rw [om_up_at, if_neg (by decide), om_up_at, if_neg (by decide), om_up_at, if_pos rfl, if_pos rfl]; decide) (by simp [om_up_at])
          obtain ⟨-, hTD2, -, -⟩ := og_S_T hE hS2
          have h29 : (om_up (om_up (om_up D1 67 H' 9) 46 34 (nI (H' + 1))) 46 35 (nI (og_n9 h' H' + 1))).1 46 29 = nI e' := by
            simp [om_up_at]; exact g3.2.2.2
          obtain ⟨D3, f3, e3, w1, w2, -, w3⟩ := og_dtoken hL hbt hTD2 hle.2.1 h29
          have hS3 := og_S_move hE hS2 og_mv_rfl hS2.2.2.1 (Nat.le_refl _) hS2.2.2.2.1 w2
          refine .inl ⟨(om_bi true, D3), 2 * (L - e') + 1, ?_, ⟨true, k + 1, e', H' + 1, og_set h' H' 9, f3, e3, _, D3, rfl, og_tr_app g1 t1, hS3, w3, by omega, by omega, fun hx => (by cases hx), by simp⟩, ?_⟩
          · simp only [om_D_readsUnit_L2_body, om_D_readsUnit_b2]
            rw [if_neg (show ¬ om_bi true = 0 by decide), a0']
            simp only [Option.bind_some]
            rw [if_pos (show om_bi false = 0 from rfl), a4']
            simp only [Option.bind_some]
            rw [if_neg (show ¬ om_bi true = 0 by decide)]
            simp only [h34, hin, hcl, cond_true, x34, og_nI1, x35, w1, Option.bind_some]
            rfl
          · have := hle.2.1
            simp; omega) om_F (2 * (L - c) + 1) (1, D) (by
      have : om_F = 100000 := rfl
      omega) ⟨true, 0, c, H, h, f, e, C, D, rfl, rfl, hS, hcu, hi, Nat.le_refl _, fun hx => (by cases hx), by simp⟩
  obtain ⟨k, c', H', h', f', e', C', g1, g2, g3, g4, g5, g6, g7⟩ := hqz
  exact ⟨z, k, c', H', h', f', e', C', hz, g1, g2, g3, g4, g5, g6, g7⟩
end MO
