/-! ===== closing, and joining ===== -/
section CJ
variable {n qd L : Nat} {bt : Nat → Nat} {C0 D0 : om_M} {x c H R u i f e m : Nat} {h : Nat → Nat} {C D : om_M}
theorem og_no6 (hI : ∀ j, j + 1 < H → (h (j + 1) = 7 ∨ h (j + 1) = 8) → h j ≠ 6) (htop : H = 0 ∨ h (H - 1) ≠ 6) (h6 : ∀ j, j < H → 6 ≤ h j) {lev : Nat} (hlev : lev ≤ 8) : ∀ m, m ≤ H → (∀ j, H - m ≤ j → j < H → h j ≤ lev) → ∀ j, H - m - 1 ≤ j → j < H → h j ≠ 6
  | 0, _, _ => fun j h1 h2 => by
    rcases htop with h3 | h3
    · omega
    · rw [show j = H - 1 by omega]; exact h3
  | m + 1, hm, hle => fun j h1 h2 => by
    have ih := og_no6 hI htop h6 hlev m (by omega) (fun j h3 h4 => hle j (by omega) h4)
    by_cases hj : H - m - 1 ≤ j
    · exact ih j hj h2
    · have h3 := ih (j + 1) (by omega) (by omega)
      have h4 := hle (j + 1) (by omega) (by omega)
      have h5 := h6 (j + 1) (by omega)
      exact hI j (by omega) (by omega)
theorem og_n9_pos : ∀ {H : Nat}, 0 < og_n9 h H → ∃ j, j < H ∧ h j = 9
  | 0, h0 => absurd h0 (Nat.lt_irrefl _)
  | H + 1, h0 => by
    by_cases hh : h H = 9
    · exact ⟨H, Nat.lt_succ_self _, hh⟩
    · have h1 : og_n9 h (H + 1) = og_n9 h H + (if decide (h H = 9) = true then 1 else 0) := rfl
      rw [if_neg (by simpa using hh)] at h1
      obtain ⟨j, h2, h3⟩ := og_n9_pos (H := H) (by omega)
      exact ⟨j, by omega, h3⟩
/-- a parenthesis taken off -/
theorem og_Rel_drop (hq : qd = 30 ∨ qd = 38) {dd : Nat} (hR : og_Rel n qd C D H h R u dd) (hH : 0 < H) : og_Rel n qd (om_up C qd 8 (nI (H - 1))) (om_up D 46 34 (nI (H - 1))) (H - 1) h R u dd := by
  obtain ⟨r1, r2, r3, r4, r5, r6, r7, cf, df, q1, q2, q3⟩ := hR
  refine ⟨by rw [om_up_at, if_pos rfl, if_pos rfl], by simp [om_up_at], fun j hj => ?_, by rw [om_up_at, if_pos rfl, if_neg (by decide)]; exact r4, by rw [om_up_at, if_pos rfl, if_neg (by decide)]; exact r5, by rw [om_up_at, if_pos rfl, if_neg (by decide)]; exact r6, by omega, cf, df, ?_, q2, q3⟩
  · rw [om_up_at, if_neg (by omega), om_up_at, if_neg (by decide)]; exact r3 j (by omega)
  · refine og_Qr_keep q1 (fun i hi => ?_) (fun k j h1 h2 h3 => ?_) (fun a i h1 h2 hi => ?_)
    · rw [og_mix_lo (by omega), og_mix_lo (by omega), om_up_at, if_neg (by omega)]
    · rw [og_mix_lo (by omega), og_mix_lo (by omega), om_up_at, if_neg (by omega)]
    · rw [og_mix_hi (by omega), og_mix_hi (by omega), om_up_at, if_neg (by omega)]
theorem og_close1 (hE : og_Env n qd L bt C0 D0) (hS : og_Sim n qd L bt C0 D0 1 c H h R u C D) (htop : H = 0 ∨ h (H - 1) ≠ 6) (hcu : og_cu L bt D c f e) (hi : i ≤ c) (h9 : 0 < og_n9 h H) (hw : f < L ∧ bt f = 41) : ∃ D' c' H' R' f' e' C', om_D_closeAll_b6 om_F D = some (.inl D') ∧ og_tr (om_R_read_L27_body om_F) 1 (nI n, 1, nI i, C) (nI n, 1, nI (i + 1), C') ∧ og_Sim n qd L bt C0 D0 1 c' H' h R' u C' D' ∧ (H' = 0 ∨ h (H' - 1) ≠ 6) ∧ og_cu L bt D' c' f' e' ∧ c < c' := by
  have hL := hE.2.1
  have hbt := hE.2.2.1
  have hq := hE.2.2.2.1
  obtain ⟨hTC, hTD, hqd, hD2⟩ := og_S_T hE hS
  have hdd := og_S_dd hL hS
  have hle := og_tok_le hcu.1
  have hce : c < e := hle.2.2.2 hw.1
  obtain ⟨s1, s2, s3, s4, s5, s6, hR, s8, s9, s10⟩ := id hS
  obtain ⟨r4, a4, b4⟩ := og_D_isSign hL hbt hTD hcu (v := 41) (by omega) (by decide)
  have hr4 : r4 = true := b4.mpr hw
  subst hr4
  have a4' : om_D_isSign om_F 41 D = some (om_bi true, D) := a4
  obtain ⟨m1, hm1⟩ := og_pp_ex 8 h H
  have p9 : 0 < H - m1 := by
    obtain ⟨j, hj, hj9⟩ := og_n9_pos h9
    refine Classical.byContradiction fun hx => ?_
    have := hm1.2.1 j (by omega) hj
    omega
  have htop9 : h (H - m1 - 1) = 9 := by
    rcases hm1.2.2 with h0 | h0
    · omega
    · have := (hR.2.2.1 (H - m1 - 1) (by omega)).2.2; omega
  obtain ⟨m2, hm2⟩ := og_pp_ex 6 h (H - m1 - 1)
  have hn9 : og_n9 h H = og_n9 h (H - m1 - 1) + 1 := by
    have e1 : og_n9 h (H - m1) = og_n9 h H := by
      have hSp := og_S_pops hE hS (Nat.le_refl _) hm1
      have h1 := hSp.2.2.2.2.1
      have a4 := (og_poC_facts hq hR.2.2.2.1 hR.1 (h := h) m1 hm1.1).2.2.2.1
      rw [a4 28 6 (by omega) (by omega), s5] at h1
      have hb : ∀ K, og_n9 h K ≤ K := fun K => og_cnt_le _ K
      have := hb H; have := hb (H - m1)
      exact ((nI_eq (by omega) (by omega)).mp h1).symm
    have e2 : og_n9 h (H - m1 - 1 + 1) = og_n9 h (H - m1 - 1) + (if decide (h (H - m1 - 1) = 9) = true then 1 else 0) := rfl
    rw [if_pos (by rw [htop9]; rfl), show H - m1 - 1 + 1 = H - m1 by omega] at e2
    omega
  -- the model
  have hem := og_emitD hS hL (lev := 8) (by omega) hm1
  have hRp := (og_Rel_pops hq hR (by omega) rfl m1 hm1.1 hm1.2.1)
  obtain ⟨d1, d2, d3, d4, d5⟩ := og_poD_facts hR.2.2.2.2.1 hR.2.1 (h := h) m1 hm1.1
  have hx35 : (om_up (og_poD h D R H m1) 46 34 (nI (H - m1 - 1))).1 46 35 = nI (og_n9 h H) := by
    rw [om_up_at, if_pos rfl, if_neg (by decide), d3 46 35 (by omega) (by omega)]; exact s6
  have hY29 : (om_up (om_up (og_poD h D R H m1) 46 34 (nI (H - m1 - 1))) 46 35 (nI (og_n9 h (H - m1 - 1)))).1 46 29 = nI e := by
    rw [om_up_at, if_pos rfl, if_neg (by decide), om_up_at, if_pos rfl, if_neg (by decide), d3 46 29 (by omega) (by omega)]; exact hcu.2.2.2
  have hTDY : og_TD L bt (om_up (om_up (og_poD h D R H m1) 46 34 (nI (H - m1 - 1))) 46 35 (nI (og_n9 h (H - m1 - 1)))) := by
    refine ⟨?_, fun i hi => ?_⟩
    · rw [om_up_at, if_pos rfl, if_neg (by decide), om_up_at, if_pos rfl, if_neg (by decide), d3 46 9 (by omega) (by omega)]; exact hTD.1
    · rw [om_up_at, if_neg (by decide), om_up_at, if_neg (by decide), d3 53 i (by omega) (by omega)]; exact hTD.2 i hi
  obtain ⟨D3, f3, e3, t1, t2, -, t3⟩ := og_dtoken hL hbt hTDY hle.2.1 hY29
  -- the class
  have hCX : ∀ C1, og_fT C C1 → og_Rel n qd (om_up C1 28 6 (nI (og_n9 h (H - m1 - 1)))) D H h R u (og_jn h H + 1) := fun C1 g => og_Rel_eq hq hR (fun a j h1 h2 => by rw [om_up_at, if_neg (by omega)]; exact g.1 a j (by omega)) rfl rfl (fun _ _ _ => rfl)
  have step := og_step (x := 1) (st := 1) (st' := 1) (P := fun C2 => ∃ C1, og_fT C C1 ∧ C1.1 28 2 = nI e ∧ C2 = og_poC qd h (om_up (og_poC qd h (om_up C1 28 6 (nI (og_n9 h (H - m1 - 1)))) R H m1) qd 8 (nI (H - m1 - 1))) (R + m1) (H - m1 - 1) m2) hE hS hcu hi (by decide) (fun C1 t a2 a4 a5 a6 a7 => by
    have ht : t = 3 := a6.2.2.2.2.1.mpr hw
    have e4 : C1.1 28 4 = 3 := by rw [a5, ht]; decide
    have e7 : C1.2 28 7 = some qd := by rw [a2.2]; exact hqd
    have e6 : C1.1 28 6 = nI (og_n9 h H) := by rw [a2.1 28 6 (by omega)]; exact s5
    have hb : og_n9 h H ≤ H := og_cnt_le _ H
    have hne : ¬ nI (og_n9 h H) = 0 := fun hx => by
      have := (nI_eq (b := 0) (by omega) (by omega)).mp hx; omega
    have hp1 : nI (og_n9 h H) - 1 = nI (og_n9 h (H - m1 - 1)) := by rw [og_pred (by omega), hn9, Nat.add_sub_cancel]
    have hRX := hCX C1 a2
    obtain ⟨x1, x2, x3, x4, x5, x6, x7, -⟩ := hRX
    have hw1 : ∀ j, j < H → (om_up C1 28 6 (nI (og_n9 h (H - m1 - 1)))).1 (qd + 7) j = og_wv (h j) ∧ 6 ≤ h j ∧ h j ≤ 9 := fun j hj => ⟨(x3 j hj).1, (x3 j hj).2.2⟩
    have hheld := og_emitHeld hq x4 x1 x7 hw1 hm1
    obtain ⟨y1, y2, y3, y4, y5⟩ := og_poC_facts hq x4 x1 (h := h) m1 hm1.1
    have hgt : ¬ nI (H - m1) ≤ 0 := nI_ge (b := H - m1) (a := 0) (by omega) (by omega)
    have z8 : (om_up (og_poC qd h (om_up C1 28 6 (nI (og_n9 h (H - m1 - 1)))) R H m1) qd 8 (nI (H - m1 - 1))).1 qd 8 = nI (H - m1 - 1) := by rw [om_up_at, if_pos rfl, if_pos rfl]
    have z6 : (om_up (og_poC qd h (om_up C1 28 6 (nI (og_n9 h (H - m1 - 1)))) R H m1) qd 8 (nI (H - m1 - 1))).1 qd 6 = nI (R + m1) := by rw [om_up_at, if_pos rfl, if_neg (by decide)]; exact y1
    have hnots := og_emitNots hq z6 z8 (by omega) (fun j hj => by rw [om_up_at, if_neg (by omega), y3]; exact hw1 j (by omega)) hm2
    refine ⟨by omega, _, ?_, C1, a2, a4, rfl⟩
    have e7' : (om_up C1 28 6 (nI (og_n9 h (H - m1 - 1)))).2 28 7 = some qd := e7
    simp only [om_R_stateAfter, om_R_stateAfter_b0, om_R_joinUnits, om_R_joinUnits_b0, show ¬ (1 : Int32) = 0 by decide, if_true, if_false, e4, show ¬ (3 : Int32) = 6 by decide, show ¬ (3 : Int32) = 7 by decide, e6, hne, hp1, e7', Option.bind_some, og_qa1 hq, cond_true, om_Q_closeParenthesis, om_Q_closeParenthesis_b0, om_Q_closeParenthesis_b21, hheld, y2, hgt, og_pred (show 1 ≤ H - m1 by omega), hnots])
  obtain ⟨C2, tr1, C1, g1, g2, rfl⟩ := step
  have hRX := hCX C1 g1
  have hRp' := (og_Rel_pops hq hRX (by omega) rfl m1 hm1.1 hm1.2.1)
  have hRd := og_Rel_drop hq hRp'.1 p9
  have hRe := og_Rel_eq hq (D' := D3) hRd (fun _ _ _ _ => rfl) (by rw [t2.1 46 34 (by omega), om_up_at, if_pos rfl, if_neg (by decide)]) (by rw [t2.1 46 14 (by omega), om_up_at, if_pos rfl, if_neg (by decide)]) (fun a j ha => by rw [t2.1 a j (by omega), om_up_at, if_neg (by omega)])
  have hjn0 : og_jn h (H - m1) = og_jn h (H - m1 - 1) := by
    have e2 : og_jn h (H - m1 - 1 + 1) = og_jn h (H - m1 - 1) + (if decide (h (H - m1 - 1) = 7 ∨ h (H - m1 - 1) = 8) = true then 1 else 0) := rfl
    rw [htop9, if_neg (by decide), show H - m1 - 1 + 1 = H - m1 by omega] at e2
    omega
  rw [hjn0] at hRe
  have hRf := (og_Rel_pops hq hRe (by have := hRp'.2; omega) rfl m2 hm2.1 (fun j h1 h2 => by have := hm2.2.1 j h1 h2; omega)).1
  obtain ⟨b1, b2, b3, b4, b5⟩ := og_poC_facts hq hRX.2.2.2.1 hRX.1 (h := h) m1 hm1.1
  obtain ⟨c1, c2, c3, c4, c5⟩ := og_poC_facts hq hRe.2.2.2.1 hRe.1 (h := h) m2 hm2.1
  obtain ⟨k1, k2, k3, k4, k5⟩ := og_poD_facts hRe.2.2.2.2.1 hRe.2.1 (h := h) m2 hm2.1
  have hn92 : og_n9 h (H - m1 - 1 - m2) = og_n9 h (H - m1 - 1) := by
    have : ∀ m, m ≤ H - m1 - 1 → (∀ j, H - m1 - 1 - m ≤ j → j < H - m1 - 1 → h j ≤ 6) → og_n9 h (H - m1 - 1 - m) = og_n9 h (H - m1 - 1) := by
      intro m
      induction m with
      | zero => intro _ _; rfl
      | succ m ih =>
        intro h1 h2
        have h3 := ih (by omega) (fun j h4 h5 => h2 j (by omega) h5)
        have h4 := h2 (H - m1 - 1 - m - 1) (by omega) (by omega)
        have h5 : og_n9 h (H - m1 - 1 - m - 1 + 1) = og_n9 h (H - m1 - 1 - m - 1) + (if decide (h (H - m1 - 1 - m - 1) = 9) = true then 1 else 0) := rfl
        rw [if_neg (by simp; omega), show H - m1 - 1 - m - 1 + 1 = H - m1 - 1 - m by omega] at h5
        rw [show H - m1 - 1 - (m + 1) = H - m1 - 1 - m - 1 by omega]
        omega
    exact this m2 hm2.1 hm2.2.1
  -- what both have kept
  have gC : og_gC qd C0 (og_poC qd h (om_up (og_poC qd h (om_up C1 28 6 (nI (og_n9 h (H - m1 - 1)))) R H m1) qd 8 (nI (H - m1 - 1))) (R + m1) (H - m1 - 1) m2) := og_gC_tr s1 (og_gC_tr (og_gC_fT g1) ⟨fun a j ha hb => by
    rw [c4 a j (fun hx => hb ⟨by omega, by omega⟩) (fun hx => hb ⟨by omega, by omega⟩), om_up_at, if_neg (fun hx => hb ⟨by omega, by omega⟩), b4 a j (fun hx => hb ⟨by omega, by omega⟩) (fun hx => hb ⟨by omega, by omega⟩), om_up_at]
    by_cases h28 : a = 28
    · rw [if_pos h28, if_neg (fun hj => ha ⟨h28, by omega, by omega⟩)]
    · rw [if_neg h28], by rw [c5]; show (og_poC qd h (om_up C1 28 6 _) R H m1).2 = _; rw [b5]; rfl⟩)
  have hm11 := hm1.1
  have hm21 := hm2.1
  have gD3 : og_gD D D3 := og_gD_tr (show og_gD D (om_up (om_up (og_poD h D R H m1) 46 34 (nI (H - m1 - 1))) 46 35 (nI (og_n9 h (H - m1 - 1)))) from ⟨fun a j ha hb hc => by
    rw [om_up_at]
    by_cases h46 : a = 46
    · rw [if_pos h46, if_neg (fun hj => ha ⟨h46, .inr (.inr (.inr hj))⟩), om_up_at, if_pos h46, if_neg (fun hj => ha ⟨h46, .inr (.inr (.inl hj))⟩)]
      exact d3 a j (fun hx => ha ⟨hx.1, hx.2.elim (fun h => .inl h) (fun h => .inr (.inr (.inl h)))⟩) (by omega)
    · rw [if_neg h46, om_up_at, if_neg h46]
      by_cases h54 : 54 ≤ a ∧ a ≤ 57
      · exact d4 a j h54.1 h54.2 (.inr (by omega))
      · exact d3 a j (fun hx => h46 hx.1) h54, d5⟩) (og_gD_fD t2)
  have gD : og_gD D0 (og_poD h D3 (R + m1) (H - m1 - 1) m2) := og_gD_tr s2 (og_gD_tr gD3 ⟨fun a j ha hb hc => by
    by_cases h54 : 54 ≤ a ∧ a ≤ 57
    · exact k4 a j h54.1 h54.2 (.inr (by omega))
    · exact k3 a j (fun hx => ha ⟨hx.1, hx.2.elim (fun h => .inl h) (fun h => .inr (.inr (.inl h)))⟩) h54, k5⟩)
  have hem2 := og_emitWhile (lev := 6) (by omega) hRe.2.2.2.2.1 hRe.2.1 hRe.2.2.2.2.2.2.1 (fun j hj => (hRe.2.2.1 j hj).2) hm2
  refine ⟨og_poD h D3 (R + m1) (H - m1 - 1) m2, e, H - m1 - 1 - m2, R + m1 + m2, f3, e3, _, ?_, tr1, ⟨gC, gD, ?_, hle.2.1, ?_, ?_, hRf, by omega, by omega, fun j hj => s10 j (by omega)⟩, ?_, ⟨t3.1, ?_, ?_, ?_⟩, hce⟩
  · have hb : og_n9 h H ≤ H := og_cnt_le _ H
    have hgt : ¬ nI (og_n9 h H) ≤ 0 := nI_ge (b := og_n9 h H) (a := 0) (by omega) (by omega)
    have hp1 : nI (og_n9 h H) - 1 = nI (og_n9 h (H - m1 - 1)) := by rw [og_pred (by omega), hn9, Nat.add_sub_cancel]
    have hem' : om_D_emitWhile om_F 8 D = some (og_poD h D R H m1) := hem
    have hem2' : om_D_emitWhile om_F 6 D3 = some (og_poD h D3 (R + m1) (H - m1 - 1) m2) := hem2
    unfold om_D_closeAll_b6
    rw [s6, if_neg hgt, a4']
    simp only [Option.bind_some]
    rw [if_neg (show ¬ om_bi true = 0 by decide), hem']
    simp only [Option.bind_some, d2, og_pred (show 1 ≤ H - m1 by omega), hx35, hp1, t1, hem2']
  · rw [c4 28 2 (by omega) (by omega), om_up_at, if_neg (by omega), b4 28 2 (by omega) (by omega), om_up_at, if_pos rfl, if_neg (by decide)]; exact g2
  · rw [c4 28 6 (by omega) (by omega), om_up_at, if_neg (by omega), b4 28 6 (by omega) (by omega), om_up_at, if_pos rfl, if_pos rfl, hn92]
  · rw [k3 46 35 (by omega) (by omega), t2.1 46 35 (by omega), om_up_at, if_pos rfl, if_pos rfl, hn92]
  · rcases hm2.2.2 with h0 | h0
    · exact .inl h0
    · exact .inr (by omega)
  · rw [k3 46 30 (by omega) (by omega)]; exact t3.2.1
  · rw [k3 46 31 (by omega) (by omega)]; exact t3.2.2.1
  · rw [k3 46 29 (by omega) (by omega)]; exact t3.2.2.2
end CJ
