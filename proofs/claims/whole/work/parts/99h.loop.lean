/-! ===== the whole of a question, read on both sides ===== -/
section FL
variable {n qd L : Nat} {bt : Nat → Nat} {C0 D0 : om_M} {x c H R u i f e m : Nat} {h : Nat → Nat} {C D : om_M}
theorem og_cu_poD (hcu : og_cu L bt D c f e) (hR : og_Rel n qd C D H h R u x) (hm : m ≤ H) : og_cu L bt (og_poD h D R H m) c f e := by
  obtain ⟨d1, d2, d3, d4, d5⟩ := og_poD_facts hR.2.2.2.2.1 hR.2.1 (h := h) m hm
  exact ⟨hcu.1, by rw [d3 46 30 (by omega) (by omega)]; exact hcu.2.1, by rw [d3 46 31 (by omega) (by omega)]; exact hcu.2.2.1, by rw [d3 46 29 (by omega) (by omega)]; exact hcu.2.2.2⟩
theorem og_cAll (hE : og_Env n qd L bt C0 D0) (hS : og_Sim n qd L bt C0 D0 1 c H h R u C D) (hcu : og_cu L bt D c f e) (hi : i ≤ c) (hm : og_pp 6 h H m) : ∃ D' k c' H' R' f' e' C', om_D_closeAll om_F D = some D' ∧ og_tr (om_R_read_L27_body om_F) k (nI n, 1, nI i, og_poC qd h C R H m) (nI n, 1, nI (i + k), C') ∧ og_Sim n qd L bt C0 D0 1 c' H' h R' u C' D' ∧ (H' = 0 ∨ h (H' - 1) ≠ 6) ∧ og_cu L bt D' c' f' e' ∧ i + k ≤ c' ∧ c ≤ c' ∧ ¬ (0 < og_n9 h H' ∧ f' < L ∧ bt f' = 41) := by
  have hL := hE.2.1
  have hbt := hE.2.2.1
  have hem := og_emitD hS hL (lev := 6) (by omega) hm
  have hem' : om_D_emitWhile om_F 6 D = some (og_poD h D R H m) := hem
  have hS1 := og_S_pops hE hS (by omega) hm
  have hcu1 := og_cu_poD hcu hS.2.2.2.2.2.2.1 hm.1
  have htop1 : H - m = 0 ∨ h (H - m - 1) ≠ 6 := by
    rcases hm.2.2 with h0 | h0
    · exact .inl h0
    · exact .inr (by omega)
  obtain ⟨z, hz, k, c', H', R', f', e', C', q1, q2, q3, q4, q5, q6, q7⟩ := om_lx (f := om_D_closeAll_L6_body om_F) (fun μ D' => ∃ k c' H' R' f' e' C', og_tr (om_R_read_L27_body om_F) k (nI n, 1, nI i, og_poC qd h C R H m) (nI n, 1, nI (i + k), C') ∧ og_Sim n qd L bt C0 D0 1 c' H' h R' u C' D' ∧ (H' = 0 ∨ h (H' - 1) ≠ 6) ∧ og_cu L bt D' c' f' e' ∧ i + k ≤ c' ∧ c ≤ c' ∧ μ = L - c') (fun D' => ∃ k c' H' R' f' e' C', og_tr (om_R_read_L27_body om_F) k (nI n, 1, nI i, og_poC qd h C R H m) (nI n, 1, nI (i + k), C') ∧ og_Sim n qd L bt C0 D0 1 c' H' h R' u C' D' ∧ (H' = 0 ∨ h (H' - 1) ≠ 6) ∧ og_cu L bt D' c' f' e' ∧ i + k ≤ c' ∧ c ≤ c' ∧ ¬ (0 < og_n9 h H' ∧ f' < L ∧ bt f' = 41)) (by
    rintro μ D' ⟨k, c', H', R', f', e', C', g1, g2, g3, g4, g5, g6, rfl⟩
    obtain ⟨-, hTD', -, -⟩ := og_S_T hE g2
    have h35 := g2.2.2.2.2.2.1
    have hb : og_n9 h H' ≤ H' := og_cnt_le _ H'
    have hHc := g2.2.2.2.2.2.2.2.1
    have hcL := g2.2.2.2.1
    by_cases hcl : 0 < og_n9 h H' ∧ f' < L ∧ bt f' = 41
    · obtain ⟨D2, c2, H2, R2, f2, e2, C2, y1, y2, y3, y4, y5, y6⟩ := og_close1 hE g2 g3 g4 g5 hcl.1 hcl.2
      have := y3.2.2.2.1
      exact .inl ⟨D2, L - c2, y1, ⟨k + 1, c2, H2, R2, f2, e2, C2, og_tr_app g1 y2, y3, y4, y5, by omega, by omega, rfl⟩, by omega⟩
    · refine .inr ⟨D', ?_, k, c', H', R', f', e', C', g1, g2, g3, g4, g5, g6, hcl⟩
      show om_D_closeAll_b6 om_F D' = _
      unfold om_D_closeAll_b6
      rw [h35]
      by_cases h0 : og_n9 h H' = 0
      · rw [if_pos (by rw [h0]; exact Int32.le_rfl)]
      · have hgt : ¬ nI (og_n9 h H') ≤ 0 := nI_ge (b := og_n9 h H') (a := 0) (by omega) (by omega)
        obtain ⟨r4, a4, b4⟩ := og_D_isSign hL hbt hTD' g4 (v := 41) (by omega) (by decide)
        have hr4 : r4 = false := by
          cases r4 with
          | false => rfl
          | true => exact absurd ⟨by omega, b4.mp rfl⟩ hcl
        subst hr4
        have a4' : om_D_isSign om_F 41 D' = some (om_bi false, D') := a4
        rw [if_neg hgt, a4']
        simp only [Option.bind_some]
        rw [if_pos (show om_bi false = 0 from rfl)]) om_F (L - c) (og_poD h D R H m) (by
    have : om_F = 100000 := rfl
    omega) ⟨0, c, H - m, R + m, f, e, _, rfl, hS1, htop1, hcu1, hi, Nat.le_refl _, rfl⟩
  refine ⟨z, k, c', H', R', f', e', C', ?_, q1, q2, q3, q4, q5, q6, q7⟩
  unfold om_D_closeAll om_D_closeAll_b0 om_D_closeAll_b61 om_D_closeAll_L6
  rw [hem']
  simp only [Option.bind_some]
  rw [hz]; rfl
/-- and, or -/
theorem og_jStep (hE : og_Env n qd L bt C0 D0) (hS : og_Sim n qd L bt C0 D0 1 c H h R u C D) (htop : H = 0 ∨ h (H - 1) ≠ 6) (hcu : og_cu L bt D c f e) (hi : i ≤ c) {k : Nat} (hk : k = 7 ∨ k = 8) (hw : og_isw bt (k - 6) f e) {D1 : om_M} (hfD : og_fD D D1) {f1 e1 : Nat} (hcu1 : og_cu L bt D1 e f1 e1) : ∃ D2 D' C' H' h' R', om_D_emitWhile om_F (nI k) D1 = some D2 ∧ (∃ K : Nat, K < 120 ∧ D2.1 46 34 = nI K ∧ D' = om_up (om_up D2 67 K (nI k)) 46 34 (nI (K + 1))) ∧ og_tr (om_R_read_L27_body om_F) 1 (nI n, 1, nI i, C) (nI n, 0, nI (i + 1), C') ∧ og_Sim n qd L bt C0 D0 0 e H' h' R' u C' D' ∧ og_cu L bt D' e f1 e1 ∧ c < e := by
  have hL := hE.2.1
  have hq := hE.2.2.2.1
  have hqd := (og_S_T hE hS).2.2.1
  have hle := og_tok_le hcu.1
  have hce := og_isw_lt (by omega) hcu.1 hw
  have hlen2 : c + 2 ≤ e := by
    have h1 := og_isw_len hcu.1 hw
    have l2 : ∀ j : Fin 2, 2 ≤ og_ltn (j.val + 1) := by decide
    have h3 := l2 ⟨k - 7, by omega⟩
    simp only at h3
    rw [show k - 7 + 1 = k - 6 by omega] at h3
    omega
  obtain ⟨s1, s2, s3, s4, s5, s6, hR, s8, s9, s10⟩ := id hS
  obtain ⟨m, hm⟩ := og_pp_ex k h H
  have hm1 := hm.1
  have h6all : ∀ j, j < H → 6 ≤ h j := fun j hj => (hR.2.2.1 j hj).2.2.1
  have hno6 := og_no6 s10 htop h6all (lev := k) (by omega) m hm1 hm.2.1
  have step := og_step (x := 1) (st := 1) (st' := 0) (P := fun C2 => ∃ C1, og_fT C C1 ∧ C1.1 28 2 = nI e ∧ C2 = om_up (om_up (og_poC qd h C1 R H m) qd 8 (nI (H - m + 1))) (qd + 7) (H - m) (og_wv k)) hE hS hcu hi (by decide) (fun C1 t a2 a4 a5 a6 a7 => by
    have ht : t = 5 + (k - 6) := (a6.2.2.2.2.2 (k - 6) (by omega)).mpr hw
    have e7 : C1.2 28 7 = some qd := by rw [a2.2]; exact hqd
    have hRX := og_Rel_eq hq (C' := C1) (D' := D) hR (fun a j h1 h2 => a2.1 a j (by omega)) rfl rfl (fun _ _ _ => rfl)
    obtain ⟨x1, x2, x3, x4, x5, x6, x7, -⟩ := hRX
    have hj := og_join hq x4 x1 x7 (fun j hj => ⟨(x3 j hj).1, (x3 j hj).2.2⟩) hk hm hno6 (by omega)
    refine ⟨by omega, _, ?_, C1, a2, a4, rfl⟩
    rcases hk with rfl | rfl
    · have e4 : C1.1 28 4 = 6 := by rw [a5, ht]; decide
      have hj' : om_Q_join om_F qd (-2) C1 = _ := hj
      simp only [om_R_stateAfter, om_R_stateAfter_b0, om_R_joinUnits, om_R_joinUnits_b0, show ¬ (1 : Int32) = 0 by decide, if_true, if_false, e4, e7, Option.bind_some, og_qa1 hq, cond_true, hj']
    · have e4 : C1.1 28 4 = 7 := by rw [a5, ht]; decide
      have hj' : om_Q_join om_F qd (-3) C1 = _ := hj
      simp only [om_R_stateAfter, om_R_stateAfter_b0, om_R_joinUnits, om_R_joinUnits_b0, show ¬ (1 : Int32) = 0 by decide, if_true, if_false, e4, show ¬ (7 : Int32) = 6 by decide, e7, Option.bind_some, og_qa1 hq, cond_true, hj'])
  obtain ⟨C2, tr1, C1, g1, g2, rfl⟩ := step
  have hS1 := og_S_move hE hS (og_mv_fT g1) g2 (by omega) hle.2.1 hfD
  have hem := og_emitD hS1 hL (lev := k) (by omega) hm
  have hS2 := og_S_pops hE hS1 (by omega) hm
  have hR2 := hS2.2.2.2.2.2.2.1
  have hcu2 := og_cu_poD hcu1 hS1.2.2.2.2.2.2.1 hm1
  obtain ⟨y1, y2, y3, y4, y5, y6, y7, -⟩ := hR2
  have h9c := hS2.2.2.2.2.1
  have h9d := hS2.2.2.2.2.2.1
  have hk9 : (if k = 9 then 1 else 0) = 0 := if_neg (by omega)
  have hk78 : (if k = 7 ∨ k = 8 then 1 else 0) = 1 := if_pos hk
  have hS3 := og_S_push hE hS2 (by omega) (k := k) (by omega) (x' := 0) (by rw [hk78]) (by omega) (fun _ => by
    by_cases h0 : H - m = 0
    · exact .inl h0
    · exact .inr (hno6 (H - m - 1) (Nat.le_refl _) (by omega))) (C' := om_up (om_up (og_poC qd h C1 R H m) qd 8 (nI (H - m + 1))) (qd + 7) (H - m) (og_wv k)) (D' := om_up (om_up (og_poD h D1 R H m) 67 (H - m) (nI k)) 46 34 (nI (H - m + 1))) (fun a j h1 h2 h3 => by
    rw [om_up_at]
    by_cases ha : a = qd + 7
    · rw [if_pos ha, if_neg (fun hj => h2 ⟨ha, hj⟩), om_up_at, if_neg (by omega)]
    · rw [if_neg ha, om_up_at]
      by_cases hb : a = qd
      · rw [if_pos hb, if_neg (fun hj => h1 ⟨hb, hj⟩)]
      · rw [if_neg hb]) rfl (by rw [om_up_at, if_neg (by omega), om_up_at, if_pos rfl, if_pos rfl]) (by rw [om_up_at, if_pos rfl, if_pos rfl]) (by rw [om_up_at, if_neg (by omega), om_up_at, if_neg (by omega), h9c, hk9, Nat.add_zero]) (fun a j h1 h2 => by
    rw [om_up_at]
    by_cases ha : a = 46
    · rw [if_pos ha, if_neg (fun hj => h1 ⟨ha, .inl hj⟩), om_up_at, if_neg (by omega)]
    · rw [if_neg ha, om_up_at]
      by_cases hb : a = 67
      · rw [if_pos hb, if_neg (fun hj => h2 ⟨hb, hj⟩)]
      · rw [if_neg hb]) rfl (by simp [om_up_at]) (by rw [om_up_at, if_neg (by decide), om_up_at, if_pos rfl, if_pos rfl]) (by rw [om_up_at, if_pos rfl, if_neg (by decide), om_up_at, if_neg (by decide), h9d, hk9, Nat.add_zero])
  refine ⟨og_poD h D1 R H m, om_up (om_up (og_poD h D1 R H m) 67 (H - m) (nI k)) 46 34 (nI (H - m + 1)), _, _, _, _, hem, ⟨H - m, by omega, y2, rfl⟩, tr1, hS3, ⟨hcu1.1, ?_, ?_, ?_⟩, hce⟩
  · rw [om_up_at, if_pos rfl, if_neg (by decide), om_up_at, if_neg (by decide)]; exact hcu2.2.1
  · rw [om_up_at, if_pos rfl, if_neg (by decide), om_up_at, if_neg (by decide)]; exact hcu2.2.2.1
  · rw [om_up_at, if_pos rfl, if_neg (by decide), om_up_at, if_neg (by decide)]; exact hcu2.2.2.2
theorem og_fLoop (hE : og_Env n qd L bt C0 D0) (hS : og_Sim n qd L bt C0 D0 0 c H h R u C D) (hcu : og_cu L bt D c f e) (hi : i ≤ c) : ∃ z, om_D_fault_L26 om_F (1, D) = some z ∧ ((∃ D', z = .inl D' ∧ og_uN qd L C0 D0 (nI n, 0, nI i, C) i D') ∨ (∃ D' k c' H' h' R' u' C' f' e', z = .inr D' ∧ og_tr (om_R_read_L27_body om_F) k (nI n, 0, nI i, C) (nI n, 1, nI (i + k), C') ∧ i + k ≤ c' ∧ og_Sim n qd L bt C0 D0 1 c' H' h' R' u' C' D' ∧ og_cu L bt D' c' f' e' ∧ ¬ (0 < og_n9 h' H' ∧ f' < L ∧ bt f' = 41) ∧ ¬ og_isw bt 1 f' e' ∧ ¬ og_isw bt 2 f' e')) := by
  have hL := hE.2.1
  have hbt := hE.2.2.1
  have hq := hE.2.2.2.1
  obtain ⟨z, hz, hqz⟩ := om_lx (f := om_D_fault_L26_body om_F) (fun μ st => ∃ flag k c' H' h' R' u' C' D' f' e', st = (om_bi flag, D') ∧ i + k ≤ c' ∧ og_cu L bt D' c' f' e' ∧ (flag = true → og_tr (om_R_read_L27_body om_F) k (nI n, 0, nI i, C) (nI n, 0, nI (i + k), C') ∧ og_Sim n qd L bt C0 D0 0 c' H' h' R' u' C' D') ∧ (flag = false → og_tr (om_R_read_L27_body om_F) k (nI n, 0, nI i, C) (nI n, 1, nI (i + k), C') ∧ og_Sim n qd L bt C0 D0 1 c' H' h' R' u' C' D' ∧ ¬ (0 < og_n9 h' H' ∧ f' < L ∧ bt f' = 41) ∧ ¬ og_isw bt 1 f' e' ∧ ¬ og_isw bt 2 f' e') ∧ μ = 2 * (L - c') + (if flag = true then 1 else 0)) (fun z => (∃ D', z = .inl D' ∧ og_uN qd L C0 D0 (nI n, 0, nI i, C) i D') ∨ (∃ D' k c' H' h' R' u' C' f' e', z = .inr D' ∧ og_tr (om_R_read_L27_body om_F) k (nI n, 0, nI i, C) (nI n, 1, nI (i + k), C') ∧ i + k ≤ c' ∧ og_Sim n qd L bt C0 D0 1 c' H' h' R' u' C' D' ∧ og_cu L bt D' c' f' e' ∧ ¬ (0 < og_n9 h' H' ∧ f' < L ∧ bt f' = 41) ∧ ¬ og_isw bt 1 f' e' ∧ ¬ og_isw bt 2 f' e')) (by
    rintro μ st ⟨flag, k, c', H', h', R', u', C', D', f', e', rfl, g1, g2, g3, g4, rfl⟩
    cases flag with
    | false =>
      obtain ⟨y1, y2, y3, y4, y5⟩ := g4 rfl
      exact .inr ⟨.inr D', by simp only [om_D_fault_L26_body, om_D_fault_b26]; rw [if_pos (show om_bi false = 0 from rfl)], .inr ⟨D', k, c', H', h', R', u', C', f', e', rfl, y1, g1, y2, g2, y3, y4, y5⟩⟩
    | true =>
      obtain ⟨y1, y2⟩ := g3 rfl
      obtain ⟨D1, k1, c1, H1, h1, f1, e1, C1, p1, p2, p3, p4, p5, p6, p7, p8⟩ := og_rUnitL hE y2 g2 g1
      obtain ⟨m1, hm1⟩ := og_pp_ex 6 h1 H1
      obtain ⟨r, D2, v1, v2, v3⟩ := og_rPlain (i := i + k + k1) hE p3 p4 p5 hm1 p7 p8
      have htr1 := og_tr_app y1 p2
      have hU : om_D_readsUnit om_F D' = some (om_bi r, D2) := by
        unfold om_D_readsUnit om_D_readsUnit_b0
        rw [p1]
        simp only [Option.bind_some, v1, om_nr_bi, cond_true]
      cases r with
      | false =>
        refine .inr ⟨.inl D2, ?_, .inl ⟨D2, rfl, og_uN_pre (k := k + k1) htr1 ?_⟩⟩
        · simp only [om_D_fault_L26_body, om_D_fault_b26]
          rw [if_neg (show ¬ om_bi true = 0 by decide), hU]
          simp only [Option.bind_some]
          rw [if_pos (show om_bi false = 0 from rfl)]
        · rw [← Nat.add_assoc]; exact v3 rfl
      | true =>
        obtain ⟨k2, c2, C2, w1, ⟨f2, e2, w2⟩, w3, w4, w5⟩ := v2 rfl
        obtain ⟨D3, k3, c3, H3, R3, f3, e3, C3, x1, x2, x3, x4, x5, x6, x7, x8⟩ := og_cAll (i := i + k + k1 + k2) hE w1 w2 w3 hm1
        have htr2 := og_tr_app htr1 (og_tr_app w5 x2)
        obtain ⟨-, hTD3, -, -⟩ := og_S_T hE x3
        have hle3 := og_tok_le x5.1
        have hc3L := x3.2.2.2.1
        obtain ⟨r1, D4, a1, b1, n1, t1⟩ := og_D_skips hL hbt hTD3 x5 (k := 1) (by omega)
        have a1' : om_D_skips om_F 4545 3 D3 = some (om_bi r1, D4) := a1
        have hbody : ∀ X, (om_D_skips om_F 4545 3 D3).bind (fun q_3 => (if q_3.1 = 0 then (om_D_skips om_F 591 2 q_3.2).bind (fun q_4 => (if q_4.1 = 0 then some (.inl ((0 : Int32), q_4.2)) else (om_D_emitWhile om_F 8 q_4.2).bind (fun q_5 => (bif om_in (q_5.1 46 34) 120 then some (.inl (1, (om_up (om_up q_5 67 (q_5.1 46 34).toNatClampNeg 8) 46 34 (((om_up q_5 67 (q_5.1 46 34).toNatClampNeg 8).1 46 34) + 1)))) else none)))) else (om_D_emitWhile om_F 7 q_3.2).bind (fun q_6 => (bif om_in (q_6.1 46 34) 120 then some (.inl (1, (om_up (om_up q_6 67 (q_6.1 46 34).toNatClampNeg 7) 46 34 (((om_up q_6 67 (q_6.1 46 34).toNatClampNeg 7).1 46 34) + 1)))) else none)))) = X → om_D_fault_L26_body om_F (om_bi true, D') = X := by
          intro X hX
          rw [← hX]
          simp only [om_D_fault_L26_body, om_D_fault_b26]
          rw [if_neg (show ¬ om_bi true = 0 by decide), hU]
          simp only [Option.bind_some]
          rw [if_neg (show ¬ om_bi true = 0 by decide), x1]
          rfl
        have push : ∀ (kk : Nat) (Dt D5 D6 : om_M), kk = 7 ∨ kk = 8 → (∃ K : Nat, K < 120 ∧ D5.1 46 34 = nI K ∧ D6 = om_up (om_up D5 67 K (nI kk)) 46 34 (nI (K + 1))) → (bif om_in (D5.1 46 34) 120 then some (Sum.inl (β := om_M ⊕ om_M) ((1 : Int32), (om_up (om_up D5 67 (D5.1 46 34).toNatClampNeg (nI kk)) 46 34 (((om_up D5 67 (D5.1 46 34).toNatClampNeg (nI kk)).1 46 34) + 1)))) else none) = some (.inl (om_bi true, D6)) := by
          rintro kk Dt D5 D6 - ⟨K, hK, h34, rfl⟩
          have hin : om_in (nI K) 120 = true := om_in_nI hK (by omega)
          have hcl : (nI K).toNatClampNeg = K := nI_clamp (by omega)
          have x34 : (om_up D5 67 K (nI kk)).1 46 34 = nI K := by rw [om_up_at, if_neg (by decide)]; exact h34
          rw [h34, hin, cond_true, hcl, x34, og_nI1]
          rfl
        cases r1 with
        | true =>
          obtain ⟨z1, f4, e4, z2⟩ := t1 rfl
          obtain ⟨D5, D6, C6, H6, h6, R6, o1, o2, o3, o4, o5, o6⟩ := og_jStep (i := i + k + k1 + k2 + k3) hE x3 x4 x5 (by omega) (.inl rfl) (b1.mp rfl) z1 z2
          have o1' : om_D_emitWhile om_F 7 D4 = some D5 := o1
          refine .inl ⟨(om_bi true, D6), 2 * (L - e3) + 1, hbody _ ?_, ⟨true, k + k1 + (k2 + k3) + 1, e3, H6, h6, R6, u' + 1, C6, D6, f4, e4, rfl, by omega, o5, fun _ => ⟨?_, o4⟩, fun hx => (by cases hx), by simp⟩, ?_⟩
          · rw [a1']
            simp only [Option.bind_some]
            rw [if_neg (show ¬ om_bi true = 0 by decide), o1']
            simp only [Option.bind_some]
            exact push 7 D4 D5 D6 (.inl rfl) o2
          · have e1 : i + (k + k1 + (k2 + k3) + 1) = i + k + k1 + k2 + k3 + 1 := by omega
            have e2 : k + k1 + (k2 + k3) + 1 = (k + k1 + (k2 + k3)) + 1 := rfl
            rw [e1]
            exact og_tr_app htr2 o3
          · have := hle3.2.1
            simp; omega
        | false =>
          have := n1 rfl
          subst this
          obtain ⟨r2, D5, a2, b2, n2, t2⟩ := og_D_skips hL hbt hTD3 x5 (k := 2) (by omega)
          have a2' : om_D_skips om_F 591 2 D4 = some (om_bi r2, D5) := a2
          cases r2 with
          | true =>
            obtain ⟨z1, f4, e4, z2⟩ := t2 rfl
            obtain ⟨D6, D7, C6, H6, h6, R6, o1, o2, o3, o4, o5, o6⟩ := og_jStep (i := i + k + k1 + k2 + k3) hE x3 x4 x5 (by omega) (.inr rfl) (b2.mp rfl) z1 z2
            have o1' : om_D_emitWhile om_F 8 D5 = some D6 := o1
            refine .inl ⟨(om_bi true, D7), 2 * (L - e3) + 1, hbody _ ?_, ⟨true, k + k1 + (k2 + k3) + 1, e3, H6, h6, R6, u' + 1, C6, D7, f4, e4, rfl, by omega, o5, fun _ => ⟨?_, o4⟩, fun hx => (by cases hx), by simp⟩, ?_⟩
            · rw [a1']
              simp only [Option.bind_some]
              rw [if_pos (show om_bi false = 0 from rfl), a2']
              simp only [Option.bind_some]
              rw [if_neg (show ¬ om_bi true = 0 by decide), o1']
              simp only [Option.bind_some]
              exact push 8 D5 D6 D7 (.inr rfl) o2
            · have e1 : i + (k + k1 + (k2 + k3) + 1) = i + k + k1 + k2 + k3 + 1 := by omega
              rw [e1]
              exact og_tr_app htr2 o3
            · have := hle3.2.1
              simp; omega
          | false =>
            have := n2 rfl
            subst this
            refine .inl ⟨(om_bi false, D5), 2 * (L - c3) + 0, hbody _ ?_, ⟨false, k + k1 + (k2 + k3), c3, H3, h1, R3, u' + 1, C3, D5, f3, e3, rfl, by omega, x5, fun hx => (by cases hx), fun _ => ⟨?_, x3, x8, fun hx => (by have := b1.mpr hx; cases this), fun hx => (by have := b2.mpr hx; cases this)⟩, by simp⟩, by simp; omega⟩
            · rw [a1']
              simp only [Option.bind_some]
              rw [if_pos (show om_bi false = 0 from rfl), a2']
              simp only [Option.bind_some]
              rw [if_pos (show om_bi false = 0 from rfl)]
              rfl
            · have e1 : i + (k + k1 + (k2 + k3)) = i + k + k1 + k2 + k3 := by omega
              rw [e1]
              exact htr2) om_F (2 * (L - c) + 1) (1, D) (by
    have : om_F = 100000 := rfl
    omega) ⟨true, 0, c, H, h, R, u, C, D, f, e, rfl, hi, hcu, fun _ => ⟨rfl, hS⟩, fun hx => (by cases hx), by simp⟩
  exact ⟨z, hz, hqz⟩
end FL
