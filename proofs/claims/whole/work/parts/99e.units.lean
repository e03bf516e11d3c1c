/-! ===== the kinds of units on both sides ===== -/
section UF
variable {n qd L : Nat} {bt : Nat → Nat} {C0 D0 : om_M} {c H R u i f e m : Nat} {h : Nat → Nat} {C D : om_M}
theorem og_num2_lt {v : Nat} (htk : og_tok bt L c f e) (hv : og_num2 bt L f e v) : v < 100 := by
  obtain ⟨h1, h2, h3, h4⟩ := hv
  have hall : ∀ i, f ≤ i → i < e → og_so (bt i) = 2 := fun i h5 h6 => by
    by_cases hif : i = f
    · subst hif; exact h2
    · rw [((htk.2.2.2.2.2 h1).2.2.1 i (by omega) h6).2, h2]
  have hn := og_nv_lt (bt := bt) hall
  have h7 : e - f = 1 ∨ e - f = 2 := by have := (htk.2.2.2.2.2 h1).1; omega
  rw [h4]
  rcases h7 with h7 | h7 <;> rw [h7]
  · have := hn.1 (by omega); omega
  · exact hn.2 (by omega)
theorem og_rForce2 (hE : og_Env n qd L bt C0 D0) (hS : og_Sim n qd L bt C0 D0 0 c H h R u C D) (hcu : og_cu L bt D c f e) (hi : i ≤ c) (hU : C.1 qd 10 = nI u) (hHR : H + R + 1 ≤ c) (hu1 : 12 * u + 1 ≤ c) (hm : og_pp 6 h H m) {pl : Nat} (hpl : pl < 2) (hC2 : C.1 (qd + 2) u = nI pl) (hC3 : C.1 (qd + 3) u = 0) {j : Nat} (hj : j < 3) (hw : og_isw bt (6 + j) f e) : ∃ r D', om_D_readsForce_b47 om_F (nI pl) (nI j) D = some (om_bi r, D') ∧ (r = true → og_uY n qd L bt C0 D0 (nI n, 2, nI i, C) i c H h R u m D') ∧ (r = false → og_uN qd L C0 D0 (nI n, 2, nI i, C) i D') := by
  have hL := hE.2.1
  have hbt := hE.2.2.1
  have hq := hE.2.2.2.1
  obtain ⟨-, hTD, -, hD2⟩ := og_S_T hE hS
  have hlec := og_tok_le hcu.1
  have hce : c < e := by
    have h1 := hw.1
    obtain ⟨l1, -⟩ : 1 ≤ og_ltn (6 + j) ∧ og_ltn (6 + j) ≤ 6 := og_ltn_le ⟨6 + j, by omega⟩
    have := hcu.1.1; omega
  have hu9 : u < 10 := og_S_u9 hL hS (by omega)
  have hce5 : c + 5 ≤ e := by
    have h1 := og_isw_len hcu.1 hw
    have l5 : ∀ j : Fin 3, 5 ≤ og_ltn (6 + j.val) := by decide
    have := l5 ⟨j, hj⟩
    simp only at this; omega
  obtain ⟨C2, t1, m1, m2, m3, m4, m5⟩ := og_c_verb hE hS hcu hi hU hj hw
  obtain ⟨D1, f1, e1, a1, a2, -, a3⟩ := og_dtoken hL hbt hTD hlec.2.1 hcu.2.2.2
  have hS1 := og_S_move hE hS m1 m2 (by omega) hlec.2.1 a2
  obtain ⟨-, hTD1, -, hD12⟩ := og_S_T hE hS1
  obtain ⟨r2, D2, b1, b2, b3, b4⟩ := og_readsPlace hL hbt hE.1 hTD1 hD12 a3
  have hne : ¬ nI j = -1 := fun hx => nI_pos (show j < 2 ^ 31 by omega) (by rw [hx]; decide)
  unfold om_D_readsForce_b47
  rw [if_neg hne, a1]
  simp only [Option.bind_some, b1]
  have hlec1 := og_tok_le a3.1
  -- the places of the set
  obtain ⟨z, hz, hqz⟩ := om_lx (f := om_D_readsForce_L67_body om_F) (fun μ st => ∃ (b : Int32) (flag : Bool) (v k c' f' e' : Nat) (C' D' : om_M) (stt : Int32), st = (nI pl, nI j, b, om_bi flag, D') ∧ og_tr (om_R_read_L27_body om_F) k (nI n, 3, nI (i + 1), C2) (nI n, stt, nI (i + 1 + k), C') ∧ og_Sim n qd L bt C0 D0 0 c' H h R u C' D' ∧ C'.1 qd 10 = nI u ∧ C'.1 (qd + 1) u = nI (11 + j) ∧ C'.1 (qd + 2) u = nI pl ∧ og_cu L bt D' c' f' e' ∧ i + 1 + k ≤ c' ∧ e ≤ c' ∧ (flag = true → stt = 4 ∧ C'.1 (qd + 3) u = b ||| (1 <<< (nI v &&& 31)) ∧ v < n ∧ D'.1 46 32 = nI v) ∧ (flag = false → C'.1 (qd + 3) u = b ∧ (¬ ∃ v, og_num2 bt L f' e' v ∧ v < n) ∧ (b = 0 → stt = 3) ∧ (b ≠ 0 → stt = 4)) ∧ og_wn n b ∧ μ = 2 * (L - c') + (if flag = true then 1 else 0)) (fun z => ∃ (b : Int32) (k c' f' e' : Nat) (C' D' : om_M) (stt : Int32), z = (nI pl, nI j, b, D') ∧ og_tr (om_R_read_L27_body om_F) k (nI n, 3, nI (i + 1), C2) (nI n, stt, nI (i + 1 + k), C') ∧ og_Sim n qd L bt C0 D0 0 c' H h R u C' D' ∧ C'.1 qd 10 = nI u ∧ C'.1 (qd + 1) u = nI (11 + j) ∧ C'.1 (qd + 2) u = nI pl ∧ og_cu L bt D' c' f' e' ∧ i + 1 + k ≤ c' ∧ e ≤ c' ∧ C'.1 (qd + 3) u = b ∧ (¬ ∃ v, og_num2 bt L f' e' v ∧ v < n) ∧ (b = 0 → stt = 3) ∧ (b ≠ 0 → stt = 4) ∧ og_wn n b) (by
    rintro μ st ⟨b, flag, v, k, c', f', e', C', D', stt, rfl, g1, g2, g3, g4, g5, g6, g7, g8, g9, g10, g11, rfl⟩
    cases flag with
    | false =>
      obtain ⟨y1, y2, y3, y4⟩ := g10 rfl
      exact .inr ⟨(nI pl, nI j, b, D'), by simp only [om_D_readsForce_L67_body, om_D_readsForce_b67]; rw [if_pos (show om_bi false = 0 from rfl)], b, k, c', f', e', C', D', stt, rfl, g1, g2, g3, g4, g5, g6, g7, g8, y1, y2, y3, y4, g11⟩
    | true =>
      obtain ⟨rfl, y1, y2, y3⟩ := g9 rfl
      obtain ⟨-, hTD', -, hD2'⟩ := og_S_T hE g2
      obtain ⟨r3, D3, p1, p2, p3, p4⟩ := og_readsPlace hL hbt hE.1 hTD' hD2' g6
      have hwn' : og_wn n (b ||| (1 <<< (nI v &&& 31))) := og_wn_or g11 (og_wn_bit hE.1 y2)
      have hb0 : b ||| (1 <<< (nI v &&& 31)) ≠ 0 := fun hx => by
        have h1 : og_S (b ||| (1 <<< (nI v &&& 31))) v := by
          unfold og_S; rw [om_b_or, om_b_shl (show v < 32 by have := hE.1; omega)]; simp
        rw [hx] at h1; exact og_S0 _ h1
      have hbody : om_D_readsForce_L67_body om_F (nI pl, nI j, b, om_bi true, D') = some (.inl (nI pl, nI j, b ||| (1 <<< (nI v &&& 31)), om_bi r3, D3)) := by
        simp only [om_D_readsForce_L67_body, om_D_readsForce_b67]
        rw [if_neg (show ¬ om_bi true = 0 by decide), p1]
        simp only [Option.bind_some, y3]
      have hle' := og_tok_le g6.1
      cases r3 with
      | false =>
        obtain ⟨w1, w2⟩ := p3 rfl
        have hS' := og_S_move hE g2 og_mv_rfl g2.2.2.1 (Nat.le_refl _) g2.2.2.2.1 p2
        refine .inl ⟨_, _, hbody, ⟨_, false, 0, k, c', f', e', C', D3, 4, rfl, g1, hS', g3, g4, g5, w2, g7, g8, fun hx => (by cases hx), fun _ => ⟨y1, w1, fun hx => absurd hx hb0, fun _ => rfl⟩, hwn', rfl⟩, by simp⟩
      | true =>
        obtain ⟨v', w1, w2, w3, f2, e2, w4⟩ := p4 rfl
        have hc'e : c' < e' := hle'.2.2.2 w2.1
        obtain ⟨C4, t4, n1, n2, n3, n4, n5⟩ := og_c_member4 hE g2 g6 g7 g3 w2 w1
        have hS' := og_S_move hE g2 n1 n2 (by omega) hle'.2.1 p2
        refine .inl ⟨_, _, hbody, ⟨_, true, v', k + 1, e', f2, e2, C4, D3, 4, rfl, og_tr_app g1 t4, hS', n3, by rw [n5 1 (by omega) (by omega) (by omega)]; exact g4, by rw [n5 2 (by omega) (by omega) (by omega)]; exact g5, w4, by omega, by omega, fun _ => ⟨rfl, by rw [n4, y1], w1, w3⟩, fun hx => (by cases hx), hwn', rfl⟩, ?_⟩
        have := hle'.2.1
        simp; omega) om_F _ (nI pl, nI j, 0, om_bi r2, D2) (show 2 * (L - (if r2 = true then e1 else e)) + (if r2 = true then 1 else 0) < om_F by
      have : om_F = 100000 := rfl
      split <;> omega) (by
      have h0wn : og_wn n 0 := fun i _ => om_b_0 i
      cases r2 with
      | false =>
        obtain ⟨w1, w2⟩ := b3 rfl
        have hS' := og_S_move hE hS1 og_mv_rfl hS1.2.2.1 (Nat.le_refl _) hS1.2.2.2.1 b2
        exact ⟨0, false, 0, 0, e, f1, e1, C2, D2, 3, rfl, rfl, hS', m3, m4, by rw [m5 2 (by omega) (by omega)]; exact hC2, w2, by omega, Nat.le_refl _, fun hx => (by cases hx), fun _ => ⟨by rw [m5 3 (by omega) (by omega)]; exact hC3, w1, fun _ => rfl, fun hx => absurd rfl hx⟩, h0wn, rfl⟩
      | true =>
        obtain ⟨v', w1, w2, w3, f2, e2, w4⟩ := b4 rfl
        have hc'e : e < e1 := hlec1.2.2.2 w2.1
        obtain ⟨C4, t4, n1, n2, n3, n4, n5⟩ := og_c_member3 (i := i + 1) hE hS1 a3 (by omega) m3 w2 w1
        have hS' := og_S_move hE hS1 n1 n2 (by omega) hlec1.2.1 b2
        exact ⟨0, true, v', 1, e1, f2, e2, C4, D2, 4, rfl, t4, hS', n3, by rw [n5 1 (by omega) (by omega) (by omega)]; exact m4, by rw [n5 2 (by omega) (by omega) (by omega), m5 2 (by omega) (by omega)]; exact hC2, w4, by omega, by omega, fun _ => ⟨rfl, by rw [n4, m5 3 (by omega) (by omega), hC3], w1, w3⟩, fun hx => (by cases hx), h0wn, rfl⟩)
  obtain ⟨b, k, c', f', e', C', D', stt, rfl, g1, g2, g3, g4, g5, g6, g7, g8, g9, g10, g11, g12, g13⟩ := hqz
  show ∃ r D', ((om_it (om_D_readsForce_L67_body om_F) om_F (nI pl, nI j, 0, om_bi r2, D2)).bind _) = some (om_bi r, D') ∧ _
  rw [hz]
  simp only [Option.bind_some]
  have htr := og_tr_app t1 g1
  by_cases hb0 : b = 0
  · subst hb0
    rw [if_pos rfl]
    have := g11 rfl
    subst this
    refine ⟨false, D', rfl, fun hx => (by cases hx), fun _ => og_uN_pre (k := 1 + k) htr ⟨0, _, f', ?_, by have := (og_tok_le g6.1).2; have := g2.2.2.2.1; omega, og_f_member3 hE g2 g6 (i := i + 1 + k) g7 g10, g6.2.1, g2.2.1, g6.1.2.1⟩⟩
    exact rfl
  · rw [if_neg hb0]
    have := g12 hb0
    subst this
    obtain ⟨r, D5, k1, k2, k3⟩ := og_rFrom (i := i + 1 + k) hE g2 g6 g7 g3 (by omega) (fun _ => by have := g6.1.1; omega) hm (.inl rfl) (fun _ => g10) (x1 := nI j) (x2 := nI pl) (x3 := b) (fun X hX h54 h55 h56 v hvn h4 h57 => ⟨⟨v, ⟨hvn, hu9⟩, h4, h57⟩, .inl ⟨j, hj, by rw [hX 1 (by omega) (by omega) (by omega)]; exact g4, h54, ⟨pl, hpl, by rw [hX 2 (by omega) (by omega) (by omega)]; exact g5, h55⟩, by rw [h56, hX 3 (by omega) (by omega) (by omega), g9], by rw [hX 3 (by omega) (by omega) (by omega), g9]; exact g13⟩⟩)
    rw [k1]
    simp only [Option.bind_some, om_D_readsForce_b108, om_D_readsForce_b109]
    have e3 : i + (1 + k) = i + 1 + k := by omega
    cases r with
    | false =>
      rw [if_pos (show om_bi false = 0 from rfl)]
      exact ⟨false, D5, rfl, fun hx => (by cases hx), fun _ => og_uN_pre (k := 1 + k) htr (by rw [e3]; exact k3 rfl)⟩
    | true =>
      rw [if_neg (show ¬ om_bi true = 0 by decide)]
      exact ⟨true, D5, rfl, fun _ => og_uY_pre (k := 1 + k) (c := c') htr (by omega) (by rw [e3]; exact k2 rfl), fun hx => (by cases hx)⟩
theorem og_rForce (hE : og_Env n qd L bt C0 D0) (hS : og_Sim n qd L bt C0 D0 0 c H h R u C D) (hcu : og_cu L bt D c f e) (hi : i ≤ c) (hU : C.1 qd 10 = nI u) (hHR : H + R + 1 ≤ c) (hu1 : 12 * u + 1 ≤ c) (hm : og_pp 6 h H m) {pl : Nat} (hpl : pl < 2) (hC2 : C.1 (qd + 2) u = nI pl) (hC3 : C.1 (qd + 3) u = 0) : ∃ r D', om_D_readsForce om_F (nI pl) D = some (om_bi r, D') ∧ (r = true → og_uY n qd L bt C0 D0 (nI n, 2, nI i, C) i c H h R u m D') ∧ (r = false → og_uN qd L C0 D0 (nI n, 2, nI i, C) i D') := by
  have hL := hE.2.1
  have hbt := hE.2.2.1
  obtain ⟨-, hTD, -, hD2⟩ := og_S_T hE hS
  obtain ⟨r6, a6, b6⟩ := og_D_isWord hL hbt hTD hcu (k := 6) (by omega)
  obtain ⟨r7, a7, b7⟩ := og_D_isWord hL hbt hTD hcu (k := 7) (by omega)
  obtain ⟨r8, a8, b8⟩ := og_D_isWord hL hbt hTD hcu (k := 8) (by omega)
  have a6' : om_D_isWord om_F 642894310 6 D = some (om_bi r6, D) := a6
  have a7' : om_D_isWord om_F 20452523 5 D = some (om_bi r7, D) := a7
  have a8' : om_D_isWord om_F 14976225 5 D = some (om_bi r8, D) := a8
  unfold om_D_readsForce om_D_readsForce_b0
  rw [a6']
  simp only [Option.bind_some]
  cases r6 with
  | true =>
    rw [if_neg (show ¬ om_bi true = 0 by decide)]
    exact og_rForce2 hE hS hcu hi hU hHR hu1 hm hpl hC2 hC3 (j := 0) (by omega) (b6.mp rfl)
  | false =>
    rw [if_pos (show om_bi false = 0 from rfl), a7']
    simp only [Option.bind_some]
    cases r7 with
    | true =>
      rw [if_neg (show ¬ om_bi true = 0 by decide)]
      exact og_rForce2 hE hS hcu hi hU hHR hu1 hm hpl hC2 hC3 (j := 1) (by omega) (b7.mp rfl)
    | false =>
      rw [if_pos (show om_bi false = 0 from rfl), a8']
      simp only [Option.bind_some]
      cases r8 with
      | true =>
        rw [if_neg (show ¬ om_bi true = 0 by decide)]
        exact og_rForce2 hE hS hcu hi hU hHR hu1 hm hpl hC2 hC3 (j := 2) (by omega) (b8.mp rfl)
      | false =>
        rw [if_pos (show om_bi false = 0 from rfl)]
        unfold om_D_readsForce_b47
        rw [if_pos rfl]
        refine ⟨false, D, rfl, fun hx => (by cases hx), fun _ => ⟨0, _, f, rfl, by have := hS.2.2.2.1; omega, og_f_verb hE hS hcu hi (fun hx => by have := b6.mpr hx; cases this) (fun hx => by have := b7.mpr hx; cases this) (fun hx => by have := b8.mpr hx; cases this), hcu.2.1, hS.2.1, hcu.1.2.1⟩⟩
theorem og_rMean2 (hE : og_Env n qd L bt C0 D0) (hS : og_Sim n qd L bt C0 D0 0 c H h R u C D) (hcu : og_cu L bt D c f e) (hi : i ≤ c) (hU : C.1 qd 10 = nI u) (hHR : H + R + 1 ≤ c) (hu1 : 12 * u + 5 ≤ c) (hm : og_pp 6 h H m) {p : Nat} (hp : p < n) (hC4 : C.1 (qd + 4) u = nI p) {j : Nat} (hj : j < 2) (hw : og_isw bt (11 + j) f e) (x2 : Int32) (hx2 : x2 = 0 ↔ j = 1) : ∃ r D', om_D_readsMean_b40 om_F (nI p) x2 D = some (om_bi r, D') ∧ (r = true → og_uY n qd L bt C0 D0 (nI n, 8, nI i, C) i c H h R u m D') ∧ (r = false → og_uN qd L C0 D0 (nI n, 8, nI i, C) i D') := by
  have hL := hE.2.1
  have hbt := hE.2.2.1
  have hq := hE.2.2.2.1
  obtain ⟨-, hTD, -, hD2⟩ := og_S_T hE hS
  have hlec := og_tok_le hcu.1
  have hce : c < e := by
    have h1 := hw.1
    obtain ⟨l1, -⟩ : 1 ≤ og_ltn (11 + j) ∧ og_ltn (11 + j) ≤ 6 := og_ltn_le ⟨11 + j, by omega⟩
    have := hcu.1.1; omega
  have hu9 : u < 10 := og_S_u9 hL hS (by omega)
  have hce5 : c + 5 ≤ e := by
    have h1 := og_isw_len hcu.1 hw
    have l5 : ∀ j : Fin 2, 5 ≤ og_ltn (11 + j.val) := by decide
    have := l5 ⟨j, hj⟩
    simp only at this; omega
  obtain ⟨C2, t1, m1, m2, m3, m4, m5⟩ := og_c_side hE hS hcu hi hU hj hw
  obtain ⟨D1, f1, e1, a1, a2, -, a3⟩ := og_dtoken hL hbt hTD hlec.2.1 hcu.2.2.2
  have hS1 := og_S_move hE hS m1 m2 (by omega) hlec.2.1 a2
  obtain ⟨-, hTD1, -, hD12⟩ := og_S_T hE hS1
  have hlec1 := og_tok_le a3.1
  obtain ⟨r2, D2, b1, b2, b3, b4, b5⟩ := og_D_isNumber hL hbt hTD1 a3 (x := 99) (mo := 99) (by decide)
  unfold om_D_readsMean_b40
  rw [a1]
  simp only [Option.bind_some, b1]
  cases r2 with
  | false =>
    rw [if_pos (show om_bi false = 0 from rfl)]
    have hno : ¬ ∃ v, og_num2 bt L f1 e1 v := fun ⟨v, hv⟩ => by
      have := b4.mpr ⟨v, hv, by have := og_num2_lt a3.1 hv; omega⟩
      cases this
    exact ⟨false, D2, rfl, fun hx => (by cases hx), fun _ => og_uN_pre t1 ⟨0, _, f1, rfl, by omega, og_f_bound hE hS1 a3 (i := i + 1) (by omega) hno, b3.2.1, og_gD_tr hS1.2.1 (og_gD_fD b2), b3.1.2.1⟩⟩
  | true =>
    rw [if_neg (show ¬ om_bi true = 0 by decide)]
    obtain ⟨v, hv, -⟩ := b4.mp rfl
    have hv100 := og_num2_lt a3.1 hv
    have hfig := b5 rfl v hv
    have hce1 : e < e1 := hlec1.2.2.2 hv.1
    have hR240 : R < 240 := by have := hS.2.2.2.1; omega
    have hD14 : D2.1 46 14 = nI R := by rw [b2.1 46 14 (by omega)]; exact hS1.2.2.2.2.2.2.1.2.2.2.2.1
    obtain ⟨C3, t2, C4, e4, m6, m7, m8, m9⟩ := og_c_bound (i := i + 1) hE hS1 a3 (by omega) hce1 m3 hv hv100 hm
    rw [e4] at t2
    have hS4 := og_S_move hE hS1 m6 m7 (by omega) hlec1.2.1 b2
    have main : ∀ kd : Int32, (j = 0 ∧ kd = 4 ∨ j = 1 ∧ kd = 5) → ∃ r D', om_D_readsMean_b65 om_F (nI p) kd D2 = some (om_bi r, D') ∧ (r = true → og_uY n qd L bt C0 D0 (nI n, 8, nI i, C) i c H h R u m D') ∧ (r = false → og_uN qd L C0 D0 (nI n, 8, nI i, C) i D') := by
      intro kd hkd
      have hS5 := og_S_unit hE hS4 (by omega) (by omega) (k := kd) (pl := 0) (set := nI v) (p := nI p) (by
        have q1 : qd + 1 < 46 := by rcases hq with rfl | rfl <;> decide
        have q4 : qd + 4 < 46 := by rcases hq with rfl | rfl <;> decide
        have q5 : qd + 5 < 46 := by rcases hq with rfl | rfl <;> decide
        have e1 : (og_mix C4 (og_emD D2 R kd 0 (nI v) (nI p))).1 (qd + 1) u = nI (16 + j) := by rw [og_mix_lo q1, m9 1 (by decide) (by decide) (by decide)]; exact m4
        have e54 : (og_mix C4 (og_emD D2 R kd 0 (nI v) (nI p))).1 54 R = kd := by rw [og_mix_hi (by decide), og_emD_at]; simp
        refine ⟨⟨p, ⟨hp, hu9⟩, by rw [og_mix_lo q4, m9 4 (by decide) (by decide) (by decide), m5 4 (by decide) (by decide)]; exact hC4, by rw [og_mix_hi (by decide), og_emD_at]; simp⟩, .inr (.inr ⟨v, hv100, by rw [og_mix_lo q5]; exact m8, by rw [og_mix_hi (by decide), og_emD_at]; simp, ?_⟩)⟩
        rw [e1, e54]
        rcases hkd with ⟨rfl, rfl⟩ | ⟨rfl, rfl⟩
        · exact .inl ⟨by decide, rfl⟩
        · exact .inr ⟨by decide, rfl⟩)
      obtain ⟨-, hTD5, -, -⟩ := og_S_T hE hS5
      have h29 : (og_emD D2 R kd 0 (nI v) (nI p)).1 46 29 = nI e1 := by rw [og_emD_at]; simp; exact b3.2.2.2
      obtain ⟨D6, f3, e3, c1, c2, -, c3⟩ := og_dtoken hL hbt hTD5 hlec1.2.1 h29
      have hS6 := og_S_move hE hS5 og_mv_rfl hS5.2.2.1 (Nat.le_refl _) hS5.2.2.2.1 c2
      unfold om_D_readsMean_b65
      rw [hfig, og_D_emit hR240 hD14]
      simp only [Option.bind_some, c1]
      exact ⟨true, D6, rfl, fun _ => ⟨2, e1, og_enC qd C4 R u, hS6, ⟨f3, e3, c3⟩, by omega, by omega, og_tr_app t1 t2⟩, fun hx => (by cases hx)⟩
    by_cases h0 : x2 = 0
    · rw [if_pos h0]
      exact main 5 (.inr ⟨hx2.mp h0, rfl⟩)
    · rw [if_neg h0]
      exact main 4 (.inl ⟨by have : j ≠ 1 := fun hx => h0 (hx2.mpr hx); omega, rfl⟩)
theorem og_rMean (hE : og_Env n qd L bt C0 D0) (hS : og_Sim n qd L bt C0 D0 0 c H h R u C D) (hcu : og_cu L bt D c f e) (hi : i ≤ c) (hU : C.1 qd 10 = nI u) (hHR : H + R + 1 ≤ c) (hu1 : 12 * u + 4 ≤ c) (hm : og_pp 6 h H m) : ∃ r D', om_D_readsMean om_F D = some (om_bi r, D') ∧ (r = true → og_uY n qd L bt C0 D0 (nI n, 7, nI i, C) i c H h R u m D') ∧ (r = false → og_uN qd L C0 D0 (nI n, 7, nI i, C) i D') := by
  have hL := hE.2.1
  have hbt := hE.2.2.1
  have hq := hE.2.2.2.1
  obtain ⟨-, hTD, -, hD2⟩ := og_S_T hE hS
  have hlec := og_tok_le hcu.1
  obtain ⟨r1, D1, a1, a2, a3, a4⟩ := og_readsPlace hL hbt hE.1 hTD hD2 hcu
  unfold om_D_readsMean om_D_readsMean_b0
  rw [a1]
  simp only [Option.bind_some]
  cases r1 with
  | false =>
    rw [if_pos (show om_bi false = 0 from rfl)]
    obtain ⟨w1, w2⟩ := a3 rfl
    exact ⟨false, D1, rfl, fun hx => (by cases hx), fun _ => ⟨0, _, f, rfl, by have := hS.2.2.2.1; omega, og_f_place7 hE hS hcu hi w1, w2.2.1, og_gD_tr hS.2.1 (og_gD_fD a2), w2.1.2.1⟩⟩
  | true =>
    rw [if_neg (show ¬ om_bi true = 0 by decide)]
    obtain ⟨p, hp, hv, hfig, f1, e1, hcu1⟩ := a4 rfl
    have hce : c < e := hlec.2.2.2 hv.1
    obtain ⟨C2, t1, m1, m2, m3, m4, m5⟩ := og_c_place7 hE hS hcu hi hU hv hp
    have hS1 := og_S_move hE hS m1 m2 (by omega) hlec.2.1 a2
    obtain ⟨-, hTD1, -, -⟩ := og_S_T hE hS1
    have hlec1 := og_tok_le hcu1.1
    obtain ⟨r11, a11, b11⟩ := og_D_isWord hL hbt hTD1 hcu1 (k := 11) (by omega)
    obtain ⟨r12, a12, b12⟩ := og_D_isWord hL hbt hTD1 hcu1 (k := 12) (by omega)
    have a11' : om_D_isWord om_F 5979201 5 D1 = some (om_bi r11, D1) := a11
    have a12' : om_D_isWord om_F 24621218 5 D1 = some (om_bi r12, D1) := a12
    rw [a11']
    simp only [Option.bind_some, hfig]
    cases r11 with
    | true =>
      rw [if_neg (show ¬ om_bi true = 0 by decide)]
      obtain ⟨r, D', k1, k2, k3⟩ := og_rMean2 (i := i + 1) hE hS1 hcu1 (by omega) m3 (by omega) (by omega) hm hp m4 (j := 0) (by omega) (b11.mp rfl) (om_bi true) (by decide)
      exact ⟨r, D', k1, fun hr => og_uY_pre t1 (by omega) (k2 hr), fun hr => og_uN_pre t1 (k3 hr)⟩
    | false =>
      rw [if_pos (show om_bi false = 0 from rfl), a12']
      simp only [Option.bind_some]
      cases r12 with
      | true =>
        rw [if_neg (show ¬ om_bi true = 0 by decide)]
        obtain ⟨r, D', k1, k2, k3⟩ := og_rMean2 (i := i + 1) hE hS1 hcu1 (by omega) m3 (by omega) (by omega) hm hp m4 (j := 1) (by omega) (b12.mp rfl) (om_bi false) (by decide)
        exact ⟨r, D', k1, fun hr => og_uY_pre t1 (by omega) (k2 hr), fun hr => og_uN_pre t1 (k3 hr)⟩
      | false =>
        rw [if_pos (show om_bi false = 0 from rfl)]
        exact ⟨false, D1, rfl, fun hx => (by cases hx), fun _ => og_uN_pre t1 ⟨0, _, f1, rfl, by omega, og_f_side hE hS1 hcu1 (i := i + 1) (by omega) (fun hx => by have := b11.mpr hx; cases this) (fun hx => by have := b12.mpr hx; cases this), hcu1.2.1, hS1.2.1, hcu1.1.2.1⟩⟩
theorem og_isw_lt {k : Nat} (hk : k < 13) (htk : og_tok bt L c f e) (hw : og_isw bt k f e) : c < e := by
  have h1 := hw.1
  obtain ⟨l1, -⟩ : 1 ≤ og_ltn k ∧ og_ltn k ≤ 6 := og_ltn_le ⟨k, hk⟩
  have := htk.1; omega
theorem og_rPlain (hE : og_Env n qd L bt C0 D0) (hS : og_Sim n qd L bt C0 D0 0 c H h R u C D) (hcu : og_cu L bt D c f e) (hi : i ≤ c) (hm : og_pp 6 h H m) (h2 : ¬ (f < L ∧ bt f = 40)) (h0 : ¬ og_isw bt 0 f e) : ∃ r D', om_D_readsPlain om_F D = some (om_bi r, D') ∧ (r = true → og_uY n qd L bt C0 D0 (nI n, 0, nI i, C) i c H h R u m D') ∧ (r = false → og_uN qd L C0 D0 (nI n, 0, nI i, C) i D') := by
  have hL := hE.2.1
  have hbt := hE.2.2.1
  obtain ⟨-, hTD, -, hD2⟩ := og_S_T hE hS
  have hlec := og_tok_le hcu.1
  have hHRc := hS.2.2.2.2.2.2.2.1
  have huc := hS.2.2.2.2.2.2.2.2.1
  obtain ⟨r9, D9, a9, b9, x9, y9⟩ := og_D_skips hL hbt hTD hcu (k := 9) (by omega)
  have a9' : om_D_skips om_F 464581 4 D = some (om_bi r9, D9) := a9
  unfold om_D_readsPlain om_D_readsPlain_b0
  rw [a9']
  simp only [Option.bind_some]
  cases r9 with
  | true =>
    rw [if_neg (show ¬ om_bi true = 0 by decide)]
    have hw := b9.mp rfl
    obtain ⟨z1, f1, e1, z2⟩ := y9 rfl
    have hce := og_isw_lt (by omega) hcu.1 hw
    have hlen := og_isw_len hcu.1 hw
    have hl4 : og_ltn 9 = 4 := by decide
    have hu9 : u < 10 := og_S_u9 hL hS (by omega)
    obtain ⟨C2, t1, m1, m2, m3, m4, m5, m6⟩ := og_c_even hE hS hcu hi hw
    have hS1 := og_S_move hE hS m1 m2 (by omega) hlec.2.1 z1
    obtain ⟨r, D', k1, k2, k3⟩ := og_rFrom (i := i + 1) hE hS1 z2 (by omega) m3 (by omega) (fun hw5 => by have := og_sep (k := 9) (k' := 5) (by omega) (by omega) hcu.1 hw z2.1 hw5; omega) hm (.inr rfl) (fun hx => absurd hx (by decide)) (x1 := 3) (x2 := 0) (x3 := 0) (fun X hX h54 h55 h56 v hvn h4 h57 => ⟨⟨v, ⟨hvn, hu9⟩, h4, h57⟩, .inr (.inl ⟨by rw [hX 1 (by omega) (by omega) (by omega)]; exact m4, h54⟩)⟩)
    rw [k1]
    simp only [Option.bind_some, om_nr_bi, cond_true]
    exact ⟨r, D', rfl, fun hr => og_uY_pre t1 (by omega) (k2 hr), fun hr => og_uN_pre t1 (k3 hr)⟩
  | false =>
    rw [if_pos (show om_bi false = 0 from rfl)]
    have := x9 rfl
    subst this
    obtain ⟨r10, D10, a10, b10, x10, y10⟩ := og_D_skips hL hbt hTD hcu (k := 10) (by omega)
    have a10' : om_D_skips om_F 459949 4 D9 = some (om_bi r10, D10) := a10
    rw [a10']
    simp only [Option.bind_some]
    cases r10 with
    | true =>
      rw [if_neg (show ¬ om_bi true = 0 by decide)]
      have hw := b10.mp rfl
      obtain ⟨z1, f1, e1, z2⟩ := y10 rfl
      have hce := og_isw_lt (by omega) hcu.1 hw
      have hlen := og_isw_len hcu.1 hw
      have hl4 : og_ltn 10 = 4 := by decide
      obtain ⟨C2, t1, m1, m2, m3, m4, m5, m6⟩ := og_c_mean hE hS hcu hi hw
      have hS1 := og_S_move hE hS m1 m2 (by omega) hlec.2.1 z1
      obtain ⟨r, D', k1, k2, k3⟩ := og_rMean (i := i + 1) hE hS1 z2 (by omega) m3 (by omega) (by omega) hm
      rw [k1]
      simp only [Option.bind_some, om_nr_bi, cond_true]
      exact ⟨r, D', rfl, fun hr => og_uY_pre t1 (by omega) (k2 hr), fun hr => og_uN_pre t1 (k3 hr)⟩
    | false =>
      rw [if_pos (show om_bi false = 0 from rfl)]
      have := x10 rfl
      subst this
      obtain ⟨r3, D3, a3, b3, x3, y3⟩ := og_D_skips hL hbt hTD hcu (k := 3) (by omega)
      have a3' : om_D_skips om_F 5583 3 D10 = some (om_bi r3, D3) := a3
      rw [a3']
      simp only [Option.bind_some]
      cases r3 with
      | true =>
        rw [if_neg (show ¬ om_bi true = 0 by decide)]
        have hw := b3.mp rfl
        obtain ⟨z1, f1, e1, z2⟩ := y3 rfl
        have hce := og_isw_lt (by omega) hcu.1 hw
        obtain ⟨C2, t1, m1, m2, m3, m4, m5, m6⟩ := og_c_one hE hS hcu hi hw
        have hS1 := og_S_move hE hS m1 m2 (by omega) hlec.2.1 z1
        obtain ⟨r, D', k1, k2, k3⟩ := og_rForce (i := i + 1) hE hS1 z2 (by omega) m3 (by omega) (by omega) hm (pl := 0) (by omega) m5 m6
        rw [show om_D_readsForce om_F 0 D3 = some (om_bi r, D') from k1]
        simp only [Option.bind_some, om_nr_bi, cond_true]
        exact ⟨r, D', rfl, fun hr => og_uY_pre t1 (by omega) (k2 hr), fun hr => og_uN_pre t1 (k3 hr)⟩
      | false =>
        rw [if_pos (show om_bi false = 0 from rfl)]
        have := x3 rfl
        subst this
        obtain ⟨r4, D4, a4, b4, x4, y4⟩ := og_D_skips hL hbt hTD hcu (k := 4) (by omega)
        have a4' : om_D_skips om_F 19047055 5 D3 = some (om_bi r4, D4) := a4
        rw [a4']
        simp only [Option.bind_some, om_D_readsPlain_b75, om_D_readsPlain_b76]
        cases r4 with
        | true =>
          rw [if_neg (show ¬ om_bi true = 0 by decide)]
          have hw := b4.mp rfl
          obtain ⟨z1, f1, e1, z2⟩ := y4 rfl
          have hce := og_isw_lt (by omega) hcu.1 hw
          obtain ⟨C2, t1, m1, m2, m3, m4, m5, m6⟩ := og_c_other hE hS hcu hi hw
          have hS1 := og_S_move hE hS m1 m2 (by omega) hlec.2.1 z1
          obtain ⟨r, D', k1, k2, k3⟩ := og_rForce (i := i + 1) hE hS1 z2 (by omega) m3 (by omega) (by omega) hm (pl := 1) (by omega) m5 m6
          rw [show om_D_readsForce om_F 1 D4 = some (om_bi r, D') from k1]
          simp only [Option.bind_some]
          cases r with
          | true =>
            rw [if_neg (show ¬ om_bi true = 0 by decide)]
            exact ⟨true, D', rfl, fun hr => og_uY_pre t1 (by omega) (k2 hr), fun hr => (by cases hr)⟩
          | false =>
            rw [if_pos (show om_bi false = 0 from rfl)]
            exact ⟨false, D', rfl, fun hr => (by cases hr), fun hr => og_uN_pre t1 (k3 hr)⟩
        | false =>
          rw [if_pos (show om_bi false = 0 from rfl)]
          have := x4 rfl
          subst this
          refine ⟨false, D4, rfl, fun hr => (by cases hr), fun _ => ⟨0, _, f, rfl, by have := hS.2.2.2.1; omega, og_f_plain hE hS hcu hi h2 h0 (fun hx => by have := b3.mpr hx; cases this) (fun hx => by have := b4.mpr hx; cases this) (fun hx => by have := b9.mpr hx; cases this) (fun hx => by have := b10.mpr hx; cases this), hcu.2.1, hS.2.1, hcu.1.2.1⟩⟩
end UF
