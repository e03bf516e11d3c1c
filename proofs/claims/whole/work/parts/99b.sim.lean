/-! ===== reading a question, on both sides: what goes with what ===== -/
def og_tr {α β : Type} (f : α → Option (α ⊕ β)) : Nat → α → α → Prop
  | 0, s, s' => s' = s
  | k + 1, s, s' => ∃ s1, f s = some (.inl s1) ∧ og_tr f k s1 s'
theorem og_tr_app {α β : Type} {f : α → Option (α ⊕ β)} : ∀ {k k' : Nat} {s s' s'' : α}, og_tr f k s s' → og_tr f k' s' s'' → og_tr f (k + k') s s''
  | 0, k', s, s', s'', h, h' => by
    rw [Nat.zero_add]
    have : s' = s := h
    rw [← this]; exact h'
  | k + 1, k', s, s', s'', ⟨s1, h1, h2⟩, h' => by
    rw [show k + 1 + k' = k + k' + 1 by omega]
    exact ⟨s1, h1, og_tr_app h2 h'⟩
theorem og_tr_one {α β : Type} {f : α → Option (α ⊕ β)} {s s' : α} (h : f s = some (.inl s')) : og_tr f 1 s s' := ⟨s', h, rfl⟩
theorem og_tr_it {α β : Type} {f : α → Option (α ⊕ β)} : ∀ {k F : Nat} {s s' : α} {z : β}, og_tr f k s s' → f s' = some (.inr z) → k < F → om_it f F s = some z
  | _, 0, _, _, _, _, _, h => absurd h (Nat.not_lt_zero _)
  | 0, F + 1, s, s', z, h, hz, _ => by
    have : s' = s := h
    subst this
    exact om_it_r hz
  | k + 1, F + 1, s, s', z, ⟨s1, h1, h2⟩, hz, hF => by
    rw [om_it_l h1]
    exact og_tr_it h2 hz (by omega)
def og_gC (qd : Nat) (C C' : om_M) : Prop := (∀ a j, ¬ (a = 28 ∧ 2 ≤ j ∧ j ≤ 6) → ¬ (qd ≤ a ∧ a ≤ qd + 7) → C'.1 a j = C.1 a j) ∧ C'.2 = C.2
def og_gD (D D' : om_M) : Prop := (∀ a j, ¬ (a = 46 ∧ (j = 14 ∨ (29 ≤ j ∧ j ≤ 32) ∨ j = 34 ∨ j = 35)) → ¬ (54 ≤ a ∧ a ≤ 57 ∧ j < 120) → a ≠ 67 → D'.1 a j = D.1 a j) ∧ D'.2 = D.2
theorem og_gC_tr {qd : Nat} {C C' C'' : om_M} (h : og_gC qd C C') (h' : og_gC qd C' C'') : og_gC qd C C'' := ⟨fun a j ha hb => by rw [h'.1 a j ha hb, h.1 a j ha hb], by rw [h'.2, h.2]⟩
theorem og_gD_tr {C C' C'' : om_M} (h : og_gD C C') (h' : og_gD C' C'') : og_gD C C'' := ⟨fun a j ha hb hc => by rw [h'.1 a j ha hb hc, h.1 a j ha hb hc], by rw [h'.2, h.2]⟩
theorem og_gC_fT {qd : Nat} {C C' : om_M} (h : og_fT C C') : og_gC qd C C' := ⟨fun a j ha _ => h.1 a j (fun hx => ha ⟨hx.1, hx.2.1, by omega⟩), h.2⟩
theorem og_gD_fD {C C' : om_M} (h : og_fD C C') : og_gD C C' := ⟨fun a j ha _ _ => h.1 a j (fun hx => ha ⟨hx.1, .inr (.inl hx.2)⟩), h.2⟩
def og_n9 (h : Nat → Nat) (H : Nat) : Nat := og_cnt (fun j => decide (h j = 9)) H
section SI
variable {n qd L : Nat} {bt : Nat → Nat} {C0 D0 : om_M}
/-- both sides between two tokens -/
def og_Sim (n qd L : Nat) (bt : Nat → Nat) (C0 D0 : om_M) (x c H : Nat) (h : Nat → Nat) (R u : Nat) (C D : om_M) : Prop := og_gC qd C0 C ∧ og_gD D0 D ∧ C.1 28 2 = nI c ∧ c ≤ L ∧ C.1 28 6 = nI (og_n9 h H) ∧ D.1 46 35 = nI (og_n9 h H) ∧ og_Rel n qd C D H h R u (og_jn h H + x) ∧ H + R ≤ c ∧ 12 * u ≤ c + 2 * x ∧ ∀ j, j + 1 < H → (h (j + 1) = 7 ∨ h (j + 1) = 8) → h j ≠ 6
/-- what does not change -/
def og_Env (n qd L : Nat) (bt : Nat → Nat) (C0 D0 : om_M) : Prop := n ≤ 8 ∧ L ≤ 120 ∧ (∀ i, bt i < 256) ∧ (qd = 30 ∨ qd = 38) ∧ og_TC L bt C0 ∧ og_TD L bt D0 ∧ C0.2 28 7 = some qd ∧ D0.1 46 2 = nI n
theorem og_S_T (hE : og_Env n qd L bt C0 D0) {x c H R u : Nat} {h : Nat → Nat} {C D : om_M} (hS : og_Sim n qd L bt C0 D0 x c H h R u C D) : og_TC L bt C ∧ og_TD L bt D ∧ C.2 28 7 = some qd ∧ D.1 46 2 = nI n := by
  obtain ⟨h8, hL, hbt, hq, e1, e2, e3, e4⟩ := hE
  obtain ⟨g1, g2, -⟩ := hS
  refine ⟨⟨by rw [g1.1 28 0 (by omega) (by omega)]; exact e1.1, fun i hi => by rw [g1.1 29 i (by omega) (by omega)]; exact e1.2 i hi⟩, ⟨by rw [g2.1 46 9 (by omega) (by omega) (by omega)]; exact e2.1, fun i hi => by rw [g2.1 53 i (by omega) (by omega) (by omega)]; exact e2.2 i hi⟩, by rw [g1.2]; exact e3, by rw [g2.1 46 2 (by omega) (by omega) (by omega)]; exact e4⟩
theorem og_S_dd {x c H R u : Nat} {h : Nat → Nat} {C D : om_M} (hL : L ≤ 120) (hS : og_Sim n qd L bt C0 D0 x c H h R u C D) : og_jn h H + x ≤ u ∧ u ≤ 60 := by
  obtain ⟨-, -, -, s4, -, -, ⟨-, -, -, -, -, -, -, cf, df, q1, q2, q3⟩, -, s9, -⟩ := hS
  have := og_Qr_d q1 R (Nat.le_refl _)
  omega
/-- ten units at most are begun -/
theorem og_S_u9 {c H R u : Nat} {h : Nat → Nat} {C D : om_M} (hL : L ≤ 120) (hS : og_Sim n qd L bt C0 D0 0 c H h R u C D) (hc : c < L) : u < 10 := by
  have := hS.2.2.2.2.2.2.2.2.1
  omega
theorem og_isw_len {k c f e : Nat} (htk : og_tok bt L c f e) (hw : og_isw bt k f e) : c + og_ltn k ≤ e := by
  have := htk.1; have := hw.1; omega
theorem og_w_lt {k c f e : Nat} (hk : k < 13) (htk : og_tok bt L c f e) (hw : og_isw bt k f e) : c < L := by
  have h1 := og_isw_len htk hw
  obtain ⟨l1, -⟩ : 1 ≤ og_ltn k ∧ og_ltn k ≤ 6 := og_ltn_le ⟨k, hk⟩
  have := (og_tok_le htk).2.1
  omega
/-- a word doesn't begin where another one ends -/
theorem og_sep {k k' c f e f' e' : Nat} (hk : k < 13) (hk' : k' < 13) (htk : og_tok bt L c f e) (hw : og_isw bt k f e) (htk' : og_tok bt L e f' e') (hw' : og_isw bt k' f' e') : e < f' := by
  obtain ⟨l1, -⟩ : 1 ≤ og_ltn k ∧ og_ltn k ≤ 6 := og_ltn_le ⟨k, hk⟩
  obtain ⟨l2, -⟩ : 1 ≤ og_ltn k' ∧ og_ltn k' ≤ 6 := og_ltn_le ⟨k', hk'⟩
  have a1 : og_so (bt f) = 1 := by
    have h0 := hw.2 0 (by omega)
    rw [Nat.add_zero] at h0
    rw [h0]; exact og_ltr_so ⟨k, hk⟩
  have a2 : og_so (bt f') = 1 := by
    have h0 := hw'.2 0 (by omega)
    rw [Nat.add_zero] at h0
    rw [h0]; exact og_ltr_so ⟨k', hk'⟩
  have b1 := hw.1
  have b2 := hw'.1
  have le1 := og_tok_le htk
  have le2 := og_tok_le htk'
  have hfL : f < L := by omega
  refine Classical.byContradiction fun hx => ?_
  have hfe : f' = e := by have := htk'.1; omega
  rcases (htk.2.2.2.2.2 hfL).2.2.2 (by omega) with h1 | h1
  · omega
  · rw [hfe] at a2; exact h1 (by rw [a1, a2])
/-- what a token of a unit may change on the class's side -/
def og_mv (qd u : Nat) (C C' : om_M) : Prop := (∀ a j, ¬ (a = 28 ∧ 2 ≤ j ∧ j ≤ 5) → ¬ (a = qd ∧ j = 10) → ¬ (qd + 1 ≤ a ∧ a ≤ qd + 5 ∧ j = u) → C'.1 a j = C.1 a j) ∧ C'.2 = C.2
theorem og_mv_fT {u : Nat} {C C' : om_M} (h : og_fT C C') : og_mv qd u C C' := ⟨fun a j ha _ _ => h.1 a j ha, h.2⟩
theorem og_mv_rfl {u : Nat} {C : om_M} : og_mv qd u C C := ⟨fun _ _ _ _ _ => rfl, rfl⟩
theorem og_mv_tr {u : Nat} {C C' C'' : om_M} (h : og_mv qd u C C') (h' : og_mv qd u C' C'') : og_mv qd u C C'' := ⟨fun a j ha hb hc => by rw [h'.1 a j ha hb hc, h.1 a j ha hb hc], by rw [h'.2, h.2]⟩
theorem og_mv_up {u : Nat} {C C' : om_M} (h : og_mv qd u C C') {k : Nat} (hk : 1 ≤ k ∧ k ≤ 5) (v : Int32) : og_mv qd u C (om_up C' (qd + k) u v) := ⟨fun a i ha hb hc => by
  rw [om_up_at]
  by_cases h1 : a = qd + k
  · rw [if_pos h1, if_neg (fun hij => hc ⟨by omega, by omega, hij⟩)]; exact h.1 a i ha hb hc
  · rw [if_neg h1]; exact h.1 a i ha hb hc, h.2⟩
theorem og_mv_10 {u : Nat} {C C' : om_M} (h : og_mv qd u C C') (v : Int32) : og_mv qd u C (om_up C' qd 10 v) := ⟨fun a i ha hb hc => by
  rw [om_up_at]
  by_cases h1 : a = qd
  · rw [if_pos h1, if_neg (fun hij => hb ⟨h1, hij⟩)]; exact h.1 a i ha hb hc
  · rw [if_neg h1]; exact h.1 a i ha hb hc, h.2⟩
theorem og_S_move (hE : og_Env n qd L bt C0 D0) {x c c' H R u : Nat} {h : Nat → Nat} {C D C' D' : om_M} (hS : og_Sim n qd L bt C0 D0 x c H h R u C D) (hC : og_mv qd u C C') (hc : C'.1 28 2 = nI c') (hcc : c ≤ c') (hcL : c' ≤ L) (hD : og_fD D D') : og_Sim n qd L bt C0 D0 x c' H h R u C' D' := by
  obtain ⟨h8, hL, hbt, hq, -⟩ := hE
  obtain ⟨s1, s2, s3, s4, s5, s6, ⟨r1, r2, r3, r4, r5, r6, r7, cf, df, q1, q2, q3⟩, s8, s9, s10⟩ := hS
  have hCe : ∀ a j, ¬ (a = 28 ∧ 2 ≤ j ∧ j ≤ 5) → ¬ (a = qd ∧ j = 10) → ¬ (qd + 1 ≤ a ∧ a ≤ qd + 5 ∧ j = u) → C'.1 a j = C.1 a j := hC.1
  have hDe : ∀ a j, ¬ (a = 46 ∧ 29 ≤ j ∧ j ≤ 32) → D'.1 a j = D.1 a j := hD.1
  refine ⟨og_gC_tr s1 ⟨fun a j ha hb => hCe a j (fun hx => ha ⟨hx.1, hx.2.1, by omega⟩) (fun hx => hb ⟨by omega, by omega⟩) (fun hx => hb ⟨by omega, by omega⟩), hC.2⟩, og_gD_tr s2 (og_gD_fD hD), hc, hcL, by rw [hCe 28 6 (by omega) (by omega) (by omega)]; exact s5, by rw [hDe 46 35 (by omega)]; exact s6, ⟨by rw [hCe qd 8 (by omega) (by omega) (by omega)]; exact r1, by rw [hDe 46 34 (by omega)]; exact r2, fun j hj => ?_, by rw [hCe qd 6 (by omega) (by omega) (by omega)]; exact r4, by rw [hDe 46 14 (by omega)]; exact r5, by rw [hCe qd 0 (by omega) (by omega) (by omega)]; exact r6, r7, cf, df, ?_, q2, q3⟩, by omega, by omega, s10⟩
  · rw [hCe (qd + 7) j (by omega) (by omega) (by omega), hDe 67 j (by omega)]; exact r3 j hj
  · refine og_Qr_keep q1 (fun i hi => ?_) (fun k j h1 h2 h3 => ?_) (fun a i h1 h2 hi => ?_)
    · rw [og_mix_lo (by omega), og_mix_lo (by omega)]; exact hCe _ _ (by omega) (by omega) (by omega)
    · rw [og_mix_lo (by omega), og_mix_lo (by omega)]; exact hCe _ _ (by omega) (by omega) (by omega)
    · rw [og_mix_hi (by omega), og_mix_hi (by omega)]; exact hDe _ _ (by omega)
/-- the end of a unit, but for the joins that wait -/
def og_enC (qd : Nat) (C : om_M) (R u : Nat) : om_M := om_up (om_up (om_up C qd 6 (nI (R + 1))) (qd + 6) R (nI u)) qd 0 (nI (u + 1))
theorem og_S_unit (hE : og_Env n qd L bt C0 D0) {c H R u : Nat} {h : Nat → Nat} {C D : om_M} (hS : og_Sim n qd L bt C0 D0 0 c H h R u C D) (hHR : H + R + 1 ≤ c) (hu : 12 * (u + 1) ≤ c + 2) {k pl set p : Int32} (hQu : om_Qu (og_mix C (og_emD D R k pl set p)) n qd u R) : og_Sim n qd L bt C0 D0 1 c H h (R + 1) (u + 1) (og_enC qd C R u) (og_emD D R k pl set p) := by
  have hdd := og_S_dd hE.2.1 hS
  obtain ⟨h8, hL, hbt, hq, -⟩ := hE
  obtain ⟨s1, s2, s3, s4, s5, s6, ⟨r1, r2, r3, r4, r5, r6, r7, cf, df, q1, q2, q3⟩, s8, s9, s10⟩ := hS
  have hCe : ∀ a j, ¬ (a = qd ∧ (j = 0 ∨ j = 6)) → ¬ (a = qd + 6 ∧ j = R) → (og_enC qd C R u).1 a j = C.1 a j := fun a j h1 h2 => by
    unfold og_enC
    rw [om_up_at]
    by_cases ha : a = qd
    · rw [if_pos ha, if_neg (fun hj => h1 ⟨ha, .inl hj⟩), om_up_at, if_neg (show ¬ a = qd + 6 by omega), om_up_at, if_pos ha, if_neg (fun hj => h1 ⟨ha, .inr hj⟩)]
    · rw [if_neg ha, om_up_at]
      by_cases hb : a = qd + 6
      · rw [if_pos hb, if_neg (fun hj => h2 ⟨hb, hj⟩), om_up_at, if_neg (show ¬ a = qd by omega)]
      · rw [if_neg hb, om_up_at, if_neg ha]
  have e0 : (og_enC qd C R u).1 qd 0 = nI (u + 1) := by unfold og_enC; rw [om_up_at, if_pos rfl, if_pos rfl]
  have e6 : (og_enC qd C R u).1 qd 6 = nI (R + 1) := by
    unfold og_enC
    rw [om_up_at, if_pos rfl, if_neg (by decide), om_up_at, if_neg (by omega), om_up_at, if_pos rfl, if_pos rfl]
  have e6R : (og_enC qd C R u).1 (qd + 6) R = nI u := by
    unfold og_enC
    rw [om_up_at, if_neg (by omega), om_up_at, if_pos rfl, if_pos rfl]
  have hDe : ∀ a j, ¬ (a = 46 ∧ j = 14) → ¬ (54 ≤ a ∧ a ≤ 57 ∧ j = R) → (og_emD D R k pl set p).1 a j = D.1 a j := fun a j h1 h2 => by
    rw [og_emD_at, if_neg (fun hx => h1 hx), if_neg (fun hx => h2 ⟨by omega, by omega, hx.2⟩), if_neg (fun hx => h2 ⟨by omega, by omega, hx.2⟩), if_neg (fun hx => h2 ⟨by omega, by omega, hx.2⟩), if_neg (fun hx => h2 ⟨by omega, by omega, hx.2⟩)]
  have hD14 : (og_emD D R k pl set p).1 46 14 = nI (R + 1) := by rw [og_emD_at]; simp
  have keep := og_Qr_keep (X' := og_mix (og_enC qd C R u) (og_emD D R k pl set p)) q1 (fun i hi => by rw [og_mix_lo (by omega), og_mix_lo (by omega)]; exact hCe _ _ (by omega) (by omega)) (fun k j h1 h2 _ => by rw [og_mix_lo (by omega), og_mix_lo (by omega)]; exact hCe _ _ (by omega) (by omega)) (fun a i h1 h2 hi => by rw [og_mix_hi (by omega), og_mix_hi (by omega)]; exact hDe _ _ (by omega) (by omega))
  obtain ⟨cf', df', t1, t2, t3⟩ := og_Qr_snoc (c' := u + 1) (d' := og_jn h H + 1) keep (by
    refine ⟨by omega, .inl ⟨?_, ?_, by omega, by omega⟩⟩
    · rw [og_mix_lo (by omega), e6R, q2]
    · rw [q2, Nat.zero_add]
      unfold om_Qu at hQu ⊢
      rw [og_mix_lo (show qd + 4 < 46 by omega), og_mix_lo (show qd + 1 < 46 by omega), og_mix_lo (show qd + 2 < 46 by omega), og_mix_lo (show qd + 3 < 46 by omega), og_mix_lo (show qd + 5 < 46 by omega), og_mix_hi (show 46 ≤ 57 by omega), og_mix_hi (show 46 ≤ 54 by omega), og_mix_hi (show 46 ≤ 55 by omega), og_mix_hi (show 46 ≤ 56 by omega)] at hQu ⊢
      rw [hCe (qd + 4) u (by omega) (by omega), hCe (qd + 1) u (by omega) (by omega), hCe (qd + 2) u (by omega) (by omega), hCe (qd + 3) u (by omega) (by omega), hCe (qd + 5) u (by omega) (by omega)]
      exact hQu)
  refine ⟨og_gC_tr s1 ⟨fun a j ha hb => hCe a j (fun hx => hb ⟨by omega, by omega⟩) (fun hx => hb ⟨by omega, by omega⟩), rfl⟩, og_gD_tr s2 ⟨fun a j ha hb hc => hDe a j (fun hx => ha ⟨hx.1, .inl hx.2⟩) (fun hx => hb ⟨hx.1, hx.2.1, by omega⟩), rfl⟩, by rw [hCe 28 2 (by omega) (by omega)]; exact s3, s4, by rw [hCe 28 6 (by omega) (by omega)]; exact s5, by rw [hDe 46 35 (by omega) (by omega)]; exact s6, ⟨by rw [hCe qd 8 (by omega) (by omega)]; exact r1, by rw [hDe 46 34 (by omega) (by omega)]; exact r2, fun j hj => ?_, e6, hD14, e0, by omega, cf', df', t1, t2, t3⟩, by omega, by omega, s10⟩
  rw [hCe (qd + 7) j (by omega) (by omega), hDe 67 j (by omega) (by omega)]
  exact r3 j hj
/-- the class reads the token that the model has read -/
theorem og_tokC (hE : og_Env n qd L bt C0 D0) {x c H R u : Nat} {h : Nat → Nat} {C D : om_M} (hS : og_Sim n qd L bt C0 D0 x c H h R u C D) {f e : Nat} (hcu : og_cu L bt D c f e) : ∃ C1 t, om_R_readToken om_F C = some C1 ∧ og_fT C C1 ∧ C1.1 28 3 = nI f ∧ C1.1 28 2 = nI e ∧ C1.1 28 4 = nI t ∧ og_tkT bt L f e t ∧ (t = 1 → C1.1 28 5 = if e - f ≤ 2 then nI (og_nv bt f (e - f)) else -1) := by
  obtain ⟨hTC, -⟩ := og_S_T hE hS
  obtain ⟨C1, f', e', t, a1, a2, a3, a4, a5, a6, a7, a8⟩ := og_readTok hE.2.1 hE.2.2.1 hTC hS.2.2.2.1 hS.2.2.1
  obtain ⟨rfl, rfl⟩ := og_tok_uniq hcu.1 a3
  exact ⟨C1, t, a1, a2, a4, a5, a6, a7, a8⟩
theorem og_bodyC (hE : og_Env n qd L bt C0 D0) {x c H R u i : Nat} {h : Nat → Nat} {C D C1 : om_M} (hS : og_Sim n qd L bt C0 D0 x c H h R u C D) (hi : i ≤ c) (st : Int32) (h1 : om_R_readToken om_F C = some C1) : om_R_read_L27_body om_F (nI n, st, nI i, C) = if C1.1 28 4 = 0 then some (.inr (.inl (st, C1))) else (om_R_stateAfter om_F st (nI n) C1).bind (fun q_2 => (if q_2.1 = -1 then some (.inr (.inr (.inl q_2.2))) else some (.inl (nI n, q_2.1, nI i + 1, q_2.2)))) := by
  obtain ⟨hTC, -⟩ := og_S_T hE hS
  have hL := hE.2.1
  have hcL := hS.2.2.2.1
  have hlt : ¬ nI L < nI i := by rw [nI_ltI (by omega) (by omega)]; omega
  simp only [om_R_read_L27_body, om_R_read_b27, hTC.1, hlt, if_false, h1, Option.bind_some]
end SI
