/-! ===== a unit on both sides ===== -/
section UN
variable {n qd L : Nat} {bt : Nat → Nat} {C0 D0 : om_M} {c H R u i f e m : Nat} {h : Nat → Nat} {C D : om_M}
def og_uY (n qd L : Nat) (bt : Nat → Nat) (C0 D0 : om_M) (s : Int32 × Int32 × Int32 × om_M) (i c H : Nat) (h : Nat → Nat) (R u m : Nat) (D' : om_M) : Prop := ∃ k c' C2, og_Sim n qd L bt C0 D0 1 c' H h (R + 1) (u + 1) C2 D' ∧ (∃ f' e', og_cu L bt D' c' f' e') ∧ i + k ≤ c' ∧ c < c' ∧ og_tr (om_R_read_L27_body om_F) k s (nI n, 1, nI (i + k), og_poC qd h C2 (R + 1) H m)
def og_uN (qd L : Nat) (C0 D0 : om_M) (s : Int32 × Int32 × Int32 × om_M) (i : Nat) (D' : om_M) : Prop := ∃ k s1 f', og_tr (om_R_read_L27_body om_F) k s s1 ∧ i + k ≤ L ∧ og_fl qd C0 s1 f' ∧ D'.1 46 30 = nI f' ∧ og_gD D0 D' ∧ f' ≤ L
theorem og_uY_pre {s s' : Int32 × Int32 × Int32 × om_M} {k c0 : Nat} {D' : om_M} (ht : og_tr (om_R_read_L27_body om_F) k s s') (hc : c0 ≤ c) (h' : og_uY n qd L bt C0 D0 s' (i + k) c H h R u m D') : og_uY n qd L bt C0 D0 s i c0 H h R u m D' := by
  obtain ⟨k', c', C2, a1, a2, a3, a4, a5⟩ := h'
  refine ⟨k + k', c', C2, a1, a2, by omega, by omega, ?_⟩
  rw [← Nat.add_assoc]
  exact og_tr_app ht a5
theorem og_uN_pre {s s' : Int32 × Int32 × Int32 × om_M} {k : Nat} {D' : om_M} (ht : og_tr (om_R_read_L27_body om_F) k s s') (h' : og_uN qd L C0 D0 s' (i + k) D') : og_uN qd L C0 D0 s i D' := by
  obtain ⟨k', s1, f', a1, a2, a3, a4, a5⟩ := h'
  exact ⟨k + k', s1, f', og_tr_app ht a1, by omega, a3, a4, a5⟩
theorem og_readsPlace (hL : L ≤ 120) (hbt : ∀ i, bt i < 256) (h8 : n ≤ 8) (hT : og_TD L bt D) (h2 : D.1 46 2 = nI n) (hcu : og_cu L bt D c f e) : ∃ r D', om_D_readsPlace om_F D = some (om_bi r, D') ∧ og_fD D D' ∧ (r = false → (¬ ∃ v, og_num2 bt L f e v ∧ v < n) ∧ og_cu L bt D' c f e) ∧ (r = true → ∃ v, v < n ∧ og_num2 bt L f e v ∧ D'.1 46 32 = nI v ∧ ∃ f' e', og_cu L bt D' e f' e') := by
  have hx : (nI n - 1).toInt = (n : Int) - 1 := by
    rw [og_sub_toInt (by rw [nI_toInt (by omega)]; omega) (by rw [nI_toInt (by omega)]; omega) (by decide) (by decide), nI_toInt (by omega)]; rfl
  obtain ⟨r, D1, a1, a2, a3, a4, a5⟩ := og_D_isNumber hL hbt hT hcu hx
  have hiff : (∃ v : Nat, og_num2 bt L f e v ∧ (v : Int) ≤ (n : Int) - 1) ↔ ∃ v, og_num2 bt L f e v ∧ v < n := ⟨fun ⟨v, h1, h2⟩ => ⟨v, h1, by omega⟩, fun ⟨v, h1, h2⟩ => ⟨v, h1, by omega⟩⟩
  rw [hiff] at a4
  unfold om_D_readsPlace om_D_readsPlace_b0
  rw [h2, a1]
  simp only [Option.bind_some]
  cases r with
  | false =>
    rw [if_pos (show om_bi false = 0 from rfl)]
    exact ⟨false, D1, rfl, a2, fun _ => ⟨fun hx => (by have := a4.mpr hx; cases this), a3⟩, fun hx => (by cases hx)⟩
  | true =>
    rw [if_neg (show ¬ om_bi true = 0 by decide)]
    obtain ⟨v, b1, b2⟩ := a4.mp rfl
    obtain ⟨D2, f', e', c1, c2, c3, c4⟩ := og_dtoken hL hbt (og_TD_fD hT a2) (og_tok_le hcu.1).2.1 a3.2.2.2
    rw [c1]
    exact ⟨true, D2, rfl, og_fD_tr a2 c2, fun hx => (by cases hx), fun _ => ⟨v, b2, b1, by rw [c3]; exact a5 rfl v b1, f', e', c4⟩⟩
/-- "from" a place, and the unit ends -/
theorem og_rFrom (hE : og_Env n qd L bt C0 D0) (hS : og_Sim n qd L bt C0 D0 0 c H h R u C D) (hcu : og_cu L bt D c f e) (hi : i ≤ c) (hU : C.1 qd 10 = nI u) (hHR : H + R + 1 ≤ c) (hu1 : og_isw bt 5 f e → 12 * u + 5 ≤ f) (hm : og_pp 6 h H m) {st : Int32} (hst : st = 4 ∨ st = 6) (hno : st = 4 → ¬ ∃ v, og_num2 bt L f e v ∧ v < n) {x1 x2 x3 : Int32} (hQu : ∀ X : om_M, (∀ k, 1 ≤ k → k ≤ 5 → k ≠ 4 → X.1 (qd + k) u = C.1 (qd + k) u) → X.1 54 R = x1 → X.1 55 R = x2 → X.1 56 R = x3 → ∀ v, v < n → X.1 (qd + 4) u = nI v → X.1 57 R = nI v → om_Qu X n qd u R) : ∃ r D', om_D_readsFrom om_F x1 x2 x3 D = some (om_bi r, D') ∧ (r = true → og_uY n qd L bt C0 D0 (nI n, st, nI i, C) i c H h R u m D') ∧ (r = false → og_uN qd L C0 D0 (nI n, st, nI i, C) i D') := by
  have hL := hE.2.1
  have hbt := hE.2.2.1
  have hq := hE.2.2.2.1
  obtain ⟨-, hTD, -, hD2⟩ := og_S_T hE hS
  have hlec := og_tok_le hcu.1
  obtain ⟨r1, D1, a1, a2, a3, a4⟩ := og_D_skips hL hbt hTD hcu (k := 5) (by omega)
  have a1' : om_D_skips om_F 441926 4 D = some (om_bi r1, D1) := a1
  unfold om_D_readsFrom om_D_readsFrom_b0 om_D_readsFrom_b17
  rw [a1']
  simp only [Option.bind_some]
  cases r1 with
  | false =>
    rw [if_pos (show om_bi false = 0 from rfl)]
    have := a3 rfl
    subst this
    refine ⟨false, D1, rfl, fun hx => (by cases hx), fun _ => ⟨0, _, f, rfl, by have := hS.2.2.2.1; omega, ?_, hcu.2.1, hS.2.1, hcu.1.2.1⟩⟩
    have hnw : ¬ og_isw bt 5 f e := fun hx => (by have := a2.mpr hx; cases this)
    rcases hst with rfl | rfl
    · exact og_f_member4 hE hS hcu hi (hno rfl) hnw
    · exact og_f_from6 hE hS hcu hi hnw
  | true =>
    rw [if_neg (show ¬ om_bi true = 0 by decide)]
    have hw := a2.mp rfl
    have hfu := hu1 hw
    have hlen := hw.1
    have hl4 : og_ltn 5 = 4 := by decide
    obtain ⟨b1, f1, e1, b2⟩ := a4 rfl
    have hce : c < e := by have := hw.1; have hl : 1 ≤ og_ltn 5 := by decide
                           have := hcu.1.1; omega
    -- the class takes "from"
    obtain ⟨C2, t1, m1, m2, m3, m4⟩ : ∃ C2, og_tr (om_R_read_L27_body om_F) 1 (nI n, st, nI i, C) (nI n, 5, nI (i + 1), C2) ∧ (og_mv qd u C C2 ∧ C2.1 28 2 = nI e ∧ C2.1 qd 10 = nI u ∧ ∀ k, 1 ≤ k → k ≤ 5 → C2.1 (qd + k) u = C.1 (qd + k) u) := by
      rcases hst with rfl | rfl
      · exact og_c_from4 hE hS hcu hi hU hw
      · exact og_c_from6 hE hS hcu hi hU hw
    have hS2 := og_S_move hE hS m1 m2 (by omega) hlec.2.1 b1
    obtain ⟨-, hTD1, -, hD12⟩ := og_S_T hE hS2
    obtain ⟨r2, D2, c1, c2, c3, c4⟩ := og_readsPlace hL hbt hE.1 hTD1 hD12 b2
    have hlec1 := og_tok_le b2.1
    rw [c1]
    simp only [Option.bind_some]
    cases r2 with
    | false =>
      rw [if_pos (show om_bi false = 0 from rfl)]
      obtain ⟨hn, hcu2⟩ := c3 rfl
      refine ⟨false, D2, rfl, fun hx => (by cases hx), fun _ => og_uN_pre t1 ⟨0, _, f1, rfl, by omega, og_f_last hE hS2 b2 (by omega) hn, hcu2.2.1, og_gD_tr hS2.2.1 (og_gD_fD c2), hcu2.1.2.1⟩⟩
    | true =>
      rw [if_neg (show ¬ om_bi true = 0 by decide)]
      obtain ⟨v, hvn, hv, hfig, f2, e2, hcu2⟩ := c4 rfl
      have hce1 : e < e1 := hlec1.2.2.2 hv.1
      have hR240 : R < 240 := by have := hS.2.2.2.1; omega
      have hD14 : D2.1 46 14 = nI R := by
        rw [c2.1 46 14 (by omega)]; exact hS2.2.2.2.2.2.2.1.2.2.2.2.1
      rw [hfig, og_D_emit hR240 hD14]
      simp only [Option.bind_some]
      refine ⟨true, og_emD D2 R x1 x2 x3 (nI v), rfl, fun _ => ?_, fun hx => (by cases hx)⟩
      -- the class takes the place
      obtain ⟨C3, t2, C4, e4, m5, m6, m7, m8⟩ := og_c_last (i := i + 1) hE hS2 b2 (by omega) hce1 m3 hv hvn hm
      have hS4 := og_S_move hE hS2 m5 m6 (by omega) hlec1.2.1 c2
      have hS5 := og_S_unit hE hS4 (by omega) (by omega) (k := x1) (pl := x2) (set := x3) (p := nI v) (hQu _ (fun k h1 h2 h3 => by rw [og_mix_lo (by omega), m8 k h1 h2 h3, m4 k h1 h2]) (by rw [og_mix_hi (by omega), og_emD_at]; simp) (by rw [og_mix_hi (by omega), og_emD_at]; simp) (by rw [og_mix_hi (by omega), og_emD_at]; simp) v hvn (by rw [og_mix_lo (by omega)]; exact m7) (by rw [og_mix_hi (by omega), og_emD_at]; simp))
      rw [e4] at t2
      refine ⟨2, e1, og_enC qd C4 R u, hS5, ⟨f2, e2, hcu2.1, ?_, ?_, ?_⟩, by omega, by omega, og_tr_app t1 t2⟩
      · rw [og_emD_at]; simp; exact hcu2.2.1
      · rw [og_emD_at]; simp; exact hcu2.2.2.1
      · rw [og_emD_at]; simp; exact hcu2.2.2.2
end UN
