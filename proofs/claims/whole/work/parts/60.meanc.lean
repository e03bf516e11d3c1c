theorem og_pe_frsc {M M' : om_M} (h : om_fr og_pe M M') : om_fr om_sc M M' := om_fr_mono h fun _ _ h => og_pe_sc h
theorem og_nI_inj8 {a b : Nat} (ha : a < 2 ^ 31) (hb : b < 2 ^ 31) (h : nI a = nI b) : a = b := (nI_eq ha hb).mp h
/-- both sides find the same fraction -/
theorem og_mean_eq {M1 M2 : om_M} {n pl p : Nat} {R R' : Nat → Nat → Int32 → Prop} {mi : Nat → Bool} (h8 : n ≤ 8) (hR : og_Rok n R) (hR' : og_Rok n R') (hL : og_Ld M1 n R) (hp : p < n) (hpl : pl < 2) (hmi : ∀ q, q < n → mi q = og_mi (M1.1 7 1) pl q) (hRR : ∀ a b w, a < n → b < n → (R' a b w ↔ R a b w)) {x1 : Int32} (hx : x1.toInt = og_V n mi R' 9000 p) : ∃ M3, om_E_findSure om_F (nI pl) (nI p) M1 = some M3 ∧ om_fr og_pe M1 M3 ∧ ∃ M4, om_D_nearest om_F x1 M2 = some M4 ∧ om_fr og_pn M2 M4 ∧ M3.1 14 0 = M4.1 46 23 ∧ M3.1 14 1 = M4.1 46 24 := by
  obtain ⟨M3, a, b, x', b', c1, c2, c3, c4, c5, c6, c7, c8⟩ := og_findSure h8 hR hL hp hpl
  have hV : og_V n mi R' 9000 p = og_V n (og_mi (M1.1 7 1) pl) R 9000 p := og_V_congr hR' hR hmi (fun a b w ha hb => hRR a b w ha hb) 9000 p hp
  have hbd := og_V_bound (mi := og_mi (M1.1 7 1) pl) hR 9000 hp
  have h9 := c8 9000
  rw [hV] at hx
  obtain ⟨M4, d1, d2, d3, d4⟩ := og_nearest (M := M2) (x1 := x1) (a := a) (b := b) hx (by omega) (by omega) c3 c4 c7 (by
    have e : ((9000 : Nat) : Int) = 9000 := rfl
    rw [e] at h9; exact h9)
  exact ⟨M3, c1, c2, M4, d1, d2, Int32.toInt_inj.mp (by rw [c5, d4]), by rw [c6, d3]⟩
theorem og_k14 {M : om_M} (h : om_Inv M) : om_ok14 om_Inv M := by
  have hI := h
  obtain ⟨n, m, L, hB, hT, hQ, hA⟩ := h
  have ⟨⟨h8, h20, e10, e11, e462, e466⟩, hp, ht, hBa⟩ := hB
  intro x0 x1
  show om_ok om_Inv _ _ M
  have hbad : om_C_mean om_F x0 x1 M = some (-2147483648, M) → om_D_mean om_F x0 x1 M = some (-2147483648, M) → om_ok om_Inv (fun M => om_C_mean om_F x0 x1 M) (fun M => om_D_mean om_F x0 x1 M) M := fun h1 h2 => ⟨_, M, M, h1, h2, hI⟩
  have c1 := om_C_isPlace_eq om_F x0 M e10
  have c2 := om_D_isPlace_eq om_F x0 M h8 e462
  have c3 := om_C_isPart_eq om_F x1 M
  have c4 : ∀ M, om_D_in om_F x1.toInt64 0 1 M = some (om_bi (om_pl x1), M) := fun M => by
    have h1 := om_D_isPlayer_eq om_F x1 M
    rw [om_D_in_rg om_F x1 0 1 0 1 M rfl rfl]
    have : om_rg 0 1 x1 = om_pl x1 := by
      unfold om_rg om_pl
      apply Bool.eq_iff_iff.mpr
      simp only [Bool.and_eq_true, Bool.or_eq_true, decide_eq_true_eq, Int32.le_iff_toInt_le, ← Int32.toInt_inj]
      have e0 : (0 : Int32).toInt = 0 := by decide
      have e1 : (1 : Int32).toInt = 1 := by decide
      omega
    rw [this]
  cases hpp : om_pp n x0 with
  | false => exact hbad (by simp [om_C_mean, om_C_mean_b0, om_C_mean_b15, c1, hpp, om_bi]) (by simp [om_D_mean, om_D_mean_b0, om_D_mean_b18, c2, hpp, om_bi])
  | true =>
  cases hpt : om_pl x1 with
  | false => exact hbad (by simp [om_C_mean, om_C_mean_b0, om_C_mean_b15, c1, c3, hpp, hpt, om_bi]) (by simp [om_D_mean, om_D_mean_b0, om_D_mean_b18, c2, c4, hpp, hpt, om_bi])
  | true =>
  obtain ⟨p, hp0, rfl⟩ := om_pp_of (by omega) hpp
  obtain ⟨M1, a1, a2, a3, a4, a5⟩ := og_both0 hB hA
  have hs1 := og_sc_pv a2
  have hA1 : om_Al M1 := og_Al_fr hA (fun j => a2.1 59 j rfl) (a2.1 46 18 rfl)
  have eW : ∀ R : Nat → Nat → Int32 → Prop, og_Ws (-1) R = R := fun R => by
    funext p q w; unfold og_Ws; rw [if_pos rfl]
  have hRk : og_Rok n (og_E M m (fun _ => True)) := by
    have := og_Ws_ok hBa (fun _ => True) (-1)
    rw [eW] at this; exact this
  -- the model's values do not see what the component's means write
  obtain ⟨M3, f1, f2, -⟩ := og_mean_eq (M1 := M1) (M2 := M1) (mi := og_mi (M1.1 7 1) 0) (x1 := Int32.ofInt (og_V n (og_mi (M1.1 7 1) 0) (og_E M m (fun _ => True)) 9000 p)) h8 hRk hRk a3 hp0 (show 0 < 2 by omega) (fun _ _ => rfl) (fun _ _ _ _ _ => Iff.rfl) (by
    have := og_V_bound (mi := og_mi (M1.1 7 1) 0) hRk 9000 hp0
    rw [Int32.toInt_ofInt, show Int32.size = 4294967296 from rfl]
    exact Int.bmod_eq_of_le (by omega) (by omega))
  have hs3 := om_fr_tr hs1 (og_pe_frsc f2)
  have hA3 : om_Al M3 := og_Al_fr hA1 (fun j => f2.1 59 j rfl) (f2.1 46 18 rfl)
  have hB3 := om_Bd_fr hB hs3
  obtain ⟨M4, d1, d2, d3⟩ := og_layValues (M := M3) (pl := 0) (mi := og_mi (M.1 1 2) 0) (set := -1) (k := 9000) h8 h20 hB3.2.2.2 hB3.1.2.2.2.2.1 hB3.1.2.2.2.2.2 (fun p hpn => by rw [hs3.1 47 p rfl]; exact og_hmi0 hp p hpn) (Nat.le_refl _)
  rw [eW] at d3
  have hRk3 : og_Rok n (og_E M3 m (fun k => nI k ≠ M3.1 46 18)) := by
    have := og_Ws_ok hB3.2.2.2 (fun k => nI k ≠ M3.1 46 18) (-1)
    rw [eW] at this; exact this
  obtain ⟨M3', f1', f2', M5, g1, g2, g3, g4⟩ := og_mean_eq (M1 := M1) (M2 := M4) (mi := og_mi (M.1 1 2) 0) h8 hRk hRk3 a3 hp0 (show 0 < 2 by omega) (fun q _ => by rw [a4]) (fun a b w _ _ => og_Eall (n := n) h20 hs3 hA3 a b w) (d3 p hp0)
  have : M3' = M3 := by
    have := f1'.symm.trans f1
    exact Option.some.inj this
  subst this
  have hin : om_in (nI p) 8 = true := om_in_nI (by omega) (by omega)
  have hcl : (nI p).toNatClampNeg = p := nI_clamp (by omega)
  have hC : om_C_mean om_F (nI p) x1 M = some (if x1 = 0 then M3'.1 14 0 else M3'.1 14 1, M3') := by
    have f1'' : om_E_findSure om_F 0 (nI p) M1 = some M3' := f1
    simp only [om_C_mean, om_C_mean_b0, om_C_mean_b65, c1, c3, hpp, hpt, om_bi, Option.bind_some, cond_true, show ¬ (1 : Int32) = 0 by decide, if_false, a1, f1'']
    split <;> rfl
  refine ⟨_, M3', M5, hC, ?_, om_Inv_fr hB hT hQ (om_fr_tr hs3 (om_fr_tr (om_fr_mono d2 fun _ _ h => og_p62_sc h) (om_fr_mono g2 fun _ _ h => og_pn_sc h))) (og_Al_fr (og_Al_fr hA3 (fun j => d2.1 59 j rfl) (d2.1 46 18 rfl)) (fun j => g2.1 59 j rfl) (g2.1 46 18 rfl))⟩
  show om_D_mean om_F (nI p) x1 M3' = _
  have d1' : om_D_layValues om_F 0 (-1) 9000 M3' = some M4 := d1
  simp only [om_D_mean, om_D_mean_b0, om_D_mean_b55, om_D_isPlace_eq om_F (nI p) M3' h8 hB3.1.2.2.2.2.1, c4, hpp, hpt, om_bi, Option.bind_some, cond_true, show ¬ (1 : Int32) = 0 by decide, if_false, d1', hin, hcl, g1]
  rw [g3, g4]
  split <;> rfl
/-- the weights are put by a set -/
theorem og_weighBySet {M : om_M} {n : Nat} {R : Nat → Nat → Int32 → Prop} {set : Int32} (h8 : n ≤ 8) (hs1 : set ≠ -1) (hL : og_Ld M n R) : ∃ M', om_V_weighBySet om_F set M = some M' ∧ om_fr og_pv M M' ∧ M'.1 7 1 = M.1 7 1 ∧ og_Ld M' n (og_Ws set R) := by
  obtain ⟨e70, s, hs, ⟨m1, m2, m3, m4⟩⟩ := hL
  obtain ⟨M', hz, q1, q2, q3⟩ := om_lp (f := om_V_weighBySet_L2_body om_F) (fun i x => ∃ M', x = (set, nI i, M') ∧ (∀ a j, a ≠ 10 → M'.1 a j = M.1 a j) ∧ M'.2 = M.2 ∧ ∀ j, j < i → M'.1 10 j = ((set >>> (M.1 8 j &&& 31)) &&& 1)) (fun M' : om_M => (∀ a j, a ≠ 10 → M'.1 a j = M.1 a j) ∧ M'.2 = M.2 ∧ ∀ j, j < s → M'.1 10 j = ((set >>> (M.1 8 j &&& 31)) &&& 1)) s (F := om_F) (Nat.lt_of_le_of_lt hs (by decide)) (s := (set, 0, M)) ⟨M, rfl, fun _ _ _ => rfl, rfl, fun j hj => absurd hj (by omega)⟩ (by
    rintro i x hi ⟨M', rfl, g1, g2, g3⟩
    have hin : om_in (nI i) 28 = true := om_in_nI (by omega) (by omega)
    have hcl : (nI i).toNatClampNeg = i := nI_clamp (by omega)
    have hlt : ¬ nI s ≤ nI i := nI_ge hi (by omega)
    have e72 : M'.1 7 2 = nI s := by rw [g1 7 2 (by decide), m1]
    have e8 : M'.1 8 i = M.1 8 i := g1 8 i (by decide)
    refine .inl ⟨(set, nI (i + 1), om_up M' 10 i ((set >>> (M.1 8 i &&& 31)) &&& 1)), by simp only [om_V_weighBySet_L2_body, om_V_weighBySet_b2, e72, hlt, hin, hcl, if_false, cond_true, e8, og_nI1], _, rfl, fun a j ha => by simp only [om_up_at]; rw [if_neg ha]; exact g1 a j ha, g2, fun j hj => ?_⟩
    by_cases hji : j = i
    · subst hji; simp [om_up_at]
    · simp [om_up_at, hji, g3 j (by omega)]) (by
    rintro x ⟨M', rfl, g1, g2, g3⟩
    have e72 : M'.1 7 2 = nI s := by rw [g1 7 2 (by decide), m1]
    exact ⟨_, by simp only [om_V_weighBySet_L2_body, om_V_weighBySet_b2, e72]; rw [if_pos Int32.le_rfl], g1, g2, g3⟩)
  have hw : ∀ p q w, og_Ws set R p q w ↔ ∃ u, R p q u ∧ w = if om_b set p = true then 1 else 0 := fun p q w => by
    unfold og_Ws; rw [if_neg hs1]
  refine ⟨M', ?_, ⟨fun a j h => ?_, q2⟩, q1 7 1 (by decide), ?_, s, hs, ?_, fun i hi => ?_, fun p q w hp hq => ?_, fun p hp q => ?_⟩
  · unfold om_V_weighBySet om_V_weighBySet_b0 om_V_weighBySet_L2
    rw [hz]; rfl
  · by_cases ha : a = 10
    · subst ha; cases h
    · exact q1 a j ha
  · rw [q1 7 0 (by decide), e70]
  · rw [q1 7 2 (by decide), m1]
  · rw [q1 8 i (by decide), q1 9 i (by decide)]; exact m2 i hi
  · rw [hw]
    constructor
    · rintro ⟨i, h1, h2, h3, h4⟩
      rw [q1 8 i (by decide)] at h2
      rw [q1 9 i (by decide)] at h3
      refine ⟨M.1 10 i, (m3 p q _ hp hq).mp ⟨i, h1, h2, h3, rfl⟩, ?_⟩
      rw [← h4, q3 i h1, h2, og_bit01 (show p < 32 by omega)]
    · rintro ⟨u, h1, h2⟩
      obtain ⟨i, g1, g2, g3, g4⟩ := (m3 p q u hp hq).mpr h1
      refine ⟨i, g1, by rw [q1 8 i (by decide), g2], by rw [q1 9 i (by decide), g3], ?_⟩
      rw [q3 i g1, g2, og_bit01 (show p < 32 by omega), h2]
  · rw [q1 11 p (by decide), m4 p hp q]
    constructor
    · rintro ⟨h1, w, h2⟩; exact ⟨h1, _, (hw p q _).mpr ⟨w, h2, rfl⟩⟩
    · rintro ⟨h1, w, h2⟩
      obtain ⟨u, h3, -⟩ := (hw p q w).mp h2
      exact ⟨h1, u, h3⟩
theorem og_k15 {M : om_M} (h : om_Inv M) : om_ok15 om_Inv M := by
  have hI := h
  obtain ⟨n, m, L, hB, hT, hQ, hA⟩ := h
  have ⟨⟨h8, h20, e10, e11, e462, e466⟩, hp, ht, hBa⟩ := hB
  intro x0 x1 x2 x3
  show om_ok om_Inv _ _ M
  have hbad : om_C_rate om_F x0 x1 x2 x3 M = some (-2147483648, M) → om_D_rate om_F x0 x1 x2 x3 M = some (-2147483648, M) → om_ok om_Inv (fun M => om_C_rate om_F x0 x1 x2 x3 M) (fun M => om_D_rate om_F x0 x1 x2 x3 M) M := fun h1 h2 => ⟨_, M, M, h1, h2, hI⟩
  have c1 := om_C_isPlace_eq om_F x2 M e10
  have c2 := om_D_isPlace_eq om_F x2 M h8 e462
  have c3 := om_C_isPart_eq om_F x3 M
  have c5 := om_C_isSet_eq om_F x1 M h8 e10
  have c6 := om_D_isSet_eq om_F x1 M h8 e462
  have c4 : ∀ M, om_D_in om_F x3.toInt64 0 1 M = some (om_bi (om_pl x3), M) := fun M => by
    rw [om_D_in_rg om_F x3 0 1 0 1 M rfl rfl]
    have : om_rg 0 1 x3 = om_pl x3 := by
      unfold om_rg om_pl
      apply Bool.eq_iff_iff.mpr
      simp only [Bool.and_eq_true, Bool.or_eq_true, decide_eq_true_eq, Int32.le_iff_toInt_le, ← Int32.toInt_inj]
      have e0 : (0 : Int32).toInt = 0 := by decide
      have e1 : (1 : Int32).toInt = 1 := by decide
      omega
    rw [this]
  cases hpl : om_pl x0 with
  | false => exact hbad (by simp [om_C_rate, om_C_rate_b0, om_C_rate_b31, om_C_isPlayer_eq, hpl, om_bi]) (by simp [om_D_rate, om_D_rate_b0, om_D_rate_b34, om_D_isPlayer_eq, hpl, om_bi])
  | true =>
  cases hst : og_st n x1 with
  | false => exact hbad (by simp [om_C_rate, om_C_rate_b0, om_C_rate_b31, om_C_isPlayer_eq, c5, hpl, hst, om_bi]) (by simp [om_D_rate, om_D_rate_b0, om_D_rate_b34, om_D_isPlayer_eq, c6, hpl, hst, om_bi])
  | true =>
  cases hpp : om_pp n x2 with
  | false => exact hbad (by simp [om_C_rate, om_C_rate_b0, om_C_rate_b31, om_C_isPlayer_eq, c5, c1, hpl, hst, hpp, om_bi]) (by simp [om_D_rate, om_D_rate_b0, om_D_rate_b34, om_D_isPlayer_eq, c6, c2, hpl, hst, hpp, om_bi])
  | true =>
  cases hpt : om_pl x3 with
  | false => exact hbad (by simp [om_C_rate, om_C_rate_b0, om_C_rate_b31, om_C_isPlayer_eq, c5, c1, c3, hpl, hst, hpp, hpt, om_bi]) (by simp [om_D_rate, om_D_rate_b0, om_D_rate_b34, om_D_isPlayer_eq, c6, c2, c4, hpl, hst, hpp, hpt, om_bi])
  | true =>
  obtain ⟨pl, hpl2, rfl⟩ := om_pl_of hpl
  obtain ⟨p, hp0, rfl⟩ := om_pp_of (by omega) hpp
  have hx1 : x1 ≠ -1 := og_wn_ne h8 (og_st_b h8 hst)
  obtain ⟨M0, a1, a2, a3, a4, a5⟩ := og_both0 hB hA
  obtain ⟨M1, b1, b2, b3, b4⟩ := og_weighBySet h8 hx1 a3
  rw [a4] at b3
  have hs1 := om_fr_tr (og_sc_pv a2) (og_sc_pv b2)
  have hA1 : om_Al M1 := og_Al_fr (og_Al_fr hA (fun j => a2.1 59 j rfl) (a2.1 46 18 rfl)) (fun j => b2.1 59 j rfl) (b2.1 46 18 rfl)
  have hRk : og_Rok n (og_Ws x1 (og_E M m (fun _ => True))) := og_Ws_ok hBa (fun _ => True) x1
  obtain ⟨M3, f1, f2, -⟩ := og_mean_eq (M1 := M1) (M2 := M1) (mi := og_mi (M1.1 7 1) pl) (x1 := Int32.ofInt (og_V n (og_mi (M1.1 7 1) pl) (og_Ws x1 (og_E M m (fun _ => True))) 9000 p)) h8 hRk hRk b4 hp0 hpl2 (fun _ _ => rfl) (fun _ _ _ _ _ => Iff.rfl) (by
    have := og_V_bound (mi := og_mi (M1.1 7 1) pl) hRk 9000 hp0
    rw [Int32.toInt_ofInt, show Int32.size = 4294967296 from rfl]
    exact Int.bmod_eq_of_le (by omega) (by omega))
  have hs3 := om_fr_tr hs1 (og_pe_frsc f2)
  have hA3 : om_Al M3 := og_Al_fr hA1 (fun j => f2.1 59 j rfl) (f2.1 46 18 rfl)
  have hB3 := om_Bd_fr hB hs3
  obtain ⟨M4, d1, d2, d3⟩ := og_layValues (M := M3) (pl := pl) (mi := og_mi (M.1 1 2) pl) (set := x1) (k := 9000) h8 h20 hB3.2.2.2 hB3.1.2.2.2.2.1 hB3.1.2.2.2.2.2 (fun p hpn => by rw [hs3.1 47 p rfl]; exact og_hmi hp hpl2 p hpn) (Nat.le_refl _)
  have hRk3 : og_Rok n (og_Ws x1 (og_E M3 m (fun k => nI k ≠ M3.1 46 18))) := og_Ws_ok hB3.2.2.2 (fun k => nI k ≠ M3.1 46 18) x1
  obtain ⟨M3', f1', f2', M5, g1, g2, g3, g4⟩ := og_mean_eq (M1 := M1) (M2 := M4) (mi := og_mi (M.1 1 2) pl) h8 hRk hRk3 b4 hp0 hpl2 (fun q _ => by rw [b3]) (fun a b w _ _ => by
    unfold og_Ws
    rw [if_neg hx1, if_neg hx1]
    constructor
    · rintro ⟨u, h1, h2⟩; exact ⟨u, (og_Eall (n := n) h20 hs3 hA3 a b u).mp h1, h2⟩
    · rintro ⟨u, h1, h2⟩; exact ⟨u, (og_Eall (n := n) h20 hs3 hA3 a b u).mpr h1, h2⟩) (d3 p hp0)
  have : M3' = M3 := Option.some.inj (f1'.symm.trans f1)
  subst this
  have hin : om_in (nI p) 8 = true := om_in_nI (by omega) (by omega)
  have hcl : (nI p).toNatClampNeg = p := nI_clamp (by omega)
  have hC : om_C_rate om_F (nI pl) x1 (nI p) x3 M = some (if x3 = 0 then M3'.1 14 0 else M3'.1 14 1, M3') := by
    simp only [om_C_rate, om_C_rate_b0, om_C_rate_b90, om_C_isPlayer_eq, c5, c1, c3, hpl, hst, hpp, hpt, om_bi, Option.bind_some, cond_true, show ¬ (1 : Int32) = 0 by decide, if_false, a1, b1, f1]
    split <;> rfl
  refine ⟨_, M3', M5, hC, ?_, om_Inv_fr hB hT hQ (om_fr_tr hs3 (om_fr_tr (om_fr_mono d2 fun _ _ h => og_p62_sc h) (om_fr_mono g2 fun _ _ h => og_pn_sc h))) (og_Al_fr (og_Al_fr hA3 (fun j => d2.1 59 j rfl) (d2.1 46 18 rfl)) (fun j => g2.1 59 j rfl) (g2.1 46 18 rfl))⟩
  show om_D_rate om_F (nI pl) x1 (nI p) x3 M3' = _
  have d1' : om_D_layValues om_F (nI pl) x1 9000 M3' = some M4 := d1
  simp only [om_D_rate, om_D_rate_b0, om_D_rate_b72, om_D_isPlayer_eq, om_D_isSet_eq om_F x1 M3' h8 hB3.1.2.2.2.2.1, om_D_isPlace_eq om_F (nI p) M3' h8 hB3.1.2.2.2.2.1, c4, hpl, hst, hpp, hpt, om_bi, Option.bind_some, cond_true, show ¬ (1 : Int32) = 0 by decide, if_false, d1', hin, hcl, g1]
  rw [g3, g4]
  split <;> rfl
