/-! ===== one question, one answer ===== -/
section NP
variable {M : om_M} {n m : Nat}
theorem og_Ws_m1 (R : Nat → Nat → Int32 → Prop) : og_Ws (-1) R = R := by
  funext p q w
  unfold og_Ws
  rw [if_pos rfl]
theorem og_nowPair (hB : om_Bd M n m) {qa s : Nat} {c d : Nat → Nat} (hq : qa = 30 ∨ qa = 38) (hs : s ≤ 120) (h6 : M.1 qa 6 = nI s) (h15 : M.1 46 15 = nI s) (hr : om_Qr M n qa 120 s c d) (hd : d s = 1) {a f g : Int32} (hfg : ∀ p, p < n → om_b g p = om_b f p ∨ ∀ q r u w, q < n → r < n → og_E M m (fun k => nI k ≠ a) p q u → og_E M m (fun k => nI k ≠ a) p r w → q = r) {C D : om_M} (hC : om_fr om_sc M C) (hD : og_FD M n a g D) : ∃ t C' D', om_Q_isTrue om_F qa a f C = some (om_bi t, C') ∧ om_fr og_pC C C' ∧ om_D_holdsNow om_F D = some (om_bi t, D') ∧ om_fr og_pE D D' := by
  have ⟨⟨h8, h20, e10, e11, e462, e466⟩, hp, ht, hBa⟩ := hB
  obtain ⟨hCn, hCp, hCt, hCa⟩ := om_Bd_fr hB hC
  obtain ⟨hDn, hDa⟩ := og_FD_B hB hD
  have hRk : og_Rok n (og_E M m (fun k => nI k ≠ a)) := by
    have := og_Ws_ok hBa (fun k => nI k ≠ a) (-1)
    rw [og_Ws_m1] at this; exact this
  obtain ⟨C0, c1, c2, c3, c4⟩ := og_load (M := C) hCn hCa a f
  have hEC : og_E C m (fun k => nI k ≠ a) = og_E M m (fun k => nI k ≠ a) := by
    funext p q w
    exact propext (og_E_fr hC (fun _ _ => Iff.rfl) p q w)
  rw [hEC] at c2
  rw [hC.1 1 2 rfl] at c4
  have hC0 : om_fr om_sc M C0 := om_fr_tr hC (og_sc_pv c3)
  have hSC : og_SC n (og_E M m (fun k => nI k ≠ a)) (M.1 1 2 ^^^ f) C0 := ⟨c2, c4, og_Bp_pv hp hC0⟩
  obtain ⟨D1, d1, d2, d3⟩ := og_layMoves (M := D) hDn hDa
  have hD1 := og_FD_pE hD (og_pE_pm d2)
  obtain ⟨hD1n, hD1a⟩ := og_FD_B hB hD1
  rw [og_FD_U hD, og_FD_E hD] at d3
  have hmask : ∀ p, p < n → C0.1 11 p = D1.1 58 p := og_masks h8 c2 d3 (fun _ _ _ _ _ => Iff.rfl)
  have hD115 : D1.1 46 15 = nI s := by rw [hD1.1 46 15 rfl (by decide), h15]
  obtain ⟨b, b1, b2⟩ := og_scan (D := D1) hs hD115
  obtain ⟨D2, l1, l2, l3⟩ := og_layValues (M := D1) (pl := 0) (mi := og_mi (M.1 1 2 ^^^ g) 0) (set := -1) h8 h20 hD1a hD1n.2.2.2.2.1 hD1n.2.2.2.2.2 (fun p hpn => og_FD_mi hp h8 hD1 0 (by omega) p hpn) (k := bif b then 9000 else 0) (by cases b <;> decide)
  have hU1 : (fun k => nI k ≠ D1.1 46 18) = fun k => nI k ≠ a := by rw [hD1.2.2.2.1]
  rw [og_Ws_m1, hU1, og_FD_E hD1] at l3
  have hD2 := og_FD_pE hD1 (og_pE_p62 l2)
  obtain ⟨hD2n, hD2a⟩ := og_FD_B hB hD2
  have hxg : ∀ p, p < n → om_b (M.1 1 2 ^^^ g) p = om_b (M.1 1 2 ^^^ f) p ∨ ∀ q r u w, q < n → r < n → og_E M m (fun k => nI k ≠ a) p q u → og_E M m (fun k => nI k ≠ a) p r w → q = r := fun p hpn => (hfg p hpn).imp (fun h => by rw [om_b_xor, om_b_xor, h]) id
  have hsm : og_sm n (C0.1 11) (om_b (M.1 1 2 ^^^ g)) (om_b (M.1 1 2 ^^^ f)) := fun p hpn => (hxg p hpn).imp id fun h q r hq1 hr1 => by
    obtain ⟨e70, s', hs', ⟨m1, m2, m3, m4⟩⟩ := c2
    obtain ⟨g1, w1, g2⟩ := (m4 p hpn q).mp hq1
    obtain ⟨g3, w3, g4⟩ := (m4 p hpn r).mp hr1
    exact h q r w1 w3 g1 g3 g2 g4
  have l4 : ∀ p, p < n → (D2.1 62 p).toInt = og_V n (og_mi (M.1 1 2 ^^^ f) 0) (og_E M m (fun k => nI k ≠ a)) (bif b then 9000 else 0) p := fun p hpn => by
    rw [l3 p hpn]
    exact og_V_sm hRk (fun p hpn => hxg p hpn) _ p hpn
  have hSD : og_SD n (M.1 1 2 ^^^ f) C0 D2 := ⟨hD2n.2.2.2.2.1, fun p hpn => by rw [l2.1 58 p rfl]; exact hmask p hpn, ⟨M.1 1 2 ^^^ g, hsm, fun pl hpl p hpn => og_FD_mi hp h8 hD2 pl hpl p hpn⟩, fun p hpn => by rw [hD2.1 48 p rfl (by decide), hC0.1 2 p rfl]; exact (hp.2 p hpn).2.1⟩
  have hq45 : ∀ (X : om_M), om_fr om_sc M X → ∀ a j, 30 ≤ a → a ≤ 45 → X.1 a j = M.1 a j := by
    intro X hX a j ha1 ha2
    refine hX.1 a j ?_
    have : a = 30 ∨ a = 31 ∨ a = 32 ∨ a = 33 ∨ a = 34 ∨ a = 35 ∨ a = 36 ∨ a = 37 ∨ a = 38 ∨ a = 39 ∨ a = 40 ∨ a = 41 ∨ a = 42 ∨ a = 43 ∨ a = 44 ∨ a = 45 := by omega
    rcases this with rfl | rfl | rfl | rfl | rfl | rfl | rfl | rfl | rfl | rfl | rfl | rfl | rfl | rfl | rfl | rfl <;> rfl
  have hrow : ∀ (X : om_M), (∀ b j, om_sc b j = false → b ≠ 47 → X.1 b j = M.1 b j) → ∀ a i, 54 ≤ a → a ≤ 57 → X.1 a (120 + i) = M.1 a (120 + i) := fun X hX a i h1 h2 => hX a _ (om_sc_k h1 h2) (by omega)
  have hci := og_Qr_c hr
  have hun : ∀ i, ∃ t : Bool, i < s → om_Qu M n qa (c i) (120 + i) → (∀ C', om_fr og_p17 C0 C' → ∃ C'', om_Q_isUnitTrue om_F qa (nI (c i)) C' = some (om_bi t, C'') ∧ om_fr og_p17 C0 C'') ∧ ∀ D', om_fr og_pd D2 D' → ∃ D'', om_D_plainHolds om_F (nI (120 + i)) D' = some (om_bi t, D'') ∧ om_fr og_pd D2 D'' ∧ ∀ j, D''.1 68 j = D'.1 68 j := by
    intro i
    by_cases h : i < s ∧ om_Qu M n qa (c i) (120 + i)
    · obtain ⟨t, ht⟩ := og_unitAt h8 hq (u := c i) (i := 120 + i) (by omega) hRk h.2 hSC hSD (hq45 C0 hC0) (fun a h1 h2 => hrow D2 hD2.1 a i h1 h2) (fun hk p hpn => by
        have hb : b = true := b2 i h.1 (by rw [hrow D1 hD1.1 54 i (by omega) (by omega)]; exact hk)
        rw [hb] at l4
        exact l4 p hpn)
      exact ⟨t, fun _ _ => ht⟩
    · exact ⟨false, fun h1 h2 => absurd ⟨h1, h2⟩ h⟩
  obtain ⟨τ, hτ⟩ := Classical.skolem.mp hun
  -- the component's
  obtain ⟨y, C', x1, x2, x3⟩ := og_runC (M := M) hq hs h6 hr (τ := τ) (Fr := fun C' => om_fr og_p17 C0 C') (fun X hX a j h1 h2 => by
    rw [hX.1 a j (by
      cases h : og_p17 a j with
      | false => rfl
      | true =>
        exfalso
        unfold og_p17 at h
        rw [Bool.or_eq_true] at h
        rcases h with h | h
        · have := Nat.eq_of_beq_eq_true h; omega
        · have := Nat.eq_of_beq_eq_true h; omega)]
    exact hq45 C0 hC0 a j h1 h2) (fun i hi hQ X hX => (hτ i hi hQ).1 X hX) (fun i hi => by have := hci i (by omega); omega) (M1 := C0) om_fr_rfl
  obtain ⟨D', y1, y2, y3⟩ := og_runD (M := M) hs h15 hr (τ := τ) (Fr := fun D' => om_fr og_pd D2 D') (fun X hX => ⟨by rw [hX.1 46 15 rfl, hD2.1 46 15 rfl (by decide)], fun j => by rw [hX.1 54 (120 + j) rfl]; exact hrow D2 hD2.1 54 j (by omega) (by omega)⟩) (fun X j v hX => om_fr_up hX rfl) (fun i hi hQ X hX => (hτ i hi hQ).2 X hX) (M1 := D2) om_fr_rfl
  rw [hd] at x2 y3
  have z0 := y3 0 (by omega)
  generalize og_stk (fun i => M.1 54 (120 + i)) τ d s = S at x2 z0
  refine ⟨S 0, C', D', ?_, om_fr_tr (og_pC_pv c3) (og_pC_p17 x3), ?_, om_fr_tr (og_pE_pm d2) (om_fr_tr (og_pE_p62 l2) (og_pE_pd y2))⟩
  · unfold om_Q_isTrue om_Q_isTrue_b0
    rw [c1]
    simp only [Option.bind_some, x1]
    simp only [og_sk_top x2]
    cases S 0
    · rw [if_pos rfl]; rfl
    · rw [if_neg (by decide)]; rfl
  · have hb70 : ∀ k : Int32, om_D_layValues om_F 0 (-1) k D1 = some D2 → om_D_holdsNow_b70 om_F k (-1) 0 D1 = some (om_bi (S 0), D') := by
      intro k hk
      unfold om_D_holdsNow_b70
      rw [hk]
      simp only [Option.bind_some, y1, show om_in 0 120 = true from rfl, cond_true, show (0 : Int32).toNatClampNeg = 0 from rfl, z0, om_nr_bi]
    unfold om_D_holdsNow om_D_holdsNow_b0
    rw [d1]
    simp only [Option.bind_some, b1]
    cases b with
    | true =>
      rw [if_neg (show ¬ om_bi true = 0 by decide)]
      refine hb70 9000 ?_
      rw [show (9000 : Int32) = nI 9000 by decide]
      exact l1
    | false =>
      rw [if_pos (show om_bi false = 0 from rfl)]
      exact hb70 0 l1
/-- the truth of a question with an arrow away and places changed -/
theorem og_now (hB : om_Bd M n m) {qa s : Nat} {c d : Nat → Nat} (hq : qa = 30 ∨ qa = 38) (hs : s ≤ 120) (h6 : M.1 qa 6 = nI s) (h15 : M.1 46 15 = nI s) (hr : om_Qr M n qa 120 s c d) (hd : d s = 1) (a f : Int32) : ∃ t : Bool, (∀ C, om_fr om_sc M C → ∃ C', om_Q_isTrue om_F qa a f C = some (om_bi t, C') ∧ om_fr og_pC C C') ∧ ∀ D, og_FD M n a f D → ∃ D', om_D_holdsNow om_F D = some (om_bi t, D') ∧ om_fr og_pE D D' := by
  have hbi : ∀ {t t' : Bool}, om_bi t = om_bi t' → t = t' := by decide
  obtain ⟨D0, hD0⟩ := og_FD_ex M n a f
  obtain ⟨t, C', D', h1, h2, h3, h4⟩ := og_nowPair (f := f) (g := f) hB hq hs h6 h15 hr hd (fun _ _ => .inl rfl) (C := M) om_fr_rfl hD0
  refine ⟨t, fun C hC => ?_, fun D hD => ?_⟩
  · obtain ⟨t2, C2, D2, g1, g2, g3, g4⟩ := og_nowPair (f := f) (g := f) hB hq hs h6 h15 hr hd (fun _ _ => .inl rfl) hC hD0
    rw [h3] at g3
    have := hbi (congrArg Prod.fst (Option.some.inj g3))
    subst this
    exact ⟨C2, g1, g2⟩
  · obtain ⟨t2, C2, D2, g1, g2, g3, g4⟩ := og_nowPair (f := f) (g := f) hB hq hs h6 h15 hr hd (fun _ _ => .inl rfl) (C := M) om_fr_rfl hD
    rw [h1] at g1
    have := hbi (congrArg Prod.fst (Option.some.inj g1))
    subst this
    exact ⟨D2, g3, g4⟩
end NP
